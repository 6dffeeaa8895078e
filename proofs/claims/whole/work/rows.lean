section
-- ===== PART A: goes FIRST, ahead of the names: the tables' words, and 'selects' of the private methods out of them =====
/-- a private method of a class that the tables say can be made, by its rows of tables_1 -/
def lw_okq (q : MethodName × Nat) : Prop := (q.1.cls ≠ "java/lang/invoke/MethodHandle" ∧ q.1.cls ≠ "java/lang/invoke/VarHandle") ∧ Cond.instantiable q.1.cls q.2 ∈ tables_1 ∧ Cond.privateMethod q.1 ∈ tables_1 ∧ Cond.instanceMethod q.1 ∈ tables_1
theorem lw_p0 : lw_okq (⟨"StoutShelf", "isReader", "(I)Z"⟩, 15) := ⟨⟨by decide +kernel, by decide +kernel⟩, List.mem_of_getElem? (i := 25) (by decide +kernel), List.mem_of_getElem? (i := 333) (by decide +kernel), List.mem_of_getElem? (i := 334) (by decide +kernel)⟩
theorem lw_p1 : lw_okq (⟨"StoutShelf", "isBook", "(I)Z"⟩, 15) := ⟨⟨by decide +kernel, by decide +kernel⟩, List.mem_of_getElem? (i := 25) (by decide +kernel), List.mem_of_getElem? (i := 337) (by decide +kernel), List.mem_of_getElem? (i := 338) (by decide +kernel)⟩
theorem lw_p2 : lw_okq (⟨"StoutShelf", "settle", "(IIIII)I"⟩, 15) := ⟨⟨by decide +kernel, by decide +kernel⟩, List.mem_of_getElem? (i := 25) (by decide +kernel), List.mem_of_getElem? (i := 348) (by decide +kernel), List.mem_of_getElem? (i := 349) (by decide +kernel)⟩
theorem lw_p3 : lw_okq (⟨"StoutShelf$Standing", "tradeMove", "(I)V"⟩, 5) := ⟨⟨by decide +kernel, by decide +kernel⟩, List.mem_of_getElem? (i := 158) (by decide +kernel), List.mem_of_getElem? (i := 356) (by decide +kernel), List.mem_of_getElem? (i := 357) (by decide +kernel)⟩
theorem lw_p4 : lw_okq (⟨"StoutShelf", "troubleOfSwap", "(IIII)I"⟩, 15) := ⟨⟨by decide +kernel, by decide +kernel⟩, List.mem_of_getElem? (i := 25) (by decide +kernel), List.mem_of_getElem? (i := 367) (by decide +kernel), List.mem_of_getElem? (i := 368) (by decide +kernel)⟩
theorem lw_p5 : lw_okq (⟨"StoutShelf$Week", "tryPlace", "(II)V"⟩, 9) := ⟨⟨by decide +kernel, by decide +kernel⟩, List.mem_of_getElem? (i := 187) (by decide +kernel), List.mem_of_getElem? (i := 392) (by decide +kernel), List.mem_of_getElem? (i := 393) (by decide +kernel)⟩
theorem lw_p6 : lw_okq (⟨"StoutShelf$Week", "weigh", "(I)V"⟩, 9) := ⟨⟨by decide +kernel, by decide +kernel⟩, List.mem_of_getElem? (i := 187) (by decide +kernel), List.mem_of_getElem? (i := 396) (by decide +kernel), List.mem_of_getElem? (i := 397) (by decide +kernel)⟩
theorem lw_p7 : lw_okq (⟨"StoutShelf$Week", "tryReader", "(III)V"⟩, 9) := ⟨⟨by decide +kernel, by decide +kernel⟩, List.mem_of_getElem? (i := 187) (by decide +kernel), List.mem_of_getElem? (i := 404) (by decide +kernel), List.mem_of_getElem? (i := 405) (by decide +kernel)⟩
theorem lw_p8 : lw_okq (⟨"StoutShelf$Week", "tryExchange", "(IIIII)V"⟩, 9) := ⟨⟨by decide +kernel, by decide +kernel⟩, List.mem_of_getElem? (i := 187) (by decide +kernel), List.mem_of_getElem? (i := 409) (by decide +kernel), List.mem_of_getElem? (i := 410) (by decide +kernel)⟩
theorem lw_p9 : lw_okq (⟨"StoutShelf$Catalogue", "allEvents", "()I"⟩, 5) := ⟨⟨by decide +kernel, by decide +kernel⟩, List.mem_of_getElem? (i := 245) (by decide +kernel), List.mem_of_getElem? (i := 434) (by decide +kernel), List.mem_of_getElem? (i := 435) (by decide +kernel)⟩
theorem lw_p10 : lw_okq (⟨"StoutShelf$Catalogue", "reckonBefore", "(I)V"⟩, 5) := ⟨⟨by decide +kernel, by decide +kernel⟩, List.mem_of_getElem? (i := 245) (by decide +kernel), List.mem_of_getElem? (i := 438) (by decide +kernel), List.mem_of_getElem? (i := 439) (by decide +kernel)⟩
theorem lw_p11 : lw_okq (⟨"StoutShelf$Catalogue", "goTo", "(I)V"⟩, 5) := ⟨⟨by decide +kernel, by decide +kernel⟩, List.mem_of_getElem? (i := 245) (by decide +kernel), List.mem_of_getElem? (i := 445) (by decide +kernel), List.mem_of_getElem? (i := 446) (by decide +kernel)⟩
theorem lw_p12 : lw_okq (⟨"StoutShelf$Catalogue", "canFollow", "(II)Z"⟩, 5) := ⟨⟨by decide +kernel, by decide +kernel⟩, List.mem_of_getElem? (i := 245) (by decide +kernel), List.mem_of_getElem? (i := 451) (by decide +kernel), List.mem_of_getElem? (i := 452) (by decide +kernel)⟩
theorem lw_p13 : lw_okq (⟨"java/lang/Throwable", "fillInStackTrace", "(I)Ljava/lang/Throwable;"⟩, 6) := ⟨⟨by decide +kernel, by decide +kernel⟩, List.mem_of_getElem? (i := 528) (by decide +kernel), List.mem_of_getElem? (i := 526) (by decide +kernel), List.mem_of_getElem? (i := 527) (by decide +kernel)⟩
theorem lw_p14 : lw_okq (⟨"StoutShelf$Text", "at", "(I)I"⟩, 7) := ⟨⟨by decide +kernel, by decide +kernel⟩, List.mem_of_getElem? (i := 33) (by decide +kernel), List.mem_of_getElem? (i := 582) (by decide +kernel), List.mem_of_getElem? (i := 583) (by decide +kernel)⟩
theorem lw_p15 : lw_okq (⟨"StoutShelf$Reading", "readReader", "()Z"⟩, 4) := ⟨⟨by decide +kernel, by decide +kernel⟩, List.mem_of_getElem? (i := 138) (by decide +kernel), List.mem_of_getElem? (i := 651) (by decide +kernel), List.mem_of_getElem? (i := 652) (by decide +kernel)⟩
def lw_privs_1 : List (MethodName × Nat) := [(⟨"StoutShelf", "isReader", "(I)Z"⟩, 15), (⟨"StoutShelf", "isBook", "(I)Z"⟩, 15), (⟨"StoutShelf", "settle", "(IIIII)I"⟩, 15), (⟨"StoutShelf$Standing", "tradeMove", "(I)V"⟩, 5), (⟨"StoutShelf", "troubleOfSwap", "(IIII)I"⟩, 15), (⟨"StoutShelf$Week", "tryPlace", "(II)V"⟩, 9), (⟨"StoutShelf$Week", "weigh", "(I)V"⟩, 9), (⟨"StoutShelf$Week", "tryReader", "(III)V"⟩, 9), (⟨"StoutShelf$Week", "tryExchange", "(IIIII)V"⟩, 9), (⟨"StoutShelf$Catalogue", "allEvents", "()I"⟩, 5), (⟨"StoutShelf$Catalogue", "reckonBefore", "(I)V"⟩, 5), (⟨"StoutShelf$Catalogue", "goTo", "(I)V"⟩, 5), (⟨"StoutShelf$Catalogue", "canFollow", "(II)Z"⟩, 5), (⟨"java/lang/Throwable", "fillInStackTrace", "(I)Ljava/lang/Throwable;"⟩, 6), (⟨"StoutShelf$Text", "at", "(I)I"⟩, 7), (⟨"StoutShelf$Reading", "readReader", "()Z"⟩, 4)]
theorem lw_r1 : ∀ q ∈ lw_privs_1, lw_okq q := List.forall_mem_cons.mpr ⟨lw_p0, List.forall_mem_cons.mpr ⟨lw_p1, List.forall_mem_cons.mpr ⟨lw_p2, List.forall_mem_cons.mpr ⟨lw_p3, List.forall_mem_cons.mpr ⟨lw_p4, List.forall_mem_cons.mpr ⟨lw_p5, List.forall_mem_cons.mpr ⟨lw_p6, List.forall_mem_cons.mpr ⟨lw_p7, List.forall_mem_cons.mpr ⟨lw_p8, List.forall_mem_cons.mpr ⟨lw_p9, List.forall_mem_cons.mpr ⟨lw_p10, List.forall_mem_cons.mpr ⟨lw_p11, List.forall_mem_cons.mpr ⟨lw_p12, List.forall_mem_cons.mpr ⟨lw_p13, List.forall_mem_cons.mpr ⟨lw_p14, List.forall_mem_cons.mpr ⟨lw_p15, fun _ h => absurd h List.not_mem_nil⟩⟩⟩⟩⟩⟩⟩⟩⟩⟩⟩⟩⟩⟩⟩⟩
theorem lw_p16 : lw_okq (⟨"StoutShelf$Reading", "refuse", "(I)Z"⟩, 4) := ⟨⟨by decide +kernel, by decide +kernel⟩, List.mem_of_getElem? (i := 138) (by decide +kernel), List.mem_of_getElem? (i := 655) (by decide +kernel), List.mem_of_getElem? (i := 656) (by decide +kernel)⟩
theorem lw_p17 : lw_okq (⟨"StoutShelf$Reading", "readBook", "()Z"⟩, 4) := ⟨⟨by decide +kernel, by decide +kernel⟩, List.mem_of_getElem? (i := 138) (by decide +kernel), List.mem_of_getElem? (i := 661) (by decide +kernel), List.mem_of_getElem? (i := 662) (by decide +kernel)⟩
theorem lw_p18 : lw_okq (⟨"StoutShelf$Reading", "readPart", "(II)Z"⟩, 4) := ⟨⟨by decide +kernel, by decide +kernel⟩, List.mem_of_getElem? (i := 138) (by decide +kernel), List.mem_of_getElem? (i := 665) (by decide +kernel), List.mem_of_getElem? (i := 666) (by decide +kernel)⟩
theorem lw_p19 : lw_okq (⟨"StoutShelf$Reading", "needNumber", "()Z"⟩, 4) := ⟨⟨by decide +kernel, by decide +kernel⟩, List.mem_of_getElem? (i := 138) (by decide +kernel), List.mem_of_getElem? (i := 669) (by decide +kernel), List.mem_of_getElem? (i := 670) (by decide +kernel)⟩
theorem lw_p20 : lw_okq (⟨"StoutShelf$Reading", "readPerhaps", "(Ljava/lang/String;I)Z"⟩, 4) := ⟨⟨by decide +kernel, by decide +kernel⟩, List.mem_of_getElem? (i := 138) (by decide +kernel), List.mem_of_getElem? (i := 674) (by decide +kernel), List.mem_of_getElem? (i := 675) (by decide +kernel)⟩
theorem lw_p21 : lw_okq (⟨"StoutShelf$Reading", "readOwner", "(I)Z"⟩, 4) := ⟨⟨by decide +kernel, by decide +kernel⟩, List.mem_of_getElem? (i := 138) (by decide +kernel), List.mem_of_getElem? (i := 680) (by decide +kernel), List.mem_of_getElem? (i := 681) (by decide +kernel)⟩
theorem lw_p22 : lw_okq (⟨"StoutShelf$Reading", "needToldAhead", "(I)Z"⟩, 4) := ⟨⟨by decide +kernel, by decide +kernel⟩, List.mem_of_getElem? (i := 138) (by decide +kernel), List.mem_of_getElem? (i := 685) (by decide +kernel), List.mem_of_getElem? (i := 686) (by decide +kernel)⟩
theorem lw_p23 : lw_okq (⟨"StoutShelf$Reading", "readWants", "()Z"⟩, 4) := ⟨⟨by decide +kernel, by decide +kernel⟩, List.mem_of_getElem? (i := 138) (by decide +kernel), List.mem_of_getElem? (i := 690) (by decide +kernel), List.mem_of_getElem? (i := 691) (by decide +kernel)⟩
theorem lw_p24 : lw_okq (⟨"StoutShelf$Reading", "readLaw", "()Z"⟩, 4) := ⟨⟨by decide +kernel, by decide +kernel⟩, List.mem_of_getElem? (i := 138) (by decide +kernel), List.mem_of_getElem? (i := 695) (by decide +kernel), List.mem_of_getElem? (i := 696) (by decide +kernel)⟩
theorem lw_p25 : lw_okq (⟨"StoutShelf$Reading", "readExpr", "(I)Z"⟩, 4) := ⟨⟨by decide +kernel, by decide +kernel⟩, List.mem_of_getElem? (i := 138) (by decide +kernel), List.mem_of_getElem? (i := 700) (by decide +kernel), List.mem_of_getElem? (i := 701) (by decide +kernel)⟩
theorem lw_p26 : lw_okq (⟨"StoutShelf$Reading", "readLevel", "(II)Z"⟩, 4) := ⟨⟨by decide +kernel, by decide +kernel⟩, List.mem_of_getElem? (i := 138) (by decide +kernel), List.mem_of_getElem? (i := 708) (by decide +kernel), List.mem_of_getElem? (i := 709) (by decide +kernel)⟩
theorem lw_p27 : lw_okq (⟨"StoutShelf$Reading", "readTest", "(I)Z"⟩, 4) := ⟨⟨by decide +kernel, by decide +kernel⟩, List.mem_of_getElem? (i := 138) (by decide +kernel), List.mem_of_getElem? (i := 712) (by decide +kernel), List.mem_of_getElem? (i := 713) (by decide +kernel)⟩
theorem lw_p28 : lw_okq (⟨"StoutShelf$Reading", "operatorOf", "(I)I"⟩, 4) := ⟨⟨by decide +kernel, by decide +kernel⟩, List.mem_of_getElem? (i := 138) (by decide +kernel), List.mem_of_getElem? (i := 717) (by decide +kernel), List.mem_of_getElem? (i := 718) (by decide +kernel)⟩
theorem lw_p29 : lw_okq (⟨"StoutShelf$Reading", "readSingle", "(I)Z"⟩, 4) := ⟨⟨by decide +kernel, by decide +kernel⟩, List.mem_of_getElem? (i := 138) (by decide +kernel), List.mem_of_getElem? (i := 724) (by decide +kernel), List.mem_of_getElem? (i := 725) (by decide +kernel)⟩
theorem lw_p30 : lw_okq (⟨"StoutShelf$Reading", "needSign", "(C)Z"⟩, 4) := ⟨⟨by decide +kernel, by decide +kernel⟩, List.mem_of_getElem? (i := 138) (by decide +kernel), List.mem_of_getElem? (i := 728) (by decide +kernel), List.mem_of_getElem? (i := 729) (by decide +kernel)⟩
theorem lw_p31 : lw_okq (⟨"StoutShelf$Reading", "readIf", "(I)Z"⟩, 4) := ⟨⟨by decide +kernel, by decide +kernel⟩, List.mem_of_getElem? (i := 138) (by decide +kernel), List.mem_of_getElem? (i := 733) (by decide +kernel), List.mem_of_getElem? (i := 734) (by decide +kernel)⟩
def lw_privs_2 : List (MethodName × Nat) := [(⟨"StoutShelf$Reading", "refuse", "(I)Z"⟩, 4), (⟨"StoutShelf$Reading", "readBook", "()Z"⟩, 4), (⟨"StoutShelf$Reading", "readPart", "(II)Z"⟩, 4), (⟨"StoutShelf$Reading", "needNumber", "()Z"⟩, 4), (⟨"StoutShelf$Reading", "readPerhaps", "(Ljava/lang/String;I)Z"⟩, 4), (⟨"StoutShelf$Reading", "readOwner", "(I)Z"⟩, 4), (⟨"StoutShelf$Reading", "needToldAhead", "(I)Z"⟩, 4), (⟨"StoutShelf$Reading", "readWants", "()Z"⟩, 4), (⟨"StoutShelf$Reading", "readLaw", "()Z"⟩, 4), (⟨"StoutShelf$Reading", "readExpr", "(I)Z"⟩, 4), (⟨"StoutShelf$Reading", "readLevel", "(II)Z"⟩, 4), (⟨"StoutShelf$Reading", "readTest", "(I)Z"⟩, 4), (⟨"StoutShelf$Reading", "operatorOf", "(I)I"⟩, 4), (⟨"StoutShelf$Reading", "readSingle", "(I)Z"⟩, 4), (⟨"StoutShelf$Reading", "needSign", "(C)Z"⟩, 4), (⟨"StoutShelf$Reading", "readIf", "(I)Z"⟩, 4)]
theorem lw_r2 : ∀ q ∈ lw_privs_2, lw_okq q := List.forall_mem_cons.mpr ⟨lw_p16, List.forall_mem_cons.mpr ⟨lw_p17, List.forall_mem_cons.mpr ⟨lw_p18, List.forall_mem_cons.mpr ⟨lw_p19, List.forall_mem_cons.mpr ⟨lw_p20, List.forall_mem_cons.mpr ⟨lw_p21, List.forall_mem_cons.mpr ⟨lw_p22, List.forall_mem_cons.mpr ⟨lw_p23, List.forall_mem_cons.mpr ⟨lw_p24, List.forall_mem_cons.mpr ⟨lw_p25, List.forall_mem_cons.mpr ⟨lw_p26, List.forall_mem_cons.mpr ⟨lw_p27, List.forall_mem_cons.mpr ⟨lw_p28, List.forall_mem_cons.mpr ⟨lw_p29, List.forall_mem_cons.mpr ⟨lw_p30, List.forall_mem_cons.mpr ⟨lw_p31, fun _ h => absurd h List.not_mem_nil⟩⟩⟩⟩⟩⟩⟩⟩⟩⟩⟩⟩⟩⟩⟩⟩
theorem lw_p32 : lw_okq (⟨"StoutShelf$Reading", "needWord", "(Ljava/lang/String;)Z"⟩, 4) := ⟨⟨by decide +kernel, by decide +kernel⟩, List.mem_of_getElem? (i := 138) (by decide +kernel), List.mem_of_getElem? (i := 738) (by decide +kernel), List.mem_of_getElem? (i := 739) (by decide +kernel)⟩
theorem lw_p33 : lw_okq (⟨"StoutShelf$Reading", "readValue", "()Z"⟩, 4) := ⟨⟨by decide +kernel, by decide +kernel⟩, List.mem_of_getElem? (i := 138) (by decide +kernel), List.mem_of_getElem? (i := 744) (by decide +kernel), List.mem_of_getElem? (i := 745) (by decide +kernel)⟩
theorem lw_p34 : lw_okq (⟨"StoutShelf$Law", "push", "(I)V"⟩, 4) := ⟨⟨by decide +kernel, by decide +kernel⟩, List.mem_of_getElem? (i := 72) (by decide +kernel), List.mem_of_getElem? (i := 771) (by decide +kernel), List.mem_of_getElem? (i := 772) (by decide +kernel)⟩
theorem lw_p35 : lw_okq (⟨"StoutShelf$Law", "turn", "()V"⟩, 4) := ⟨⟨by decide +kernel, by decide +kernel⟩, List.mem_of_getElem? (i := 72) (by decide +kernel), List.mem_of_getElem? (i := 775) (by decide +kernel), List.mem_of_getElem? (i := 776) (by decide +kernel)⟩
theorem lw_p36 : lw_okq (⟨"StoutShelf$Law", "choose", "()V"⟩, 4) := ⟨⟨by decide +kernel, by decide +kernel⟩, List.mem_of_getElem? (i := 72) (by decide +kernel), List.mem_of_getElem? (i := 782) (by decide +kernel), List.mem_of_getElem? (i := 783) (by decide +kernel)⟩
theorem lw_p37 : lw_okq (⟨"StoutShelf$Law", "work", "(I)V"⟩, 4) := ⟨⟨by decide +kernel, by decide +kernel⟩, List.mem_of_getElem? (i := 72) (by decide +kernel), List.mem_of_getElem? (i := 786) (by decide +kernel), List.mem_of_getElem? (i := 787) (by decide +kernel)⟩
theorem lw_p38 : lw_okq (⟨"StoutShelf", "needBook", "(I)V"⟩, 15) := ⟨⟨by decide +kernel, by decide +kernel⟩, List.mem_of_getElem? (i := 25) (by decide +kernel), List.mem_of_getElem? (i := 836) (by decide +kernel), List.mem_of_getElem? (i := 837) (by decide +kernel)⟩
theorem lw_p39 : lw_okq (⟨"StoutShelf", "needReader", "(I)V"⟩, 15) := ⟨⟨by decide +kernel, by decide +kernel⟩, List.mem_of_getElem? (i := 25) (by decide +kernel), List.mem_of_getElem? (i := 855) (by decide +kernel), List.mem_of_getElem? (i := 856) (by decide +kernel)⟩
theorem lw_p40 : lw_okq (⟨"StoutShelf", "reachNow", "(I)I"⟩, 15) := ⟨⟨by decide +kernel, by decide +kernel⟩, List.mem_of_getElem? (i := 25) (by decide +kernel), List.mem_of_getElem? (i := 876) (by decide +kernel), List.mem_of_getElem? (i := 877) (by decide +kernel)⟩
theorem lw_p41 : lw_okq (⟨"StoutShelf$Pair", "meet", "(II)V"⟩, 5) := ⟨⟨by decide +kernel, by decide +kernel⟩, List.mem_of_getElem? (i := 223) (by decide +kernel), List.mem_of_getElem? (i := 904) (by decide +kernel), List.mem_of_getElem? (i := 905) (by decide +kernel)⟩
theorem lw_p42 : lw_okq (⟨"StoutShelf$Pair", "meetNew", "(II)V"⟩, 5) := ⟨⟨by decide +kernel, by decide +kernel⟩, List.mem_of_getElem? (i := 223) (by decide +kernel), List.mem_of_getElem? (i := 909) (by decide +kernel), List.mem_of_getElem? (i := 910) (by decide +kernel)⟩
theorem lw_p43 : lw_okq (⟨"StoutShelf$Pair", "goOn", "(III)V"⟩, 5) := ⟨⟨by decide +kernel, by decide +kernel⟩, List.mem_of_getElem? (i := 223) (by decide +kernel), List.mem_of_getElem? (i := 914) (by decide +kernel), List.mem_of_getElem? (i := 915) (by decide +kernel)⟩
theorem lw_p44 : lw_okq (⟨"StoutShelf$Pair", "tradeForEach", "(IIIIII)V"⟩, 5) := ⟨⟨by decide +kernel, by decide +kernel⟩, List.mem_of_getElem? (i := 223) (by decide +kernel), List.mem_of_getElem? (i := 918) (by decide +kernel), List.mem_of_getElem? (i := 919) (by decide +kernel)⟩
theorem lw_p45 : lw_okq (⟨"StoutShelf", "isLost", "(I)Z"⟩, 15) := ⟨⟨by decide +kernel, by decide +kernel⟩, List.mem_of_getElem? (i := 25) (by decide +kernel), List.mem_of_getElem? (i := 939) (by decide +kernel), List.mem_of_getElem? (i := 940) (by decide +kernel)⟩
theorem lw_p46 : lw_okq (⟨"StoutShelf", "freedBy", "(II)I"⟩, 15) := ⟨⟨by decide +kernel, by decide +kernel⟩, List.mem_of_getElem? (i := 25) (by decide +kernel), List.mem_of_getElem? (i := 943) (by decide +kernel), List.mem_of_getElem? (i := 944) (by decide +kernel)⟩
theorem lw_p47 : lw_okq (⟨"StoutShelf", "reachIf", "(III)I"⟩, 15) := ⟨⟨by decide +kernel, by decide +kernel⟩, List.mem_of_getElem? (i := 25) (by decide +kernel), List.mem_of_getElem? (i := 956) (by decide +kernel), List.mem_of_getElem? (i := 957) (by decide +kernel)⟩
def lw_privs_3 : List (MethodName × Nat) := [(⟨"StoutShelf$Reading", "needWord", "(Ljava/lang/String;)Z"⟩, 4), (⟨"StoutShelf$Reading", "readValue", "()Z"⟩, 4), (⟨"StoutShelf$Law", "push", "(I)V"⟩, 4), (⟨"StoutShelf$Law", "turn", "()V"⟩, 4), (⟨"StoutShelf$Law", "choose", "()V"⟩, 4), (⟨"StoutShelf$Law", "work", "(I)V"⟩, 4), (⟨"StoutShelf", "needBook", "(I)V"⟩, 15), (⟨"StoutShelf", "needReader", "(I)V"⟩, 15), (⟨"StoutShelf", "reachNow", "(I)I"⟩, 15), (⟨"StoutShelf$Pair", "meet", "(II)V"⟩, 5), (⟨"StoutShelf$Pair", "meetNew", "(II)V"⟩, 5), (⟨"StoutShelf$Pair", "goOn", "(III)V"⟩, 5), (⟨"StoutShelf$Pair", "tradeForEach", "(IIIIII)V"⟩, 5), (⟨"StoutShelf", "isLost", "(I)Z"⟩, 15), (⟨"StoutShelf", "freedBy", "(II)I"⟩, 15), (⟨"StoutShelf", "reachIf", "(III)I"⟩, 15)]
theorem lw_r3 : ∀ q ∈ lw_privs_3, lw_okq q := List.forall_mem_cons.mpr ⟨lw_p32, List.forall_mem_cons.mpr ⟨lw_p33, List.forall_mem_cons.mpr ⟨lw_p34, List.forall_mem_cons.mpr ⟨lw_p35, List.forall_mem_cons.mpr ⟨lw_p36, List.forall_mem_cons.mpr ⟨lw_p37, List.forall_mem_cons.mpr ⟨lw_p38, List.forall_mem_cons.mpr ⟨lw_p39, List.forall_mem_cons.mpr ⟨lw_p40, List.forall_mem_cons.mpr ⟨lw_p41, List.forall_mem_cons.mpr ⟨lw_p42, List.forall_mem_cons.mpr ⟨lw_p43, List.forall_mem_cons.mpr ⟨lw_p44, List.forall_mem_cons.mpr ⟨lw_p45, List.forall_mem_cons.mpr ⟨lw_p46, List.forall_mem_cons.mpr ⟨lw_p47, fun _ h => absurd h List.not_mem_nil⟩⟩⟩⟩⟩⟩⟩⟩⟩⟩⟩⟩⟩⟩⟩⟩
theorem lw_p48 : lw_okq (⟨"StoutShelf", "bindingPays", "(III)I"⟩, 15) := ⟨⟨by decide +kernel, by decide +kernel⟩, List.mem_of_getElem? (i := 25) (by decide +kernel), List.mem_of_getElem? (i := 969) (by decide +kernel), List.mem_of_getElem? (i := 970) (by decide +kernel)⟩
theorem lw_p49 : lw_okq (⟨"StoutShelf", "readersAbleWith", "(I)I"⟩, 15) := ⟨⟨by decide +kernel, by decide +kernel⟩, List.mem_of_getElem? (i := 25) (by decide +kernel), List.mem_of_getElem? (i := 986) (by decide +kernel), List.mem_of_getElem? (i := 987) (by decide +kernel)⟩
theorem lw_p50 : lw_okq (⟨"StoutShelf$Catalogue", "reckonBehind", "(I)V"⟩, 5) := ⟨⟨by decide +kernel, by decide +kernel⟩, List.mem_of_getElem? (i := 245) (by decide +kernel), List.mem_of_getElem? (i := 1002) (by decide +kernel), List.mem_of_getElem? (i := 1003) (by decide +kernel)⟩
theorem lw_p51 : lw_okq (⟨"StoutShelf$Standing", "isMoved", "(II)Z"⟩, 5) := ⟨⟨by decide +kernel, by decide +kernel⟩, List.mem_of_getElem? (i := 158) (by decide +kernel), List.mem_of_getElem? (i := 1018) (by decide +kernel), List.mem_of_getElem? (i := 1019) (by decide +kernel)⟩
theorem lw_p52 : lw_okq (⟨"StoutShelfModel", "lays", "(I)V"⟩, 62) := ⟨⟨by decide +kernel, by decide +kernel⟩, List.mem_of_getElem? (i := 1027) (by decide +kernel), List.mem_of_getElem? (i := 1229) (by decide +kernel), List.mem_of_getElem? (i := 1230) (by decide +kernel)⟩
theorem lw_p53 : lw_okq (⟨"StoutShelfModel", "right", "(ZI)Z"⟩, 62) := ⟨⟨by decide +kernel, by decide +kernel⟩, List.mem_of_getElem? (i := 1027) (by decide +kernel), List.mem_of_getElem? (i := 1237) (by decide +kernel), List.mem_of_getElem? (i := 1238) (by decide +kernel)⟩
theorem lw_p54 : lw_okq (⟨"StoutShelfModel", "goes", "()V"⟩, 62) := ⟨⟨by decide +kernel, by decide +kernel⟩, List.mem_of_getElem? (i := 1027) (by decide +kernel), List.mem_of_getElem? (i := 1241) (by decide +kernel), List.mem_of_getElem? (i := 1242) (by decide +kernel)⟩
theorem lw_p55 : lw_okq (⟨"StoutShelfModel", "byteAt", "(I)I"⟩, 62) := ⟨⟨by decide +kernel, by decide +kernel⟩, List.mem_of_getElem? (i := 1027) (by decide +kernel), List.mem_of_getElem? (i := 1245) (by decide +kernel), List.mem_of_getElem? (i := 1246) (by decide +kernel)⟩
theorem lw_p56 : lw_okq (⟨"StoutShelfModel", "isGood", "()Z"⟩, 62) := ⟨⟨by decide +kernel, by decide +kernel⟩, List.mem_of_getElem? (i := 1027) (by decide +kernel), List.mem_of_getElem? (i := 1255) (by decide +kernel), List.mem_of_getElem? (i := 1256) (by decide +kernel)⟩
theorem lw_p57 : lw_okq (⟨"StoutShelfModel", "line", "()V"⟩, 62) := ⟨⟨by decide +kernel, by decide +kernel⟩, List.mem_of_getElem? (i := 1027) (by decide +kernel), List.mem_of_getElem? (i := 1259) (by decide +kernel), List.mem_of_getElem? (i := 1260) (by decide +kernel)⟩
theorem lw_p58 : lw_okq (⟨"StoutShelfModel", "knownWord", "()I"⟩, 62) := ⟨⟨by decide +kernel, by decide +kernel⟩, List.mem_of_getElem? (i := 1027) (by decide +kernel), List.mem_of_getElem? (i := 1263) (by decide +kernel), List.mem_of_getElem? (i := 1264) (by decide +kernel)⟩
theorem lw_p59 : lw_okq (⟨"StoutShelfModel", "wrong", "(I)V"⟩, 62) := ⟨⟨by decide +kernel, by decide +kernel⟩, List.mem_of_getElem? (i := 1027) (by decide +kernel), List.mem_of_getElem? (i := 1274) (by decide +kernel), List.mem_of_getElem? (i := 1275) (by decide +kernel)⟩
theorem lw_p60 : lw_okq (⟨"StoutShelfModel", "number", "(II)I"⟩, 62) := ⟨⟨by decide +kernel, by decide +kernel⟩, List.mem_of_getElem? (i := 1027) (by decide +kernel), List.mem_of_getElem? (i := 1278) (by decide +kernel), List.mem_of_getElem? (i := 1279) (by decide +kernel)⟩
theorem lw_p61 : lw_okq (⟨"StoutShelfModel", "perhaps", "(I)I"⟩, 62) := ⟨⟨by decide +kernel, by decide +kernel⟩, List.mem_of_getElem? (i := 1027) (by decide +kernel), List.mem_of_getElem? (i := 1282) (by decide +kernel), List.mem_of_getElem? (i := 1283) (by decide +kernel)⟩
theorem lw_p62 : lw_okq (⟨"StoutShelfModel", "among", "(I)I"⟩, 62) := ⟨⟨by decide +kernel, by decide +kernel⟩, List.mem_of_getElem? (i := 1027) (by decide +kernel), List.mem_of_getElem? (i := 1286) (by decide +kernel), List.mem_of_getElem? (i := 1287) (by decide +kernel)⟩
theorem lw_p63 : lw_okq (⟨"StoutShelfModel", "amongHere", "(I)Z"⟩, 62) := ⟨⟨by decide +kernel, by decide +kernel⟩, List.mem_of_getElem? (i := 1027) (by decide +kernel), List.mem_of_getElem? (i := 1290) (by decide +kernel), List.mem_of_getElem? (i := 1291) (by decide +kernel)⟩
def lw_privs_4 : List (MethodName × Nat) := [(⟨"StoutShelf", "bindingPays", "(III)I"⟩, 15), (⟨"StoutShelf", "readersAbleWith", "(I)I"⟩, 15), (⟨"StoutShelf$Catalogue", "reckonBehind", "(I)V"⟩, 5), (⟨"StoutShelf$Standing", "isMoved", "(II)Z"⟩, 5), (⟨"StoutShelfModel", "lays", "(I)V"⟩, 62), (⟨"StoutShelfModel", "right", "(ZI)Z"⟩, 62), (⟨"StoutShelfModel", "goes", "()V"⟩, 62), (⟨"StoutShelfModel", "byteAt", "(I)I"⟩, 62), (⟨"StoutShelfModel", "isGood", "()Z"⟩, 62), (⟨"StoutShelfModel", "line", "()V"⟩, 62), (⟨"StoutShelfModel", "knownWord", "()I"⟩, 62), (⟨"StoutShelfModel", "wrong", "(I)V"⟩, 62), (⟨"StoutShelfModel", "number", "(II)I"⟩, 62), (⟨"StoutShelfModel", "perhaps", "(I)I"⟩, 62), (⟨"StoutShelfModel", "among", "(I)I"⟩, 62), (⟨"StoutShelfModel", "amongHere", "(I)Z"⟩, 62)]
theorem lw_r4 : ∀ q ∈ lw_privs_4, lw_okq q := List.forall_mem_cons.mpr ⟨lw_p48, List.forall_mem_cons.mpr ⟨lw_p49, List.forall_mem_cons.mpr ⟨lw_p50, List.forall_mem_cons.mpr ⟨lw_p51, List.forall_mem_cons.mpr ⟨lw_p52, List.forall_mem_cons.mpr ⟨lw_p53, List.forall_mem_cons.mpr ⟨lw_p54, List.forall_mem_cons.mpr ⟨lw_p55, List.forall_mem_cons.mpr ⟨lw_p56, List.forall_mem_cons.mpr ⟨lw_p57, List.forall_mem_cons.mpr ⟨lw_p58, List.forall_mem_cons.mpr ⟨lw_p59, List.forall_mem_cons.mpr ⟨lw_p60, List.forall_mem_cons.mpr ⟨lw_p61, List.forall_mem_cons.mpr ⟨lw_p62, List.forall_mem_cons.mpr ⟨lw_p63, fun _ h => absurd h List.not_mem_nil⟩⟩⟩⟩⟩⟩⟩⟩⟩⟩⟩⟩⟩⟩⟩⟩
theorem lw_p64 : lw_okq (⟨"StoutShelfModel", "expression", "()V"⟩, 62) := ⟨⟨by decide +kernel, by decide +kernel⟩, List.mem_of_getElem? (i := 1027) (by decide +kernel), List.mem_of_getElem? (i := 1294) (by decide +kernel), List.mem_of_getElem? (i := 1295) (by decide +kernel)⟩
theorem lw_p65 : lw_okq (⟨"StoutShelfModel", "deeper", "()V"⟩, 62) := ⟨⟨by decide +kernel, by decide +kernel⟩, List.mem_of_getElem? (i := 1027) (by decide +kernel), List.mem_of_getElem? (i := 1298) (by decide +kernel), List.mem_of_getElem? (i := 1299) (by decide +kernel)⟩
theorem lw_p66 : lw_okq (⟨"StoutShelfModel", "isSign", "(I)Z"⟩, 62) := ⟨⟨by decide +kernel, by decide +kernel⟩, List.mem_of_getElem? (i := 1027) (by decide +kernel), List.mem_of_getElem? (i := 1302) (by decide +kernel), List.mem_of_getElem? (i := 1303) (by decide +kernel)⟩
theorem lw_p67 : lw_okq (⟨"StoutShelfModel", "operand", "(Z)V"⟩, 62) := ⟨⟨by decide +kernel, by decide +kernel⟩, List.mem_of_getElem? (i := 1027) (by decide +kernel), List.mem_of_getElem? (i := 1306) (by decide +kernel), List.mem_of_getElem? (i := 1307) (by decide +kernel)⟩
theorem lw_p68 : lw_okq (⟨"StoutShelfModel", "waitsFor", "(I)V"⟩, 62) := ⟨⟨by decide +kernel, by decide +kernel⟩, List.mem_of_getElem? (i := 1027) (by decide +kernel), List.mem_of_getElem? (i := 1310) (by decide +kernel), List.mem_of_getElem? (i := 1311) (by decide +kernel)⟩
theorem lw_p69 : lw_okq (⟨"StoutShelfModel", "part", "()V"⟩, 62) := ⟨⟨by decide +kernel, by decide +kernel⟩, List.mem_of_getElem? (i := 1027) (by decide +kernel), List.mem_of_getElem? (i := 1314) (by decide +kernel), List.mem_of_getElem? (i := 1315) (by decide +kernel)⟩
theorem lw_p70 : lw_okq (⟨"StoutShelfModel", "puts", "(I)V"⟩, 62) := ⟨⟨by decide +kernel, by decide +kernel⟩, List.mem_of_getElem? (i := 1027) (by decide +kernel), List.mem_of_getElem? (i := 1318) (by decide +kernel), List.mem_of_getElem? (i := 1319) (by decide +kernel)⟩
theorem lw_p71 : lw_okq (⟨"StoutShelfModel", "drops", "(I)V"⟩, 62) := ⟨⟨by decide +kernel, by decide +kernel⟩, List.mem_of_getElem? (i := 1027) (by decide +kernel), List.mem_of_getElem? (i := 1322) (by decide +kernel), List.mem_of_getElem? (i := 1323) (by decide +kernel)⟩
theorem lw_p72 : lw_okq (⟨"StoutShelfModel", "opened", "()I"⟩, 62) := ⟨⟨by decide +kernel, by decide +kernel⟩, List.mem_of_getElem? (i := 1027) (by decide +kernel), List.mem_of_getElem? (i := 1332) (by decide +kernel), List.mem_of_getElem? (i := 1333) (by decide +kernel)⟩
theorem lw_p73 : lw_okq (⟨"StoutShelfModel", "closes", "()V"⟩, 62) := ⟨⟨by decide +kernel, by decide +kernel⟩, List.mem_of_getElem? (i := 1027) (by decide +kernel), List.mem_of_getElem? (i := 1336) (by decide +kernel), List.mem_of_getElem? (i := 1337) (by decide +kernel)⟩
theorem lw_p74 : lw_okq (⟨"StoutShelfModel", "turns", "(I)V"⟩, 62) := ⟨⟨by decide +kernel, by decide +kernel⟩, List.mem_of_getElem? (i := 1027) (by decide +kernel), List.mem_of_getElem? (i := 1340) (by decide +kernel), List.mem_of_getElem? (i := 1341) (by decide +kernel)⟩
theorem lw_p75 : lw_okq (⟨"StoutShelfModel", "need", "(Z)V"⟩, 62) := ⟨⟨by decide +kernel, by decide +kernel⟩, List.mem_of_getElem? (i := 1027) (by decide +kernel), List.mem_of_getElem? (i := 1344) (by decide +kernel), List.mem_of_getElem? (i := 1345) (by decide +kernel)⟩
theorem lw_p76 : lw_okq (⟨"StoutShelfModel", "copies", "([I[I)V"⟩, 62) := ⟨⟨by decide +kernel, by decide +kernel⟩, List.mem_of_getElem? (i := 1027) (by decide +kernel), List.mem_of_getElem? (i := 1348) (by decide +kernel), List.mem_of_getElem? (i := 1349) (by decide +kernel)⟩
theorem lw_p77 : lw_okq (⟨"StoutShelfModel", "reckons", "(IIII)I"⟩, 62) := ⟨⟨by decide +kernel, by decide +kernel⟩, List.mem_of_getElem? (i := 1027) (by decide +kernel), List.mem_of_getElem? (i := 1352) (by decide +kernel), List.mem_of_getElem? (i := 1353) (by decide +kernel)⟩
theorem lw_p78 : lw_okq (⟨"StoutShelfModel", "isBook", "(I)Z"⟩, 62) := ⟨⟨by decide +kernel, by decide +kernel⟩, List.mem_of_getElem? (i := 1027) (by decide +kernel), List.mem_of_getElem? (i := 1374) (by decide +kernel), List.mem_of_getElem? (i := 1375) (by decide +kernel)⟩
theorem lw_p79 : lw_okq (⟨"StoutShelfModel", "isReader", "(I)Z"⟩, 62) := ⟨⟨by decide +kernel, by decide +kernel⟩, List.mem_of_getElem? (i := 1027) (by decide +kernel), List.mem_of_getElem? (i := 1382) (by decide +kernel), List.mem_of_getElem? (i := 1383) (by decide +kernel)⟩
def lw_privs_5 : List (MethodName × Nat) := [(⟨"StoutShelfModel", "expression", "()V"⟩, 62), (⟨"StoutShelfModel", "deeper", "()V"⟩, 62), (⟨"StoutShelfModel", "isSign", "(I)Z"⟩, 62), (⟨"StoutShelfModel", "operand", "(Z)V"⟩, 62), (⟨"StoutShelfModel", "waitsFor", "(I)V"⟩, 62), (⟨"StoutShelfModel", "part", "()V"⟩, 62), (⟨"StoutShelfModel", "puts", "(I)V"⟩, 62), (⟨"StoutShelfModel", "drops", "(I)V"⟩, 62), (⟨"StoutShelfModel", "opened", "()I"⟩, 62), (⟨"StoutShelfModel", "closes", "()V"⟩, 62), (⟨"StoutShelfModel", "turns", "(I)V"⟩, 62), (⟨"StoutShelfModel", "need", "(Z)V"⟩, 62), (⟨"StoutShelfModel", "copies", "([I[I)V"⟩, 62), (⟨"StoutShelfModel", "reckons", "(IIII)I"⟩, 62), (⟨"StoutShelfModel", "isBook", "(I)Z"⟩, 62), (⟨"StoutShelfModel", "isReader", "(I)Z"⟩, 62)]
theorem lw_r5 : ∀ q ∈ lw_privs_5, lw_okq q := List.forall_mem_cons.mpr ⟨lw_p64, List.forall_mem_cons.mpr ⟨lw_p65, List.forall_mem_cons.mpr ⟨lw_p66, List.forall_mem_cons.mpr ⟨lw_p67, List.forall_mem_cons.mpr ⟨lw_p68, List.forall_mem_cons.mpr ⟨lw_p69, List.forall_mem_cons.mpr ⟨lw_p70, List.forall_mem_cons.mpr ⟨lw_p71, List.forall_mem_cons.mpr ⟨lw_p72, List.forall_mem_cons.mpr ⟨lw_p73, List.forall_mem_cons.mpr ⟨lw_p74, List.forall_mem_cons.mpr ⟨lw_p75, List.forall_mem_cons.mpr ⟨lw_p76, List.forall_mem_cons.mpr ⟨lw_p77, List.forall_mem_cons.mpr ⟨lw_p78, List.forall_mem_cons.mpr ⟨lw_p79, fun _ h => absurd h List.not_mem_nil⟩⟩⟩⟩⟩⟩⟩⟩⟩⟩⟩⟩⟩⟩⟩⟩
theorem lw_p80 : lw_okq (⟨"StoutShelfModel", "hasOf", "(I)I"⟩, 62) := ⟨⟨by decide +kernel, by decide +kernel⟩, List.mem_of_getElem? (i := 1027) (by decide +kernel), List.mem_of_getElem? (i := 1386) (by decide +kernel), List.mem_of_getElem? (i := 1387) (by decide +kernel)⟩
theorem lw_p81 : lw_okq (⟨"StoutShelfModel", "isServed", "(I)Z"⟩, 62) := ⟨⟨by decide +kernel, by decide +kernel⟩, List.mem_of_getElem? (i := 1027) (by decide +kernel), List.mem_of_getElem? (i := 1390) (by decide +kernel), List.mem_of_getElem? (i := 1391) (by decide +kernel)⟩
theorem lw_p82 : lw_okq (⟨"StoutShelfModel", "trouble", "(III)I"⟩, 62) := ⟨⟨by decide +kernel, by decide +kernel⟩, List.mem_of_getElem? (i := 1027) (by decide +kernel), List.mem_of_getElem? (i := 1398) (by decide +kernel), List.mem_of_getElem? (i := 1399) (by decide +kernel)⟩
theorem lw_p83 : lw_okq (⟨"StoutShelfModel", "writes", "(IIII)I"⟩, 62) := ⟨⟨by decide +kernel, by decide +kernel⟩, List.mem_of_getElem? (i := 1027) (by decide +kernel), List.mem_of_getElem? (i := 1402) (by decide +kernel), List.mem_of_getElem? (i := 1403) (by decide +kernel)⟩
theorem lw_p84 : lw_okq (⟨"StoutShelfModel", "reachOf", "(I)I"⟩, 62) := ⟨⟨by decide +kernel, by decide +kernel⟩, List.mem_of_getElem? (i := 1027) (by decide +kernel), List.mem_of_getElem? (i := 1426) (by decide +kernel), List.mem_of_getElem? (i := 1427) (by decide +kernel)⟩
theorem lw_p85 : lw_okq (⟨"StoutShelfModel", "comesTo", "(II)I"⟩, 62) := ⟨⟨by decide +kernel, by decide +kernel⟩, List.mem_of_getElem? (i := 1027) (by decide +kernel), List.mem_of_getElem? (i := 1430) (by decide +kernel), List.mem_of_getElem? (i := 1431) (by decide +kernel)⟩
theorem lw_p86 : lw_okq (⟨"StoutShelfModel", "comes", "(III)V"⟩, 62) := ⟨⟨by decide +kernel, by decide +kernel⟩, List.mem_of_getElem? (i := 1027) (by decide +kernel), List.mem_of_getElem? (i := 1442) (by decide +kernel), List.mem_of_getElem? (i := 1443) (by decide +kernel)⟩
theorem lw_p87 : lw_okq (⟨"StoutShelfModel", "exchanges", "(IIIZI)V"⟩, 62) := ⟨⟨by decide +kernel, by decide +kernel⟩, List.mem_of_getElem? (i := 1027) (by decide +kernel), List.mem_of_getElem? (i := 1447) (by decide +kernel), List.mem_of_getElem? (i := 1448) (by decide +kernel)⟩
theorem lw_p88 : lw_okq (⟨"StoutShelfModel", "served", "()I"⟩, 62) := ⟨⟨by decide +kernel, by decide +kernel⟩, List.mem_of_getElem? (i := 1027) (by decide +kernel), List.mem_of_getElem? (i := 1455) (by decide +kernel), List.mem_of_getElem? (i := 1456) (by decide +kernel)⟩
theorem lw_p89 : lw_okq (⟨"StoutShelfModel", "turns0", "(IZ)V"⟩, 62) := ⟨⟨by decide +kernel, by decide +kernel⟩, List.mem_of_getElem? (i := 1027) (by decide +kernel), List.mem_of_getElem? (i := 1459) (by decide +kernel), List.mem_of_getElem? (i := 1460) (by decide +kernel)⟩
theorem lw_p90 : lw_okq (⟨"StoutShelfModel", "isDoneBy", "(II)Z"⟩, 62) := ⟨⟨by decide +kernel, by decide +kernel⟩, List.mem_of_getElem? (i := 1027) (by decide +kernel), List.mem_of_getElem? (i := 1463) (by decide +kernel), List.mem_of_getElem? (i := 1464) (by decide +kernel)⟩
theorem lw_p91 : lw_okq (⟨"StoutShelfModel", "canBe", "(I)Z"⟩, 62) := ⟨⟨by decide +kernel, by decide +kernel⟩, List.mem_of_getElem? (i := 1027) (by decide +kernel), List.mem_of_getElem? (i := 1467) (by decide +kernel), List.mem_of_getElem? (i := 1468) (by decide +kernel)⟩
theorem lw_p92 : lw_okq (⟨"StoutShelfModel", "canTake", "(II)Z"⟩, 62) := ⟨⟨by decide +kernel, by decide +kernel⟩, List.mem_of_getElem? (i := 1027) (by decide +kernel), List.mem_of_getElem? (i := 1494) (by decide +kernel), List.mem_of_getElem? (i := 1495) (by decide +kernel)⟩
theorem lw_p93 : lw_okq (⟨"StoutShelfModel", "refuses", "(I)I"⟩, 62) := ⟨⟨by decide +kernel, by decide +kernel⟩, List.mem_of_getElem? (i := 1027) (by decide +kernel), List.mem_of_getElem? (i := 1502) (by decide +kernel), List.mem_of_getElem? (i := 1503) (by decide +kernel)⟩
theorem lw_p94 : lw_okq (⟨"StoutShelfModel", "ways", "(IZII)I"⟩, 62) := ⟨⟨by decide +kernel, by decide +kernel⟩, List.mem_of_getElem? (i := 1027) (by decide +kernel), List.mem_of_getElem? (i := 1514) (by decide +kernel), List.mem_of_getElem? (i := 1515) (by decide +kernel)⟩
def lw_privs_6 : List (MethodName × Nat) := [(⟨"StoutShelfModel", "hasOf", "(I)I"⟩, 62), (⟨"StoutShelfModel", "isServed", "(I)Z"⟩, 62), (⟨"StoutShelfModel", "trouble", "(III)I"⟩, 62), (⟨"StoutShelfModel", "writes", "(IIII)I"⟩, 62), (⟨"StoutShelfModel", "reachOf", "(I)I"⟩, 62), (⟨"StoutShelfModel", "comesTo", "(II)I"⟩, 62), (⟨"StoutShelfModel", "comes", "(III)V"⟩, 62), (⟨"StoutShelfModel", "exchanges", "(IIIZI)V"⟩, 62), (⟨"StoutShelfModel", "served", "()I"⟩, 62), (⟨"StoutShelfModel", "turns0", "(IZ)V"⟩, 62), (⟨"StoutShelfModel", "isDoneBy", "(II)Z"⟩, 62), (⟨"StoutShelfModel", "canBe", "(I)Z"⟩, 62), (⟨"StoutShelfModel", "canTake", "(II)Z"⟩, 62), (⟨"StoutShelfModel", "refuses", "(I)I"⟩, 62), (⟨"StoutShelfModel", "ways", "(IZII)I"⟩, 62)]
theorem lw_r6 : ∀ q ∈ lw_privs_6, lw_okq q := List.forall_mem_cons.mpr ⟨lw_p80, List.forall_mem_cons.mpr ⟨lw_p81, List.forall_mem_cons.mpr ⟨lw_p82, List.forall_mem_cons.mpr ⟨lw_p83, List.forall_mem_cons.mpr ⟨lw_p84, List.forall_mem_cons.mpr ⟨lw_p85, List.forall_mem_cons.mpr ⟨lw_p86, List.forall_mem_cons.mpr ⟨lw_p87, List.forall_mem_cons.mpr ⟨lw_p88, List.forall_mem_cons.mpr ⟨lw_p89, List.forall_mem_cons.mpr ⟨lw_p90, List.forall_mem_cons.mpr ⟨lw_p91, List.forall_mem_cons.mpr ⟨lw_p92, List.forall_mem_cons.mpr ⟨lw_p93, List.forall_mem_cons.mpr ⟨lw_p94, fun _ h => absurd h List.not_mem_nil⟩⟩⟩⟩⟩⟩⟩⟩⟩⟩⟩⟩⟩⟩⟩
def lw_privs : List (MethodName × Nat) := lw_privs_1 ++ (lw_privs_2 ++ (lw_privs_3 ++ (lw_privs_4 ++ (lw_privs_5 ++ (lw_privs_6)))))
def lw_tbl : List Cond := k2_sels lw_privs ++ tables_1
theorem lw_privs_ok : ∀ q ∈ lw_privs, lw_okq q := by
  show ∀ q ∈ lw_privs_1 ++ (lw_privs_2 ++ (lw_privs_3 ++ (lw_privs_4 ++ (lw_privs_5 ++ (lw_privs_6))))), lw_okq q
  exact List.forall_mem_append.mpr ⟨lw_r1, List.forall_mem_append.mpr ⟨lw_r2, List.forall_mem_append.mpr ⟨lw_r3, List.forall_mem_append.mpr ⟨lw_r4, List.forall_mem_append.mpr ⟨lw_r5, lw_r6⟩⟩⟩⟩⟩
end
section
/-! ===== BEGIN words of one list among another's, by their places ===== -/
theorem goodIn_r {big : List Cond} (ws : List Cond) (ps : List Nat) (hp : ws = ps.filterMap (fun i => big[i]?)) (h : ws.all goodWord = true) : GoodIn big ws := by
  intro w hw
  have h1 := List.all_eq_true.mp h w hw
  rw [hp] at hw
  obtain ⟨i, -, hi⟩ := List.mem_filterMap.mp hw
  have hm : w ∈ big := by first | exact List.mem_of_getElem? hi | exact List.getElem?_mem hi
  exact ⟨hm, good_of_word h1⟩
theorem goodIn_app {big a b : List Cond} (ha : GoodIn big a) (hb : GoodIn big b) : GoodIn big (a ++ b) := fun w h => (List.mem_append.mp h).elim (ha w) (hb w)
theorem goodIn_ca {big a b : List Cond} {c : Cond} (ha : GoodIn big (c :: a)) (hb : GoodIn big b) : GoodIn big (c :: (a ++ b)) := fun w h => (List.mem_cons.mp h).elim (fun e => ha w (List.mem_cons.mpr (Or.inl e))) (fun h => (List.mem_append.mp h).elim (fun h => ha w (List.mem_cons.mpr (Or.inr h))) (hb w))
theorem goodIn_sub {big ws : List Cond} (hm : ∀ w ∈ ws, w ∈ big) (h : ws.all goodWord = true) : GoodIn big ws := fun w hw => ⟨hm w hw, good_of_word (List.all_eq_true.mp h w hw)⟩
/-! ===== END ===== -/

/-! ===== BEGIN exceptions that leave a method, and their catching by the caller (launches without stack traces) ===== -/
section VXA
/-! The laws vx_back, vx_callV, vx_callS, vx_callSW, vx_throw0, vx_throwS follow proofs of the library, with one case more: JvmDerived/Free/Laws.lean (Back.of_free), Shelf42/LK1.lean (callV, callS), Shelf/KitTraced.lean (throwNew0V, throwNewS). -/
/-- where a method has thrown q: the class by its name, the cell, what was written, the world -/
def vx_T (XC : String → State → State → Prop) (st : State) (q : Addr) (t : State) (mc ms : Nat) (free : Addr → Prop) : Prop :=
  ∃ (E : String) (ce : Cell) (L : List Loc), XC E st t ∧ t.heap[q]? = some ce ∧ ce.vm = .none ∧ st.vm.findClass E = some ce.cls ∧ st.WarmedH t.vm ∧ st.sameButNew ({ t with vm := st.vm } : State) L mc ms ∧ ∀ z ∈ L, free z.base
def vx_Q (Qc : Array Value → State → Outcome → State → Prop) (XC : String → State → State → Prop) (mc ms : Nat) (free : Addr → Prop) : Array Value → State → Outcome → State → Prop := fun a st o t =>
  (Qc a st o t ∧ ∃ L, FrameEnd st o t L mc ms ∧ ∀ q ∈ L, free q.base) ∨ ∃ q, o = .threw q ∧ vx_T XC st q t mc ms free
/-- a callee that returns or throws -/
def vx_Met (l : Launch) (y : MethodName) (ws : List Cond) (rm : Room) (Pc : Array Value → State → Prop) (Qc : Array Value → State → Outcome → State → Prop) (XC : String → State → State → Prop) (mc ms : Nat) (free : Addr → Prop) : Prop :=
  MetFree l y (headSpec ws rm) Pc (fun _ _ _ _ _ => True) (vx_Q Qc XC mc ms free)
def vx_Post (XC : String → State → State → Prop) (mc ms : Nat) (free : Addr → Prop) : Pt → Array Value → Addr → Pt → Prop := fun A a q B =>
  ∃ (g : JFrame) (mk : MethodId) (t : State) (L : List Loc) (E : String) (ce : Cell), B.U.heap = t.heap ∧ B.U.vm = t.vm ∧ XC E (A.U.calling g mk a) t ∧ t.heap[q]? = some ce ∧ ce.vm = .none ∧ A.U.vm.findClass E = some ce.cls ∧ B.locs = A.locs ++ L ∧ (∀ z ∈ L, free z.base) ∧ B.cells = A.cells + mc ∧ B.slots = A.slots + ms
def vx_Back (l : Launch) (R : Room) (p : Program) (e : Env) (below : List Frame) (s : State) (sargs : Array Value) (y : MethodName) (len W9 : Nat)
    (Pre : Pt → Array Value → Prop) (Post : Pt → Array Value → Option Value → Pt → Prop) (PostX : Pt → Array Value → Addr → Pt → Prop) : Prop :=
  ∀ (m : MethodId) (meth : Method) (c : Code) (A : Pt) (g : JFrame) (ig : Instr) (mk : MethodId) (a : Array Value),
    Stand p l e R s m sargs below meth c A.U A.locs A.cells A.slots → g.method = m → g.locals.size = c.maxLocals → decode c.code g.pc = .ok (ig, len) →
    2 * g.monitorRoom + (g.stack.map fun v => v.category).sum ≤ W9 → A.U.methodNamed? y = some mk → Pre A a →
    (∃ (v : Option Value) (B : Pt), Stand p l e R s m sargs below meth c B.U B.locs B.cells B.slots ∧ Post A a v B ∧
      Steps p.tables e below (doInvoke e (A.U.setTop g) [] mk a).1 (B.U.setTop { g with pc := g.pc + len, stack := v.toList ++ g.stack })) ∨
    (∃ (q : Addr) (B : Pt), Stand p l e R s m sargs below meth c B.U B.locs B.cells B.slots ∧ PostX A a q B ∧
      Steps p.tables e below (doInvoke e (A.U.setTop g) [] mk a).1 ((B.U.setTop g).pushFrame (.throwing q)))
section Payer
variable {l : Launch} {R : Room} {p : Program} {e : Env} {below : List Frame} {s : State} {sargs : Array Value} {y : MethodName} {len W9 : Nat}
theorem vx_back {ws : List Cond} {rm : Room} {Pc : Array Value → State → Prop} {Qc : Array Value → State → Outcome → State → Prop} {XC : String → State → State → Prop} {mc ms : Nat} {free : Addr → Prop} {bytes : ByteArray} {maxL : Nat} {ret : Option FieldType}
    (hM : vx_Met l y ws rm Pc Qc XC mc ms free) (hblind : FrameBlind Pc) (hrc : rm.cells = mc) (hrs : rm.slots = ms)
    (hframes : rm.frames + 1 ≤ R.frames) (hlocals : W9 + (maxL + 11) + rm.locals ≤ R.locals)
    (hws : ∀ w ∈ ws, ∀ a' U, s.WarmedH U.vm → w.before a' U = true) (hcode : Cond.code y bytes maxL ret ∈ ws) (hinit : ∀ a' U, s.WarmedH U.vm → (Cond.initialized y.cls).before a' U = true) :
    vx_Back l R p e below s sargs y len W9 (PreOf R mc ms Pc) (PostOf Qc mc ms free) (vx_Post XC mc ms free) := by
  intro m meth c A g ig mk a X hg hsize hdg hW hn hp
  have h1 : (headSpec ws rm).pre.before a A.U = true := atoms_intro fun w hw => hws w hw _ _ X.warmed
  have h2 : (Cond.code y bytes maxL ret).before a A.U = true := hws _ hcode _ _ X.warmed
  have h3 : (Cond.initialized y.cls).before a A.U = true := hinit _ _ X.warmed
  have h4 : A.cells + (headSpec ws rm).room.cells ≤ R.cells := by rw [show (headSpec ws rm).room.cells = mc from hrc]; exact hp.1
  have h5 : A.slots + (headSpec ws rm).room.slots ≤ R.slots := by rw [show (headSpec ws rm).room.slots = ms from hrs]; exact hp.2.1
  have hPc : Pc a (A.U.calling g mk a) := hblind _ _ _ _ hp.2.2
  obtain ⟨U, Ls, c0, s0⟩ := A
  dsimp only [Pt.U, Pt.locs, Pt.cells, Pt.slots] at h1 h2 h3 h4 h5 X hn hPc ⊢
  obtain ⟨methY, cY, hmY, hcY, -, hlY, -, -, -, -⟩ := Cond.code_spec hn h2
  obtain ⟨kY, hkY, -⟩ := className_of_methodNamed hn
  have hinitY : kY.init = .initialized := Cond.initialized_spec (findClass_of_methodNamed hn) hkY h3
  have h : At U g.method c below := by rw [hg]; exact X.here
  have hlocals9 : W9 + (maxL + 11) + (headSpec ws rm).room.locals ≤ R.locals := hlocals
  have happ : (headSpec ws rm).appliesLoose y e.platform (U.calling g mk a) = true :=
    Spec.appliesLoose_calling (g := g) h hdg hn hkY hinitY
      (X.room_calling (g := g) (R' := (headSpec ws rm).room) hsize hmY hcY hframes (by rw [hlY]; omega) h4 h5) h1
  obtain ⟨mid, hmid⟩ := h.above
  have hfr : (U.setTop g).frames = (.java g :: mid) ++ below := by rw [State.frames_setTop' g h.top, hmid]; rfl
  obtain ⟨o, s₂, hsteps, -, hend, hq⟩ := Steps.callFree hM p X.admits X.cas X.clock (acts := []) hfr happ hPc trivial
  have hq' : vx_Q Qc XC mc ms free a (U.calling g mk a) o s₂ := hq
  rw [State.frames_setTop' g h.top] at hend
  obtain ⟨g₀, hg0⟩ := Option.isSome_iff_exists.mp h.top
  obtain ⟨r, hr⟩ := State.topJava?_eq_some.mp hg0
  have hr' : (({ U with heap := s₂.heap, slotsUsed := s₂.slotsUsed } : State).setVm s₂.vm).frames = .java g₀ :: r := hr
  rcases hq' with ⟨hqc, L, hfe, hL⟩ | ⟨q, rfl, E, ce, L, hx, hce, hcv, hcl, hW₂, hsm, hL⟩
  · obtain ⟨⟨v, rfl⟩, hW₂, e2, q2, q3, q4, q5, q6⟩ := id hfe
    have e3 : s₂ = ({ (U.calling g mk a).setFrames s₂.frames with heap := s₂.heap, slotsUsed := s₂.slotsUsed } : State).setVm s₂.vm := by
      have : s₂ = ({ s₂ with vm := (U.calling g mk a).vm } : State).setVm s₂.vm := rfl
      rw [e2] at this
      exact this
    obtain ⟨c₂, i₂, len₂, hc₂, hd₂, hf₂⟩ := hend
    have hW' : U.WarmedH s₂.vm := hW₂
    have hcc : c₂ = c := by
      have h1 : s₂.code? g.method = U.code? g.method := by
        rw [State.code?_eq, State.code?_eq, hW'.alike.method?]
      exact Option.some.inj (hc₂.symm.trans (h1.trans h.code))
    subst hcc
    have hlen : len₂ = len := by rw [hdg] at hd₂; cases hd₂; rfl
    subst hlen
    have hs₂ : s₂ = (({ U with heap := s₂.heap, slotsUsed := s₂.slotsUsed } : State).setVm s₂.vm).setTop { g with pc := g.pc + len₂, stack := v.toList ++ g.stack } := by
      refine e3.trans ?_
      rw [hf₂, State.calling_eq h.top, State.setFrames_setFrames, State.setTop_of_frames _ hr', hr]
      rfl
    have hsame : U.sameButNew ({ U with heap := s₂.heap, slotsUsed := s₂.slotsUsed } : State) L mc ms := by
      refine ⟨?_, q2, q3, q4, q5, q6⟩
      obtain ⟨t, ht, -⟩ := State.frames_cons hr
      show ({ U with heap := s₂.heap, slotsUsed := s₂.slotsUsed } : State) = { U.setFrames U.frames with heap := s₂.heap, slotsUsed := s₂.slotsUsed }
      rw [State.setFrames_self ht]
    subst hg
    refine Or.inl ⟨v, ⟨(({ U with heap := s₂.heap, slotsUsed := s₂.slotsUsed } : State).setVm s₂.vm), Ls ++ L, c0 + mc, s0 + ms⟩,
      ⟨X.admits, X.cas, X.clock, X.frames, X.room, X.hears, X.method, X.code, (X.here.setHeapUsed s₂.heap s₂.slotsUsed).setVm hW'.alike, X.tail, State.WarmedH.trans X.warmed hW', X.limits, X.bytes, X.same.trans (hsame.setVm s.vm)⟩,
      ⟨g, mk, s₂, L, rfl, rfl, hqc, rfl, hL, rfl, rfl⟩, ?_⟩
    show Steps p.tables e below _ ((({ U with heap := s₂.heap, slotsUsed := s₂.slotsUsed } : State).setVm s₂.vm).setTop { g with pc := g.pc + len₂, stack := v.toList ++ g.stack })
    rw [← hs₂]
    exact hsteps
  · obtain ⟨e2, q2, q3, q4, q5, q6⟩ := id hsm
    have e3 : s₂ = ({ (U.calling g mk a).setFrames s₂.frames with heap := s₂.heap, slotsUsed := s₂.slotsUsed } : State).setVm s₂.vm := by
      have : s₂ = ({ s₂ with vm := (U.calling g mk a).vm } : State).setVm s₂.vm := rfl
      rw [e2] at this
      exact this
    have hf₂ : s₂.frames = .throwing q :: .java g :: U.frames.tail := hend
    have hW' : U.WarmedH s₂.vm := hW₂
    have hs₂ : s₂ = ((({ U with heap := s₂.heap, slotsUsed := s₂.slotsUsed } : State).setVm s₂.vm).setTop g).pushFrame (.throwing q) := by
      refine e3.trans ?_
      rw [hf₂, State.calling_eq h.top, State.setFrames_setFrames, State.pushFrame, State.frames_setTop _ hr', State.setTop_of_frames _ hr', State.setFrames_setFrames, hr]
      rfl
    have hsame : U.sameButNew ({ U with heap := s₂.heap, slotsUsed := s₂.slotsUsed } : State) L mc ms := by
      refine ⟨?_, q2, q3, q4, q5, q6⟩
      obtain ⟨t, ht, -⟩ := State.frames_cons hr
      show ({ U with heap := s₂.heap, slotsUsed := s₂.slotsUsed } : State) = { U.setFrames U.frames with heap := s₂.heap, slotsUsed := s₂.slotsUsed }
      rw [State.setFrames_self ht]
    subst hg
    refine Or.inr ⟨q, ⟨(({ U with heap := s₂.heap, slotsUsed := s₂.slotsUsed } : State).setVm s₂.vm), Ls ++ L, c0 + mc, s0 + ms⟩,
      ⟨X.admits, X.cas, X.clock, X.frames, X.room, X.hears, X.method, X.code, (X.here.setHeapUsed s₂.heap s₂.slotsUsed).setVm hW'.alike, X.tail, State.WarmedH.trans X.warmed hW', X.limits, X.bytes, X.same.trans (hsame.setVm s.vm)⟩,
      ⟨g, mk, s₂, L, E, ce, rfl, rfl, hx, hce, hcv, hcl, rfl, hL, rfl, rfl⟩, ?_⟩
    show Steps p.tables e below _ (((({ U with heap := s₂.heap, slotsUsed := s₂.slotsUsed } : State).setVm s₂.vm).setTop g).pushFrame (.throwing q))
    rw [← hs₂]
    exact hsteps
end Payer
section Calls
variable {p : Program} {l : Launch} {e : Env} {R : Room} {s : State} {m : MethodId} {args : Array Value} {below : List Frame} {meth : Method} {c : Code} {T : State} {locs : List Loc} {cells slots : Nat}
theorem vx_callV (X : Stand p l e R s m args below meth c T locs cells slots) (hexec : p.tables.exec = Jvm.exec) {own C : String} {index : Nat} {y : MethodName} {bytes : ByteArray} {maxL : Nat} {ret : Option FieldType}
    (hown : s.vm.findClass own = some m.cls) (hlink : (Cond.methodLink own index y).before args s = true) (hinst : (Cond.instanceMethod y).before args s = true) (hsel : (Cond.selects C y y).before args s = true)
    (hcode : (Cond.code y bytes maxL ret).before args s = true) (hy : y.cls ≠ "java/lang/invoke/MethodHandle" ∧ y.cls ≠ "java/lang/invoke/VarHandle")
    {W9 : Nat} {Pre : Pt → Array Value → Prop} {Post : Pt → Array Value → Option Value → Pt → Prop} {PostX : Pt → Array Value → Addr → Pt → Prop} (hK : vx_Back l R p e below s args y 3 W9 Pre Post PostX)
    {b : Addr} {cellB : Cell} (hcell : T.heap[b]? = some cellB) (hobj : cellB.vm.isStatics = false) (hcls : s.vm.findClass C = some cellB.cls)
    {g : JFrame} (hg : g.method = m) (hsize : g.locals.size = c.maxLocals) {argsL rest : List Value} (hlen : ∀ sig, parseMethodDescriptor y.desc = some sig → argsL.length = sig.parameters.length)
    (hstack : g.stack = argsL.reverse ++ .ref b :: rest) (hW : 2 * g.monitorRoom + (rest.map fun v => v.category).sum ≤ W9) (hdg : decode c.code g.pc = .ok (.invokevirtual index, 3))
    (hpre : ∀ vm₁, s.WarmedH vm₁ → Pre ⟨T.setVm vm₁, locs, cells, slots⟩ (Value.ref b :: argsL).toArray) :
    (∃ (v : Option Value) (vm₁ : Vm) (B : Pt), s.WarmedH vm₁ ∧ Stand p l e R s m args below meth c B.U B.locs B.cells B.slots ∧ Post ⟨T.setVm vm₁, locs, cells, slots⟩ (Value.ref b :: argsL).toArray v B ∧
      ∀ target, Steps p.tables e below (B.U.setTop { g with pc := g.pc + 3, stack := v.toList ++ rest }) target → Steps p.tables e below (T.setTop g) target) ∨
    (∃ (q : Addr) (vm₁ : Vm) (B : Pt), s.WarmedH vm₁ ∧ Stand p l e R s m args below meth c B.U B.locs B.cells B.slots ∧ PostX ⟨T.setVm vm₁, locs, cells, slots⟩ (Value.ref b :: argsL).toArray q B ∧
      Steps p.tables e below (T.setTop g) ((B.U.setTop { g with stack := rest }).pushFrame (.throwing q))) := by
  obtain ⟨mk, methM, hnamed, hmethM, hstM, habM⟩ := Cond.instanceMethod_spec hinst
  obtain ⟨methM', cM, hmethM', -, -, -, -, -, -, hsigM⟩ := Cond.code_spec hnamed hcode
  cases hmethM.symm.trans hmethM'
  obtain ⟨c2, r2, m2, q1, q2, q3, q4, kP, hkP, hkPi⟩ := Cond.selects_spec hsel
  cases hcls.symm.trans q1
  cases (State.methodFound?_of_named hnamed hy).symm.trans q2
  cases hnamed.symm.trans q3
  have hselP : selectMethod e.platform s.vm cellB.cls mk = .method mk := by rw [Launch.admits_selectMethod X.admits]; exact q4
  obtain ⟨vm₁, X₁, hstep₁⟩ := X.invokevirtual hexec hown hlink hnamed hmethM hstM hkP hkPi hy (a := b) (cell := cellB) hcell
    (fun z h => by rw [h] at hobj; cases hobj) hselP hmethM habM hkP hkPi (g := g) hg (argsL := argsL) (rest := rest) (hlen _ hsigM) hstack hdg
  rcases hK m meth c ⟨T.setVm vm₁, locs, cells, slots⟩ { g with stack := rest } (.invokevirtual index) mk (Value.ref b :: argsL).toArray X₁ hg hsize hdg hW (X₁.named hnamed) (hpre vm₁ X₁.warmed) with ⟨v, B, X', hpost, hsteps⟩ | ⟨q, B, X', hpost, hsteps⟩
  · exact Or.inl ⟨v, vm₁, B, X₁.warmed, X', hpost, fun target h => hstep₁ _ fun acts => by rw [doInvoke_state]; exact hsteps.trans h⟩
  · exact Or.inr ⟨q, vm₁, B, X₁.warmed, X', hpost, hstep₁ _ fun acts => by rw [doInvoke_state]; exact hsteps⟩
theorem vx_callS (X : Stand p l e R s m args below meth c T locs cells slots) (hexec : p.tables.exec = Jvm.exec) {own : String} {index : Nat} {y : MethodName} {bytes : ByteArray} {maxL : Nat} {ret : Option FieldType}
    (hown : s.vm.findClass own = some m.cls) (hlink : (Cond.methodLink own index y).before args s = true) (hstat : (Cond.static y).before args s = true) (hinit : (Cond.initialized y.cls).before args s = true)
    (hcode : (Cond.code y bytes maxL ret).before args s = true) (hy : y.cls ≠ "java/lang/invoke/MethodHandle" ∧ y.cls ≠ "java/lang/invoke/VarHandle")
    {W9 : Nat} {Pre : Pt → Array Value → Prop} {Post : Pt → Array Value → Option Value → Pt → Prop} {PostX : Pt → Array Value → Addr → Pt → Prop} (hK : vx_Back l R p e below s args y 3 W9 Pre Post PostX)
    {g : JFrame} (hg : g.method = m) (hsize : g.locals.size = c.maxLocals) {argsL rest : List Value} (hlen : ∀ sig, parseMethodDescriptor y.desc = some sig → argsL.length = sig.parameters.length)
    (hstack : g.stack = argsL.reverse ++ rest) (hW : 2 * g.monitorRoom + (rest.map fun v => v.category).sum ≤ W9) (hdg : decode c.code g.pc = .ok (.invokestatic index, 3))
    (hpre : ∀ vm₁, s.WarmedH vm₁ → Pre ⟨T.setVm vm₁, locs, cells, slots⟩ argsL.toArray) :
    (∃ (v : Option Value) (vm₁ : Vm) (B : Pt), s.WarmedH vm₁ ∧ Stand p l e R s m args below meth c B.U B.locs B.cells B.slots ∧ Post ⟨T.setVm vm₁, locs, cells, slots⟩ argsL.toArray v B ∧
      ∀ target, Steps p.tables e below (B.U.setTop { g with pc := g.pc + 3, stack := v.toList ++ rest }) target → Steps p.tables e below (T.setTop g) target) ∨
    (∃ (q : Addr) (vm₁ : Vm) (B : Pt), s.WarmedH vm₁ ∧ Stand p l e R s m args below meth c B.U B.locs B.cells B.slots ∧ PostX ⟨T.setVm vm₁, locs, cells, slots⟩ argsL.toArray q B ∧
      Steps p.tables e below (T.setTop g) ((B.U.setTop { g with stack := rest }).pushFrame (.throwing q))) := by
  obtain ⟨mk, hnamed⟩ := Cond.code_named hcode
  obtain ⟨methM, cM, hmethM, -, -, -, -, -, -, hsigM⟩ := Cond.code_spec hnamed hcode
  have hstatic : methM.isStatic = true := Cond.static_spec hnamed hmethM hstat
  obtain ⟨kP, hkP, -⟩ := className_of_methodNamed hnamed
  have hinitP : kP.init = .initialized := Cond.initialized_spec (findClass_of_methodNamed hnamed) hkP hinit
  obtain ⟨vm₁, X₁, hstep₁⟩ := X.invokestatic hexec hown hlink hnamed hmethM hstatic hkP hinitP hy (g := g) hg (argsL := argsL) (rest := rest) (hlen _ hsigM) hstack hdg
  rcases hK m meth c ⟨T.setVm vm₁, locs, cells, slots⟩ { g with stack := rest } (.invokestatic index) mk argsL.toArray X₁ hg hsize hdg hW (X₁.named hnamed) (hpre vm₁ X₁.warmed) with ⟨v, B, X', hpost, hsteps⟩ | ⟨q, B, X', hpost, hsteps⟩
  · exact Or.inl ⟨v, vm₁, B, X₁.warmed, X', hpost, fun target h => hstep₁ _ fun acts => by rw [doInvoke_state]; exact hsteps.trans h⟩
  · exact Or.inr ⟨q, vm₁, B, X₁.warmed, X', hpost, hstep₁ _ fun acts => by rw [doInvoke_state]; exact hsteps⟩
end Calls
theorem vx_cls {s : State} {T : State} {vm₁ : Vm} {E : String} {k : ClassId} (hW : s.WarmedH vm₁) (h : (T.setVm vm₁).vm.findClass E = some k) : s.vm.findClass E = some k := by
  have h1 : vm₁.findClass E = some k := h
  rw [hW.alike.findClass] at h1
  exact h1
/-- the method's frame g, with q thrown over it -/
def vx_W (p : Program) (l : Launch) (e : Env) (R : Room) (s : State) (m : MethodId) (args : Array Value) (below : List Frame) (meth : Method) (c : Code) (H : Heap) (locs : List Loc) (cells slots : Nat) (Q : State → Prop) (g : JFrame) (q : Addr) : Prop :=
  ∀ T : State, T.heap = H → Stand p l e R s m args below meth c T locs cells slots → ∃ t, Steps p.tables e below ((T.setTop g).pushFrame (.throwing q)) t ∧ Q t
def vx_Run (p : Program) (l : Launch) (e : Env) (R : Room) (s : State) (m : MethodId) (args : Array Value) (below : List Frame) (meth : Method) (c : Code) (H : Heap) (locs : List Loc) (cells slots mc ms : Nat) (g : JFrame) (rest : List Value) (Qa : State → Outcome → State → Prop) (XC : String → State → State → Prop) (free : Addr → Prop) : Prop :=
  ∀ T : State, T.heap = H → Stand p l e R s m args below meth c T locs cells slots →
    (∃ (v : Option Value) (st₀ t T' : State) (L : List Loc), st₀.heap = H ∧ Stand p l e R s m args below meth c T' (locs ++ L) (cells + mc) (slots + ms) ∧ (∀ q ∈ L, free q.base) ∧ T'.heap = t.heap ∧ T'.vm = t.vm ∧ Qa st₀ (.returned v) t ∧
      Goes p e below T g T' { g with pc := g.pc + 3, stack := v.toList ++ rest }) ∨
    (∃ (q : Addr) (st₀ t T' : State) (L : List Loc) (E : String) (ce : Cell), st₀.heap = H ∧ Stand p l e R s m args below meth c T' (locs ++ L) (cells + mc) (slots + ms) ∧ (∀ z ∈ L, free z.base) ∧ T'.heap = t.heap ∧ T'.vm = t.vm ∧ XC E st₀ t ∧ t.heap[q]? = some ce ∧ ce.vm = .none ∧ s.vm.findClass E = some ce.cls ∧
      Steps p.tables e below (T.setTop g) ((T'.setTop { g with stack := rest }).pushFrame (.throwing q)))
def vx_X {S : Type} (px : S → Prop) (B : String → S → State → Prop) (A : Nat → Prop) : String → State → State → Prop := fun E st t => ∃ u : S, px u ∧ B E u t ∧ va_F A st t
section Runs
variable {p : Program} {l : Launch} {e : Env} {R : Room} {s : State} {m : MethodId} {args : Array Value} {below : List Frame} {meth : Method} {c : Code} {H : Heap} {locs : List Loc} {cells slots : Nat}
variable {y : MethodName} {bytes cc : ByteArray} {maxL nL mc ms n index : Nat} {ret : Option FieldType} {ws : List Cond} {rm : Room} {Pc : Array Value → State → Prop} {Qc : Array Value → State → Outcome → State → Prop} {XC : String → State → State → Prop} {free : Addr → Prop} {Ts : List Cond} {own C : String} {b : Addr} {As rest : List Value} {g : JFrame}
theorem vx_callBack (cb : CallB R s args own index y bytes maxL ret ws rm mc ms n) (hM : vx_Met l y ws rm Pc Qc XC mc ms free) (hbl : FrameBlind Pc) : vx_Back l R p e below s args y 3 8 (PreOf R mc ms Pc) (PostOf Qc mc ms free) (vx_Post XC mc ms free) := by
  obtain ⟨hrc, hrs, hfr, hlo, hws, hcw, -, hini, -⟩ := cb
  exact vx_back (bytes := bytes) (maxL := maxL) (ret := ret) hM hbl hrc hrs hfr hlo hws hcw (fun a' U hW => word_at hW (Or.inl (by first | rfl | simp [Cond.onTables, Cond.keeps, Cond.steady])) hini)
theorem vx_runV (S : CallFix p m c cc nL s args Ts own) (hM : vx_Met l y ws rm Pc Qc XC mc ms free) (cw : CallW R s args own C index y bytes maxL ret ws rm mc ms n) (hp : PreV s H C b Pc As)
    (hg : g.method = m) (hn : As.length = n) (hsize : g.locals.size = nL) (hstack : g.stack = As.reverse ++ .ref b :: rest) (hW : 2 * g.monitorRoom + (rest.map fun v => v.category).sum ≤ 8) (hdg : decode cc g.pc = .ok (.invokevirtual index, 3)) (hf : cells + mc ≤ R.cells ∧ slots + ms ≤ R.slots) :
    vx_Run p l e R s m args below meth c H locs cells slots mc ms g rest (Qc (Value.ref b :: As).toArray) XC free := by
  have hK : vx_Back l R p e below s args y 3 8 (PreOf R mc ms Pc) (PostOf Qc mc ms free) (vx_Post XC mc ms free) := vx_callBack cw.1 hM hp.1
  obtain ⟨⟨-, -, -, -, -, -, hcode, -, hy, hlen, hl⟩, hin, hse⟩ := cw
  obtain ⟨hx, hb, hml, ho, -⟩ := S
  obtain ⟨-, ⟨cellB, hcB, hoB, hclB⟩, hPc⟩ := hp
  intro T hT X
  rcases vx_callV X hx (C := C) (bytes := bytes) (maxL := maxL) (ret := ret) ho hl hin hse hcode hy hK (by rw [hT]; exact hcB) hoB hclB hg (hsize.trans hml.symm) (argsL := As) (rest := rest) (fun sig h => hn.trans (hlen sig h)) hstack hW (by rw [hb]; exact hdg)
    (fun vm₁ hW₁ => ⟨hf.1, hf.2, hPc (T.setVm vm₁) hT hW₁⟩) with ⟨v, vm₁, ⟨U', l2, c2, s2⟩, hW₁, X', ⟨g', mk, t, L, e1, e2, hq, h1, hL, h2, h3⟩, st⟩ | ⟨q, vm₁, ⟨U', l2, c2, s2⟩, hW₁, X', ⟨g', mk, t, L, E, ce, e1, e2, hq, hce, hcv, hcl, h1, hL, h2, h3⟩, st⟩
  · dsimp only [Pt.U, Pt.locs, Pt.cells, Pt.slots] at X' e1 e2 h1 h2 h3 st
    subst h1; subst h2; subst h3
    exact Or.inl ⟨v, (T.setVm vm₁).calling g' mk (Value.ref b :: As).toArray, t, U', L, hT, X', hL, e1, e2, hq, st⟩
  · dsimp only [Pt.U, Pt.locs, Pt.cells, Pt.slots] at X' e1 e2 h1 h2 h3 st hcl
    subst h1; subst h2; subst h3
    exact Or.inr ⟨q, (T.setVm vm₁).calling g' mk (Value.ref b :: As).toArray, t, U', L, E, ce, hT, X', hL, e1, e2, hq, hce, hcv, vx_cls hW₁ hcl, st⟩
theorem vx_runS (S : CallFix p m c cc nL s args Ts own) (hM : vx_Met l y ws rm Pc Qc XC mc ms free) (cw : CallB R s args own index y bytes maxL ret ws rm mc ms n ∧ (Cond.static y).before args s = true) (hp : PreS s H Pc As)
    (hg : g.method = m) (hn : As.length = n) (hsize : g.locals.size = nL) (hstack : g.stack = As.reverse ++ rest) (hW : 2 * g.monitorRoom + (rest.map fun v => v.category).sum ≤ 8) (hdg : decode cc g.pc = .ok (.invokestatic index, 3)) (hf : cells + mc ≤ R.cells ∧ slots + ms ≤ R.slots) :
    vx_Run p l e R s m args below meth c H locs cells slots mc ms g rest (Qc As.toArray) XC free := by
  have hK : vx_Back l R p e below s args y 3 8 (PreOf R mc ms Pc) (PostOf Qc mc ms free) (vx_Post XC mc ms free) := vx_callBack cw.1 hM hp.1
  obtain ⟨⟨-, -, -, -, -, -, hcode, hini, hy, hlen, hl⟩, hstt⟩ := cw
  obtain ⟨hx, hb, hml, ho, -⟩ := S
  intro T hT X
  rcases vx_callS X hx (bytes := bytes) (maxL := maxL) (ret := ret) ho hl hstt hini hcode hy hK hg (hsize.trans hml.symm) (argsL := As) (rest := rest) (fun sig h => hn.trans (hlen sig h)) hstack hW (by rw [hb]; exact hdg)
    (fun vm₁ hW₁ => ⟨hf.1, hf.2, hp.2 (T.setVm vm₁) hT hW₁⟩) with ⟨v, vm₁, ⟨U', l2, c2, s2⟩, hW₁, X', ⟨g', mk, t, L, e1, e2, hq, h1, hL, h2, h3⟩, st⟩ | ⟨q, vm₁, ⟨U', l2, c2, s2⟩, hW₁, X', ⟨g', mk, t, L, E, ce, e1, e2, hq, hce, hcv, hcl, h1, hL, h2, h3⟩, st⟩
  · dsimp only [Pt.U, Pt.locs, Pt.cells, Pt.slots] at X' e1 e2 h1 h2 h3 st
    subst h1; subst h2; subst h3
    exact Or.inl ⟨v, (T.setVm vm₁).calling g' mk As.toArray, t, U', L, hT, X', hL, e1, e2, hq, st⟩
  · dsimp only [Pt.U, Pt.locs, Pt.cells, Pt.slots] at X' e1 e2 h1 h2 h3 st hcl
    subst h1; subst h2; subst h3
    exact Or.inr ⟨q, (T.setVm vm₁).calling g' mk As.toArray, t, U', L, E, ce, hT, X', hL, e1, e2, hq, hce, hcv, vx_cls hW₁ hcl, st⟩
end Runs
section Rows
variable {p : Program} {l : Launch} {e : Env} {R : Room} {s : State} {m : MethodId} {args : Array Value} {below : List Frame} {meth : Method} {c : Code} {H : Heap} {locs : List Loc} {cells slots : Nat} {Q : State → Prop}
variable {mc ms : Nat} {free : Addr → Prop} {A0 A1 : Nat → Prop} {H0 : Heap} {a : Array Value} {pc : Nat} {ls : Array Slot} {st0 rest : List Value}
theorem vx_keep {st₀ t T' : State} {L : List Loc} (h0 : st₀.heap = H) (e1 : T'.heap = t.heap) (hS : va_S A0 H0 H locs) (hA : ∀ q, q < H.size → A1 q → A0 q) (hf : ∀ q, free q → A0 q) (hL : ∀ q ∈ L, free q.base) (hF : va_F A1 st₀ t) :
    H.size ≤ T'.heap.size ∧ (∀ q : Nat, q < H.size → ¬ A1 q → T'.heap[q]? = H[q]?) ∧ va_S A0 H0 T'.heap (locs ++ L) := by
  obtain ⟨hz, hk⟩ := hF
  rw [h0] at hz hk
  exact ⟨by rw [e1]; exact hz, fun q h1 h2 => by rw [e1]; exact hk q h1 h2,
    ⟨Nat.le_trans hS.1 (by rw [e1]; exact hz), fun q h1 h2 => by rw [e1, hk q (Nat.lt_of_lt_of_le h1 hS.1) (fun z => h2 (hA q (Nat.lt_of_lt_of_le h1 hS.1) z))]; exact hS.2.1 q h1 h2, fun q hq => by
      rcases List.mem_append.mp hq with h | h
      · exact hS.2.2 q h
      · exact hf _ (hL q h)⟩⟩
theorem vx_calli {S SX : Type} {post : Int32 → S → Prop} {px : SX → Prop} {B : S → State → Prop} {BX : String → SX → State → Prop} {AX : Nat → Prop} (hr : vx_Run p l e R s m args below meth c H locs cells slots mc ms (F0 m pc ls st0) rest (va_Qi post B A1 a) (vx_X px BX AX) free) (hS : va_S A0 H0 H locs) (hA : ∀ q, q < H.size → A1 q → A0 q) (hf : ∀ q, free q → A0 q) (hAX : ∀ q, q < H.size → AX q → A0 q)
    (kx : ∀ (E : String) (ce : Cell) (q9 : Addr) (u : SX) (t : State) (H1 : Heap) (locs1 : List Loc), t.heap = H1 → s.vm.Alike t.vm → px u → BX E u t → H.size ≤ H1.size → (∀ q : Nat, q < H.size → ¬ AX q → H1[q]? = H[q]?) → va_S A0 H0 H1 locs1 → H1[q9]? = some ce → ce.vm = .none → s.vm.findClass E = some ce.cls → vx_W p l e R s m args below meth c H1 locs1 (cells + mc) (slots + ms) Q (F0 m pc ls rest) q9)
    (kk : ∀ (r : Int32) (u : S) (t : State) (H1 : Heap) (locs1 : List Loc), t.heap = H1 → s.vm.Alike t.vm → post r u → B u t → H.size ≤ H1.size → (∀ q : Nat, q < H.size → ¬ A1 q → H1[q]? = H[q]?) → va_S A0 H0 H1 locs1 → W p l e R s m args below meth c H1 locs1 (cells + mc) (slots + ms) Q (F0 m (pc + 3) ls (.int r :: rest))) : W p l e R s m args below meth c H locs cells slots Q (F0 m pc ls st0) := by
  intro T hT X
  rcases hr T hT X with ⟨v, st₀, t, T', L, h0, X', hL, e1, e2, ⟨⟨r, u, hv, hp, hb⟩, hF⟩, st⟩ | ⟨q, st₀, t, T', L, E, ce, h0, X', hL, e1, e2, ⟨u, hp, hb, hF⟩, hce, hcv, hcl, st⟩
  · cases hv
    obtain ⟨k1, k2, k3⟩ := vx_keep h0 e1 hS hA hf hL hF
    obtain ⟨t2, a1, b1⟩ := kk r u t T'.heap (locs ++ L) e1.symm (by rw [← e2]; exact X'.warmed.alike) hp hb k1 k2 k3 T' rfl X'
    exact ⟨t2, st t2 a1, b1⟩
  · obtain ⟨k1, k2, k3⟩ := vx_keep h0 e1 hS hAX hf hL hF
    obtain ⟨t2, a1, b1⟩ := kx E ce q u t T'.heap (locs ++ L) e1.symm (by rw [← e2]; exact X'.warmed.alike) hp hb k1 k2 k3 (by rw [e1]; exact hce) hcv hcl T' rfl X'
    exact ⟨t2, st.trans a1, b1⟩
theorem vx_calll {S SX : Type} {post : Int64 → S → Prop} {px : SX → Prop} {B : S → State → Prop} {BX : String → SX → State → Prop} {AX : Nat → Prop} (hr : vx_Run p l e R s m args below meth c H locs cells slots mc ms (F0 m pc ls st0) rest (va_Ql post B A1 a) (vx_X px BX AX) free) (hS : va_S A0 H0 H locs) (hA : ∀ q, q < H.size → A1 q → A0 q) (hf : ∀ q, free q → A0 q) (hAX : ∀ q, q < H.size → AX q → A0 q)
    (kx : ∀ (E : String) (ce : Cell) (q9 : Addr) (u : SX) (t : State) (H1 : Heap) (locs1 : List Loc), t.heap = H1 → s.vm.Alike t.vm → px u → BX E u t → H.size ≤ H1.size → (∀ q : Nat, q < H.size → ¬ AX q → H1[q]? = H[q]?) → va_S A0 H0 H1 locs1 → H1[q9]? = some ce → ce.vm = .none → s.vm.findClass E = some ce.cls → vx_W p l e R s m args below meth c H1 locs1 (cells + mc) (slots + ms) Q (F0 m pc ls rest) q9)
    (kk : ∀ (r : Int64) (u : S) (t : State) (H1 : Heap) (locs1 : List Loc), t.heap = H1 → s.vm.Alike t.vm → post r u → B u t → H.size ≤ H1.size → (∀ q : Nat, q < H.size → ¬ A1 q → H1[q]? = H[q]?) → va_S A0 H0 H1 locs1 → W p l e R s m args below meth c H1 locs1 (cells + mc) (slots + ms) Q (F0 m (pc + 3) ls (.long r :: rest))) : W p l e R s m args below meth c H locs cells slots Q (F0 m pc ls st0) := by
  intro T hT X
  rcases hr T hT X with ⟨v, st₀, t, T', L, h0, X', hL, e1, e2, ⟨⟨r, u, hv, hp, hb⟩, hF⟩, st⟩ | ⟨q, st₀, t, T', L, E, ce, h0, X', hL, e1, e2, ⟨u, hp, hb, hF⟩, hce, hcv, hcl, st⟩
  · cases hv
    obtain ⟨k1, k2, k3⟩ := vx_keep h0 e1 hS hA hf hL hF
    obtain ⟨t2, a1, b1⟩ := kk r u t T'.heap (locs ++ L) e1.symm (by rw [← e2]; exact X'.warmed.alike) hp hb k1 k2 k3 T' rfl X'
    exact ⟨t2, st t2 a1, b1⟩
  · obtain ⟨k1, k2, k3⟩ := vx_keep h0 e1 hS hAX hf hL hF
    obtain ⟨t2, a1, b1⟩ := kx E ce q u t T'.heap (locs ++ L) e1.symm (by rw [← e2]; exact X'.warmed.alike) hp hb k1 k2 k3 (by rw [e1]; exact hce) hcv hcl T' rfl X'
    exact ⟨t2, st.trans a1, b1⟩
theorem vx_callf {S SX : Type} {post : UInt32 → S → Prop} {px : SX → Prop} {B : S → State → Prop} {BX : String → SX → State → Prop} {AX : Nat → Prop} (hr : vx_Run p l e R s m args below meth c H locs cells slots mc ms (F0 m pc ls st0) rest (va_Qf post B A1 a) (vx_X px BX AX) free) (hS : va_S A0 H0 H locs) (hA : ∀ q, q < H.size → A1 q → A0 q) (hf : ∀ q, free q → A0 q) (hAX : ∀ q, q < H.size → AX q → A0 q)
    (kx : ∀ (E : String) (ce : Cell) (q9 : Addr) (u : SX) (t : State) (H1 : Heap) (locs1 : List Loc), t.heap = H1 → s.vm.Alike t.vm → px u → BX E u t → H.size ≤ H1.size → (∀ q : Nat, q < H.size → ¬ AX q → H1[q]? = H[q]?) → va_S A0 H0 H1 locs1 → H1[q9]? = some ce → ce.vm = .none → s.vm.findClass E = some ce.cls → vx_W p l e R s m args below meth c H1 locs1 (cells + mc) (slots + ms) Q (F0 m pc ls rest) q9)
    (kk : ∀ (r : UInt32) (u : S) (t : State) (H1 : Heap) (locs1 : List Loc), t.heap = H1 → s.vm.Alike t.vm → post r u → B u t → H.size ≤ H1.size → (∀ q : Nat, q < H.size → ¬ A1 q → H1[q]? = H[q]?) → va_S A0 H0 H1 locs1 → W p l e R s m args below meth c H1 locs1 (cells + mc) (slots + ms) Q (F0 m (pc + 3) ls (.float r :: rest))) : W p l e R s m args below meth c H locs cells slots Q (F0 m pc ls st0) := by
  intro T hT X
  rcases hr T hT X with ⟨v, st₀, t, T', L, h0, X', hL, e1, e2, ⟨⟨r, u, hv, hp, hb⟩, hF⟩, st⟩ | ⟨q, st₀, t, T', L, E, ce, h0, X', hL, e1, e2, ⟨u, hp, hb, hF⟩, hce, hcv, hcl, st⟩
  · cases hv
    obtain ⟨k1, k2, k3⟩ := vx_keep h0 e1 hS hA hf hL hF
    obtain ⟨t2, a1, b1⟩ := kk r u t T'.heap (locs ++ L) e1.symm (by rw [← e2]; exact X'.warmed.alike) hp hb k1 k2 k3 T' rfl X'
    exact ⟨t2, st t2 a1, b1⟩
  · obtain ⟨k1, k2, k3⟩ := vx_keep h0 e1 hS hAX hf hL hF
    obtain ⟨t2, a1, b1⟩ := kx E ce q u t T'.heap (locs ++ L) e1.symm (by rw [← e2]; exact X'.warmed.alike) hp hb k1 k2 k3 (by rw [e1]; exact hce) hcv hcl T' rfl X'
    exact ⟨t2, st.trans a1, b1⟩
theorem vx_calld {S SX : Type} {post : UInt64 → S → Prop} {px : SX → Prop} {B : S → State → Prop} {BX : String → SX → State → Prop} {AX : Nat → Prop} (hr : vx_Run p l e R s m args below meth c H locs cells slots mc ms (F0 m pc ls st0) rest (va_Qd post B A1 a) (vx_X px BX AX) free) (hS : va_S A0 H0 H locs) (hA : ∀ q, q < H.size → A1 q → A0 q) (hf : ∀ q, free q → A0 q) (hAX : ∀ q, q < H.size → AX q → A0 q)
    (kx : ∀ (E : String) (ce : Cell) (q9 : Addr) (u : SX) (t : State) (H1 : Heap) (locs1 : List Loc), t.heap = H1 → s.vm.Alike t.vm → px u → BX E u t → H.size ≤ H1.size → (∀ q : Nat, q < H.size → ¬ AX q → H1[q]? = H[q]?) → va_S A0 H0 H1 locs1 → H1[q9]? = some ce → ce.vm = .none → s.vm.findClass E = some ce.cls → vx_W p l e R s m args below meth c H1 locs1 (cells + mc) (slots + ms) Q (F0 m pc ls rest) q9)
    (kk : ∀ (r : UInt64) (u : S) (t : State) (H1 : Heap) (locs1 : List Loc), t.heap = H1 → s.vm.Alike t.vm → post r u → B u t → H.size ≤ H1.size → (∀ q : Nat, q < H.size → ¬ A1 q → H1[q]? = H[q]?) → va_S A0 H0 H1 locs1 → W p l e R s m args below meth c H1 locs1 (cells + mc) (slots + ms) Q (F0 m (pc + 3) ls (.double r :: rest))) : W p l e R s m args below meth c H locs cells slots Q (F0 m pc ls st0) := by
  intro T hT X
  rcases hr T hT X with ⟨v, st₀, t, T', L, h0, X', hL, e1, e2, ⟨⟨r, u, hv, hp, hb⟩, hF⟩, st⟩ | ⟨q, st₀, t, T', L, E, ce, h0, X', hL, e1, e2, ⟨u, hp, hb, hF⟩, hce, hcv, hcl, st⟩
  · cases hv
    obtain ⟨k1, k2, k3⟩ := vx_keep h0 e1 hS hA hf hL hF
    obtain ⟨t2, a1, b1⟩ := kk r u t T'.heap (locs ++ L) e1.symm (by rw [← e2]; exact X'.warmed.alike) hp hb k1 k2 k3 T' rfl X'
    exact ⟨t2, st t2 a1, b1⟩
  · obtain ⟨k1, k2, k3⟩ := vx_keep h0 e1 hS hAX hf hL hF
    obtain ⟨t2, a1, b1⟩ := kx E ce q u t T'.heap (locs ++ L) e1.symm (by rw [← e2]; exact X'.warmed.alike) hp hb k1 k2 k3 (by rw [e1]; exact hce) hcv hcl T' rfl X'
    exact ⟨t2, st.trans a1, b1⟩
theorem vx_callv {S SX : Type} {post : S → Prop} {px : SX → Prop} {B : S → State → Prop} {BX : String → SX → State → Prop} {AX : Nat → Prop} (hr : vx_Run p l e R s m args below meth c H locs cells slots mc ms (F0 m pc ls st0) rest (va_Qv post B A1 a) (vx_X px BX AX) free) (hS : va_S A0 H0 H locs) (hA : ∀ q, q < H.size → A1 q → A0 q) (hf : ∀ q, free q → A0 q) (hAX : ∀ q, q < H.size → AX q → A0 q)
    (kx : ∀ (E : String) (ce : Cell) (q9 : Addr) (u : SX) (t : State) (H1 : Heap) (locs1 : List Loc), t.heap = H1 → s.vm.Alike t.vm → px u → BX E u t → H.size ≤ H1.size → (∀ q : Nat, q < H.size → ¬ AX q → H1[q]? = H[q]?) → va_S A0 H0 H1 locs1 → H1[q9]? = some ce → ce.vm = .none → s.vm.findClass E = some ce.cls → vx_W p l e R s m args below meth c H1 locs1 (cells + mc) (slots + ms) Q (F0 m pc ls rest) q9)
    (kk : ∀ (u : S) (t : State) (H1 : Heap) (locs1 : List Loc), t.heap = H1 → s.vm.Alike t.vm → post u → B u t → H.size ≤ H1.size → (∀ q : Nat, q < H.size → ¬ A1 q → H1[q]? = H[q]?) → va_S A0 H0 H1 locs1 → W p l e R s m args below meth c H1 locs1 (cells + mc) (slots + ms) Q (F0 m (pc + 3) ls (rest))) : W p l e R s m args below meth c H locs cells slots Q (F0 m pc ls st0) := by
  intro T hT X
  rcases hr T hT X with ⟨v, st₀, t, T', L, h0, X', hL, e1, e2, ⟨⟨u, hv, hp, hb⟩, hF⟩, st⟩ | ⟨q, st₀, t, T', L, E, ce, h0, X', hL, e1, e2, ⟨u, hp, hb, hF⟩, hce, hcv, hcl, st⟩
  · cases hv
    obtain ⟨k1, k2, k3⟩ := vx_keep h0 e1 hS hA hf hL hF
    obtain ⟨t2, a1, b1⟩ := kk u t T'.heap (locs ++ L) e1.symm (by rw [← e2]; exact X'.warmed.alike) hp hb k1 k2 k3 T' rfl X'
    exact ⟨t2, st t2 a1, b1⟩
  · obtain ⟨k1, k2, k3⟩ := vx_keep h0 e1 hS hAX hf hL hF
    obtain ⟨t2, a1, b1⟩ := kx E ce q u t T'.heap (locs ++ L) e1.symm (by rw [← e2]; exact X'.warmed.alike) hp hb k1 k2 k3 (by rw [e1]; exact hce) hcv hcl T' rfl X'
    exact ⟨t2, st.trans a1, b1⟩
/-- caught by the row x of this method's table; the rows ahead don't take it -/
theorem vx_catch {own name : String} {E : String} {ce : Cell} {q : Addr} (hown : s.vm.findClass own = some m.cls) (pre : List ExceptionTableEntry) (x : ExceptionTableEntry) (suf : List ExceptionTableEntry) (hsplit : c.exceptionTable.toList = pre ++ x :: suf)
    (hpass : ∀ z ∈ pre, covers z pc = false ∨ (z.catchType ≠ 0 ∧ ∃ nm : String, (Cond.classLink own z.catchType nm).before args s = true ∧ va_Nc E nm s)) (hx : covers x pc = true) (h0 : x.catchType ≠ 0)
    (hlink : (Cond.classLink own x.catchType name).before args s = true) (hcast : (Cond.castable E name).before args s = true) (hcell : H[q]? = some ce) (hv : ce.vm = .none) (hcl : s.vm.findClass E = some ce.cls)
    (kk : W p l e R s m args below meth c H locs cells slots Q (F0 m x.handlerPc ls [.ref q])) : vx_W p l e R s m args below meth c H locs cells slots Q (F0 m pc ls rest) q := by
  intro T hT X
  have hpl : e.platform.magicAccessors = ({} : Platform).magicAccessors := by rw [X.admits.platform]
  obtain ⟨c3, c4, hc3, hc4, hasg⟩ := Cond.castable_spec hcast
  cases Option.some.inj (hc3.symm.trans hcl)
  obtain ⟨c5, hc5, hcl5⟩ := Cond.classLink_spec hown hlink e.platform hpl
  cases Option.some.inj (hc4.symm.trans hc5)
  obtain ⟨vm', X', st⟩ := Stand.thenCaughtThrough X q (g := F0 m pc ls rest) rfl (Steps.refl _) (by rw [hT]; exact hcell) (by rw [hv]; rfl) (by obtain ⟨k9, h9, -⟩ := Vm.findClass_spec hcl; exact ⟨k9, h9⟩) pre x suf hsplit
    (fun z hz => by
      rcases hpass z hz with h | ⟨hz0, nm, hl1, hn1⟩
      · exact Or.inl h
      · obtain ⟨c6, hc6, hcl6⟩ := Cond.classLink_spec hown hl1 e.platform hpl
        obtain ⟨a8, b8, h1, h2, h3⟩ := hn1
        cases Option.some.inj (h1.symm.trans hcl)
        cases Option.some.inj (h2.symm.trans hc6)
        exact Or.inr ⟨hz0, _, hcl6, h3⟩) hx (Or.inr ⟨h0, c4, hcl5, hasg⟩)
  obtain ⟨t, a1, b1⟩ := kk (T.setVm vm') hT X'
  exact ⟨t, st.trans a1, b1⟩
end Rows
section Ends
variable {p : Program} {l : Launch} {e : Env} {R : Room} {s : State} {m : MethodId} {args : Array Value} {below : List Frame} {meth : Method} {c : Code} {H : Heap} {locs : List Loc} {cells slots : Nat} {Q : State → Prop}
variable {mc ms : Nat} {free : Addr → Prop} {A0 A1 : Nat → Prop} {H0 : Heap} {a : Array Value} {ls : Array Slot} {st0 rest : List Value}
variable {Qc : Array Value → State → Outcome → State → Prop} {XC : String → State → State → Prop}
/-- what a body that may throw owes at its end -/
def vx_MQ (below : List Frame) (Qc : Array Value → State → Outcome → State → Prop) (XC : String → State → State → Prop) (a : Array Value) (s : State) (mc ms : Nat) (free : Addr → Prop) : State → Prop := fun t =>
  ∃ o, t.status = .running ∧ Ended t below o ∧ vx_Q Qc XC mc ms free a s o t
theorem vx_ret {g : JFrame} {mc ms : Nat} (k : W p l e R s m args below meth c H locs cells slots (MQ below Qc args s mc ms free) g) : W p l e R s m args below meth c H locs cells slots (vx_MQ below Qc XC args s mc ms free) g := by
  intro T hT X
  obtain ⟨t, a1, o, b1, b2, b3, b4⟩ := k T hT X
  exact ⟨t, a1, o, b1, b2, Or.inl ⟨b3, b4⟩⟩
/-- not caught here: it goes on to the caller -/
theorem vx_widen {g : JFrame} {q : Addr} {k n : Nat} (h1 : cells ≤ k) (h2 : slots ≤ n) (kk : vx_W p l e R s m args below meth c H locs k n Q g q) : vx_W p l e R s m args below meth c H locs cells slots Q g q := fun T hT X => kk T hT (stand_widen X h1 h2)
theorem vx_out {pc : Nat} {E : String} {ce : Cell} {q : Addr} {mc ms : Nat} (hout : ∀ x ∈ c.exceptionTable.toList, covers x pc = false) (hlocks : meth.locks = false) (hcell : H[q]? = some ce) (hv : ce.vm = .none) (hcl : s.vm.findClass E = some ce.cls)
    (hx : ∀ t : State, t.heap = H → s.vm.Alike t.vm → XC E s t) (hf : ∀ z ∈ locs, free z.base) (hc : cells ≤ mc) (hs : slots ≤ ms) :
    vx_W p l e R s m args below meth c H locs cells slots (vx_MQ below Qc XC args s mc ms free) (F0 m pc ls rest) q := by
  intro T hT X
  obtain ⟨st1, hrun, hend, hW, hsm⟩ := X.leaveThrown q (g := F0 m pc ls rest) rfl rfl rfl hout hlocks
  have hcell9 : (T.setFrames (.throwing q :: below)).heap[q]? = some ce := by
    show T.heap[q]? = some ce
    rw [hT]; exact hcell
  exact ⟨_, st1, .threw q, hrun, hend, Or.inr ⟨q, rfl, E, ce, locs, hx _ hT hW.alike, hcell9, hv, hcl, hW, hsm.mono hc hs, hf⟩⟩
theorem vx_frame {U : State} {k n : Nat} (h : s.sameButNew ({ U with vm := s.vm } : State) locs k n) : s.heap.size ≤ U.heap.size ∧ ∀ q : Nat, q < s.heap.size → (∀ z ∈ locs, z.base ≠ q) → U.heap[q]? = s.heap[q]? := by
  obtain ⟨-, h2, -, -, -, h6⟩ := h
  refine ⟨h2, fun q hq hz => ?_⟩
  obtain ⟨c9, e1, e2, e3, e4⟩ := h6 q _ (Array.getElem?_eq_getElem hq)
  have hs : c9.slots = (s.heap[q]).slots := Array.ext_getElem? fun i => e4 i fun hm => hz _ hm rfl
  have h9 : c9 = s.heap[q] := by
    rw [hs] at e2
    exact e2
  have e5 : U.heap[q]? = some c9 := e1
  rw [e5, h9, Array.getElem?_eq_getElem hq]
/-- the words of a throw but the four that speak of the heap -/
def vx_no (w : Cond) : Bool := decide (w ≠ .isRef (.static Bundle.tN "UNASSIGNED_STACK" Bundle.steD)) && decide (w ≠ .isRef (.static Bundle.tN "SUPPRESSED_SENTINEL" Bundle.listD)) && decide (w ≠ .laysStatic Bundle.tN "UNASSIGNED_STACK" Bundle.steD) && decide (w ≠ .laysStatic Bundle.tN "SUPPRESSED_SENTINEL" Bundle.listD)
def vx_at0 (own : String) (ic : Nat) (X : String) (names : List String) : List Cond := (Bundle.ownAtoms0 own ic X names).filter vx_no
def vx_atS (own : String) (ic : Nat) (X : String) (names : List String) : List Cond := (Bundle.ownAtoms own ic X names).filter vx_no
/-- a word that the tables alone decide, or a good one -/
def vx_ot (w : Cond) : Bool := w.onTables || goodWord w
theorem vx_ot_at {args a' : Array Value} {s U : State} {w : Cond} (hW : s.WarmedH U.vm) (hvm : s.vm = U.vm) (hg : vx_ot w = true) (h : w.before args s = true) : w.before a' U = true := by
  simp only [vx_ot, Bool.or_eq_true] at hg
  rcases hg with hg | hg
  · exact va_tabs hg hvm h
  · exact word_at hW (good_of_word hg) h
/-- a list's words: the good ones out of the method's own list, the others by premises of their own -/
theorem vx_hat {args : Array Value} {s : State} {L B : List Cond} (h1 : ∀ w ∈ L.filter goodWord, w.before args s = true) (h2 : ∀ w ∈ L.filter (fun w => !goodWord w), w ∈ B) (h3 : ∀ w ∈ B, w.before args s = true) : ∀ w ∈ L, w.before args s = true := by
  intro w hw
  by_cases g : goodWord w = true
  · exact h1 w (List.mem_filter.mpr ⟨hw, g⟩)
  · refine h3 w (h2 w (List.mem_filter.mpr ⟨hw, ?_⟩))
    show (!goodWord w) = true
    cases hgw : goodWord w
    · rfl
    · exact absurd hgw g
theorem vx_c {args : Array Value} {s : State} {w : Cond} {B : List Cond} (h : w.before args s = true) (t : ∀ w ∈ B, w.before args s = true) : ∀ w' ∈ w :: B, w'.before args s = true := fun w' h' => (List.mem_cons.mp h').elim (fun e => by rw [e]; exact h) (t w')
theorem vx_n {args : Array Value} {s : State} : ∀ w ∈ ([] : List Cond), w.before args s = true := fun _ h => nomatch h
theorem vx_own {args : Array Value} {s : State} {L : List Cond} (h1 : ∀ w ∈ L.filter vx_no, w.before args s = true)
    (hU : (Cond.isRef (.static Bundle.tN "UNASSIGNED_STACK" Bundle.steD)).before args s = true) (hN : (Cond.isRef (.static Bundle.tN "SUPPRESSED_SENTINEL" Bundle.listD)).before args s = true)
    (lU : (Cond.laysStatic Bundle.tN "UNASSIGNED_STACK" Bundle.steD).before args s = true) (lN : (Cond.laysStatic Bundle.tN "SUPPRESSED_SENTINEL" Bundle.listD).before args s = true) : ∀ w ∈ L, w.before args s = true := by
  intro w hw
  by_cases e1 : w = .isRef (.static Bundle.tN "UNASSIGNED_STACK" Bundle.steD)
  · rw [e1]; exact hU
  · by_cases e2 : w = .isRef (.static Bundle.tN "SUPPRESSED_SENTINEL" Bundle.listD)
    · rw [e2]; exact hN
    · by_cases e3 : w = .laysStatic Bundle.tN "UNASSIGNED_STACK" Bundle.steD
      · rw [e3]; exact lU
      · by_cases e4 : w = .laysStatic Bundle.tN "SUPPRESSED_SENTINEL" Bundle.listD
        · rw [e4]; exact lN
        · exact h1 w (List.mem_filter.mpr ⟨hw, by unfold vx_no; rw [decide_eq_true e1, decide_eq_true e2, decide_eq_true e3, decide_eq_true e4]; rfl⟩)
/-- where a static field lies, its class's statics cell in H -/
def vx_L (C n d : String) (A : Nat → Prop) (U : State) (H : Heap) : Prop := ∃ (c : ClassId) (k : Class) (i : Nat) (f : Field) (a : Nat) (cell : Cell), U.vm.findClass C = some c ∧ U.fieldFound? C n d = some (c, k, i, f) ∧ f.isStatic = true ∧ k.statics = some a ∧ H[a]? = some cell ∧ cell.vm.isStatics = true ∧ cell.cls = c ∧ f.slot < cell.slots.size ∧ k.staticTypes[f.slot]? = some f.type ∧ ¬ A a
theorem vx_L.moved {C n d : String} {A : Nat → Prop} {u U : State} {H : Heap} (hvm : u.vm.Alike U.vm) (h : vx_L C n d A u H) : vx_L C n d A U H := by
  obtain ⟨c, k, i, f, a, cell, h1, h2, h3, h4, h5, h6, h7, h8, h9, h10⟩ := h
  obtain ⟨k', hi', he⟩ := State.fieldFound?_setVm hvm h2
  exact ⟨c, k', i, f, a, cell, by rw [hvm.findClass]; exact h1, hi', h3, by rw [he]; exact h4, h5, h6, h7, h8, by rw [he]; exact h9, h10⟩
theorem vx_L.kept {C n d : String} {A : Nat → Prop} {U : State} {H H1 : Heap} (h : vx_L C n d A U H) (hq : ∀ a : Nat, a < H.size → ¬ A a → H1[a]? = H[a]?) : vx_L C n d A U H1 := by
  obtain ⟨c, k, i, f, a, cell, h1, h2, h3, h4, h5, h6, h7, h8, h9, h10⟩ := h
  exact ⟨c, k, i, f, a, cell, h1, h2, h3, h4, by rw [hq a (Array.getElem?_eq_some_iff.mp h5).1 h10]; exact h5, h6, h7, h8, h9, h10⟩
theorem vx_L.narrow {C n d : String} {A B : Nat → Prop} {U : State} {H : Heap} (h : vx_L C n d A U H) (hAB : ∀ q, B q → A q) : vx_L C n d B U H := by
  obtain ⟨c, k, i, f, a, cell, h1, h2, h3, h4, h5, h6, h7, h8, h9, h10⟩ := h
  exact ⟨c, k, i, f, a, cell, h1, h2, h3, h4, h5, h6, h7, h8, h9, fun z => h10 (hAB _ z)⟩
theorem vx_L.word {C n d : String} {A : Nat → Prop} {s : State} {args : Array Value} (h : vx_L C n d A s s.heap) : (Cond.laysStatic C n d).before args s = true := by
  obtain ⟨c, k, i, f, a, cell, h1, h2, h3, h4, h5, h6, h7, h8, h9, -⟩ := h
  show (Cond.laysStatic C n d).holds args s none s [] = true
  exact Cond.laysStatic_of h1 h2 h3 h4 h5 h6 h7 h8 h9
/-- .. and what it holds: null or some reference -/
def vx_Zq (C n d : String) (A : Nat → Prop) (U : State) (H : Heap) : Prop := va_Zq C n d A U H ∧ vx_L C n d A U H
theorem vx_Zq.moved {C n d : String} {A : Nat → Prop} {u U : State} {H : Heap} (hvm : u.vm.Alike U.vm) (h : vx_Zq C n d A u H) : vx_Zq C n d A U H := ⟨va_Zq.moved hvm h.1, vx_L.moved hvm h.2⟩
theorem vx_Zq.kept {C n d : String} {A : Nat → Prop} {U : State} {H H1 : Heap} (h : vx_Zq C n d A U H) (hq : ∀ a : Nat, a < H.size → ¬ A a → H1[a]? = H[a]?) : vx_Zq C n d A U H1 := ⟨va_Zq.kept h.1 hq, vx_L.kept h.2 hq⟩
theorem vx_Zq.narrow {C n d : String} {A B : Nat → Prop} {U : State} {H : Heap} (h : vx_Zq C n d A U H) (hAB : ∀ q, B q → A q) : vx_Zq C n d B U H := ⟨va_Zq.narrow h.1 hAB, vx_L.narrow h.2 hAB⟩
theorem vx_Zqof {args : Array Value} {s : State} {C n d : String} {A : Nat → Prop} (hl : (Cond.laysStatic C n d).before args s = true) (hini : (Cond.initialized C).before args s = true) (h : (Cond.isRef (.static C n d)).before args s = true) (hA : ∀ a : Nat, a < s.heap.size → ¬ A a) : vx_Zq C n d A s s.heap := by
  refine ⟨va_Zqof hl hini h hA, ?_⟩
  obtain ⟨c, k, i, f, a, cell, h1, h2, h3, h4, h5, h6, h7, h8, h9⟩ := Cond.laysStatic_spec hl
  exact ⟨c, k, i, f, a, cell, h1, h2, h3, h4, h5, h6, h7, h8, h9, hA a (Array.getElem?_eq_some_iff.mp h5).1⟩
theorem vx_isRef {C n d : String} {v : Value} {A : Nat → Prop} {s : State} {args : Array Value} (h : va_Z C n d v A s s.heap) (hv : v.isRef = true) : (Cond.isRef (.static C n d)).before args s = true := by
  obtain ⟨cf, kf, fi, f, a, cell, h1, h2, h3, h4, h5, h6, h7, -⟩ := h
  have he : (Term.static C n d).eval args s none [] s = some v := by
    simp [Term.eval, State.fieldNamed?, h1, h2, h4, h5, h6, h7]
  simp only [Cond.before, Cond.holds, Cond.value, he]
  cases v <;> simp_all [Value.isRef]
theorem vx_isRefq {C n d : String} {A : Nat → Prop} {s : State} {args : Array Value} (h : va_Zq C n d A s s.heap) : (Cond.isRef (.static C n d)).before args s = true := by
  rcases h with h | ⟨t, h⟩
  · exact vx_isRef h rfl
  · exact vx_isRef h rfl
/-- the same frame, seen from here: as if the method were called anew in this heap -/
theorem vx_rebase {T : State} (X : Stand p l e R s m args below meth c T locs cells slots) {R' : Room} (hf : R'.frames ≤ R.frames) (hl : R'.locals ≤ R.locals) (hc : cells + R'.cells ≤ R.cells) (hs : slots + R'.slots ≤ R.slots) :
    Stand p l e R' ((T.setVm s.vm).setFrames (.invoking m args :: below)) m args below meth c T [] 0 0 := by
  have htop : (T.setVm s.vm).topJava?.isSome := X.here.top
  have hF : ((T.setVm s.vm).setFrames (.invoking m args :: below)).frames = .invoking m args :: below := State.frames_setFrames _ (State.cur_lt_of_top htop)
  obtain ⟨g₀, hg0⟩ := Option.isSome_iff_exists.mp htop
  obtain ⟨r, hr⟩ := State.topJava?_eq_some.mp hg0
  have hl9 : e.platform.stackLimits (T.setVm s.vm).me = e.platform.stackLimits s.me := X.limits
  have hb9 : (T.setVm s.vm).me.stackBytes = s.me.stackBytes := X.bytes
  refine ⟨X.admits, X.cas, X.clock, hF, ?_, X.hears, X.method, X.code, X.here, X.tail, X.warmed, ?_, ?_, ?_⟩
  · have h := X.room
    have hU : ((T.setVm s.vm).setFrames (.invoking m args :: below)).localsInUse = s.localsInUse := by
      rw [State.localsInUse_invoking hF (meth := meth) (c := c) X.method X.code, State.localsInUse_invoking X.frames X.method X.code]
    simp only [State.hasRoom, Bool.and_eq_true, decide_eq_true_eq] at h ⊢
    obtain ⟨⟨⟨⟨h1, h2, h3, h4, h5, h6⟩, h7⟩, h8⟩, h9⟩ := h
    rw [X.frames, List.length_cons] at h2 h3
    have q1 := X.heapSize
    have q2 := X.used
    simp only [hF, hU, List.length_cons, State.stackLimits_setFrames, State.stackBytes_setFrames, hl9, hb9]
    refine ⟨⟨⟨⟨by omega, by omega, by omega, by omega, by omega, h6⟩, ?_⟩, ?_⟩, X.book⟩
    · show T.heap.size + R'.cells ≤ e.platform.maxCells
      omega
    · show T.slotsUsed + R'.slots ≤ e.platform.maxSlots
      omega
  · rw [State.stackLimits_setFrames]; rfl
  · rw [State.stackBytes_setFrames]; rfl
  · refine ⟨?_, Nat.le_refl _, Nat.le_refl _, ?_, ?_, fun a c9 h9 => ⟨c9, h9, rfl, rfl, fun _ _ => rfl⟩⟩
    · obtain ⟨t, ht, -⟩ := State.frames_cons hr
      show T.setVm s.vm = { ((T.setVm s.vm).setFrames (.invoking m args :: below)).setFrames (T.setVm s.vm).frames with heap := T.heap, slotsUsed := T.slotsUsed }
      rw [State.setFrames_setFrames, State.setFrames_self ht]
      rfl
    · show T.slotsUsed = T.slotsUsed + ((T.heap.toList.drop T.heap.size).map (·.slots.size)).sum
      rw [List.drop_eq_nil_of_le (Nat.le_of_eq Array.length_toList)]
      rfl
    · show ((T.heap.toList.drop T.heap.size).map (·.slots.size)).sum ≤ 0
      rw [List.drop_eq_nil_of_le (Nat.le_of_eq Array.length_toList)]
      exact Nat.le_refl _
/-- 'throw new E()': new; dup; invokespecial; athrow -/
theorem vx_throw0 {cc : ByteArray} {pc : Nat} (hexec : p.tables.exec = Jvm.exec) (hb : c.code = cc) (hl : l.stackTraces = false) {own cls : String} {names : List String} {ik ic mc ms : Nat} {A : Nat → Prop}
    (hown : s.vm.findClass own = some m.cls) (hcls : Bundle.fit cls = true) (hnames : ∀ n ∈ names, Bundle.fit n = true)
    (hk : (Cond.classLink own ik cls).before args s = true) (hini : (Cond.initialized cls).before args s = true) (hat : ∀ w ∈ vx_at0 own ic cls names, w.before args s = true)
    (hgood : ∀ w ∈ Cond.classLink own ik cls :: Cond.initialized cls :: vx_at0 own ic cls names, vx_ot w = true)
    (hU : vx_Zq Bundle.tN "UNASSIGNED_STACK" Bundle.steD A s s.heap) (hN : vx_Zq Bundle.tN "SUPPRESSED_SENTINEL" Bundle.listD A s s.heap) (hS : va_S A s.heap H locs) (hsize : ls.size = c.maxLocals)
    (d0 : decode cc pc = .ok (.new ik, 3)) (d3 : decode cc (pc + 3) = .ok (.dup, 1)) (d4 : decode cc (pc + 4) = .ok (.invokespecial ic, 3)) (d7 : decode cc (pc + 7) = .ok (.athrow, 1))
    (hout : ∀ x ∈ c.exceptionTable.toList, covers x (pc + 7) = false)
    (hRframes : names.length + 3 < R.frames) (hRlocals : (rest.map fun v => v.category).sum + (13 * (names.length + 1) + 42) ≤ R.locals) (hRcells : cells + 1 ≤ R.cells) (hRslots : slots + 6 ≤ R.slots) (hlocks : meth.locks = false)
    (hx : ∀ t : State, s.vm.Alike t.vm → H.size ≤ t.heap.size → (∀ q : Nat, q < H.size → t.heap[q]? = H[q]?) → XC cls s t)
    (hf : ∀ z ∈ locs, free z.base) (hc : cells + 1 ≤ mc) (hs : slots + 6 ≤ ms) :
    W p l e R s m args below meth c H locs cells slots (vx_MQ below Qc XC args s mc ms free) (F0 m pc ls rest) := by
  intro T hT X
  have htr : e.platform.stackTraces = false := (show e.platform.stackTraces = l.stackTraces by rw [X.admits.platform]).trans hl
  have Y := vx_rebase X (R' := { frames := R.frames, locals := R.locals, cells := 1, slots := 6 }) (Nat.le_refl _) (Nat.le_refl _) hRcells hRslots
  obtain ⟨s', hA⟩ : ∃ z, z = (T.setVm s.vm).setFrames (.invoking m args :: below) := ⟨_, rfl⟩
  rw [← hA] at Y
  have hvm : s'.vm = s.vm := by rw [hA]; rfl
  have hhp : s'.heap = H := by rw [hA]; exact hT
  have hW0 : s.WarmedH s'.vm := by rw [hvm]; exact State.WarmedH.refl s
  have hat' : ∀ w ∈ vx_at0 own ic cls names, w.before args s' = true := fun w hw => vx_ot_at hW0 hvm.symm (hgood w (List.mem_cons_of_mem _ (List.mem_cons_of_mem _ hw))) (hat w hw)
  have hk' : (Cond.classLink own ik cls).before args s' = true := vx_ot_at hW0 hvm.symm (hgood _ List.mem_cons_self) hk
  have hini' : (Cond.initialized cls).before args s' = true := vx_ot_at hW0 hvm.symm (hgood _ (List.mem_cons_of_mem _ List.mem_cons_self)) hini
  have hU' : vx_Zq Bundle.tN "UNASSIGNED_STACK" Bundle.steD A s' s'.heap := by rw [hhp]; exact vx_Zq.moved hW0.alike (hU.kept hS.2.1)
  have hN' : vx_Zq Bundle.tN "SUPPRESSED_SENTINEL" Bundle.listD A s' s'.heap := by rw [hhp]; exact vx_Zq.moved hW0.alike (hN.kept hS.2.1)
  have h : ∀ w ∈ Bundle.ownAtoms0 own ic cls names, w.before args s' = true := vx_own hat' (vx_isRefq hU'.1) (vx_isRefq hN'.1) hU'.2.word hN'.2.word
  have hown' : s'.vm.findClass own = some m.cls := by rw [hvm]; exact hown
  have hins : (Cond.instantiable cls 6).before args s' = true := h _ (by simp [Bundle.ownAtoms0])
  obtain ⟨vm₁, cX, kX, hfX, hkX, -, -, X₁, st1⟩ := Y.newCold hexec (own := own) (C := cls) (index := ik) (n := 6) hown' hk' hins hini'
    (g := F0 m pc ls rest) rfl (by rw [hb]; exact d0) (Nat.le_refl _) (Nat.le_refl _)
  generalize hT1 : (T.setVm vm₁).pushCell { cls := cX, slots := kX.instanceTypes.map defaultValue, vm := .none } = T1 at X₁ st1
  have hcat : (Value.ref T.heap.size).category = 1 := rfl
  have hcellA : T1.heap[T.heap.size]? = some (freshCell cX kX) := by rw [← hT1]; exact State.heap_pushCell_size _ _
  have d3' : decode c.code (pc + 3) = .ok (.dup, 1) := by rw [hb]; exact d3
  obtain ⟨U, hsteps, hrun, hend, hW, hsame, ce, hce, hO⟩ := X₁.ctorThrow0 hexec htr (own := own) (cls := cls) (names := names) (ic := ic) hown' hcls hnames h (fun x hx => nomatch hx) hfX hkX hcellA (by rw [hhp, hT]; exact Nat.le_refl _)
    (g := { method := m, pc := pc + 4, locals := ls, stack := .ref T.heap.size :: .ref T.heap.size :: rest, locked := none }) rfl hsize rfl rfl (rest := rest) rfl
    (by rw [hb]; exact d4) (by rw [hb]; exact d7) hout hRframes (by simp only [List.map_cons, List.sum_cons, hcat]; omega) hlocks
  obtain ⟨f1, f2⟩ := vx_frame hsame
  rw [hhp] at f1 f2
  have hWs : s.WarmedH U.vm := State.WarmedH.trans hW0 hW
  have hcl : s.vm.findClass cls = some ce.cls := by
    have h9 := hO.cls
    rw [hvm] at h9
    exact h9
  have hall : s.sameButNew ({ U with vm := s.vm } : State) locs mc ms := by
    subst hA
    obtain ⟨e1, e2⟩ := hsame
    rw [State.setFrames_setFrames] at e1
    have h2 : (T.setVm s.vm).sameButNew ({ U with vm := s.vm } : State) [] (0 + 1) (0 + 6) := ⟨e1, e2⟩
    have h3 := X.same.trans h2
    rw [List.append_nil] at h3
    exact h3.mono hc hs
  refine ⟨U, ?_, .threw T.heap.size, hrun, hend, Or.inr ⟨T.heap.size, rfl, cls, ce, locs, hx U hWs.alike f1 (fun q hq => f2 q hq (fun z hz => nomatch hz)), hce, hO.vm, hcl, hWs, hall, hf⟩⟩
  refine st1 _ ?_
  show Steps p.tables e below (T1.setTop { method := m, pc := pc + 3, locals := ls, stack := .ref T.heap.size :: rest, locked := none }) _
  jvm_step X₁.here [X₁.here.top, hexec, d3', Value.category]
  exact hsteps
/-- 'throw new E("text")': new; dup; ldc; invokespecial; athrow -/
theorem vx_throwS {cc : ByteArray} {pc : Nat} (hexec : p.tables.exec = Jvm.exec) (hb : c.code = cc) (hl : l.stackTraces = false) {own cls text : String} {names : List String} {ik is ic mc ms sa : Nat} {A : Nat → Prop}
    (hown : s.vm.findClass own = some m.cls) (hcls : Bundle.fit cls = true) (hnames : ∀ n ∈ names, Bundle.fit n = true)
    (hk : (Cond.classLink own ik cls).before args s = true) (hini : (Cond.initialized cls).before args s = true) (hstr : vk_R own is text sa s) (hat : ∀ w ∈ vx_atS own ic cls names, w.before args s = true)
    (hgood : ∀ w ∈ Cond.classLink own ik cls :: Cond.initialized cls :: vx_atS own ic cls names, vx_ot w = true)
    (hU : vx_Zq Bundle.tN "UNASSIGNED_STACK" Bundle.steD A s s.heap) (hN : vx_Zq Bundle.tN "SUPPRESSED_SENTINEL" Bundle.listD A s s.heap) (hS : va_S A s.heap H locs) (hsize : ls.size = c.maxLocals)
    (d0 : decode cc pc = .ok (.new ik, 3)) (d3 : decode cc (pc + 3) = .ok (.dup, 1)) (d4 : decode cc (pc + 4) = .ok (.ldc is, 2)) (d6 : decode cc (pc + 6) = .ok (.invokespecial ic, 3)) (d9 : decode cc (pc + 9) = .ok (.athrow, 1))
    (hout : ∀ x ∈ c.exceptionTable.toList, covers x (pc + 9) = false)
    (hRframes : names.length + 3 < R.frames) (hRlocals : (rest.map fun v => v.category).sum + (13 * (names.length + 1) + 43) ≤ R.locals) (hRcells : cells + 1 ≤ R.cells) (hRslots : slots + 6 ≤ R.slots) (hlocks : meth.locks = false)
    (hx : ∀ t : State, s.vm.Alike t.vm → H.size ≤ t.heap.size → (∀ q : Nat, q < H.size → t.heap[q]? = H[q]?) → XC cls s t)
    (hf : ∀ z ∈ locs, free z.base) (hc : cells + 1 ≤ mc) (hs : slots + 6 ≤ ms) :
    W p l e R s m args below meth c H locs cells slots (vx_MQ below Qc XC args s mc ms free) (F0 m pc ls rest) := by
  intro T hT X
  have htr : e.platform.stackTraces = false := (show e.platform.stackTraces = l.stackTraces by rw [X.admits.platform]).trans hl
  have Y := vx_rebase X (R' := { frames := R.frames, locals := R.locals, cells := 1, slots := 6 }) (Nat.le_refl _) (Nat.le_refl _) hRcells hRslots
  obtain ⟨s', hA⟩ : ∃ z, z = (T.setVm s.vm).setFrames (.invoking m args :: below) := ⟨_, rfl⟩
  rw [← hA] at Y
  have hvm : s'.vm = s.vm := by rw [hA]; rfl
  have hhp : s'.heap = H := by rw [hA]; exact hT
  have hW0 : s.WarmedH s'.vm := by rw [hvm]; exact State.WarmedH.refl s
  have hat' : ∀ w ∈ vx_atS own ic cls names, w.before args s' = true := fun w hw => vx_ot_at hW0 hvm.symm (hgood w (List.mem_cons_of_mem _ (List.mem_cons_of_mem _ hw))) (hat w hw)
  have hk' : (Cond.classLink own ik cls).before args s' = true := vx_ot_at hW0 hvm.symm (hgood _ List.mem_cons_self) hk
  have hini' : (Cond.initialized cls).before args s' = true := vx_ot_at hW0 hvm.symm (hgood _ (List.mem_cons_of_mem _ List.mem_cons_self)) hini
  have hU' : vx_Zq Bundle.tN "UNASSIGNED_STACK" Bundle.steD A s' s'.heap := by rw [hhp]; exact vx_Zq.moved hW0.alike (hU.kept hS.2.1)
  have hN' : vx_Zq Bundle.tN "SUPPRESSED_SENTINEL" Bundle.listD A s' s'.heap := by rw [hhp]; exact vx_Zq.moved hW0.alike (hN.kept hS.2.1)
  have h : ∀ w ∈ Bundle.ownAtoms own ic cls names, w.before args s' = true := vx_own hat' (vx_isRefq hU'.1) (vx_isRefq hN'.1) hU'.2.word hN'.2.word
  have hown' : s'.vm.findClass own = some m.cls := by rw [hvm]; exact hown
  have hins : (Cond.instantiable cls 6).before args s' = true := h _ (by simp [Bundle.ownAtoms])
  obtain ⟨vm₁, cX, kX, hfX, hkX, -, -, X₁, st1⟩ := Y.newCold hexec (own := own) (C := cls) (index := ik) (n := 6) hown' hk' hins hini'
    (g := F0 m pc ls rest) rfl (by rw [hb]; exact d0) (Nat.le_refl _) (Nat.le_refl _)
  generalize hT1 : (T.setVm vm₁).pushCell { cls := cX, slots := kX.instanceTypes.map defaultValue, vm := .none } = T1 at X₁ st1
  have hcat : (Value.ref T.heap.size).category = 1 := rfl
  have hcellA : T1.heap[T.heap.size]? = some (freshCell cX kX) := by rw [← hT1]; exact State.heap_pushCell_size _ _
  have d3' : decode c.code (pc + 3) = .ok (.dup, 1) := by rw [hb]; exact d3
  have d4' : decode c.code (pc + 4) = .ok (.ldc is, 2) := by rw [hb]; exact d4
  have hstr' : vk_R own is text sa s' := vk_R.warm hW0 hstr
  obtain ⟨U, hsteps, hrun, hend, hW, hsame, ce, hce, hO⟩ := X₁.ctorThrowS hexec htr (own := own) (cls := cls) (names := names) (ic := ic) hown' hcls hnames h (fun x hx => nomatch hx) hfX hkX hcellA (by rw [hhp, hT]; exact Nat.le_refl _) (msg := .ref sa) rfl
    (g := { method := m, pc := pc + 6, locals := ls, stack := .ref sa :: .ref T.heap.size :: .ref T.heap.size :: rest, locked := none }) rfl hsize rfl rfl (rest := rest) rfl
    (by rw [hb]; exact d6) (by rw [hb]; exact d9) hout hRframes (by simp only [List.map_cons, List.sum_cons, hcat]; omega) hlocks
  obtain ⟨f1, f2⟩ := vx_frame hsame
  rw [hhp] at f1 f2
  have hWs : s.WarmedH U.vm := State.WarmedH.trans hW0 hW
  have hcl : s.vm.findClass cls = some ce.cls := by
    have h9 := hO.cls
    rw [hvm] at h9
    exact h9
  have hall : s.sameButNew ({ U with vm := s.vm } : State) locs mc ms := by
    subst hA
    obtain ⟨e1, e2⟩ := hsame
    rw [State.setFrames_setFrames] at e1
    have h2 : (T.setVm s.vm).sameButNew ({ U with vm := s.vm } : State) [] (0 + 1) (0 + 6) := ⟨e1, e2⟩
    have h3 := X.same.trans h2
    rw [List.append_nil] at h3
    exact h3.mono hc hs
  refine ⟨U, ?_, .threw T.heap.size, hrun, hend, Or.inr ⟨T.heap.size, rfl, cls, ce, locs, hx U hWs.alike f1 (fun q hq => f2 q hq (fun z hz => nomatch hz)), hce, hO.vm, hcl, hWs, hall, hf⟩⟩
  refine st1 _ ?_
  show Steps p.tables e below (T1.setTop { method := m, pc := pc + 3, locals := ls, stack := .ref T.heap.size :: rest, locked := none }) _
  jvm_step X₁.here [X₁.here.top, hexec, d3', Value.category]
  exact X₁.ldcString hexec (own := own) (text := text) (index := is) (a := sa) hown' hstr'.1 hstr'.2
    (g := { method := m, pc := pc + 4, locals := ls, stack := .ref T.heap.size :: .ref T.heap.size :: rest, locked := none }) rfl d4' _ hsteps
/-- 'throw new E("text")', the text by a wide index -/
theorem vx_throwSW {cc : ByteArray} {pc : Nat} (hexec : p.tables.exec = Jvm.exec) (hb : c.code = cc) (hl : l.stackTraces = false) {own cls text : String} {names : List String} {ik is ic mc ms sa : Nat} {A : Nat → Prop}
    (hown : s.vm.findClass own = some m.cls) (hcls : Bundle.fit cls = true) (hnames : ∀ n ∈ names, Bundle.fit n = true)
    (hk : (Cond.classLink own ik cls).before args s = true) (hini : (Cond.initialized cls).before args s = true) (hstr : vk_R own is text sa s) (hat : ∀ w ∈ vx_atS own ic cls names, w.before args s = true)
    (hgood : ∀ w ∈ Cond.classLink own ik cls :: Cond.initialized cls :: vx_atS own ic cls names, vx_ot w = true)
    (hU : vx_Zq Bundle.tN "UNASSIGNED_STACK" Bundle.steD A s s.heap) (hN : vx_Zq Bundle.tN "SUPPRESSED_SENTINEL" Bundle.listD A s s.heap) (hS : va_S A s.heap H locs) (hsize : ls.size = c.maxLocals)
    (d0 : decode cc pc = .ok (.new ik, 3)) (d3 : decode cc (pc + 3) = .ok (.dup, 1)) (d4 : decode cc (pc + 4) = .ok (.ldc_w is, 3)) (d7 : decode cc (pc + 7) = .ok (.invokespecial ic, 3)) (d10 : decode cc (pc + 10) = .ok (.athrow, 1))
    (hout : ∀ x ∈ c.exceptionTable.toList, covers x (pc + 10) = false)
    (hRframes : names.length + 3 < R.frames) (hRlocals : (rest.map fun v => v.category).sum + (13 * (names.length + 1) + 43) ≤ R.locals) (hRcells : cells + 1 ≤ R.cells) (hRslots : slots + 6 ≤ R.slots) (hlocks : meth.locks = false)
    (hx : ∀ t : State, s.vm.Alike t.vm → H.size ≤ t.heap.size → (∀ q : Nat, q < H.size → t.heap[q]? = H[q]?) → XC cls s t)
    (hf : ∀ z ∈ locs, free z.base) (hc : cells + 1 ≤ mc) (hs : slots + 6 ≤ ms) :
    W p l e R s m args below meth c H locs cells slots (vx_MQ below Qc XC args s mc ms free) (F0 m pc ls rest) := by
  intro T hT X
  have htr : e.platform.stackTraces = false := (show e.platform.stackTraces = l.stackTraces by rw [X.admits.platform]).trans hl
  have Y := vx_rebase X (R' := { frames := R.frames, locals := R.locals, cells := 1, slots := 6 }) (Nat.le_refl _) (Nat.le_refl _) hRcells hRslots
  obtain ⟨s', hA⟩ : ∃ z, z = (T.setVm s.vm).setFrames (.invoking m args :: below) := ⟨_, rfl⟩
  rw [← hA] at Y
  have hvm : s'.vm = s.vm := by rw [hA]; rfl
  have hhp : s'.heap = H := by rw [hA]; exact hT
  have hW0 : s.WarmedH s'.vm := by rw [hvm]; exact State.WarmedH.refl s
  have hat' : ∀ w ∈ vx_atS own ic cls names, w.before args s' = true := fun w hw => vx_ot_at hW0 hvm.symm (hgood w (List.mem_cons_of_mem _ (List.mem_cons_of_mem _ hw))) (hat w hw)
  have hk' : (Cond.classLink own ik cls).before args s' = true := vx_ot_at hW0 hvm.symm (hgood _ List.mem_cons_self) hk
  have hini' : (Cond.initialized cls).before args s' = true := vx_ot_at hW0 hvm.symm (hgood _ (List.mem_cons_of_mem _ List.mem_cons_self)) hini
  have hU' : vx_Zq Bundle.tN "UNASSIGNED_STACK" Bundle.steD A s' s'.heap := by rw [hhp]; exact vx_Zq.moved hW0.alike (hU.kept hS.2.1)
  have hN' : vx_Zq Bundle.tN "SUPPRESSED_SENTINEL" Bundle.listD A s' s'.heap := by rw [hhp]; exact vx_Zq.moved hW0.alike (hN.kept hS.2.1)
  have h : ∀ w ∈ Bundle.ownAtoms own ic cls names, w.before args s' = true := vx_own hat' (vx_isRefq hU'.1) (vx_isRefq hN'.1) hU'.2.word hN'.2.word
  have hown' : s'.vm.findClass own = some m.cls := by rw [hvm]; exact hown
  have hins : (Cond.instantiable cls 6).before args s' = true := h _ (by simp [Bundle.ownAtoms])
  obtain ⟨vm₁, cX, kX, hfX, hkX, -, -, X₁, st1⟩ := Y.newCold hexec (own := own) (C := cls) (index := ik) (n := 6) hown' hk' hins hini'
    (g := F0 m pc ls rest) rfl (by rw [hb]; exact d0) (Nat.le_refl _) (Nat.le_refl _)
  generalize hT1 : (T.setVm vm₁).pushCell { cls := cX, slots := kX.instanceTypes.map defaultValue, vm := .none } = T1 at X₁ st1
  have hcat : (Value.ref T.heap.size).category = 1 := rfl
  have hcellA : T1.heap[T.heap.size]? = some (freshCell cX kX) := by rw [← hT1]; exact State.heap_pushCell_size _ _
  have d3' : decode c.code (pc + 3) = .ok (.dup, 1) := by rw [hb]; exact d3
  have d4' : decode c.code (pc + 4) = .ok (.ldc_w is, 3) := by rw [hb]; exact d4
  have hstr' : vk_R own is text sa s' := vk_R.warm hW0 hstr
  obtain ⟨U, hsteps, hrun, hend, hW, hsame, ce, hce, hO⟩ := X₁.ctorThrowS hexec htr (own := own) (cls := cls) (names := names) (ic := ic) hown' hcls hnames h (fun x hx => nomatch hx) hfX hkX hcellA (by rw [hhp, hT]; exact Nat.le_refl _) (msg := .ref sa) rfl
    (g := { method := m, pc := pc + 7, locals := ls, stack := .ref sa :: .ref T.heap.size :: .ref T.heap.size :: rest, locked := none }) rfl hsize rfl rfl (rest := rest) rfl
    (by rw [hb]; exact d7) (by rw [hb]; exact d10) hout hRframes (by simp only [List.map_cons, List.sum_cons, hcat]; omega) hlocks
  obtain ⟨f1, f2⟩ := vx_frame hsame
  rw [hhp] at f1 f2
  have hWs : s.WarmedH U.vm := State.WarmedH.trans hW0 hW
  have hcl : s.vm.findClass cls = some ce.cls := by
    have h9 := hO.cls
    rw [hvm] at h9
    exact h9
  have hall : s.sameButNew ({ U with vm := s.vm } : State) locs mc ms := by
    subst hA
    obtain ⟨e1, e2⟩ := hsame
    rw [State.setFrames_setFrames] at e1
    have h2 : (T.setVm s.vm).sameButNew ({ U with vm := s.vm } : State) [] (0 + 1) (0 + 6) := ⟨e1, e2⟩
    have h3 := X.same.trans h2
    rw [List.append_nil] at h3
    exact h3.mono hc hs
  refine ⟨U, ?_, .threw T.heap.size, hrun, hend, Or.inr ⟨T.heap.size, rfl, cls, ce, locs, hx U hWs.alike f1 (fun q hq => f2 q hq (fun z hz => nomatch hz)), hce, hO.vm, hcl, hWs, hall, hf⟩⟩
  refine st1 _ ?_
  show Steps p.tables e below (T1.setTop { method := m, pc := pc + 3, locals := ls, stack := .ref T.heap.size :: rest, locked := none }) _
  jvm_step X₁.here [X₁.here.top, hexec, d3', Value.category]
  exact X₁.ldcStringW hexec (own := own) (text := text) (index := is) (a := sa) hown' hstr'.1 hstr'.2
    (g := { method := m, pc := pc + 4, locals := ls, stack := .ref T.heap.size :: .ref T.heap.size :: rest, locked := none }) rfl d4' _ hsteps
end Ends
section Bodies
variable {l : Launch}
theorem vx_ofW {y : MethodName} {ws ws' : List Cond} {rm : Room} {Pc : Array Value → State → Prop} {Qc : Array Value → State → Outcome → State → Prop} {XC : String → State → State → Prop} {mc ms : Nat} {free : Addr → Prop} {cc : ByteArray} {maxL : Nat} {ret : Option FieldType}
    (hy : plainName y.cls = true) (hw : ws = Cond.code y cc maxL ret :: ws')
    (body : ∀ p e s m args below meth c s₁, BodyLoose p l y (headSpec ws rm) cc maxL ret e s m args below meth c s₁ → c.maxLocals = maxL → (∀ x ∈ c.exceptionTable.toList, False) → Pc args s →
      W p l e (headSpec ws rm).room s m args below meth c s.heap [] 0 0 (vx_MQ below Qc XC args s mc ms free) (entryFrame m args maxL)) : vx_Met l y ws rm Pc Qc XC mc ms free := by
  refine MetFree.of_bodyS (code := cc) (maxLocals := maxL) (ret := ret) hy ?_ ?_
  · intro args s m h hn
    obtain ⟨meth, c, h1, h2, h3, h4, h5, h6, -, -⟩ := Cond.code_spec hn (atoms_spec (ws := ws) h _ (by rw [hw]; exact List.mem_cons_self))
    exact ⟨meth, c, h1, h2, h3, h4, h5, h6⟩
  · intro p e s m args below meth c s₁ B hml hP _
    have hh0 : s₁.heap = s.heap := by rw [B.state]; rfl
    have ht : ∀ x ∈ c.exceptionTable.toList, False := by
      obtain ⟨meth9, c9, h1, h2, -, -, -, -, h7, -⟩ := Cond.code_spec B.named (atoms_spec (ws := ws) B.pre _ (by rw [hw]; exact List.mem_cons_self))
      cases Option.some.inj (h1.symm.trans B.method)
      cases Option.some.inj (h2.symm.trans (Stand.of_body B).code)
      intro x hx
      rw [Array.isEmpty_iff.mp h7] at hx
      cases hx
    obtain ⟨t, a1, o, b1, b2, b3⟩ := body p e s m args below meth c s₁ B hml ht hP s₁ hh0 (Stand.of_body B)
    exact ⟨t, o, a1, b1, b2, b3⟩
/-- the table of a body with handlers -/
theorem vx_table {p : Program} {x y : MethodName} {S : Spec} {cc bytes : ByteArray} {maxL maxL' : Nat} {ret ret' : Option FieldType} {e : Env} {s s₁ : State} {m : MethodId} {args : Array Value} {below : List Frame} {meth : Method} {c : Code} {hh : List (Nat × Nat × Nat × Nat)}
    (B : BodyLoose p l y S cc maxL ret e s m args below meth c s₁) (h : (Cond.codeWith y bytes maxL' ret' hh).before args s = true) : c.exceptionTable.toList = tableOf hh := by
  obtain ⟨m9, meth9, c9, hn9, h1, h2, -, -, h6, -⟩ := Cond.codeWith_spec h
  cases Option.some.inj (hn9.symm.trans B.named)
  cases Option.some.inj (h1.symm.trans B.method)
  cases Option.some.inj (h2.symm.trans (Stand.of_body B).code)
  rw [← h6, table_eq]
end Bodies
end VXA
/-! ===== END ===== -/
/-! ===== BEGIN a static call of a method with an exception table ===== -/
section VXS
variable {p : Program} {l : Launch} {e : Env} {R : Room} {s : State} {m : MethodId} {args : Array Value} {below : List Frame} {meth : Method} {c : Code} {T : State} {H : Heap} {locs : List Loc} {cells slots : Nat}
abbrev vx_CSW (R : Room) (s : State) (args : Array Value) (own : String) (index : Nat) (y : MethodName) (bytes : ByteArray) (maxL : Nat) (ret : Option FieldType) (hh : List (Nat × Nat × Nat × Nat)) (ws : List Cond) (rm : Room) (mc ms n : Nat) : Prop :=
  (rm.cells = mc ∧ rm.slots = ms ∧ rm.frames + 1 ≤ R.frames ∧ 8 + (maxL + 11) + rm.locals ≤ R.locals ∧ (∀ w ∈ ws, ∀ (a' : Array Value) (U : State), s.WarmedH U.vm → w.before a' U = true) ∧ Cond.codeWith y bytes maxL ret hh ∈ ws) ∧
  (Cond.codeWith y bytes maxL ret hh).before args s = true ∧ (Cond.initialized y.cls).before args s = true ∧ (y.cls ≠ "java/lang/invoke/MethodHandle" ∧ y.cls ≠ "java/lang/invoke/VarHandle") ∧
  (∀ sig, parseMethodDescriptor y.desc = some sig → n = sig.parameters.length) ∧ (Cond.methodLink own index y).before args s = true ∧ (Cond.static y).before args s = true
theorem vx_cwSW {own : String} {index maxL mc ms : Nat} {y : MethodName} {bytes : ByteArray} {ret : Option FieldType} {hh : List (Nat × Nat × Nat × Nat)} {Ts ws ws' : List Cond} {rm : Room} (n : Nat) (ht : ∀ w ∈ Ts, w.before args s = true) (hT : GoodIn Ts (va_wsS own index y ws)) (hw : ws = Cond.codeWith y bytes maxL ret hh :: ws') (hrc : rm.cells = mc) (hrs : rm.slots = ms)
    (hd : y.cls ≠ "java/lang/invoke/MethodHandle" ∧ y.cls ≠ "java/lang/invoke/VarHandle" ∧ (parseMethodDescriptor y.desc).map (fun d => d.parameters.length) = some n) (hR : rm.frames + 1 ≤ R.frames ∧ 8 + (maxL + 11) + rm.locals ≤ R.locals) :
    vx_CSW R s args own index y bytes maxL ret hh ws rm mc ms n := by
  have ok : ∀ w ∈ va_wsS own index y ws, w.before args s = true := fun w h => ht w (hT w h).1
  have hG : GoodIn Ts ws := fun w h => hT w (by unfold va_wsS; exact List.mem_append_right _ h)
  have hc : Cond.codeWith y bytes maxL ret hh ∈ ws := by rw [hw]; exact List.mem_cons_self
  refine ⟨⟨hrc, hrs, hR.1, hR.2, pay_in ht hG, hc⟩, ht _ (hG _ hc).1, ok _ (by simp [va_wsS]), ⟨hd.1, hd.2.1⟩, fun sig h => ?_, ok _ (by simp [va_wsS]), ok _ (by simp [va_wsS])⟩
  have h2 := hd.2.2
  rw [h] at h2
  exact (Option.some.inj h2).symm
theorem vx_callSW (X : Stand p l e R s m args below meth c T locs cells slots) (hexec : p.tables.exec = Jvm.exec) {own : String} {index : Nat} {y : MethodName} {bytes : ByteArray} {maxL : Nat} {ret : Option FieldType} {hh : List (Nat × Nat × Nat × Nat)}
    (hown : s.vm.findClass own = some m.cls) (hlink : (Cond.methodLink own index y).before args s = true) (hstat : (Cond.static y).before args s = true) (hinit : (Cond.initialized y.cls).before args s = true)
    (hcode : (Cond.codeWith y bytes maxL ret hh).before args s = true) (hy : y.cls ≠ "java/lang/invoke/MethodHandle" ∧ y.cls ≠ "java/lang/invoke/VarHandle")
    {W9 : Nat} {Pre : Pt → Array Value → Prop} {Post : Pt → Array Value → Option Value → Pt → Prop} (hK : Back l R p e below s args y 3 W9 Pre Post)
    {g : JFrame} (hg : g.method = m) (hsize : g.locals.size = c.maxLocals) {argsL rest : List Value} (hlen : ∀ sig, parseMethodDescriptor y.desc = some sig → argsL.length = sig.parameters.length)
    (hstack : g.stack = argsL.reverse ++ rest) (hW : 2 * g.monitorRoom + (rest.map fun v => v.category).sum ≤ W9) (hdg : decode c.code g.pc = .ok (.invokestatic index, 3))
    (hpre : ∀ vm₁, s.WarmedH vm₁ → Pre ⟨T.setVm vm₁, locs, cells, slots⟩ argsL.toArray) :
    ∃ (v : Option Value) (vm₁ : Vm) (B : Pt), s.WarmedH vm₁ ∧ Stand p l e R s m args below meth c B.U B.locs B.cells B.slots ∧ Post ⟨T.setVm vm₁, locs, cells, slots⟩ argsL.toArray v B ∧
      ∀ target, Steps p.tables e below (B.U.setTop { g with pc := g.pc + 3, stack := v.toList ++ rest }) target → Steps p.tables e below (T.setTop g) target := by
  obtain ⟨mk, methM, cM, hnamed, hmethM, -, -, -, -, -, -, hsigM⟩ := Cond.codeWith_spec hcode
  have hstatic : methM.isStatic = true := Cond.static_spec hnamed hmethM hstat
  obtain ⟨kP, hkP, -⟩ := className_of_methodNamed hnamed
  have hinitP : kP.init = .initialized := Cond.initialized_spec (findClass_of_methodNamed hnamed) hkP hinit
  obtain ⟨vm₁, X₁, hstep₁⟩ := X.invokestatic hexec hown hlink hnamed hmethM hstatic hkP hinitP hy (g := g) hg (argsL := argsL) (rest := rest) (hlen _ hsigM) hstack hdg
  obtain ⟨v, B, X', hpost, hsteps⟩ := hK m meth c ⟨T.setVm vm₁, locs, cells, slots⟩ { g with stack := rest } (.invokestatic index) mk argsL.toArray X₁ hg hsize hdg hW (X₁.named hnamed) (hpre vm₁ X₁.warmed)
  exact ⟨v, vm₁, B, X₁.warmed, X', hpost, fun target h => hstep₁ _ fun acts => by rw [doInvoke_state]; exact hsteps.trans h⟩
theorem vx_runSW {y : MethodName} {bytes cc : ByteArray} {maxL nL mc ms n index : Nat} {ret : Option FieldType} {hh : List (Nat × Nat × Nat × Nat)} {ws : List Cond} {rm : Room} {Pc : Array Value → State → Prop} {Qc : Array Value → State → Outcome → State → Prop} {free : Addr → Prop} {Ts : List Cond} {own : String} {As rest : List Value} {g : JFrame}
    (S : CallFix p m c cc nL s args Ts own) (hM : Met l y ws rm Pc Qc mc ms free) (cw : vx_CSW R s args own index y bytes maxL ret hh ws rm mc ms n) (hp : PreS s H Pc As)
    (hg : g.method = m) (hn : As.length = n) (hsize : g.locals.size = nL) (hstack : g.stack = As.reverse ++ rest) (hW : 2 * g.monitorRoom + (rest.map fun v => v.category).sum ≤ 8) (hdg : decode cc g.pc = .ok (.invokestatic index, 3)) (hf : cells + mc ≤ R.cells ∧ slots + ms ≤ R.slots) :
    va_Run p l e R s m args below meth c H locs cells slots mc ms g rest (Qc As.toArray) (free) := by
  obtain ⟨⟨hrc, hrs, hfr, hlo, hws, hcw⟩, hcode, hini, hy, hlen, hl, hstt⟩ := cw
  have hK : Back l R p e below s args y 3 8 (PreOf R mc ms Pc) (PostOf Qc mc ms free) := va_backW (hh := hh) (bytes := bytes) (maxL := maxL) (ret := ret) hM hp.1 hrc hrs hfr hlo hws hcw (fun a' U hW => word_at hW (Or.inl (by first | rfl | simp [Cond.onTables, Cond.keeps, Cond.steady])) hini)
  obtain ⟨hx, hb, hml, ho, -⟩ := S
  intro T hT X
  obtain ⟨v, vm₁, ⟨U', l2, c2, s2⟩, hW₁, X', ⟨g', mk, t, L, e1, e2, hq, h1, hL, h2, h3⟩, st⟩ := vx_callSW X hx (hh := hh) (bytes := bytes) (maxL := maxL) (ret := ret) ho hl hstt hini hcode hy hK hg (hsize.trans hml.symm) (argsL := As) (rest := rest) (fun sig h => hn.trans (hlen sig h)) hstack hW (by rw [hb]; exact hdg)
    (fun vm₁ hW₁ => ⟨hf.1, hf.2, hp.2 (T.setVm vm₁) hT hW₁⟩)
  dsimp only [Pt.U, Pt.locs, Pt.cells, Pt.slots] at X' e1 e2 h1 h2 h3 st
  subst h1; subst h2; subst h3
  exact ⟨v, (T.setVm vm₁).calling g' mk As.toArray, t, U', L, hT, X', hL, e1, e2, hq, st⟩
/-- not caught here, past rows that name other classes: it goes on to the caller -/
theorem vx_outP {p : Program} {l : Launch} {e : Env} {R : Room} {s : State} {m : MethodId} {args : Array Value} {below : List Frame} {meth : Method} {c : Code} {H : Heap} {locs : List Loc} {cells slots : Nat} {free : Addr → Prop} {ls : Array Slot} {rest : List Value} {Qc : Array Value → State → Outcome → State → Prop} {XC : String → State → State → Prop}
    {pc : Nat} {own E : String} {ce : Cell} {q : Addr} {mc ms : Nat} (hown : s.vm.findClass own = some m.cls) (hlocks : meth.locks = false)
    (hpass : ∀ z ∈ c.exceptionTable.toList, covers z pc = false ∨ (z.catchType ≠ 0 ∧ ∃ nm : String, (Cond.classLink own z.catchType nm).before args s = true ∧ va_Nc E nm s)) (hcell : H[q]? = some ce) (hv : ce.vm = .none) (hcl : s.vm.findClass E = some ce.cls)
    (hx : ∀ t : State, t.heap = H → s.vm.Alike t.vm → XC E s t) (hf : ∀ z ∈ locs, free z.base) (hc : cells ≤ mc) (hs : slots ≤ ms) :
    vx_W p l e R s m args below meth c H locs cells slots (vx_MQ below Qc XC args s mc ms free) (F0 m pc ls rest) q := by
  intro T hT X
  have hpl : e.platform.magicAccessors = ({} : Platform).magicAccessors := by rw [X.admits.platform]
  obtain ⟨vm', hW', X', st⟩ := Stand.outThrough X hlocks q (g := F0 m pc ls rest) rfl rfl rfl (cell := ce) (by rw [hT]; exact hcell) (by rw [hv]; rfl)
    (by obtain ⟨k9, h9, -⟩ := Vm.findClass_spec hcl; exact ⟨k9, h9⟩) (fun z hz => by
      rcases hpass z hz with h | ⟨hz0, nm, hl1, hn1⟩
      · exact Or.inl h
      · obtain ⟨c6, hc6, hcl6⟩ := Cond.classLink_spec hown hl1 e.platform hpl
        obtain ⟨a8, b8, h1, h2, h3⟩ := hn1
        cases Option.some.inj (h1.symm.trans hcl)
        cases Option.some.inj (h2.symm.trans hc6)
        exact Or.inr ⟨hz0, _, hcl6, h3⟩)
  obtain ⟨g₀, hfr⟩ := X'.frames_eq
  have hcell9 : ((T.setVm vm').setFrames (.throwing q :: below)).heap[q]? = some ce := by
    show T.heap[q]? = some ce
    rw [hT]; exact hcell
  have hend : Ended ((T.setVm vm').setFrames (.throwing q :: below)) below (.threw q) := State.frames_setFrames _ (State.cur_lt_of_frames hfr)
  refine ⟨(T.setVm vm').setFrames (.throwing q :: below), ?_, .threw q, X'.here.running, hend, Or.inr ⟨q, rfl, E, ce, locs, hx _ hT (X'.ends _).1.alike, hcell9, hv, hcl, (X'.ends _).1, (X'.ends _).2.mono hc hs, hf⟩⟩
  rw [X.pushThrowing_eq]
  exact st
/-- a thing of a world lies in the heap -/
theorem vx_lt {D : va_G} {cl : List vw_C} {ws : va_W} {H1 : Heap} (h : va_P D cl ws H1) {k : Nat} {q : Nat × va_E} (hk : ws[k]? = some q) : q.1 < H1.size := (h k q hk).lt
end VXS
/-! ===== END ===== -/
/-! ===== BEGIN methods with a table of their own: called by a name, returning or throwing ===== -/
section VXH
/-! vx_backW, vx_callVX, vx_callSX, vx_callVW, vx_runVW, vx_runVX, vx_runSX, vx_ofWH follow the same proofs as their sisters above (Free/Laws.lean, Shelf42/LK1.lean); vx_outP calls Shelf42/NT130.lean (outThrough). -/
section
variable {l : Launch} {R : Room} {p : Program} {e : Env} {below : List Frame} {s : State} {sargs : Array Value} {y : MethodName} {len W9 : Nat}
theorem vx_backW {ws : List Cond} {rm : Room} {Pc : Array Value → State → Prop} {Qc : Array Value → State → Outcome → State → Prop} {XC : String → State → State → Prop} {mc ms : Nat} {free : Addr → Prop} {bytes : ByteArray} {maxL : Nat} {ret : Option FieldType} {hh : List (Nat × Nat × Nat × Nat)}
    (hM : vx_Met l y ws rm Pc Qc XC mc ms free) (hblind : FrameBlind Pc) (hrc : rm.cells = mc) (hrs : rm.slots = ms)
    (hframes : rm.frames + 1 ≤ R.frames) (hlocals : W9 + (maxL + 11) + rm.locals ≤ R.locals)
    (hws : ∀ w ∈ ws, ∀ a' U, s.WarmedH U.vm → w.before a' U = true) (hcode : Cond.codeWith y bytes maxL ret hh ∈ ws) (hinit : ∀ a' U, s.WarmedH U.vm → (Cond.initialized y.cls).before a' U = true) :
    vx_Back l R p e below s sargs y len W9 (PreOf R mc ms Pc) (PostOf Qc mc ms free) (vx_Post XC mc ms free) := by
  intro m meth c A g ig mk a X hg hsize hdg hW hn hp
  have h1 : (headSpec ws rm).pre.before a A.U = true := atoms_intro fun w hw => hws w hw _ _ X.warmed
  have h2 : (Cond.codeWith y bytes maxL ret hh).before a A.U = true := hws _ hcode _ _ X.warmed
  have h3 : (Cond.initialized y.cls).before a A.U = true := hinit _ _ X.warmed
  have h4 : A.cells + (headSpec ws rm).room.cells ≤ R.cells := by rw [show (headSpec ws rm).room.cells = mc from hrc]; exact hp.1
  have h5 : A.slots + (headSpec ws rm).room.slots ≤ R.slots := by rw [show (headSpec ws rm).room.slots = ms from hrs]; exact hp.2.1
  have hPc : Pc a (A.U.calling g mk a) := hblind _ _ _ _ hp.2.2
  obtain ⟨U, Ls, c0, s0⟩ := A
  dsimp only [Pt.U, Pt.locs, Pt.cells, Pt.slots] at h1 h2 h3 h4 h5 X hn hPc ⊢
  obtain ⟨m9, methY, cY, hn9, hmY, hcY, -, hlY, -⟩ := Cond.codeWith_spec h2
  cases Option.some.inj (hn9.symm.trans hn)
  obtain ⟨kY, hkY, -⟩ := className_of_methodNamed hn
  have hinitY : kY.init = .initialized := Cond.initialized_spec (findClass_of_methodNamed hn) hkY h3
  have h : At U g.method c below := by rw [hg]; exact X.here
  have hlocals9 : W9 + (maxL + 11) + (headSpec ws rm).room.locals ≤ R.locals := hlocals
  have happ : (headSpec ws rm).appliesLoose y e.platform (U.calling g mk a) = true :=
    Spec.appliesLoose_calling (g := g) h hdg hn hkY hinitY
      (X.room_calling (g := g) (R' := (headSpec ws rm).room) hsize hmY hcY hframes (by rw [hlY]; omega) h4 h5) h1
  obtain ⟨mid, hmid⟩ := h.above
  have hfr : (U.setTop g).frames = (.java g :: mid) ++ below := by rw [State.frames_setTop' g h.top, hmid]; rfl
  obtain ⟨o, s₂, hsteps, -, hend, hq⟩ := Steps.callFree hM p X.admits X.cas X.clock (acts := []) hfr happ hPc trivial
  have hq' : vx_Q Qc XC mc ms free a (U.calling g mk a) o s₂ := hq
  rw [State.frames_setTop' g h.top] at hend
  obtain ⟨g₀, hg0⟩ := Option.isSome_iff_exists.mp h.top
  obtain ⟨r, hr⟩ := State.topJava?_eq_some.mp hg0
  have hr' : (({ U with heap := s₂.heap, slotsUsed := s₂.slotsUsed } : State).setVm s₂.vm).frames = .java g₀ :: r := hr
  rcases hq' with ⟨hqc, L, hfe, hL⟩ | ⟨q, rfl, E, ce, L, hx, hce, hcv, hcl, hW₂, hsm, hL⟩
  · obtain ⟨⟨v, rfl⟩, hW₂, e2, q2, q3, q4, q5, q6⟩ := id hfe
    have e3 : s₂ = ({ (U.calling g mk a).setFrames s₂.frames with heap := s₂.heap, slotsUsed := s₂.slotsUsed } : State).setVm s₂.vm := by
      have : s₂ = ({ s₂ with vm := (U.calling g mk a).vm } : State).setVm s₂.vm := rfl
      rw [e2] at this
      exact this
    obtain ⟨c₂, i₂, len₂, hc₂, hd₂, hf₂⟩ := hend
    have hW' : U.WarmedH s₂.vm := hW₂
    have hcc : c₂ = c := by
      have h1 : s₂.code? g.method = U.code? g.method := by
        rw [State.code?_eq, State.code?_eq, hW'.alike.method?]
      exact Option.some.inj (hc₂.symm.trans (h1.trans h.code))
    subst hcc
    have hlen : len₂ = len := by rw [hdg] at hd₂; cases hd₂; rfl
    subst hlen
    have hs₂ : s₂ = (({ U with heap := s₂.heap, slotsUsed := s₂.slotsUsed } : State).setVm s₂.vm).setTop { g with pc := g.pc + len₂, stack := v.toList ++ g.stack } := by
      refine e3.trans ?_
      rw [hf₂, State.calling_eq h.top, State.setFrames_setFrames, State.setTop_of_frames _ hr', hr]
      rfl
    have hsame : U.sameButNew ({ U with heap := s₂.heap, slotsUsed := s₂.slotsUsed } : State) L mc ms := by
      refine ⟨?_, q2, q3, q4, q5, q6⟩
      obtain ⟨t, ht, -⟩ := State.frames_cons hr
      show ({ U with heap := s₂.heap, slotsUsed := s₂.slotsUsed } : State) = { U.setFrames U.frames with heap := s₂.heap, slotsUsed := s₂.slotsUsed }
      rw [State.setFrames_self ht]
    subst hg
    refine Or.inl ⟨v, ⟨(({ U with heap := s₂.heap, slotsUsed := s₂.slotsUsed } : State).setVm s₂.vm), Ls ++ L, c0 + mc, s0 + ms⟩,
      ⟨X.admits, X.cas, X.clock, X.frames, X.room, X.hears, X.method, X.code, (X.here.setHeapUsed s₂.heap s₂.slotsUsed).setVm hW'.alike, X.tail, State.WarmedH.trans X.warmed hW', X.limits, X.bytes, X.same.trans (hsame.setVm s.vm)⟩,
      ⟨g, mk, s₂, L, rfl, rfl, hqc, rfl, hL, rfl, rfl⟩, ?_⟩
    show Steps p.tables e below _ ((({ U with heap := s₂.heap, slotsUsed := s₂.slotsUsed } : State).setVm s₂.vm).setTop { g with pc := g.pc + len₂, stack := v.toList ++ g.stack })
    rw [← hs₂]
    exact hsteps
  · obtain ⟨e2, q2, q3, q4, q5, q6⟩ := id hsm
    have e3 : s₂ = ({ (U.calling g mk a).setFrames s₂.frames with heap := s₂.heap, slotsUsed := s₂.slotsUsed } : State).setVm s₂.vm := by
      have : s₂ = ({ s₂ with vm := (U.calling g mk a).vm } : State).setVm s₂.vm := rfl
      rw [e2] at this
      exact this
    have hf₂ : s₂.frames = .throwing q :: .java g :: U.frames.tail := hend
    have hW' : U.WarmedH s₂.vm := hW₂
    have hs₂ : s₂ = ((({ U with heap := s₂.heap, slotsUsed := s₂.slotsUsed } : State).setVm s₂.vm).setTop g).pushFrame (.throwing q) := by
      refine e3.trans ?_
      rw [hf₂, State.calling_eq h.top, State.setFrames_setFrames, State.pushFrame, State.frames_setTop _ hr', State.setTop_of_frames _ hr', State.setFrames_setFrames, hr]
      rfl
    have hsame : U.sameButNew ({ U with heap := s₂.heap, slotsUsed := s₂.slotsUsed } : State) L mc ms := by
      refine ⟨?_, q2, q3, q4, q5, q6⟩
      obtain ⟨t, ht, -⟩ := State.frames_cons hr
      show ({ U with heap := s₂.heap, slotsUsed := s₂.slotsUsed } : State) = { U.setFrames U.frames with heap := s₂.heap, slotsUsed := s₂.slotsUsed }
      rw [State.setFrames_self ht]
    subst hg
    refine Or.inr ⟨q, ⟨(({ U with heap := s₂.heap, slotsUsed := s₂.slotsUsed } : State).setVm s₂.vm), Ls ++ L, c0 + mc, s0 + ms⟩,
      ⟨X.admits, X.cas, X.clock, X.frames, X.room, X.hears, X.method, X.code, (X.here.setHeapUsed s₂.heap s₂.slotsUsed).setVm hW'.alike, X.tail, State.WarmedH.trans X.warmed hW', X.limits, X.bytes, X.same.trans (hsame.setVm s.vm)⟩,
      ⟨g, mk, s₂, L, E, ce, rfl, rfl, hx, hce, hcv, hcl, rfl, hL, rfl, rfl⟩, ?_⟩
    show Steps p.tables e below _ (((({ U with heap := s₂.heap, slotsUsed := s₂.slotsUsed } : State).setVm s₂.vm).setTop g).pushFrame (.throwing q))
    rw [← hs₂]
    exact hsteps
end
variable {p : Program} {l : Launch} {e : Env} {R : Room} {s : State} {m : MethodId} {args : Array Value} {below : List Frame} {meth : Method} {c : Code} {T : State} {H : Heap} {locs : List Loc} {cells slots : Nat}
theorem vx_callVX (X : Stand p l e R s m args below meth c T locs cells slots) (hexec : p.tables.exec = Jvm.exec) {own C : String} {index : Nat} {y : MethodName} {bytes : ByteArray} {maxL : Nat} {ret : Option FieldType} {hh : List (Nat × Nat × Nat × Nat)}
    (hown : s.vm.findClass own = some m.cls) (hlink : (Cond.methodLink own index y).before args s = true) (hinst : (Cond.instanceMethod y).before args s = true) (hsel : (Cond.selects C y y).before args s = true)
    (hcode : (Cond.codeWith y bytes maxL ret hh).before args s = true) (hy : y.cls ≠ "java/lang/invoke/MethodHandle" ∧ y.cls ≠ "java/lang/invoke/VarHandle")
    {W9 : Nat} {Pre : Pt → Array Value → Prop} {Post : Pt → Array Value → Option Value → Pt → Prop} {PostX : Pt → Array Value → Addr → Pt → Prop} (hK : vx_Back l R p e below s args y 3 W9 Pre Post PostX)
    {b : Addr} {cellB : Cell} (hcell : T.heap[b]? = some cellB) (hobj : cellB.vm.isStatics = false) (hcls : s.vm.findClass C = some cellB.cls)
    {g : JFrame} (hg : g.method = m) (hsize : g.locals.size = c.maxLocals) {argsL rest : List Value} (hlen : ∀ sig, parseMethodDescriptor y.desc = some sig → argsL.length = sig.parameters.length)
    (hstack : g.stack = argsL.reverse ++ .ref b :: rest) (hW : 2 * g.monitorRoom + (rest.map fun v => v.category).sum ≤ W9) (hdg : decode c.code g.pc = .ok (.invokevirtual index, 3))
    (hpre : ∀ vm₁, s.WarmedH vm₁ → Pre ⟨T.setVm vm₁, locs, cells, slots⟩ (Value.ref b :: argsL).toArray) :
    (∃ (v : Option Value) (vm₁ : Vm) (B : Pt), s.WarmedH vm₁ ∧ Stand p l e R s m args below meth c B.U B.locs B.cells B.slots ∧ Post ⟨T.setVm vm₁, locs, cells, slots⟩ (Value.ref b :: argsL).toArray v B ∧
      ∀ target, Steps p.tables e below (B.U.setTop { g with pc := g.pc + 3, stack := v.toList ++ rest }) target → Steps p.tables e below (T.setTop g) target) ∨
    (∃ (q : Addr) (vm₁ : Vm) (B : Pt), s.WarmedH vm₁ ∧ Stand p l e R s m args below meth c B.U B.locs B.cells B.slots ∧ PostX ⟨T.setVm vm₁, locs, cells, slots⟩ (Value.ref b :: argsL).toArray q B ∧
      Steps p.tables e below (T.setTop g) ((B.U.setTop { g with stack := rest }).pushFrame (.throwing q))) := by
  obtain ⟨mk, methM, hnamed, hmethM, hstM, habM⟩ := Cond.instanceMethod_spec hinst
  obtain ⟨m8, methM', cM, hn8, hmethM', -, -, -, -, -, -, hsigM⟩ := Cond.codeWith_spec hcode
  cases Option.some.inj (hn8.symm.trans hnamed)
  cases hmethM.symm.trans hmethM'
  obtain ⟨c2, r2, m2, q1, q2, q3, q4, kP, hkP, hkPi⟩ := Cond.selects_spec hsel
  cases hcls.symm.trans q1
  cases (State.methodFound?_of_named hnamed hy).symm.trans q2
  cases hnamed.symm.trans q3
  have hselP : selectMethod e.platform s.vm cellB.cls mk = .method mk := by rw [Launch.admits_selectMethod X.admits]; exact q4
  obtain ⟨vm₁, X₁, hstep₁⟩ := X.invokevirtual hexec hown hlink hnamed hmethM hstM hkP hkPi hy (a := b) (cell := cellB) hcell
    (fun z h => by rw [h] at hobj; cases hobj) hselP hmethM habM hkP hkPi (g := g) hg (argsL := argsL) (rest := rest) (hlen _ hsigM) hstack hdg
  rcases hK m meth c ⟨T.setVm vm₁, locs, cells, slots⟩ { g with stack := rest } (.invokevirtual index) mk (Value.ref b :: argsL).toArray X₁ hg hsize hdg hW (X₁.named hnamed) (hpre vm₁ X₁.warmed) with ⟨v, B, X', hpost, hsteps⟩ | ⟨q, B, X', hpost, hsteps⟩
  · exact Or.inl ⟨v, vm₁, B, X₁.warmed, X', hpost, fun target h => hstep₁ _ fun acts => by rw [doInvoke_state]; exact hsteps.trans h⟩
  · exact Or.inr ⟨q, vm₁, B, X₁.warmed, X', hpost, hstep₁ _ fun acts => by rw [doInvoke_state]; exact hsteps⟩
theorem vx_callSX (X : Stand p l e R s m args below meth c T locs cells slots) (hexec : p.tables.exec = Jvm.exec) {own : String} {index : Nat} {y : MethodName} {bytes : ByteArray} {maxL : Nat} {ret : Option FieldType} {hh : List (Nat × Nat × Nat × Nat)}
    (hown : s.vm.findClass own = some m.cls) (hlink : (Cond.methodLink own index y).before args s = true) (hstat : (Cond.static y).before args s = true) (hinit : (Cond.initialized y.cls).before args s = true)
    (hcode : (Cond.codeWith y bytes maxL ret hh).before args s = true) (hy : y.cls ≠ "java/lang/invoke/MethodHandle" ∧ y.cls ≠ "java/lang/invoke/VarHandle")
    {W9 : Nat} {Pre : Pt → Array Value → Prop} {Post : Pt → Array Value → Option Value → Pt → Prop} {PostX : Pt → Array Value → Addr → Pt → Prop} (hK : vx_Back l R p e below s args y 3 W9 Pre Post PostX)
    {g : JFrame} (hg : g.method = m) (hsize : g.locals.size = c.maxLocals) {argsL rest : List Value} (hlen : ∀ sig, parseMethodDescriptor y.desc = some sig → argsL.length = sig.parameters.length)
    (hstack : g.stack = argsL.reverse ++ rest) (hW : 2 * g.monitorRoom + (rest.map fun v => v.category).sum ≤ W9) (hdg : decode c.code g.pc = .ok (.invokestatic index, 3))
    (hpre : ∀ vm₁, s.WarmedH vm₁ → Pre ⟨T.setVm vm₁, locs, cells, slots⟩ argsL.toArray) :
    (∃ (v : Option Value) (vm₁ : Vm) (B : Pt), s.WarmedH vm₁ ∧ Stand p l e R s m args below meth c B.U B.locs B.cells B.slots ∧ Post ⟨T.setVm vm₁, locs, cells, slots⟩ argsL.toArray v B ∧
      ∀ target, Steps p.tables e below (B.U.setTop { g with pc := g.pc + 3, stack := v.toList ++ rest }) target → Steps p.tables e below (T.setTop g) target) ∨
    (∃ (q : Addr) (vm₁ : Vm) (B : Pt), s.WarmedH vm₁ ∧ Stand p l e R s m args below meth c B.U B.locs B.cells B.slots ∧ PostX ⟨T.setVm vm₁, locs, cells, slots⟩ argsL.toArray q B ∧
      Steps p.tables e below (T.setTop g) ((B.U.setTop { g with stack := rest }).pushFrame (.throwing q))) := by
  obtain ⟨mk, methM, cM, hnamed, hmethM, -, -, -, -, -, -, hsigM⟩ := Cond.codeWith_spec hcode
  have hstatic : methM.isStatic = true := Cond.static_spec hnamed hmethM hstat
  obtain ⟨kP, hkP, -⟩ := className_of_methodNamed hnamed
  have hinitP : kP.init = .initialized := Cond.initialized_spec (findClass_of_methodNamed hnamed) hkP hinit
  obtain ⟨vm₁, X₁, hstep₁⟩ := X.invokestatic hexec hown hlink hnamed hmethM hstatic hkP hinitP hy (g := g) hg (argsL := argsL) (rest := rest) (hlen _ hsigM) hstack hdg
  rcases hK m meth c ⟨T.setVm vm₁, locs, cells, slots⟩ { g with stack := rest } (.invokestatic index) mk argsL.toArray X₁ hg hsize hdg hW (X₁.named hnamed) (hpre vm₁ X₁.warmed) with ⟨v, B, X', hpost, hsteps⟩ | ⟨q, B, X', hpost, hsteps⟩
  · exact Or.inl ⟨v, vm₁, B, X₁.warmed, X', hpost, fun target h => hstep₁ _ fun acts => by rw [doInvoke_state]; exact hsteps.trans h⟩
  · exact Or.inr ⟨q, vm₁, B, X₁.warmed, X', hpost, hstep₁ _ fun acts => by rw [doInvoke_state]; exact hsteps⟩
theorem vx_callVW (X : Stand p l e R s m args below meth c T locs cells slots) (hexec : p.tables.exec = Jvm.exec) {own C : String} {index : Nat} {y : MethodName} {bytes : ByteArray} {maxL : Nat} {ret : Option FieldType} {hh : List (Nat × Nat × Nat × Nat)}
    (hown : s.vm.findClass own = some m.cls) (hlink : (Cond.methodLink own index y).before args s = true) (hinst : (Cond.instanceMethod y).before args s = true) (hsel : (Cond.selects C y y).before args s = true)
    (hcode : (Cond.codeWith y bytes maxL ret hh).before args s = true) (hy : y.cls ≠ "java/lang/invoke/MethodHandle" ∧ y.cls ≠ "java/lang/invoke/VarHandle")
    {W9 : Nat} {Pre : Pt → Array Value → Prop} {Post : Pt → Array Value → Option Value → Pt → Prop} (hK : Back l R p e below s args y 3 W9 Pre Post)
    {b : Addr} {cellB : Cell} (hcell : T.heap[b]? = some cellB) (hobj : cellB.vm.isStatics = false) (hcls : s.vm.findClass C = some cellB.cls)
    {g : JFrame} (hg : g.method = m) (hsize : g.locals.size = c.maxLocals) {argsL rest : List Value} (hlen : ∀ sig, parseMethodDescriptor y.desc = some sig → argsL.length = sig.parameters.length)
    (hstack : g.stack = argsL.reverse ++ .ref b :: rest) (hW : 2 * g.monitorRoom + (rest.map fun v => v.category).sum ≤ W9) (hdg : decode c.code g.pc = .ok (.invokevirtual index, 3))
    (hpre : ∀ vm₁, s.WarmedH vm₁ → Pre ⟨T.setVm vm₁, locs, cells, slots⟩ (Value.ref b :: argsL).toArray) :
    ∃ (v : Option Value) (vm₁ : Vm) (B : Pt), s.WarmedH vm₁ ∧ Stand p l e R s m args below meth c B.U B.locs B.cells B.slots ∧ Post ⟨T.setVm vm₁, locs, cells, slots⟩ (Value.ref b :: argsL).toArray v B ∧
      ∀ target, Steps p.tables e below (B.U.setTop { g with pc := g.pc + 3, stack := v.toList ++ rest }) target → Steps p.tables e below (T.setTop g) target := by
  obtain ⟨mk, methM, hnamed, hmethM, hstM, habM⟩ := Cond.instanceMethod_spec hinst
  obtain ⟨m8, methM', cM, hn8, hmethM', -, -, -, -, -, -, hsigM⟩ := Cond.codeWith_spec hcode
  cases Option.some.inj (hn8.symm.trans hnamed)
  cases hmethM.symm.trans hmethM'
  obtain ⟨c2, r2, m2, q1, q2, q3, q4, kP, hkP, hkPi⟩ := Cond.selects_spec hsel
  cases hcls.symm.trans q1
  cases (State.methodFound?_of_named hnamed hy).symm.trans q2
  cases hnamed.symm.trans q3
  have hselP : selectMethod e.platform s.vm cellB.cls mk = .method mk := by rw [Launch.admits_selectMethod X.admits]; exact q4
  obtain ⟨vm₁, X₁, hstep₁⟩ := X.invokevirtual hexec hown hlink hnamed hmethM hstM hkP hkPi hy (a := b) (cell := cellB) hcell
    (fun z h => by rw [h] at hobj; cases hobj) hselP hmethM habM hkP hkPi (g := g) hg (argsL := argsL) (rest := rest) (hlen _ hsigM) hstack hdg
  obtain ⟨v, B, X', hpost, hsteps⟩ := hK m meth c ⟨T.setVm vm₁, locs, cells, slots⟩ { g with stack := rest } (.invokevirtual index) mk (Value.ref b :: argsL).toArray X₁ hg hsize hdg hW (X₁.named hnamed) (hpre vm₁ X₁.warmed)
  exact ⟨v, vm₁, B, X₁.warmed, X', hpost, fun target h => hstep₁ _ fun acts => by rw [doInvoke_state]; exact hsteps.trans h⟩
abbrev vx_CVW (R : Room) (s : State) (args : Array Value) (own C : String) (index : Nat) (y : MethodName) (bytes : ByteArray) (maxL : Nat) (ret : Option FieldType) (hh : List (Nat × Nat × Nat × Nat)) (ws : List Cond) (rm : Room) (mc ms n : Nat) : Prop :=
  (rm.cells = mc ∧ rm.slots = ms ∧ rm.frames + 1 ≤ R.frames ∧ 8 + (maxL + 11) + rm.locals ≤ R.locals ∧ (∀ w ∈ ws, ∀ (a' : Array Value) (U : State), s.WarmedH U.vm → w.before a' U = true) ∧ Cond.codeWith y bytes maxL ret hh ∈ ws) ∧
  (Cond.codeWith y bytes maxL ret hh).before args s = true ∧ (Cond.initialized y.cls).before args s = true ∧ (y.cls ≠ "java/lang/invoke/MethodHandle" ∧ y.cls ≠ "java/lang/invoke/VarHandle") ∧
  (∀ sig, parseMethodDescriptor y.desc = some sig → n = sig.parameters.length) ∧ (Cond.methodLink own index y).before args s = true ∧ (Cond.instanceMethod y).before args s = true ∧ (Cond.selects C y y).before args s = true
theorem vx_cwVW {own C : String} {index maxL mc ms : Nat} {y : MethodName} {bytes : ByteArray} {ret : Option FieldType} {hh : List (Nat × Nat × Nat × Nat)} {Ts ws ws' : List Cond} {rm : Room} (n : Nat) (ht : ∀ w ∈ Ts, w.before args s = true) (hT : GoodIn Ts (wsV own index C y ws)) (hw : ws = Cond.codeWith y bytes maxL ret hh :: ws') (hrc : rm.cells = mc) (hrs : rm.slots = ms)
    (hd : y.cls = C ∧ y.cls ≠ "java/lang/invoke/MethodHandle" ∧ y.cls ≠ "java/lang/invoke/VarHandle" ∧ (parseMethodDescriptor y.desc).map (fun d => d.parameters.length) = some n) (hR : rm.frames + 1 ≤ R.frames ∧ 8 + (maxL + 11) + rm.locals ≤ R.locals) :
    vx_CVW R s args own C index y bytes maxL ret hh ws rm mc ms n := by
  obtain ⟨hC, hd⟩ := hd
  subst hC
  have ok : ∀ w ∈ wsV own index y.cls y ws, w.before args s = true := fun w h => ht w (hT w h).1
  have hG : GoodIn Ts ws := fun w h => hT w (by unfold wsV; exact List.mem_append_right _ h)
  have hc : Cond.codeWith y bytes maxL ret hh ∈ ws := by rw [hw]; exact List.mem_cons_self
  refine ⟨⟨hrc, hrs, hR.1, hR.2, pay_in ht hG, hc⟩, ht _ (hG _ hc).1, ok _ (by simp [wsV]), ⟨hd.1, hd.2.1⟩, fun sig h => ?_, ok _ (by simp [wsV]), ok _ (by simp [wsV]), ok _ (by simp [wsV])⟩
  have h2 := hd.2.2
  rw [h] at h2
  exact (Option.some.inj h2).symm
theorem vx_runVW {y : MethodName} {bytes cc : ByteArray} {maxL nL mc ms n index : Nat} {ret : Option FieldType} {hh : List (Nat × Nat × Nat × Nat)} {ws : List Cond} {rm : Room} {Pc : Array Value → State → Prop} {Qc : Array Value → State → Outcome → State → Prop} {free : Addr → Prop} {Ts : List Cond} {own C : String} {b : Addr} {As rest : List Value} {g : JFrame}
    (S : CallFix p m c cc nL s args Ts own) (hM : Met l y ws rm Pc Qc mc ms free) (cw : vx_CVW R s args own C index y bytes maxL ret hh ws rm mc ms n) (hp : PreV s H C b Pc As)
    (hg : g.method = m) (hn : As.length = n) (hsize : g.locals.size = nL) (hstack : g.stack = As.reverse ++ .ref b :: rest) (hW : 2 * g.monitorRoom + (rest.map fun v => v.category).sum ≤ 8) (hdg : decode cc g.pc = .ok (.invokevirtual index, 3)) (hf : cells + mc ≤ R.cells ∧ slots + ms ≤ R.slots) :
    va_Run p l e R s m args below meth c H locs cells slots mc ms g rest (Qc (Value.ref b :: As).toArray) free := by
  obtain ⟨⟨hrc, hrs, hfr, hlo, hws, hcw⟩, hcode, hini, hy, hlen, hl, hin, hse⟩ := cw
  have hK : Back l R p e below s args y 3 8 (PreOf R mc ms Pc) (PostOf Qc mc ms free) := va_backW (hh := hh) (bytes := bytes) (maxL := maxL) (ret := ret) hM hp.1 hrc hrs hfr hlo hws hcw (fun a' U hW => word_at hW (Or.inl (by first | rfl | simp [Cond.onTables, Cond.keeps, Cond.steady])) hini)
  obtain ⟨hx, hb, hml, ho, -⟩ := S
  obtain ⟨-, ⟨cellB, hcB, hoB, hclB⟩, hPc⟩ := hp
  intro T hT X
  obtain ⟨v, vm₁, ⟨U', l2, c2, s2⟩, hW₁, X', ⟨g', mk, t, L, e1, e2, hq, h1, hL, h2, h3⟩, st⟩ := vx_callVW X hx (C := C) (hh := hh) (bytes := bytes) (maxL := maxL) (ret := ret) ho hl hin hse hcode hy hK (by rw [hT]; exact hcB) hoB hclB hg (hsize.trans hml.symm) (argsL := As) (rest := rest) (fun sig h => hn.trans (hlen sig h)) hstack hW (by rw [hb]; exact hdg)
    (fun vm₁ hW₁ => ⟨hf.1, hf.2, hPc (T.setVm vm₁) hT hW₁⟩)
  dsimp only [Pt.U, Pt.locs, Pt.cells, Pt.slots] at X' e1 e2 h1 h2 h3 st
  subst h1; subst h2; subst h3
  exact ⟨v, (T.setVm vm₁).calling g' mk (Value.ref b :: As).toArray, t, U', L, hT, X', hL, e1, e2, hq, st⟩
section
variable {y : MethodName} {bytes cc : ByteArray} {maxL nL mc ms n index : Nat} {ret : Option FieldType} {ws : List Cond} {rm : Room} {Pc : Array Value → State → Prop} {Qc : Array Value → State → Outcome → State → Prop} {XC : String → State → State → Prop} {free : Addr → Prop} {Ts : List Cond} {own C : String} {b : Addr} {As rest : List Value} {g : JFrame}
theorem vx_runVX {hh : List (Nat × Nat × Nat × Nat)} (S : CallFix p m c cc nL s args Ts own) (hM : vx_Met l y ws rm Pc Qc XC mc ms free) (cw : vx_CVW R s args own C index y bytes maxL ret hh ws rm mc ms n) (hp : PreV s H C b Pc As)
    (hg : g.method = m) (hn : As.length = n) (hsize : g.locals.size = nL) (hstack : g.stack = As.reverse ++ .ref b :: rest) (hW : 2 * g.monitorRoom + (rest.map fun v => v.category).sum ≤ 8) (hdg : decode cc g.pc = .ok (.invokevirtual index, 3)) (hf : cells + mc ≤ R.cells ∧ slots + ms ≤ R.slots) :
    vx_Run p l e R s m args below meth c H locs cells slots mc ms g rest (Qc (Value.ref b :: As).toArray) XC free := by
  obtain ⟨⟨hrc, hrs, hfr, hlo, hws, hcw⟩, hcode, hini, hy, hlen, hl, hin, hse⟩ := cw
  have hK : vx_Back l R p e below s args y 3 8 (PreOf R mc ms Pc) (PostOf Qc mc ms free) (vx_Post XC mc ms free) := vx_backW (hh := hh) (bytes := bytes) (maxL := maxL) (ret := ret) hM hp.1 hrc hrs hfr hlo hws hcw (fun a' U hW => word_at hW (Or.inl (by first | rfl | simp [Cond.onTables, Cond.keeps, Cond.steady])) hini)
  obtain ⟨hx, hb, hml, ho, -⟩ := S
  obtain ⟨-, ⟨cellB, hcB, hoB, hclB⟩, hPc⟩ := hp
  intro T hT X
  rcases vx_callVX X hx (C := C) (hh := hh) (bytes := bytes) (maxL := maxL) (ret := ret) ho hl hin hse hcode hy hK (by rw [hT]; exact hcB) hoB hclB hg (hsize.trans hml.symm) (argsL := As) (rest := rest) (fun sig h => hn.trans (hlen sig h)) hstack hW (by rw [hb]; exact hdg)
    (fun vm₁ hW₁ => ⟨hf.1, hf.2, hPc (T.setVm vm₁) hT hW₁⟩) with ⟨v, vm₁, ⟨U', l2, c2, s2⟩, hW₁, X', ⟨g', mk, t, L, e1, e2, hq, h1, hL, h2, h3⟩, st⟩ | ⟨q, vm₁, ⟨U', l2, c2, s2⟩, hW₁, X', ⟨g', mk, t, L, E, ce, e1, e2, hq, hce, hcv, hcl, h1, hL, h2, h3⟩, st⟩
  · dsimp only [Pt.U, Pt.locs, Pt.cells, Pt.slots] at X' e1 e2 h1 h2 h3 st
    subst h1; subst h2; subst h3
    exact Or.inl ⟨v, (T.setVm vm₁).calling g' mk (Value.ref b :: As).toArray, t, U', L, hT, X', hL, e1, e2, hq, st⟩
  · dsimp only [Pt.U, Pt.locs, Pt.cells, Pt.slots] at X' e1 e2 h1 h2 h3 st hcl
    subst h1; subst h2; subst h3
    exact Or.inr ⟨q, (T.setVm vm₁).calling g' mk (Value.ref b :: As).toArray, t, U', L, E, ce, hT, X', hL, e1, e2, hq, hce, hcv, vx_cls hW₁ hcl, st⟩
theorem vx_runSX {hh : List (Nat × Nat × Nat × Nat)} (S : CallFix p m c cc nL s args Ts own) (hM : vx_Met l y ws rm Pc Qc XC mc ms free) (cw : vx_CSW R s args own index y bytes maxL ret hh ws rm mc ms n) (hp : PreS s H Pc As)
    (hg : g.method = m) (hn : As.length = n) (hsize : g.locals.size = nL) (hstack : g.stack = As.reverse ++ rest) (hW : 2 * g.monitorRoom + (rest.map fun v => v.category).sum ≤ 8) (hdg : decode cc g.pc = .ok (.invokestatic index, 3)) (hf : cells + mc ≤ R.cells ∧ slots + ms ≤ R.slots) :
    vx_Run p l e R s m args below meth c H locs cells slots mc ms g rest (Qc As.toArray) XC free := by
  obtain ⟨⟨hrc, hrs, hfr, hlo, hws, hcw⟩, hcode, hini, hy, hlen, hl, hstt⟩ := cw
  have hK : vx_Back l R p e below s args y 3 8 (PreOf R mc ms Pc) (PostOf Qc mc ms free) (vx_Post XC mc ms free) := vx_backW (hh := hh) (bytes := bytes) (maxL := maxL) (ret := ret) hM hp.1 hrc hrs hfr hlo hws hcw (fun a' U hW => word_at hW (Or.inl (by first | rfl | simp [Cond.onTables, Cond.keeps, Cond.steady])) hini)
  obtain ⟨hx, hb, hml, ho, -⟩ := S
  intro T hT X
  rcases vx_callSX X hx (hh := hh) (bytes := bytes) (maxL := maxL) (ret := ret) ho hl hstt hini hcode hy hK hg (hsize.trans hml.symm) (argsL := As) (rest := rest) (fun sig h => hn.trans (hlen sig h)) hstack hW (by rw [hb]; exact hdg)
    (fun vm₁ hW₁ => ⟨hf.1, hf.2, hp.2 (T.setVm vm₁) hT hW₁⟩) with ⟨v, vm₁, ⟨U', l2, c2, s2⟩, hW₁, X', ⟨g', mk, t, L, e1, e2, hq, h1, hL, h2, h3⟩, st⟩ | ⟨q, vm₁, ⟨U', l2, c2, s2⟩, hW₁, X', ⟨g', mk, t, L, E, ce, e1, e2, hq, hce, hcv, hcl, h1, hL, h2, h3⟩, st⟩
  · dsimp only [Pt.U, Pt.locs, Pt.cells, Pt.slots] at X' e1 e2 h1 h2 h3 st
    subst h1; subst h2; subst h3
    exact Or.inl ⟨v, (T.setVm vm₁).calling g' mk As.toArray, t, U', L, hT, X', hL, e1, e2, hq, st⟩
  · dsimp only [Pt.U, Pt.locs, Pt.cells, Pt.slots] at X' e1 e2 h1 h2 h3 st hcl
    subst h1; subst h2; subst h3
    exact Or.inr ⟨q, (T.setVm vm₁).calling g' mk As.toArray, t, U', L, E, ce, hT, X', hL, e1, e2, hq, hce, hcv, vx_cls hW₁ hcl, st⟩
end
end VXH
theorem vx_ofWH {l : Launch} {y : MethodName} {ws ws' : List Cond} {rm : Room} {Pc : Array Value → State → Prop} {Qc : Array Value → State → Outcome → State → Prop} {XC : String → State → State → Prop} {mc ms : Nat} {free : Addr → Prop} {cc : ByteArray} {maxL : Nat} {ret : Option FieldType} {hh : List (Nat × Nat × Nat × Nat)}
    (hy : plainName y.cls = true) (hw : ws = Cond.codeWith y cc maxL ret hh :: ws')
    (body : ∀ p e s m args below meth c s₁, BodyLoose p l y (headSpec ws rm) cc maxL ret e s m args below meth c s₁ → c.maxLocals = maxL → Pc args s →
      W p l e (headSpec ws rm).room s m args below meth c s.heap [] 0 0 (vx_MQ below Qc XC args s mc ms free) (entryFrame m args maxL)) : vx_Met l y ws rm Pc Qc XC mc ms free := by
  refine MetFree.of_bodyS (code := cc) (maxLocals := maxL) (ret := ret) hy ?_ ?_
  · intro args s m h hn
    obtain ⟨m9, meth, c, hn9, h1, h2, h3, h4, -, h5, h6, -⟩ := Cond.codeWith_spec (atoms_spec (ws := ws) h _ (by rw [hw]; exact List.mem_cons_self))
    cases hn.symm.trans hn9
    exact ⟨meth, c, h1, h2, h3, h4, h5, h6⟩
  · intro p e s m args below meth c s₁ B hml hP _
    have hh0 : s₁.heap = s.heap := by rw [B.state]; rfl
    obtain ⟨t, a1, o, b1, b2, b3⟩ := body p e s m args below meth c s₁ B hml hP s₁ hh0 (Stand.of_body B)
    exact ⟨t, o, a1, b1, b2, b3⟩
/-! ===== END ===== -/
end
section
/-! ===== BEGIN printed: names, fields, word lists, decode rows ===== -/
def RX0 : String := "StoutShelf$Catalogue"
def TX0 : u_T := fun k => match k with
  | 0 => ("StoutShelf$Catalogue", "told", "LStoutShelf$Told;", true)
  | 1 => ("StoutShelf$Catalogue", "now", "LStoutShelf$Standing;", true)
  | 2 => ("StoutShelf$Catalogue", "sets", "[I", true)
  | 3 => ("StoutShelf$Catalogue", "before", "[I", true)
  | _ => ("StoutShelf$Catalogue", "behind", "[I", true)
def tyX0 : Nat → FieldType := fun k => match k with
  | 0 => .object "StoutShelf$Told"
  | 1 => .object "StoutShelf$Standing"
  | 2 => .array .int
  | 3 => .array .int
  | _ => .array .int
abbrev wsX00 : List Cond := u_ws RX0 TX0 5
theorem nmX0 : ∀ a, a < 5 → ∀ b, b < 5 → a ≠ b → (TX0 a).2.1 ≠ (TX0 b).2.1 := by decide +kernel
theorem tyX0_ok : ∀ k, k < 5 → parseFieldDescriptor (TX0 k).2.2.1 = some (tyX0 k) := by decide +kernel
abbrev cX0_init : ByteArray := prog_2_method_1_code
def yX0_init : MethodName := ⟨RX0, "<init>", "(LStoutShelf$Told;LStoutShelf$Standing;)V"⟩
abbrev cX0_ordersOfAll : ByteArray := prog_2_method_2_code
def yX0_ordersOfAll : MethodName := ⟨RX0, "ordersOfAll", "()I"⟩
abbrev cX0_ordersWith : ByteArray := prog_2_method_3_code
def yX0_ordersWith : MethodName := ⟨RX0, "ordersWith", "(II)I"⟩
abbrev cX0_smallestKnot : ByteArray := prog_2_method_4_code
def yX0_smallestKnot : MethodName := ⟨RX0, "smallestKnot", "()I"⟩
abbrev cX0_allEvents : ByteArray := prog_2_method_5_code
def yX0_allEvents : MethodName := ⟨RX0, "allEvents", "()I"⟩
abbrev cX0_reckonBefore : ByteArray := prog_2_method_6_code
def yX0_reckonBefore : MethodName := ⟨RX0, "reckonBefore", "(I)V"⟩
abbrev cX0_reckonBehind : ByteArray := prog_2_method_7_code
def yX0_reckonBehind : MethodName := ⟨RX0, "reckonBehind", "(I)V"⟩
abbrev cX0_goTo : ByteArray := prog_2_method_8_code
def yX0_goTo : MethodName := ⟨RX0, "goTo", "(I)V"⟩
abbrev cX0_canFollow : ByteArray := prog_2_method_9_code
def yX0_canFollow : MethodName := ⟨RX0, "canFollow", "(II)Z"⟩
def RX1 : String := "StoutShelf$Law"
def TX1 : u_T := fun k => match k with
  | 0 => ("StoutShelf$Law", "code", "[I", true)
  | 1 => ("StoutShelf$Law", "size", "I", false)
  | 2 => ("StoutShelf$Law", "stack", "[I", true)
  | _ => ("StoutShelf$Law", "top", "I", false)
def tyX1 : Nat → FieldType := fun k => match k with
  | 0 => .array .int
  | 1 => .int
  | 2 => .array .int
  | _ => .int
abbrev wsX10 : List Cond := u_ws RX1 TX1 4
theorem nmX1 : ∀ a, a < 4 → ∀ b, b < 4 → a ≠ b → (TX1 a).2.1 ≠ (TX1 b).2.1 := by decide +kernel
theorem tyX1_ok : ∀ k, k < 4 → parseFieldDescriptor (TX1 k).2.2.1 = some (tyX1 k) := by decide +kernel
abbrev cX1_init : ByteArray := prog_3_method_1_code
def yX1_init : MethodName := ⟨RX1, "<init>", "()V"⟩
abbrev cX1_clear : ByteArray := prog_3_method_2_code
def yX1_clear : MethodName := ⟨RX1, "clear", "()V"⟩
abbrev cX1_add : ByteArray := prog_3_method_3_code
def yX1_add : MethodName := ⟨RX1, "add", "(I)V"⟩
abbrev cX1_take : ByteArray := prog_3_method_4_code
def yX1_take : MethodName := ⟨RX1, "take", "(LStoutShelf$Law;)V"⟩
abbrev cX1_reckon : ByteArray := prog_3_method_5_code
def yX1_reckon : MethodName := ⟨RX1, "reckon", "(IIII)I"⟩
abbrev cX1_push : ByteArray := prog_3_method_6_code
def yX1_push : MethodName := ⟨RX1, "push", "(I)V"⟩
abbrev cX1_turn : ByteArray := prog_3_method_7_code
def yX1_turn : MethodName := ⟨RX1, "turn", "()V"⟩
abbrev cX1_choose : ByteArray := prog_3_method_8_code
def yX1_choose : MethodName := ⟨RX1, "choose", "()V"⟩
abbrev cX1_work : ByteArray := prog_3_method_9_code
def yX1_work : MethodName := ⟨RX1, "work", "(I)V"⟩
abbrev cX1_join : ByteArray := prog_3_method_10_code
def yX1_join : MethodName := ⟨RX1, "join", "(III)I"⟩
abbrev cX1_bit : ByteArray := prog_3_method_11_code
def yX1_bit : MethodName := ⟨RX1, "bit", "(Z)I"⟩
def RX2 : String := "StoutShelf$Pair"
def TX2 : u_T := fun k => match k with
  | 0 => ("StoutShelf$Pair", "told", "LStoutShelf$Told;", true)
  | 1 => ("StoutShelf$Pair", "states", "[I", true)
  | 2 => ("StoutShelf$Pair", "table", "[I", true)
  | 3 => ("StoutShelf$Pair", "count", "I", false)
  | _ => ("StoutShelf$Pair", "spent", "Z", false)
def tyX2 : Nat → FieldType := fun k => match k with
  | 0 => .object "StoutShelf$Told"
  | 1 => .array .int
  | 2 => .array .int
  | 3 => .int
  | _ => .boolean
abbrev wsX20 : List Cond := u_ws RX2 TX2 5
theorem nmX2 : ∀ a, a < 5 → ∀ b, b < 5 → a ≠ b → (TX2 a).2.1 ≠ (TX2 b).2.1 := by decide +kernel
theorem tyX2_ok : ∀ k, k < 5 → parseFieldDescriptor (TX2 k).2.2.1 = some (tyX2 k) := by decide +kernel
abbrev cX2_init : ByteArray := prog_4_method_1_code
def yX2_init : MethodName := ⟨RX2, "<init>", "(LStoutShelf$Told;)V"⟩
abbrev cX2_fewestMoves : ByteArray := prog_4_method_2_code
def yX2_fewestMoves : MethodName := ⟨RX2, "fewestMoves", "(IIII)I"⟩
abbrev cX2_goOn : ByteArray := prog_4_method_3_code
def yX2_goOn : MethodName := ⟨RX2, "goOn", "(III)V"⟩
abbrev cX2_tradeForEach : ByteArray := prog_4_method_4_code
def yX2_tradeForEach : MethodName := ⟨RX2, "tradeForEach", "(IIIIII)V"⟩
abbrev cX2_meet : ByteArray := prog_4_method_5_code
def yX2_meet : MethodName := ⟨RX2, "meet", "(II)V"⟩
abbrev cX2_meetNew : ByteArray := prog_4_method_6_code
def yX2_meetNew : MethodName := ⟨RX2, "meetNew", "(II)V"⟩
def RX3 : String := "StoutShelf$Reading"
def TX3 : u_T := fun k => match k with
  | 0 => ("StoutShelf$Reading", "text", "LStoutShelf$Text;", true)
  | 1 => ("StoutShelf$Reading", "draft", "LStoutShelf$Told;", true)
  | 2 => ("StoutShelf$Reading", "found", "I", false)
  | _ => ("StoutShelf$Reading", "place", "I", false)
def tyX3 : Nat → FieldType := fun k => match k with
  | 0 => .object "StoutShelf$Text"
  | 1 => .object "StoutShelf$Told"
  | 2 => .int
  | _ => .int
abbrev wsX30 : List Cond := u_ws RX3 TX3 4
theorem nmX3 : ∀ a, a < 4 → ∀ b, b < 4 → a ≠ b → (TX3 a).2.1 ≠ (TX3 b).2.1 := by decide +kernel
theorem tyX3_ok : ∀ k, k < 4 → parseFieldDescriptor (TX3 k).2.2.1 = some (tyX3 k) := by decide +kernel
abbrev cX3_init : ByteArray := prog_5_method_1_code
def yX3_init : MethodName := ⟨RX3, "<init>", "(LStoutShelf$Text;LStoutShelf$Told;)V"⟩
abbrev cX3_readAll : ByteArray := prog_5_method_2_code
def yX3_readAll : MethodName := ⟨RX3, "readAll", "(I)I"⟩
abbrev cX3_refuse : ByteArray := prog_5_method_3_code
def yX3_refuse : MethodName := ⟨RX3, "refuse", "(I)Z"⟩
abbrev cX3_readReader : ByteArray := prog_5_method_4_code
def yX3_readReader : MethodName := ⟨RX3, "readReader", "()Z"⟩
abbrev cX3_readBook : ByteArray := prog_5_method_5_code
def yX3_readBook : MethodName := ⟨RX3, "readBook", "()Z"⟩
abbrev cX3_readPart : ByteArray := prog_5_method_6_code
def yX3_readPart : MethodName := ⟨RX3, "readPart", "(II)Z"⟩
abbrev cX3_readPerhaps : ByteArray := prog_5_method_7_code
def yX3_readPerhaps : MethodName := ⟨RX3, "readPerhaps", "(Ljava/lang/String;I)Z"⟩
abbrev cX3_readOwner : ByteArray := prog_5_method_8_code
def yX3_readOwner : MethodName := ⟨RX3, "readOwner", "(I)Z"⟩
abbrev cX3_readWants : ByteArray := prog_5_method_9_code
def yX3_readWants : MethodName := ⟨RX3, "readWants", "()Z"⟩
abbrev cX3_readLaw : ByteArray := prog_5_method_10_code
def yX3_readLaw : MethodName := ⟨RX3, "readLaw", "()Z"⟩
abbrev cX3_readExpr : ByteArray := prog_5_method_11_code
def yX3_readExpr : MethodName := ⟨RX3, "readExpr", "(I)Z"⟩
abbrev cX3_readLevel : ByteArray := prog_5_method_12_code
def yX3_readLevel : MethodName := ⟨RX3, "readLevel", "(II)Z"⟩
abbrev cX3_operatorOf : ByteArray := prog_5_method_13_code
def yX3_operatorOf : MethodName := ⟨RX3, "operatorOf", "(I)I"⟩
abbrev cX3_readTest : ByteArray := prog_5_method_14_code
def yX3_readTest : MethodName := ⟨RX3, "readTest", "(I)Z"⟩
abbrev cX3_readSingle : ByteArray := prog_5_method_15_code
def yX3_readSingle : MethodName := ⟨RX3, "readSingle", "(I)Z"⟩
abbrev cX3_readIf : ByteArray := prog_5_method_16_code
def yX3_readIf : MethodName := ⟨RX3, "readIf", "(I)Z"⟩
abbrev cX3_readValue : ByteArray := prog_5_method_17_code
def yX3_readValue : MethodName := ⟨RX3, "readValue", "()Z"⟩
abbrev cX3_needNumber : ByteArray := prog_5_method_18_code
def yX3_needNumber : MethodName := ⟨RX3, "needNumber", "()Z"⟩
abbrev cX3_needToldAhead : ByteArray := prog_5_method_19_code
def yX3_needToldAhead : MethodName := ⟨RX3, "needToldAhead", "(I)Z"⟩
abbrev cX3_needSign : ByteArray := prog_5_method_20_code
def yX3_needSign : MethodName := ⟨RX3, "needSign", "(C)Z"⟩
abbrev cX3_needWord : ByteArray := prog_5_method_21_code
def yX3_needWord : MethodName := ⟨RX3, "needWord", "(Ljava/lang/String;)Z"⟩
def RX4 : String := "StoutShelf$Standing"
def TX4 : u_T := fun k => match k with
  | 0 => ("StoutShelf$Standing", "sets", "[I", true)
  | 1 => ("StoutShelf$Standing", "moves", "[I", true)
  | 2 => ("StoutShelf$Standing", "moveCount", "I", false)
  | 3 => ("StoutShelf$Standing", "events", "[I", true)
  | _ => ("StoutShelf$Standing", "eventCount", "I", false)
def tyX4 : Nat → FieldType := fun k => match k with
  | 0 => .array .int
  | 1 => .array .int
  | 2 => .int
  | 3 => .array .int
  | _ => .int
abbrev wsX40 : List Cond := u_ws RX4 TX4 5
theorem nmX4 : ∀ a, a < 5 → ∀ b, b < 5 → a ≠ b → (TX4 a).2.1 ≠ (TX4 b).2.1 := by decide +kernel
theorem tyX4_ok : ∀ k, k < 5 → parseFieldDescriptor (TX4 k).2.2.1 = some (tyX4 k) := by decide +kernel
abbrev cX4_init : ByteArray := prog_6_method_1_code
def yX4_init : MethodName := ⟨RX4, "<init>", "()V"⟩
abbrev cX4_begin : ByteArray := prog_6_method_2_code
def yX4_begin : MethodName := ⟨RX4, "begin", "([I)V"⟩
abbrev cX4_take : ByteArray := prog_6_method_3_code
def yX4_take : MethodName := ⟨RX4, "take", "(LStoutShelf$Standing;)V"⟩
abbrev cX4_writeMove : ByteArray := prog_6_method_4_code
def yX4_writeMove : MethodName := ⟨RX4, "writeMove", "(IIII)V"⟩
abbrev cX4_takeBackMove : ByteArray := prog_6_method_5_code
def yX4_takeBackMove : MethodName := ⟨RX4, "takeBackMove", "()V"⟩
abbrev cX4_tradeMove : ByteArray := prog_6_method_6_code
def yX4_tradeMove : MethodName := ⟨RX4, "tradeMove", "(I)V"⟩
abbrev cX4_writeEvent : ByteArray := prog_6_method_7_code
def yX4_writeEvent : MethodName := ⟨RX4, "writeEvent", "(III)V"⟩
abbrev cX4_changesOf : ByteArray := prog_6_method_8_code
def yX4_changesOf : MethodName := ⟨RX4, "changesOf", "(I)I"⟩
abbrev cX4_placeAfterChange : ByteArray := prog_6_method_9_code
def yX4_placeAfterChange : MethodName := ⟨RX4, "placeAfterChange", "(II)I"⟩
abbrev cX4_isMoved : ByteArray := prog_6_method_10_code
def yX4_isMoved : MethodName := ⟨RX4, "isMoved", "(II)Z"⟩
def RX5 : String := "StoutShelf$Text"
def TX5 : u_T := fun k => match k with
  | 0 => ("StoutShelf$Text", "bytes", "[B", true)
  | 1 => ("StoutShelf$Text", "size", "I", false)
  | 2 => ("StoutShelf$Text", "kind", "I", false)
  | 3 => ("StoutShelf$Text", "from", "I", false)
  | 4 => ("StoutShelf$Text", "number", "I", false)
  | 5 => ("StoutShelf$Text", "to", "I", false)
  | _ => ("StoutShelf$Text", "length", "I", false)
def tyX5 : Nat → FieldType := fun k => match k with
  | 0 => .array .byte
  | 1 => .int
  | 2 => .int
  | 3 => .int
  | 4 => .int
  | 5 => .int
  | _ => .int
abbrev wsX50 : List Cond := u_ws RX5 TX5 7
theorem nmX5 : ∀ a, a < 7 → ∀ b, b < 7 → a ≠ b → (TX5 a).2.1 ≠ (TX5 b).2.1 := by decide +kernel
theorem tyX5_ok : ∀ k, k < 7 → parseFieldDescriptor (TX5 k).2.2.1 = some (tyX5 k) := by decide +kernel
abbrev cX5_init : ByteArray := prog_7_method_1_code
def yX5_init : MethodName := ⟨RX5, "<init>", "()V"⟩
abbrev cX5_put : ByteArray := prog_7_method_2_code
def yX5_put : MethodName := ⟨RX5, "put", "(I)V"⟩
abbrev cX5_begin : ByteArray := prog_7_method_3_code
def yX5_begin : MethodName := ⟨RX5, "begin", "(I)V"⟩
abbrev cX5_next : ByteArray := prog_7_method_4_code
def yX5_next : MethodName := ⟨RX5, "next", "()V"⟩
abbrev cX5_isWord : ByteArray := prog_7_method_5_code
def yX5_isWord : MethodName := ⟨RX5, "isWord", "(Ljava/lang/String;)Z"⟩
abbrev cX5_isSign : ByteArray := prog_7_method_6_code
def yX5_isSign : MethodName := ⟨RX5, "isSign", "(C)Z"⟩
abbrev cX5_at : ByteArray := prog_7_method_7_code
def yX5_at : MethodName := ⟨RX5, "at", "(I)I"⟩
abbrev cX5_isBlank : ByteArray := prog_7_method_8_code
def yX5_isBlank : MethodName := ⟨RX5, "isBlank", "(I)Z"⟩
abbrev cX5_isLetter : ByteArray := prog_7_method_9_code
def yX5_isLetter : MethodName := ⟨RX5, "isLetter", "(I)Z"⟩
abbrev cX5_isDigit : ByteArray := prog_7_method_10_code
def yX5_isDigit : MethodName := ⟨RX5, "isDigit", "(I)Z"⟩
def RX6 : String := "StoutShelf$Told"
def TX6 : u_T := fun k => match k with
  | 0 => ("StoutShelf$Told", "books", "I", false)
  | 1 => ("StoutShelf$Told", "readers", "I", false)
  | 2 => ("StoutShelf$Told", "lawTold", "Z", false)
  | 3 => ("StoutShelf$Told", "law", "LStoutShelf$Law;", true)
  | 4 => ("StoutShelf$Told", "parts", "[I", true)
  | 5 => ("StoutShelf$Told", "wants", "[I", true)
  | 6 => ("StoutShelf$Told", "first", "[I", true)
  | 7 => ("StoutShelf$Told", "pages", "[I", true)
  | _ => ("StoutShelf$Told", "fewer", "[I", true)
def tyX6 : Nat → FieldType := fun k => match k with
  | 0 => .int
  | 1 => .int
  | 2 => .boolean
  | 3 => .object "StoutShelf$Law"
  | 4 => .array .int
  | 5 => .array .int
  | 6 => .array .int
  | 7 => .array .int
  | _ => .array .int
abbrev wsX60 : List Cond := u_ws RX6 TX6 9
theorem nmX6 : ∀ a, a < 9 → ∀ b, b < 9 → a ≠ b → (TX6 a).2.1 ≠ (TX6 b).2.1 := by decide +kernel
theorem tyX6_ok : ∀ k, k < 9 → parseFieldDescriptor (TX6 k).2.2.1 = some (tyX6 k) := by decide +kernel
abbrev cX6_init : ByteArray := prog_8_method_1_code
def yX6_init : MethodName := ⟨RX6, "<init>", "()V"⟩
abbrev cX6_clear : ByteArray := prog_8_method_2_code
def yX6_clear : MethodName := ⟨RX6, "clear", "()V"⟩
abbrev cX6_take : ByteArray := prog_8_method_3_code
def yX6_take : MethodName := ⟨RX6, "take", "(LStoutShelf$Told;)V"⟩
abbrev cX6_reckon : ByteArray := prog_8_method_4_code
def yX6_reckon : MethodName := ⟨RX6, "reckon", "()V"⟩
abbrev cX6_pagesWithMore : ByteArray := prog_8_method_5_code
def yX6_pagesWithMore : MethodName := ⟨RX6, "pagesWithMore", "(II)I"⟩
abbrev cX6_pagesBound : ByteArray := prog_8_method_6_code
def yX6_pagesBound : MethodName := ⟨RX6, "pagesBound", "(II)I"⟩
abbrev cX6_pagesTogether : ByteArray := prog_8_method_7_code
def yX6_pagesTogether : MethodName := ⟨RX6, "pagesTogether", "(I)I"⟩
abbrev cX6_booksUnder : ByteArray := prog_8_method_8_code
def yX6_booksUnder : MethodName := ⟨RX6, "booksUnder", "(I)I"⟩
abbrev cX6_takeableFor : ByteArray := prog_8_method_9_code
def yX6_takeableFor : MethodName := ⟨RX6, "takeableFor", "(I)I"⟩
abbrev cX6_troubleOf : ByteArray := prog_8_method_10_code
def yX6_troubleOf : MethodName := ⟨RX6, "troubleOf", "([IIII)I"⟩
abbrev cX6_isServed : ByteArray := prog_8_method_11_code
def yX6_isServed : MethodName := ⟨RX6, "isServed", "([II)Z"⟩
def RX7 : String := "StoutShelf$Week"
def TX7 : u_T := fun k => match k with
  | 0 => ("StoutShelf$Week", "told", "LStoutShelf$Told;", true)
  | 1 => ("StoutShelf$Week", "sets", "[I", true)
  | 2 => ("StoutShelf$Week", "tried", "[I", true)
  | 3 => ("StoutShelf$Week", "best", "[I", true)
  | 4 => ("StoutShelf$Week", "bestCount", "I", false)
  | 5 => ("StoutShelf$Week", "bestServed", "I", false)
  | 6 => ("StoutShelf$Week", "tries", "I", false)
  | 7 => ("StoutShelf$Week", "kept", "[I", true)
  | _ => ("StoutShelf$Week", "keptCount", "I", false)
def tyX7 : Nat → FieldType := fun k => match k with
  | 0 => .object "StoutShelf$Told"
  | 1 => .array .int
  | 2 => .array .int
  | 3 => .array .int
  | 4 => .int
  | 5 => .int
  | 6 => .int
  | 7 => .array .int
  | _ => .int
abbrev wsX70 : List Cond := u_ws RX7 TX7 9
theorem nmX7 : ∀ a, a < 9 → ∀ b, b < 9 → a ≠ b → (TX7 a).2.1 ≠ (TX7 b).2.1 := by decide +kernel
theorem tyX7_ok : ∀ k, k < 9 → parseFieldDescriptor (TX7 k).2.2.1 = some (tyX7 k) := by decide +kernel
abbrev cX7_init : ByteArray := prog_9_method_1_code
def yX7_init : MethodName := ⟨RX7, "<init>", "(LStoutShelf$Told;)V"⟩
abbrev cX7_plan : ByteArray := prog_9_method_2_code
def yX7_plan : MethodName := ⟨RX7, "plan", "([I)I"⟩
abbrev cX7_tryPlace : ByteArray := prog_9_method_3_code
def yX7_tryPlace : MethodName := ⟨RX7, "tryPlace", "(II)V"⟩
abbrev cX7_tryReader : ByteArray := prog_9_method_4_code
def yX7_tryReader : MethodName := ⟨RX7, "tryReader", "(III)V"⟩
abbrev cX7_tryExchange : ByteArray := prog_9_method_5_code
def yX7_tryExchange : MethodName := ⟨RX7, "tryExchange", "(IIIII)V"⟩
abbrev cX7_weigh : ByteArray := prog_9_method_6_code
def yX7_weigh : MethodName := ⟨RX7, "weigh", "(I)V"⟩
def RX8 : String := "StoutShelf"
def TX8 : u_T := fun k => match k with
  | 0 => ("StoutShelf", "text", "LStoutShelf$Text;", true)
  | 1 => ("StoutShelf", "draft", "LStoutShelf$Told;", true)
  | 2 => ("StoutShelf", "told", "LStoutShelf$Told;", true)
  | 3 => ("StoutShelf", "reading", "LStoutShelf$Reading;", true)
  | 4 => ("StoutShelf", "now", "LStoutShelf$Standing;", true)
  | 5 => ("StoutShelf", "kept", "LStoutShelf$Standing;", true)
  | 6 => ("StoutShelf", "weeks", "LStoutShelf$Week;", true)
  | 7 => ("StoutShelf", "pair", "LStoutShelf$Pair;", true)
  | 8 => ("StoutShelf", "catalogue", "LStoutShelf$Catalogue;", true)
  | 9 => ("StoutShelf", "takeable", "[I", true)
  | 10 => ("StoutShelf", "imaged", "Z", false)
  | 11 => ("StoutShelf", "faultPlace", "I", false)
  | 12 => ("StoutShelf", "textsRefused", "I", false)
  | 13 => ("StoutShelf", "movesRefused", "I", false)
  | _ => ("StoutShelf", "eventsRefused", "I", false)
def tyX8 : Nat → FieldType := fun k => match k with
  | 0 => .object "StoutShelf$Text"
  | 1 => .object "StoutShelf$Told"
  | 2 => .object "StoutShelf$Told"
  | 3 => .object "StoutShelf$Reading"
  | 4 => .object "StoutShelf$Standing"
  | 5 => .object "StoutShelf$Standing"
  | 6 => .object "StoutShelf$Week"
  | 7 => .object "StoutShelf$Pair"
  | 8 => .object "StoutShelf$Catalogue"
  | 9 => .array .int
  | 10 => .boolean
  | 11 => .int
  | 12 => .int
  | 13 => .int
  | _ => .int
abbrev wsX80 : List Cond := u_ws RX8 TX8 15
theorem nmX8 : ∀ a, a < 15 → ∀ b, b < 15 → a ≠ b → (TX8 a).2.1 ≠ (TX8 b).2.1 := by decide +kernel
theorem tyX8_ok : ∀ k, k < 15 → parseFieldDescriptor (TX8 k).2.2.1 = some (tyX8 k) := by decide +kernel
abbrev cX8_init : ByteArray := prog_1_method_1_code
def yX8_init : MethodName := ⟨RX8, "<init>", "()V"⟩
abbrev cX8_feed : ByteArray := prog_1_method_2_code
def yX8_feed : MethodName := ⟨RX8, "feed", "(IIIII)I"⟩
abbrev cX8_library : ByteArray := prog_1_method_3_code
def yX8_library : MethodName := ⟨RX8, "library", "(I)I"⟩
abbrev cX8_fault : ByteArray := prog_1_method_4_code
def yX8_fault : MethodName := ⟨RX8, "fault", "()I"⟩
abbrev cX8_count : ByteArray := prog_1_method_5_code
def yX8_count : MethodName := ⟨RX8, "count", "(I)I"⟩
abbrev cX8_book : ByteArray := prog_1_method_6_code
def yX8_book : MethodName := ⟨RX8, "book", "(II)I"⟩
abbrev cX8_reader : ByteArray := prog_1_method_7_code
def yX8_reader : MethodName := ⟨RX8, "reader", "(II)I"⟩
abbrev cX8_exchange : ByteArray := prog_1_method_8_code
def yX8_exchange : MethodName := ⟨RX8, "exchange", "(III)I"⟩
abbrev cX8_swap : ByteArray := prog_1_method_9_code
def yX8_swap : MethodName := ⟨RX8, "swap", "(IIII)I"⟩
abbrev cX8_judge : ByteArray := prog_1_method_10_code
def yX8_judge : MethodName := ⟨RX8, "judge", "(III)I"⟩
abbrev cX8_undo : ByteArray := prog_1_method_11_code
def yX8_undo : MethodName := ⟨RX8, "undo", "()I"⟩
abbrev cX8_move : ByteArray := prog_1_method_12_code
def yX8_move : MethodName := ⟨RX8, "move", "(II)I"⟩
abbrev cX8_reach : ByteArray := prog_1_method_13_code
def yX8_reach : MethodName := ⟨RX8, "reach", "(I)I"⟩
abbrev cX8_way : ByteArray := prog_1_method_14_code
def yX8_way : MethodName := ⟨RX8, "way", "(II)I"⟩
abbrev cX8_together : ByteArray := prog_1_method_15_code
def yX8_together : MethodName := ⟨RX8, "together", "(III)I"⟩
abbrev cX8_week : ByteArray := prog_1_method_16_code
def yX8_week : MethodName := ⟨RX8, "week", "()I"⟩
abbrev cX8_row : ByteArray := prog_1_method_17_code
def yX8_row : MethodName := ⟨RX8, "row", "(II)I"⟩
abbrev cX8_lost : ByteArray := prog_1_method_18_code
def yX8_lost : MethodName := ⟨RX8, "lost", "(II)I"⟩
abbrev cX8_worth : ByteArray := prog_1_method_19_code
def yX8_worth : MethodName := ⟨RX8, "worth", "(I)I"⟩
abbrev cX8_bind : ByteArray := prog_1_method_20_code
def yX8_bind : MethodName := ⟨RX8, "bind", "(II)I"⟩
abbrev cX8_fire : ByteArray := prog_1_method_21_code
def yX8_fire : MethodName := ⟨RX8, "fire", "(I)I"⟩
abbrev cX8_event : ByteArray := prog_1_method_22_code
def yX8_event : MethodName := ⟨RX8, "event", "(III)I"⟩
abbrev cX8_forget : ByteArray := prog_1_method_23_code
def yX8_forget : MethodName := ⟨RX8, "forget", "()I"⟩
abbrev cX8_orders : ByteArray := prog_1_method_24_code
def yX8_orders : MethodName := ⟨RX8, "orders", "()I"⟩
abbrev cX8_there : ByteArray := prog_1_method_25_code
def yX8_there : MethodName := ⟨RX8, "there", "(II)I"⟩
abbrev cX8_knot : ByteArray := prog_1_method_26_code
def yX8_knot : MethodName := ⟨RX8, "knot", "()I"⟩
abbrev cX8_hands : ByteArray := prog_1_method_27_code
def yX8_hands : MethodName := ⟨RX8, "hands", "(II)I"⟩
abbrev cX8_image : ByteArray := prog_1_method_28_code
def yX8_image : MethodName := ⟨RX8, "image", "()V"⟩
abbrev cX8_restore : ByteArray := prog_1_method_29_code
def yX8_restore : MethodName := ⟨RX8, "restore", "()Z"⟩
abbrev cX8_isBook : ByteArray := prog_1_method_30_code
def yX8_isBook : MethodName := ⟨RX8, "isBook", "(I)Z"⟩
abbrev cX8_isReader : ByteArray := prog_1_method_31_code
def yX8_isReader : MethodName := ⟨RX8, "isReader", "(I)Z"⟩
abbrev cX8_needBook : ByteArray := prog_1_method_32_code
def yX8_needBook : MethodName := ⟨RX8, "needBook", "(I)V"⟩
abbrev cX8_needReader : ByteArray := prog_1_method_33_code
def yX8_needReader : MethodName := ⟨RX8, "needReader", "(I)V"⟩
abbrev cX8_needWhat : ByteArray := prog_1_method_34_code
def yX8_needWhat : MethodName := ⟨RX8, "needWhat", "(II)V"⟩
abbrev cX8_troubleOfSwap : ByteArray := prog_1_method_35_code
def yX8_troubleOfSwap : MethodName := ⟨RX8, "troubleOfSwap", "(IIII)I"⟩
abbrev cX8_settle : ByteArray := prog_1_method_36_code
def yX8_settle : MethodName := ⟨RX8, "settle", "(IIIII)I"⟩
abbrev cX8_reachNow : ByteArray := prog_1_method_37_code
def yX8_reachNow : MethodName := ⟨RX8, "reachNow", "(I)I"⟩
abbrev cX8_reachIf : ByteArray := prog_1_method_38_code
def yX8_reachIf : MethodName := ⟨RX8, "reachIf", "(III)I"⟩
abbrev cX8_bindingPays : ByteArray := prog_1_method_39_code
def yX8_bindingPays : MethodName := ⟨RX8, "bindingPays", "(III)I"⟩
abbrev cX8_isLost : ByteArray := prog_1_method_40_code
def yX8_isLost : MethodName := ⟨RX8, "isLost", "(I)Z"⟩
abbrev cX8_freedBy : ByteArray := prog_1_method_41_code
def yX8_freedBy : MethodName := ⟨RX8, "freedBy", "(II)I"⟩
abbrev cX8_readersAbleWith : ByteArray := prog_1_method_42_code
def yX8_readersAbleWith : MethodName := ⟨RX8, "readersAbleWith", "(I)I"⟩
abbrev cX8_holds : ByteArray := prog_1_method_43_code
def yX8_holds : MethodName := ⟨RX8, "holds", "(II)Z"⟩
abbrev cX8_placeOf : ByteArray := prog_1_method_44_code
def yX8_placeOf : MethodName := ⟨RX8, "placeOf", "([II)I"⟩
abbrev cX8_trade : ByteArray := prog_1_method_45_code
def yX8_trade : MethodName := ⟨RX8, "trade", "([IIIII)V"⟩
def RX9 : String := "StoutShelfModel"
def TX9 : u_T := fun k => match k with
  | 0 => ("StoutShelfModel", "thrown", "I", false)
  | 1 => ("StoutShelfModel", "books", "I", false)
  | 2 => ("StoutShelfModel", "readers", "I", false)
  | 3 => ("StoutShelfModel", "book", "[I", true)
  | 4 => ("StoutShelfModel", "owner", "[I", true)
  | 5 => ("StoutShelfModel", "firstOwner", "[I", true)
  | 6 => ("StoutShelfModel", "wants", "[I", true)
  | 7 => ("StoutShelfModel", "code", "[I", true)
  | 8 => ("StoutShelfModel", "pages", "[I", true)
  | 9 => ("StoutShelfModel", "tape", "[I", true)
  | 10 => ("StoutShelfModel", "taped", "I", false)
  | 11 => ("StoutShelfModel", "faultKind", "I", false)
  | 12 => ("StoutShelfModel", "faultPlace", "I", false)
  | 13 => ("StoutShelfModel", "refused", "[I", true)
  | 14 => ("StoutShelfModel", "size", "I", false)
  | 15 => ("StoutShelfModel", "next", "I", false)
  | 16 => ("StoutShelfModel", "sort", "I", false)
  | 17 => ("StoutShelfModel", "place", "I", false)
  | 18 => ("StoutShelfModel", "long0", "I", false)
  | 19 => ("StoutShelfModel", "value", "I", false)
  | 20 => ("StoutShelfModel", "sign", "I", false)
  | 21 => ("StoutShelfModel", "word", "J", false)
  | 22 => ("StoutShelfModel", "newBooks", "I", false)
  | 23 => ("StoutShelfModel", "newReaders", "I", false)
  | 24 => ("StoutShelfModel", "top", "I", false)
  | 25 => ("StoutShelfModel", "waiting", "I", false)
  | 26 => ("StoutShelfModel", "depth", "I", false)
  | 27 => ("StoutShelfModel", "hasLaw", "Z", false)
  | 28 => ("StoutShelfModel", "newBook", "[I", true)
  | 29 => ("StoutShelfModel", "newOwner", "[I", true)
  | 30 => ("StoutShelfModel", "newWants", "[I", true)
  | 31 => ("StoutShelfModel", "readCode", "[I", true)
  | 32 => ("StoutShelfModel", "waits", "[I", true)
  | 33 => ("StoutShelfModel", "tested", "[Z", true)
  | 34 => ("StoutShelfModel", "pile", "[I", true)
  | 35 => ("StoutShelfModel", "moves", "I", false)
  | 36 => ("StoutShelfModel", "moved", "[I", true)
  | 37 => ("StoutShelfModel", "far", "[I", true)
  | 38 => ("StoutShelfModel", "queue", "[I", true)
  | 39 => ("StoutShelfModel", "its", "[I", true)
  | 40 => ("StoutShelfModel", "queued", "I", false)
  | 41 => ("StoutShelfModel", "states", "[I", true)
  | 42 => ("StoutShelfModel", "statesFar", "[I", true)
  | 43 => ("StoutShelfModel", "table", "[I", true)
  | 44 => ("StoutShelfModel", "many", "I", false)
  | 45 => ("StoutShelfModel", "isSpent", "Z", false)
  | 46 => ("StoutShelfModel", "trying", "[I", true)
  | 47 => ("StoutShelfModel", "rowOf", "[I", true)
  | 48 => ("StoutShelfModel", "tries", "I", false)
  | 49 => ("StoutShelfModel", "rowLong", "I", false)
  | 50 => ("StoutShelfModel", "hasRow", "Z", false)
  | 51 => ("StoutShelfModel", "keptRow", "[I", true)
  | 52 => ("StoutShelfModel", "keptLong", "I", false)
  | 53 => ("StoutShelfModel", "events", "I", false)
  | 54 => ("StoutShelfModel", "event", "[I", true)
  | 55 => ("StoutShelfModel", "order", "[I", true)
  | 56 => ("StoutShelfModel", "hasImage", "Z", false)
  | 57 => ("StoutShelfModel", "imageMoves", "I", false)
  | 58 => ("StoutShelfModel", "imageEvents", "I", false)
  | 59 => ("StoutShelfModel", "imageOwner", "[I", true)
  | 60 => ("StoutShelfModel", "imageMoved", "[I", true)
  | _ => ("StoutShelfModel", "imageEvent", "[I", true)
def tyX9 : Nat → FieldType := fun k => match k with
  | 0 => .int
  | 1 => .int
  | 2 => .int
  | 3 => .array .int
  | 4 => .array .int
  | 5 => .array .int
  | 6 => .array .int
  | 7 => .array .int
  | 8 => .array .int
  | 9 => .array .int
  | 10 => .int
  | 11 => .int
  | 12 => .int
  | 13 => .array .int
  | 14 => .int
  | 15 => .int
  | 16 => .int
  | 17 => .int
  | 18 => .int
  | 19 => .int
  | 20 => .int
  | 21 => .long
  | 22 => .int
  | 23 => .int
  | 24 => .int
  | 25 => .int
  | 26 => .int
  | 27 => .boolean
  | 28 => .array .int
  | 29 => .array .int
  | 30 => .array .int
  | 31 => .array .int
  | 32 => .array .int
  | 33 => .array .boolean
  | 34 => .array .int
  | 35 => .int
  | 36 => .array .int
  | 37 => .array .int
  | 38 => .array .int
  | 39 => .array .int
  | 40 => .int
  | 41 => .array .int
  | 42 => .array .int
  | 43 => .array .int
  | 44 => .int
  | 45 => .boolean
  | 46 => .array .int
  | 47 => .array .int
  | 48 => .int
  | 49 => .int
  | 50 => .boolean
  | 51 => .array .int
  | 52 => .int
  | 53 => .int
  | 54 => .array .int
  | 55 => .array .int
  | 56 => .boolean
  | 57 => .int
  | 58 => .int
  | 59 => .array .int
  | 60 => .array .int
  | _ => .array .int
abbrev wsX90 : List Cond := u_ws RX9 TX9 62
theorem nmX9 : ∀ a, a < 62 → ∀ b, b < 62 → a ≠ b → (TX9 a).2.1 ≠ (TX9 b).2.1 := by decide +kernel
theorem tyX9_ok : ∀ k, k < 62 → parseFieldDescriptor (TX9 k).2.2.1 = some (tyX9 k) := by decide +kernel
abbrev cX9_init : ByteArray := prog_11_method_1_code
def yX9_init : MethodName := ⟨RX9, "<init>", "()V"⟩
abbrev cX9_thrown : ByteArray := prog_11_method_2_code
def yX9_thrown : MethodName := ⟨RX9, "thrown", "()I"⟩
abbrev cX9_right : ByteArray := prog_11_method_3_code
def yX9_right : MethodName := ⟨RX9, "right", "(ZI)Z"⟩
abbrev cX9_within : ByteArray := prog_11_method_4_code
def yX9_within : MethodName := ⟨RX9, "within", "(III)Z"⟩
abbrev cX9_bits : ByteArray := prog_11_method_5_code
def yX9_bits : MethodName := ⟨RX9, "bits", "(I)I"⟩
abbrev cX9_copies : ByteArray := prog_11_method_6_code
def yX9_copies : MethodName := ⟨RX9, "copies", "([I[I)V"⟩
abbrev cX9_feed : ByteArray := prog_11_method_7_code
def yX9_feed : MethodName := ⟨RX9, "feed", "(IIIII)I"⟩
abbrev cX9_lays : ByteArray := prog_11_method_8_code
def yX9_lays : MethodName := ⟨RX9, "lays", "(I)V"⟩
abbrev cX9_byteAt : ByteArray := prog_11_method_9_code
def yX9_byteAt : MethodName := ⟨RX9, "byteAt", "(I)I"⟩
abbrev cX9_isLetter : ByteArray := prog_11_method_10_code
def yX9_isLetter : MethodName := ⟨RX9, "isLetter", "(I)Z"⟩
abbrev cX9_isDigit : ByteArray := prog_11_method_11_code
def yX9_isDigit : MethodName := ⟨RX9, "isDigit", "(I)Z"⟩
abbrev cX9_goes : ByteArray := prog_11_method_12_code
def yX9_goes : MethodName := ⟨RX9, "goes", "()V"⟩
abbrev cX9_spelled : ByteArray := prog_11_method_13_code
def yX9_spelled : MethodName := ⟨RX9, "spelled", "(IIIIII)J"⟩
abbrev cX9_letters : ByteArray := prog_11_method_14_code
def yX9_letters : MethodName := ⟨RX9, "letters", "(I)J"⟩
abbrev cX9_knownWord : ByteArray := prog_11_method_15_code
def yX9_knownWord : MethodName := ⟨RX9, "knownWord", "()I"⟩
abbrev cX9_wrong : ByteArray := prog_11_method_16_code
def yX9_wrong : MethodName := ⟨RX9, "wrong", "(I)V"⟩
abbrev cX9_isGood : ByteArray := prog_11_method_17_code
def yX9_isGood : MethodName := ⟨RX9, "isGood", "()Z"⟩
abbrev cX9_isSign : ByteArray := prog_11_method_18_code
def yX9_isSign : MethodName := ⟨RX9, "isSign", "(I)Z"⟩
abbrev cX9_need : ByteArray := prog_11_method_19_code
def yX9_need : MethodName := ⟨RX9, "need", "(Z)V"⟩
abbrev cX9_number : ByteArray := prog_11_method_20_code
def yX9_number : MethodName := ⟨RX9, "number", "(II)I"⟩
abbrev cX9_perhaps : ByteArray := prog_11_method_21_code
def yX9_perhaps : MethodName := ⟨RX9, "perhaps", "(I)I"⟩
abbrev cX9_amongHere : ByteArray := prog_11_method_22_code
def yX9_amongHere : MethodName := ⟨RX9, "amongHere", "(I)Z"⟩
abbrev cX9_among : ByteArray := prog_11_method_23_code
def yX9_among : MethodName := ⟨RX9, "among", "(I)I"⟩
abbrev cX9_puts : ByteArray := prog_11_method_24_code
def yX9_puts : MethodName := ⟨RX9, "puts", "(I)V"⟩
abbrev cX9_isOpen : ByteArray := prog_11_method_25_code
def yX9_isOpen : MethodName := ⟨RX9, "isOpen", "(I)Z"⟩
abbrev cX9_strength : ByteArray := prog_11_method_26_code
def yX9_strength : MethodName := ⟨RX9, "strength", "(I)I"⟩
abbrev cX9_drops : ByteArray := prog_11_method_27_code
def yX9_drops : MethodName := ⟨RX9, "drops", "(I)V"⟩
abbrev cX9_waitsFor : ByteArray := prog_11_method_28_code
def yX9_waitsFor : MethodName := ⟨RX9, "waitsFor", "(I)V"⟩
abbrev cX9_part : ByteArray := prog_11_method_29_code
def yX9_part : MethodName := ⟨RX9, "part", "()V"⟩
abbrev cX9_deeper : ByteArray := prog_11_method_30_code
def yX9_deeper : MethodName := ⟨RX9, "deeper", "()V"⟩
abbrev cX9_operand : ByteArray := prog_11_method_31_code
def yX9_operand : MethodName := ⟨RX9, "operand", "(Z)V"⟩
abbrev cX9_opened : ByteArray := prog_11_method_32_code
def yX9_opened : MethodName := ⟨RX9, "opened", "()I"⟩
abbrev cX9_turns : ByteArray := prog_11_method_33_code
def yX9_turns : MethodName := ⟨RX9, "turns", "(I)V"⟩
abbrev cX9_closes : ByteArray := prog_11_method_34_code
def yX9_closes : MethodName := ⟨RX9, "closes", "()V"⟩
abbrev cX9_expression : ByteArray := prog_11_method_35_code
def yX9_expression : MethodName := ⟨RX9, "expression", "()V"⟩
abbrev cX9_line : ByteArray := prog_11_method_36_code
def yX9_line : MethodName := ⟨RX9, "line", "()V"⟩
abbrev cX9_library : ByteArray := prog_11_method_37_code
def yX9_library : MethodName := ⟨RX9, "library", "(I)I"⟩
abbrev cX9_fault : ByteArray := prog_11_method_38_code
def yX9_fault : MethodName := ⟨RX9, "fault", "()I"⟩
abbrev cX9_works : ByteArray := prog_11_method_39_code
def yX9_works : MethodName := ⟨RX9, "works", "(III)I"⟩
abbrev cX9_reckons : ByteArray := prog_11_method_40_code
def yX9_reckons : MethodName := ⟨RX9, "reckons", "(IIII)I"⟩
abbrev cX9_hasOf : ByteArray := prog_11_method_41_code
def yX9_hasOf : MethodName := ⟨RX9, "hasOf", "(I)I"⟩
abbrev cX9_count : ByteArray := prog_11_method_42_code
def yX9_count : MethodName := ⟨RX9, "count", "(I)I"⟩
abbrev cX9_isBook : ByteArray := prog_11_method_43_code
def yX9_isBook : MethodName := ⟨RX9, "isBook", "(I)Z"⟩
abbrev cX9_isReader : ByteArray := prog_11_method_44_code
def yX9_isReader : MethodName := ⟨RX9, "isReader", "(I)Z"⟩
abbrev cX9_book : ByteArray := prog_11_method_45_code
def yX9_book : MethodName := ⟨RX9, "book", "(II)I"⟩
abbrev cX9_reader : ByteArray := prog_11_method_46_code
def yX9_reader : MethodName := ⟨RX9, "reader", "(II)I"⟩
abbrev cX9_isServed : ByteArray := prog_11_method_47_code
def yX9_isServed : MethodName := ⟨RX9, "isServed", "(I)Z"⟩
abbrev cX9_refuses : ByteArray := prog_11_method_48_code
def yX9_refuses : MethodName := ⟨RX9, "refuses", "(I)I"⟩
abbrev cX9_trouble : ByteArray := prog_11_method_49_code
def yX9_trouble : MethodName := ⟨RX9, "trouble", "(III)I"⟩
abbrev cX9_writes : ByteArray := prog_11_method_50_code
def yX9_writes : MethodName := ⟨RX9, "writes", "(IIII)I"⟩
abbrev cX9_exchange : ByteArray := prog_11_method_51_code
def yX9_exchange : MethodName := ⟨RX9, "exchange", "(III)I"⟩
abbrev cX9_swap : ByteArray := prog_11_method_52_code
def yX9_swap : MethodName := ⟨RX9, "swap", "(IIII)I"⟩
abbrev cX9_judge : ByteArray := prog_11_method_53_code
def yX9_judge : MethodName := ⟨RX9, "judge", "(III)I"⟩
abbrev cX9_undo : ByteArray := prog_11_method_54_code
def yX9_undo : MethodName := ⟨RX9, "undo", "()I"⟩
abbrev cX9_move : ByteArray := prog_11_method_55_code
def yX9_move : MethodName := ⟨RX9, "move", "(II)I"⟩
abbrev cX9_comesTo : ByteArray := prog_11_method_56_code
def yX9_comesTo : MethodName := ⟨RX9, "comesTo", "(II)I"⟩
abbrev cX9_reachOf : ByteArray := prog_11_method_57_code
def yX9_reachOf : MethodName := ⟨RX9, "reachOf", "(I)I"⟩
abbrev cX9_reach : ByteArray := prog_11_method_58_code
def yX9_reach : MethodName := ⟨RX9, "reach", "(I)I"⟩
abbrev cX9_way : ByteArray := prog_11_method_59_code
def yX9_way : MethodName := ⟨RX9, "way", "(II)I"⟩
abbrev cX9_comes : ByteArray := prog_11_method_60_code
def yX9_comes : MethodName := ⟨RX9, "comes", "(III)V"⟩
abbrev cX9_exchanges : ByteArray := prog_11_method_61_code
def yX9_exchanges : MethodName := ⟨RX9, "exchanges", "(IIIZI)V"⟩
abbrev cX9_together : ByteArray := prog_11_method_62_code
def yX9_together : MethodName := ⟨RX9, "together", "(III)I"⟩
abbrev cX9_served : ByteArray := prog_11_method_63_code
def yX9_served : MethodName := ⟨RX9, "served", "()I"⟩
abbrev cX9_isDoneBy : ByteArray := prog_11_method_64_code
def yX9_isDoneBy : MethodName := ⟨RX9, "isDoneBy", "(II)Z"⟩
abbrev cX9_week : ByteArray := prog_11_method_65_code
def yX9_week : MethodName := ⟨RX9, "week", "()I"⟩
abbrev cX9_canBe : ByteArray := prog_11_method_66_code
def yX9_canBe : MethodName := ⟨RX9, "canBe", "(I)Z"⟩
abbrev cX9_turns0 : ByteArray := prog_11_method_67_code
def yX9_turns0 : MethodName := ⟨RX9, "turns0", "(IZ)V"⟩
abbrev cX9_row : ByteArray := prog_11_method_68_code
def yX9_row : MethodName := ⟨RX9, "row", "(II)I"⟩
abbrev cX9_lost : ByteArray := prog_11_method_69_code
def yX9_lost : MethodName := ⟨RX9, "lost", "(II)I"⟩
abbrev cX9_worth : ByteArray := prog_11_method_70_code
def yX9_worth : MethodName := ⟨RX9, "worth", "(I)I"⟩
abbrev cX9_bind : ByteArray := prog_11_method_71_code
def yX9_bind : MethodName := ⟨RX9, "bind", "(II)I"⟩
abbrev cX9_fire : ByteArray := prog_11_method_72_code
def yX9_fire : MethodName := ⟨RX9, "fire", "(I)I"⟩
abbrev cX9_canTake : ByteArray := prog_11_method_73_code
def yX9_canTake : MethodName := ⟨RX9, "canTake", "(II)Z"⟩
abbrev cX9_event : ByteArray := prog_11_method_74_code
def yX9_event : MethodName := ⟨RX9, "event", "(III)I"⟩
abbrev cX9_forget : ByteArray := prog_11_method_75_code
def yX9_forget : MethodName := ⟨RX9, "forget", "()I"⟩
abbrev cX9_ways : ByteArray := prog_11_method_76_code
def yX9_ways : MethodName := ⟨RX9, "ways", "(IZII)I"⟩
abbrev cX9_orders : ByteArray := prog_11_method_77_code
def yX9_orders : MethodName := ⟨RX9, "orders", "()I"⟩
abbrev cX9_there : ByteArray := prog_11_method_78_code
def yX9_there : MethodName := ⟨RX9, "there", "(II)I"⟩
abbrev cX9_knot : ByteArray := prog_11_method_79_code
def yX9_knot : MethodName := ⟨RX9, "knot", "()I"⟩
abbrev cX9_hands : ByteArray := prog_11_method_80_code
def yX9_hands : MethodName := ⟨RX9, "hands", "(II)I"⟩
abbrev cX9_image : ByteArray := prog_11_method_81_code
def yX9_image : MethodName := ⟨RX9, "image", "()V"⟩
abbrev cX9_restore : ByteArray := prog_11_method_82_code
def yX9_restore : MethodName := ⟨RX9, "restore", "()Z"⟩
def RJx145de : String := "java/io/Serializable"
def TJx145de : u_T := fun k => match k with
  | _ => ("", "", "", false)
def tyJx145de : Nat → FieldType := fun k => match k with
  | _ => .int
abbrev wsJx145de0 : List Cond := u_ws RJx145de TJx145de 0
theorem nmJx145de : ∀ a, a < 0 → ∀ b, b < 0 → a ≠ b → (TJx145de a).2.1 ≠ (TJx145de b).2.1 := by decide +kernel
theorem tyJx145de_ok : ∀ k, k < 0 → parseFieldDescriptor (TJx145de k).2.2.1 = some (tyJx145de k) := by decide +kernel
def RJx9f9b0 : String := "java/lang/CharSequence"
def TJx9f9b0 : u_T := fun k => match k with
  | _ => ("", "", "", false)
def tyJx9f9b0 : Nat → FieldType := fun k => match k with
  | _ => .int
abbrev wsJx9f9b00 : List Cond := u_ws RJx9f9b0 TJx9f9b0 0
theorem nmJx9f9b0 : ∀ a, a < 0 → ∀ b, b < 0 → a ≠ b → (TJx9f9b0 a).2.1 ≠ (TJx9f9b0 b).2.1 := by decide +kernel
theorem tyJx9f9b0_ok : ∀ k, k < 0 → parseFieldDescriptor (TJx9f9b0 k).2.2.1 = some (tyJx9f9b0 k) := by decide +kernel
def RJxb160c : String := "java/lang/Comparable"
def TJxb160c : u_T := fun k => match k with
  | _ => ("", "", "", false)
def tyJxb160c : Nat → FieldType := fun k => match k with
  | _ => .int
abbrev wsJxb160c0 : List Cond := u_ws RJxb160c TJxb160c 0
theorem nmJxb160c : ∀ a, a < 0 → ∀ b, b < 0 → a ≠ b → (TJxb160c a).2.1 ≠ (TJxb160c b).2.1 := by decide +kernel
theorem tyJxb160c_ok : ∀ k, k < 0 → parseFieldDescriptor (TJxb160c k).2.2.1 = some (tyJxb160c k) := by decide +kernel
def RJ6 : String := "java/lang/Integer"
def TJ6 : u_T := fun k => match k with
  | _ => ("", "", "", false)
def tyJ6 : Nat → FieldType := fun k => match k with
  | _ => .int
abbrev wsJ60 : List Cond := u_ws RJ6 TJ6 0
theorem nmJ6 : ∀ a, a < 0 → ∀ b, b < 0 → a ≠ b → (TJ6 a).2.1 ≠ (TJ6 b).2.1 := by decide +kernel
theorem tyJ6_ok : ∀ k, k < 0 → parseFieldDescriptor (TJ6 k).2.2.1 = some (tyJ6 k) := by decide +kernel
abbrev cJ6_bitCount_0f7a4 : ByteArray := prog_17_method_49_code
def yJ6_bitCount_0f7a4 : MethodName := ⟨RJ6, "bitCount", "(I)I"⟩
def RJ9 : String := "java/lang/Math"
def TJ9 : u_T := fun k => match k with
  | _ => ("", "", "", false)
def tyJ9 : Nat → FieldType := fun k => match k with
  | _ => .int
abbrev wsJ90 : List Cond := u_ws RJ9 TJ9 0
theorem nmJ9 : ∀ a, a < 0 → ∀ b, b < 0 → a ≠ b → (TJ9 a).2.1 ≠ (TJ9 b).2.1 := by decide +kernel
theorem tyJ9_ok : ∀ k, k < 0 → parseFieldDescriptor (TJ9 k).2.2.1 = some (tyJ9 k) := by decide +kernel
abbrev cJ9_min_7cf53 : ByteArray := prog_18_method_69_code
def yJ9_min_7cf53 : MethodName := ⟨RJ9, "min", "(II)I"⟩
def RJ0 : String := "java/lang/String"
def TJ0 : u_T := fun k => match k with
  | _ => ("", "", "", false)
def tyJ0 : Nat → FieldType := fun k => match k with
  | _ => .int
abbrev wsJ00 : List Cond := u_ws RJ0 TJ0 0
theorem nmJ0 : ∀ a, a < 0 → ∀ b, b < 0 → a ≠ b → (TJ0 a).2.1 ≠ (TJ0 b).2.1 := by decide +kernel
theorem tyJ0_ok : ∀ k, k < 0 → parseFieldDescriptor (TJ0 k).2.2.1 = some (tyJ0 k) := by decide +kernel
abbrev cJ0_length_8abf5 : ByteArray := prog_20_method_54_code
def yJ0_length_8abf5 : MethodName := ⟨RJ0, "length", "()I"⟩
abbrev cJ0_charAt_5068e : ByteArray := prog_20_method_56_code
def yJ0_charAt_5068e : MethodName := ⟨RJ0, "charAt", "(I)C"⟩
abbrev cJ0_coder_7d493 : ByteArray := prog_20_method_152_code
def yJ0_coder_7d493 : MethodName := ⟨RJ0, "coder", "()B"⟩
abbrev cJ0_isLatin1_aae02 : ByteArray := prog_20_method_154_code
def yJ0_isLatin1_aae02 : MethodName := ⟨RJ0, "isLatin1", "()Z"⟩
abbrev cJ0_checkIndex_df160 : ByteArray := prog_20_method_155_code
def yJ0_checkIndex_df160 : MethodName := ⟨RJ0, "checkIndex", "(II)V"⟩
def RJ1 : String := "java/lang/StringLatin1"
def TJ1 : u_T := fun k => match k with
  | _ => ("", "", "", false)
def tyJ1 : Nat → FieldType := fun k => match k with
  | _ => .int
abbrev wsJ10 : List Cond := u_ws RJ1 TJ1 0
theorem nmJ1 : ∀ a, a < 0 → ∀ b, b < 0 → a ≠ b → (TJ1 a).2.1 ≠ (TJ1 b).2.1 := by decide +kernel
theorem tyJ1_ok : ∀ k, k < 0 → parseFieldDescriptor (TJ1 k).2.2.1 = some (tyJ1 k) := by decide +kernel
abbrev cJ1_charAt_3b067 : ByteArray := prog_21_method_2_code
def yJ1_charAt_3b067 : MethodName := ⟨RJ1, "charAt", "([BI)C"⟩
def RJ2 : String := "java/lang/StringUTF16"
def TJ2 : u_T := fun k => match k with
  | _ => ("", "", "", false)
def tyJ2 : Nat → FieldType := fun k => match k with
  | _ => .int
abbrev wsJ20 : List Cond := u_ws RJ2 TJ2 0
theorem nmJ2 : ∀ a, a < 0 → ∀ b, b < 0 → a ≠ b → (TJ2 a).2.1 ≠ (TJ2 b).2.1 := by decide +kernel
theorem tyJ2_ok : ∀ k, k < 0 → parseFieldDescriptor (TJ2 k).2.2.1 = some (tyJ2 k) := by decide +kernel
abbrev cJ2_getChar_3b067 : ByteArray := prog_22_method_5_code
def yJ2_getChar_3b067 : MethodName := ⟨RJ2, "getChar", "([BI)C"⟩
abbrev cJ2_length_9d52b : ByteArray := prog_22_method_6_code
def yJ2_length_9d52b : MethodName := ⟨RJ2, "length", "([B)I"⟩
abbrev cJ2_charAt_3b067 : ByteArray := prog_22_method_83_code
def yJ2_charAt_3b067 : MethodName := ⟨RJ2, "charAt", "([BI)C"⟩
abbrev cJ2_checkIndex_2214a : ByteArray := prog_22_method_91_code
def yJ2_checkIndex_2214a : MethodName := ⟨RJ2, "checkIndex", "(I[B)V"⟩
def RJ10 : String := "java/lang/System"
def TJ10 : u_T := fun k => match k with
  | _ => ("", "", "", false)
def tyJ10 : Nat → FieldType := fun k => match k with
  | _ => .int
abbrev wsJ100 : List Cond := u_ws RJ10 TJ10 0
theorem nmJ10 : ∀ a, a < 0 → ∀ b, b < 0 → a ≠ b → (TJ10 a).2.1 ≠ (TJ10 b).2.1 := by decide +kernel
theorem tyJ10_ok : ∀ k, k < 0 → parseFieldDescriptor (TJ10 k).2.2.1 = some (tyJ10 k) := by decide +kernel
def RJxfd54e : String := "java/lang/constant/Constable"
def TJxfd54e : u_T := fun k => match k with
  | _ => ("", "", "", false)
def tyJxfd54e : Nat → FieldType := fun k => match k with
  | _ => .int
abbrev wsJxfd54e0 : List Cond := u_ws RJxfd54e TJxfd54e 0
theorem nmJxfd54e : ∀ a, a < 0 → ∀ b, b < 0 → a ≠ b → (TJxfd54e a).2.1 ≠ (TJxfd54e b).2.1 := by decide +kernel
theorem tyJxfd54e_ok : ∀ k, k < 0 → parseFieldDescriptor (TJxfd54e k).2.2.1 = some (tyJxfd54e k) := by decide +kernel
def RJx3cf43 : String := "java/lang/constant/ConstantDesc"
def TJx3cf43 : u_T := fun k => match k with
  | _ => ("", "", "", false)
def tyJx3cf43 : Nat → FieldType := fun k => match k with
  | _ => .int
abbrev wsJx3cf430 : List Cond := u_ws RJx3cf43 TJx3cf43 0
theorem nmJx3cf43 : ∀ a, a < 0 → ∀ b, b < 0 → a ≠ b → (TJx3cf43 a).2.1 ≠ (TJx3cf43 b).2.1 := by decide +kernel
theorem tyJx3cf43_ok : ∀ k, k < 0 → parseFieldDescriptor (TJx3cf43 k).2.2.1 = some (tyJx3cf43 k) := by decide +kernel
def RJ7 : String := "java/util/Arrays"
def TJ7 : u_T := fun k => match k with
  | _ => ("", "", "", false)
def tyJ7 : Nat → FieldType := fun k => match k with
  | _ => .int
abbrev wsJ70 : List Cond := u_ws RJ7 TJ7 0
theorem nmJ7 : ∀ a, a < 0 → ∀ b, b < 0 → a ≠ b → (TJ7 a).2.1 ≠ (TJ7 b).2.1 := by decide +kernel
theorem tyJ7_ok : ∀ k, k < 0 → parseFieldDescriptor (TJ7 k).2.2.1 = some (tyJ7 k) := by decide +kernel
abbrev cJ7_fill_53178 : ByteArray := prog_27_method_103_code
def yJ7_fill_53178 : MethodName := ⟨RJ7, "fill", "([II)V"⟩
def RJ3 : String := "jdk/internal/util/Preconditions"
def TJ3 : u_T := fun k => match k with
  | _ => ("", "", "", false)
def tyJ3 : Nat → FieldType := fun k => match k with
  | _ => .int
abbrev wsJ30 : List Cond := u_ws RJ3 TJ3 0
theorem nmJ3 : ∀ a, a < 0 → ∀ b, b < 0 → a ≠ b → (TJ3 a).2.1 ≠ (TJ3 b).2.1 := by decide +kernel
theorem tyJ3_ok : ∀ k, k < 0 → parseFieldDescriptor (TJ3 k).2.2.1 = some (tyJ3 k) := by decide +kernel
abbrev cJ3_checkIndex_8e157 : ByteArray := prog_29_method_11_code
def yJ3_checkIndex_8e157 : MethodName := ⟨RJ3, "checkIndex", "(IILjava/util/function/BiFunction;)I"⟩
def RL : String := "StoutShelfLaw"
abbrev cL_library : ByteArray := method_3_code
def yL_library : MethodName := ⟨RL, "library", "(LStoutShelf;I[J)I"⟩
abbrev cL_count : ByteArray := method_4_code
def yL_count : MethodName := ⟨RL, "count", "(LStoutShelf;I[J)I"⟩
abbrev cL_book : ByteArray := method_5_code
def yL_book : MethodName := ⟨RL, "book", "(LStoutShelf;II[J)I"⟩
abbrev cL_reader : ByteArray := method_6_code
def yL_reader : MethodName := ⟨RL, "reader", "(LStoutShelf;II[J)I"⟩
abbrev cL_move : ByteArray := method_7_code
def yL_move : MethodName := ⟨RL, "move", "(LStoutShelf;II[J)I"⟩
abbrev cL_reach : ByteArray := method_8_code
def yL_reach : MethodName := ⟨RL, "reach", "(LStoutShelf;I[J)I"⟩
abbrev cL_way : ByteArray := method_9_code
def yL_way : MethodName := ⟨RL, "way", "(LStoutShelf;II[J)I"⟩
abbrev cL_together : ByteArray := method_10_code
def yL_together : MethodName := ⟨RL, "together", "(LStoutShelf;III[J)I"⟩
abbrev cL_row : ByteArray := method_11_code
def yL_row : MethodName := ⟨RL, "row", "(LStoutShelf;II[J)I"⟩
abbrev cL_lost : ByteArray := method_12_code
def yL_lost : MethodName := ⟨RL, "lost", "(LStoutShelf;II[J)I"⟩
abbrev cL_worth : ByteArray := method_13_code
def yL_worth : MethodName := ⟨RL, "worth", "(LStoutShelf;I[J)I"⟩
abbrev cL_bind : ByteArray := method_14_code
def yL_bind : MethodName := ⟨RL, "bind", "(LStoutShelf;II[J)I"⟩
abbrev cL_fire : ByteArray := method_15_code
def yL_fire : MethodName := ⟨RL, "fire", "(LStoutShelf;I[J)I"⟩
abbrev cL_there : ByteArray := method_16_code
def yL_there : MethodName := ⟨RL, "there", "(LStoutShelf;II[J)I"⟩
abbrev cL_hands : ByteArray := method_17_code
def yL_hands : MethodName := ⟨RL, "hands", "(LStoutShelf;II[J)I"⟩
abbrev cL_law : ByteArray := code
def yL_law : MethodName := ⟨RL, "law", "([I)Z"⟩
abbrev vwCl : List vw_C := [(RX0, TX0, 5), (RX1, TX1, 4), (RX2, TX2, 5), (RX3, TX3, 4), (RX4, TX4, 5), (RX5, TX5, 7), (RX6, TX6, 9), (RX7, TX7, 9), (RX8, TX8, 15), (RX9, TX9, 62)]
end
section
/-! ===== an abstract machine over numbered cells: one instruction in the style of continuations, runs, their unfolding ===== -/
/-- ints, longs, how many exceptions were made -/
abbrev aMem : Type := (Nat → Nat → Int32) × (Nat → Nat → Int64) × Nat
abbrev aOut : Type := Option Value ⊕ Nat
abbrev aRes : Type := aOut × aMem
abbrev aMF : Type := List Value → aMem → Option aRes
abbrev aLs : Type := List (Option Value)
/-- a cell's shape: .inl (element type, length): 0 int, 1 byte, 2 boolean, 3 long; .inr (class, fields): .inl 0 int, 1 boolean, 2 long, .inr a reference to that cell -/
abbrev aShp : Type := (Nat × Nat) ⊕ (Nat × List (Nat ⊕ Nat))
abbrev aEnt : Type := Instr × Int32 × Nat × List (Int32 × Nat)
/-- code, fields (pool place: class, slot), calls (pool place: function, arguments, receiver's class, kind of answer), constants, handlers (exception: pc behind the store, local), throws (pc: exception), kind of answer -/
abbrev aPrg : Type := List (Nat × aEnt) × List (Nat × Nat × Nat) × List (Nat × aMF × Nat × Nat × Nat) × List (Nat × Value) × List (Nat × Nat × Nat) × List (Nat × Nat) × Nat
abbrev a_code (P : aPrg) : List (Nat × aEnt) := P.1
abbrev a_flds (P : aPrg) : List (Nat × Nat × Nat) := P.2.1
abbrev a_cals (P : aPrg) : List (Nat × aMF × Nat × Nat × Nat) := P.2.2.1
abbrev a_cons (P : aPrg) : List (Nat × Value) := P.2.2.2.1
abbrev a_hnd (P : aPrg) : List (Nat × Nat × Nat) := P.2.2.2.2.1
abbrev a_thr (P : aPrg) : List (Nat × Nat) := P.2.2.2.2.2.1
abbrev a_ret (P : aPrg) : Nat := P.2.2.2.2.2.2
def a_lk {α : Type} : List (Nat × α) → Nat → Option α
  | [], _ => none
  | q :: t, n => match Nat.beq q.1 n with
    | true => some q.2
    | false => a_lk t n
def a_si (σ : aMem) (k j : Nat) (x : Int32) : aMem := (va_up σ.1 k (upd (σ.1 k) j x), σ.2)
def a_sl (σ : aMem) (k j : Nat) (x : Int64) : aMem := (σ.1, va_up σ.2.1 k (vp_updL (σ.2.1 k) j x), σ.2.2)
def a_tk (σ : aMem) : aMem := (σ.1, σ.2.1, σ.2.2 + 1)
def a_ok (j : Int32) (n : Nat) : Bool := decide (0 ≤ j.toInt) && decide (j.toInt < n)
def a_take : Nat → List Value → List Value → Option (List Value × List Value)
  | 0, acc, r => some (acc, r)
  | n + 1, acc, v :: r => a_take n (v :: acc) r
  | _ + 1, _, [] => none
def a_wt : List Value → Nat
  | [] => 0
  | v :: r => v.category + a_wt r
def a_rcv (sh : List aShp) (ci : Nat) (as : List Value) : Bool := match as with
  | .ref k :: _ => match sh[k]? with
    | some (.inr q) => Nat.beq q.1 ci
    | _ => Nat.beq ci 1000 && Nat.ble 1000 k
  | _ => false
def a_vok (sh : List aShp) (virt : Bool) (ci : Nat) (as : List Value) : Bool := match virt with
  | true => a_rcv sh ci as
  | false => Nat.beq ci 2000
def a_kill (L : aLs) (i : Nat) : aLs := match L[i]? with
  | some (some (.long _)) => L.set i none
  | some (some (.double _)) => L.set i none
  | _ => L
def a_s1 (L : aLs) (i : Nat) (v : Value) : aLs := (a_kill L (i - 1)).set i (some v)
def a_s2 (L : aLs) (i : Nat) (v : Value) : aLs := ((a_kill L (i - 1)).set (i + 1) none).set i (some v)
section AM
variable {ρ : Type}
def a_bi (o : Option aRes) (K : Int32 → aMem → ρ) (N : ρ) (X : Nat → aMem → ρ) : ρ := match o with
  | some (.inl (some (.int r)), σ) => K r σ
  | some (.inr x, σ) => X x σ
  | _ => N
def a_bv (o : Option aRes) (K : aMem → ρ) (N : ρ) (X : Nat → aMem → ρ) : ρ := match o with
  | some (.inl none, σ) => K σ
  | some (.inr x, σ) => X x σ
  | _ => N
def a_bl (o : Option aRes) (K : Int64 → aMem → ρ) (N : ρ) (X : Nat → aMem → ρ) : ρ := match o with
  | some (.inl (some (.long r)), σ) => K r σ
  | some (.inr x, σ) => X x σ
  | _ => N
variable (K : Nat → aLs → List Value → aMem → ρ) (N : ρ) (Rt : aOut → aMem → ρ)
def a_ild (pc : Nat) (k : Nat) (L : aLs) (st : List Value) (σ : aMem) : ρ := match L[k]? with
  | some (some (.int x)) => K pc L (.int x :: st) σ
  | _ => N
def a_lld (pc : Nat) (k : Nat) (L : aLs) (st : List Value) (σ : aMem) : ρ := match L[k]? with
  | some (some (.long x)) => K pc L (.long x :: st) σ
  | _ => N
def a_ald (pc : Nat) (k : Nat) (L : aLs) (st : List Value) (σ : aMem) : ρ := match L[k]? with
  | some (some (.ref x)) => K pc L (.ref x :: st) σ
  | _ => N
def a_ist (pc : Nat) (k : Nat) (L : aLs) (st : List Value) (σ : aMem) : ρ := match st with
  | .int x :: r => match Nat.blt k L.length with
    | true => K pc (a_s1 L k (.int x)) r σ
    | false => N
  | _ => N
def a_ast (pc : Nat) (k : Nat) (L : aLs) (st : List Value) (σ : aMem) : ρ := match st with
  | .ref x :: r => match Nat.blt k L.length with
    | true => K pc (a_s1 L k (.ref x)) r σ
    | false => N
  | _ => N
def a_lst (pc : Nat) (k : Nat) (L : aLs) (st : List Value) (σ : aMem) : ρ := match st with
  | .long x :: r => match Nat.blt (k + 1) L.length with
    | true => K pc (a_s2 L k (.long x)) r σ
    | false => N
  | _ => N
def a_inc (pc : Nat) (k : Nat) (imm : Int32) (L : aLs) (st : List Value) (σ : aMem) : ρ := match L[k]? with
  | some (some (.int x)) => K pc (a_s1 L k (.int (x + imm))) st σ
  | _ => N
def a_bin (f : Int32 → Int32 → Int32) (pc : Nat) (L : aLs) (st : List Value) (σ : aMem) : ρ := match st with
  | .int y :: .int x :: r => K pc L (.int (f x y) :: r) σ
  | _ => N
def a_dv (f : Int32 → Int32 → Int32) (pc : Nat) (L : aLs) (st : List Value) (σ : aMem) : ρ := match st with
  | .int y :: .int x :: r => if y = 0 then N else K pc L (.int (f x y) :: r) σ
  | _ => N
def a_lbin (f : Int64 → Int64 → Int64) (pc : Nat) (L : aLs) (st : List Value) (σ : aMem) : ρ := match st with
  | .long y :: .long x :: r => K pc L (.long (f x y) :: r) σ
  | _ => N
def a_un (f : Int32 → Value) (pc : Nat) (L : aLs) (st : List Value) (σ : aMem) : ρ := match st with
  | .int x :: r => K pc L (f x :: r) σ
  | _ => N
def a_lcm (pc : Nat) (L : aLs) (st : List Value) (σ : aMem) : ρ := match st with
  | .long y :: .long x :: r => K pc L (.int (lg_cmp x y) :: r) σ
  | _ => N
def a_lsh (pc : Nat) (L : aLs) (st : List Value) (σ : aMem) : ρ := match st with
  | .int y :: .long x :: r => K pc L (.long (x <<< (y.toInt64 &&& 63)) :: r) σ
  | _ => N
def a_br (c : ClassFile.Cond) (x y : Int32) (a b : ρ) : ρ := match c with
  | .eq => if x = y then a else b
  | .ne => if x = y then b else a
  | .lt => if x < y then a else b
  | .ge => if y ≤ x then a else b
  | .gt => if y < x then a else b
  | .le => if x ≤ y then a else b
def a_if (c : ClassFile.Cond) (tgt pc : Nat) (L : aLs) (st : List Value) (σ : aMem) : ρ := match st with
  | .int x :: r => a_br c x 0 (K tgt L r σ) (K pc L r σ)
  | _ => N
def a_ic (c : ClassFile.Cond) (tgt pc : Nat) (L : aLs) (st : List Value) (σ : aMem) : ρ := match st with
  | .int y :: .int x :: r => a_br c x y (K tgt L r σ) (K pc L r σ)
  | _ => N
def a_sw (K1 : Nat → ρ) (x : Int32) (d : Nat) : List (Int32 × Nat) → ρ
  | [] => K1 d
  | q :: t => if x = q.1 then K1 q.2 else a_sw K1 x d t
def a_ts (tgt : Nat) (sw : List (Int32 × Nat)) (L : aLs) (st : List Value) (σ : aMem) : ρ := match st with
  | .int x :: r => a_sw (fun t => K t L r σ) x tgt sw
  | _ => N
def a_dup (pc : Nat) (L : aLs) (st : List Value) (σ : aMem) : ρ := match st with
  | .int x :: r => K pc L (.int x :: .int x :: r) σ
  | .ref x :: r => K pc L (.ref x :: .ref x :: r) σ
  | _ => N
def a_pop (pc : Nat) (L : aLs) (st : List Value) (σ : aMem) : ρ := match st with
  | .int _ :: r => K pc L r σ
  | .ref _ :: r => K pc L r σ
  | _ => N
def a_dup2 (pc : Nat) (L : aLs) (st : List Value) (σ : aMem) : ρ := match st with
  | .int x :: .ref y :: r => K pc L (.int x :: .ref y :: .int x :: .ref y :: r) σ
  | _ => N
def a_ial (sl : Option Nat) (sh : List aShp) (pc : Nat) (L : aLs) (st : List Value) (σ : aMem) : ρ := match st with
  | .int j :: .ref k :: r => match sh[k]? with
    | some (.inl (0, n)) => match a_ok j n with
      | true => K pc L (.int (σ.1 k j.toNatClampNeg) :: r) σ
      | false => N
    | none => match sl, Nat.beq k 900 with
      | some n, true => match a_ok j n with
        | true => K pc L (.int (σ.1 900 j.toNatClampNeg) :: r) σ
        | false => N
      | _, _ => N
    | _ => N
  | _ => N
def a_bal (sh : List aShp) (pc : Nat) (L : aLs) (st : List Value) (σ : aMem) : ρ := match st with
  | .int j :: .ref k :: r => match sh[k]? with
    | some (.inl (1, n)) => match a_ok j n with
      | true => K pc L (.int (σ.1 k j.toNatClampNeg) :: r) σ
      | false => N
    | some (.inl (2, n)) => match a_ok j n with
      | true => K pc L (.int (σ.1 k j.toNatClampNeg) :: r) σ
      | false => N
    | _ => N
  | _ => N
def a_lal (sh : List aShp) (pc : Nat) (L : aLs) (st : List Value) (σ : aMem) : ρ := match st with
  | .int j :: .ref k :: r => match sh[k]? with
    | some (.inl (3, n)) => match a_ok j n with
      | true => K pc L (.long (σ.2.1 k j.toNatClampNeg) :: r) σ
      | false => N
    | _ => N
  | _ => N
def a_ias (sh : List aShp) (pc : Nat) (L : aLs) (st : List Value) (σ : aMem) : ρ := match st with
  | .int x :: .int j :: .ref k :: r => match sh[k]? with
    | some (.inl (0, n)) => match a_ok j n with
      | true => K pc L r (a_si σ k j.toNatClampNeg x)
      | false => N
    | _ => N
  | _ => N
def a_bas (sh : List aShp) (pc : Nat) (L : aLs) (st : List Value) (σ : aMem) : ρ := match st with
  | .int x :: .int j :: .ref k :: r => match sh[k]? with
    | some (.inl (1, n)) => match a_ok j n with
      | true => K pc L r (a_si σ k j.toNatClampNeg (vp_nar .byte x))
      | false => N
    | some (.inl (2, n)) => match a_ok j n with
      | true => K pc L r (a_si σ k j.toNatClampNeg (vp_nar .boolean x))
      | false => N
    | _ => N
  | _ => N
def a_las (sh : List aShp) (pc : Nat) (L : aLs) (st : List Value) (σ : aMem) : ρ := match st with
  | .long x :: .int j :: .ref k :: r => match sh[k]? with
    | some (.inl (3, n)) => match a_ok j n with
      | true => K pc L r (a_sl σ k j.toNatClampNeg x)
      | false => N
    | _ => N
  | _ => N
def a_len (sl : Option Nat) (sh : List aShp) (pc : Nat) (L : aLs) (st : List Value) (σ : aMem) : ρ := match st with
  | .ref k :: r => match sh[k]? with
    | some (.inl (t, n)) => match Nat.ble t 3 with
      | true => K pc L (.int (Int32.ofNat n) :: r) σ
      | false => N
    | none => match sl, Nat.beq k 900 with
      | some n, true => K pc L (.int (Int32.ofNat n) :: r) σ
      | _, _ => N
    | _ => N
  | _ => N
def a_gf (sh : List aShp) (P : aPrg) (n : Nat) (pc : Nat) (L : aLs) (st : List Value) (σ : aMem) : ρ := match st with
  | .ref k :: r => match a_lk (a_flds P) n, sh[k]? with
    | some (ci, j), some (.inr (c2, fk)) => match Nat.beq c2 ci, fk[j]? with
      | true, some (.inl 2) => K pc L (.long (σ.2.1 k j) :: r) σ
      | true, some (.inl _) => K pc L (.int (σ.1 k j) :: r) σ
      | true, some (.inr q) => K pc L (.ref q :: r) σ
      | _, _ => N
    | _, _ => N
  | _ => N
def a_pf (sh : List aShp) (P : aPrg) (n : Nat) (pc : Nat) (L : aLs) (st : List Value) (σ : aMem) : ρ := match st with
  | .int x :: .ref k :: r => match a_lk (a_flds P) n, sh[k]? with
    | some (ci, j), some (.inr (c2, fk)) => match Nat.beq c2 ci, fk[j]? with
      | true, some (.inl 0) => K pc L r (a_si σ k j x)
      | true, some (.inl 1) => if x = 0 ∨ x = 1 then K pc L r (a_si σ k j x) else N
      | _, _ => N
    | _, _ => N
  | .long x :: .ref k :: r => match a_lk (a_flds P) n, sh[k]? with
    | some (ci, j), some (.inr (c2, fk)) => match Nat.beq c2 ci, fk[j]? with
      | true, some (.inl 2) => K pc L r (a_sl σ k j x)
      | _, _ => N
    | _, _ => N
  | _ => N
def a_ldc (P : aPrg) (n : Nat) (pc : Nat) (L : aLs) (st : List Value) (σ : aMem) : ρ := match a_lk (a_cons P) n with
  | some (.int x) => K pc L (.int x :: st) σ
  | some (.ref x) => K pc L (.ref x :: st) σ
  | _ => N
def a_ldw (P : aPrg) (n : Nat) (pc : Nat) (L : aLs) (st : List Value) (σ : aMem) : ρ := match a_lk (a_cons P) n with
  | some (.int x) => K pc L (.int x :: st) σ
  | _ => N
def a_ld2 (P : aPrg) (n : Nat) (pc : Nat) (L : aLs) (st : List Value) (σ : aMem) : ρ := match a_lk (a_cons P) n with
  | some (.long x) => K pc L (.long x :: st) σ
  | _ => N
def a_exc (P : aPrg) (L : aLs) (x : Nat) (σ : aMem) : ρ := match a_lk (a_hnd P) x with
  | some (h, k) => K h (L.set k none) [] σ
  | none => Rt (.inr x) σ
def a_crk (P : aPrg) (rk : Nat) (o : Option aRes) (pc : Nat) (L : aLs) (r : List Value) : ρ := match rk with
  | 0 => a_bi o (fun x σ' => K pc L (.int x :: r) σ') N (fun x σ' => a_exc K Rt P L x σ')
  | 1 => a_bv o (fun σ' => K pc L r σ') N (fun x σ' => a_exc K Rt P L x σ')
  | _ => a_bl o (fun x σ' => K pc L (.long x :: r) σ') N (fun x σ' => a_exc K Rt P L x σ')
def a_call (sh : List aShp) (P : aPrg) (virt : Bool) (n : Nat) (pc : Nat) (L : aLs) (st : List Value) (σ : aMem) : ρ := match a_lk (a_cals P) n with
  | none => N
  | some (f, na, ci, rk) => match a_take na [] st with
    | none => N
    | some (as, r) => match Nat.ble (a_wt r) 8 && (Nat.ble (a_wt as) na && a_vok sh virt ci as) with
      | false => N
      | true => a_crk K N Rt P rk (f as σ) pc L r
def a_rti (P : aPrg) (st : List Value) (σ : aMem) : ρ := match st with
  | [.int x] => match a_ret P with
    | 0 => Rt (.inl (some (.int x))) σ
    | 1 => if x = 0 ∨ x = 1 then Rt (.inl (some (.int x))) σ else N
    | _ => N
  | _ => N
def a_rtv (P : aPrg) (st : List Value) (σ : aMem) : ρ := match st with
  | [] => match a_ret P with
    | 2 => Rt (.inl none) σ
    | _ => N
  | _ => N
def a_rtl (P : aPrg) (st : List Value) (σ : aMem) : ρ := match st with
  | [.long x] => match a_ret P with
    | 3 => Rt (.inl (some (.long x))) σ
    | _ => N
  | _ => N
def a_th (P : aPrg) (pc : Nat) (st : List Value) (σ : aMem) : ρ := match a_lk (a_thr P) pc with
  | some x => match Nat.ble (a_wt st) 8 with
    | true => Rt (.inr x) (a_tk σ)
    | false => N
  | none => N
def a_ins (sl : Option Nat) (sh : List aShp) (P : aPrg) (i : Instr) (imm : Int32) (tgt : Nat) (sw : List (Int32 × Nat)) (pc : Nat) (L : aLs) (st : List Value) (σ : aMem) : ρ := match i with
  | .iconst _ => K (pc + 1) L (.int imm :: st) σ
  | .bipush _ => K (pc + 2) L (.int imm :: st) σ
  | .sipush _ => K (pc + 3) L (.int imm :: st) σ
  | .lconst _ => K (pc + 1) L (.long imm.toInt64 :: st) σ
  | .ldc n => a_ldc K N P n (pc + 2) L st σ
  | .ldc_w n => a_ldw K N P n (pc + 3) L st σ
  | .ldc2_w n => a_ld2 K N P n (pc + 3) L st σ
  | .iload_n k => a_ild K N (pc + 1) k.val L st σ
  | .iload k => a_ild K N (pc + 2) k L st σ
  | .lload_n k => a_lld K N (pc + 1) k.val L st σ
  | .lload k => a_lld K N (pc + 2) k L st σ
  | .aload_n k => a_ald K N (pc + 1) k.val L st σ
  | .aload k => a_ald K N (pc + 2) k L st σ
  | .istore_n k => a_ist K N (pc + 1) k.val L st σ
  | .istore k => a_ist K N (pc + 2) k L st σ
  | .lstore_n k => a_lst K N (pc + 1) k.val L st σ
  | .lstore k => a_lst K N (pc + 2) k L st σ
  | .astore_n k => a_ast K N (pc + 1) k.val L st σ
  | .astore k => a_ast K N (pc + 2) k L st σ
  | .iinc k _ => a_inc K N (pc + 3) k imm L st σ
  | .iadd => a_bin K N (fun x y => x + y) (pc + 1) L st σ
  | .isub => a_bin K N (fun x y => x - y) (pc + 1) L st σ
  | .imul => a_bin K N (fun x y => x * y) (pc + 1) L st σ
  | .iand => a_bin K N (fun x y => x &&& y) (pc + 1) L st σ
  | .ior => a_bin K N (fun x y => x ||| y) (pc + 1) L st σ
  | .ixor => a_bin K N (fun x y => x ^^^ y) (pc + 1) L st σ
  | .ishl => a_bin K N (fun x y => x <<< (y &&& 31)) (pc + 1) L st σ
  | .ishr => a_bin K N (fun x y => x >>> (y &&& 31)) (pc + 1) L st σ
  | .iushr => a_bin K N (fun x y => (x.toUInt32 >>> (y.toUInt32 &&& Int32.toUInt32 31)).toInt32) (pc + 1) L st σ
  | .idiv => a_dv K N (fun x y => x / y) (pc + 1) L st σ
  | .irem => a_dv K N (fun x y => x - x / y * y) (pc + 1) L st σ
  | .ineg => a_un K N (fun x => .int (-x)) (pc + 1) L st σ
  | .i2l => a_un K N (fun x => .long x.toInt64) (pc + 1) L st σ
  | .i2b => a_un K N (fun x => .int x.toInt8.toInt32) (pc + 1) L st σ
  | .lor => a_lbin K N (fun x y => x ||| y) (pc + 1) L st σ
  | .lsub => a_lbin K N (fun x y => x - y) (pc + 1) L st σ
  | .lshl => a_lsh K N (pc + 1) L st σ
  | .lcmp => a_lcm K N (pc + 1) L st σ
  | .dup => a_dup K N (pc + 1) L st σ
  | .pop => a_pop K N (pc + 1) L st σ
  | .dup2 => a_dup2 K N (pc + 1) L st σ
  | .ifCond c _ => a_if K N c tgt (pc + 3) L st σ
  | .if_icmp c _ => a_ic K N c tgt (pc + 3) L st σ
  | .goto _ => K tgt L st σ
  | .tableswitch _ _ _ _ => a_ts K N tgt sw L st σ
  | .iaload => a_ial K N sl sh (pc + 1) L st σ
  | .baload => a_bal K N sh (pc + 1) L st σ
  | .laload => a_lal K N sh (pc + 1) L st σ
  | .iastore => a_ias K N sh (pc + 1) L st σ
  | .bastore => a_bas K N sh (pc + 1) L st σ
  | .lastore => a_las K N sh (pc + 1) L st σ
  | .arraylength => a_len K N sl sh (pc + 1) L st σ
  | .getfield n => a_gf K N sh P n (pc + 3) L st σ
  | .putfield n => a_pf K N sh P n (pc + 3) L st σ
  | .invokevirtual n => a_call K N Rt sh P true n (pc + 3) L st σ
  | .invokestatic n => a_call K N Rt sh P false n (pc + 3) L st σ
  | .ireturn => a_rti N Rt P st σ
  | .return_ => a_rtv N Rt P st σ
  | .lreturn => a_rtl N Rt P st σ
  | .new _ => a_th N Rt P pc st σ
  | _ => N
def a_sem (sl : Option Nat) (sh : List aShp) (P : aPrg) (pc : Nat) (L : aLs) (st : List Value) (σ : aMem) : ρ := match a_lk (a_code P) pc with
  | none => N
  | some (i, imm, tgt, sw) => a_ins K N Rt sl sh P i imm tgt sw pc L st σ
end AM
abbrev aSt : Type := Nat × aLs × List Value × aMem
/-- one step, as data -/
def a_stp (sl : Option Nat) (sh : List aShp) (P : aPrg) (pc : Nat) (L : aLs) (st : List Value) (σ : aMem) : Option (aSt ⊕ aRes) :=
  a_sem (fun pc L st σ => some (.inl (pc, L, st, σ))) none (fun o σ => some (.inr (o, σ))) sl sh P pc L st σ
def a_el {ρ : Type} (K : Nat → aLs → List Value → aMem → ρ) (N : ρ) (Rt : aOut → aMem → ρ) : Option (aSt ⊕ aRes) → ρ
  | none => N
  | some (.inl (pc, L, st, σ)) => K pc L st σ
  | some (.inr (o, σ)) => Rt o σ
end
section
/-! ===== naturality of one instruction, runs, unfolding ===== -/
abbrev a_k0 : Nat → aLs → List Value → aMem → Option (aSt ⊕ aRes) := fun pc L st σ => some (.inl (pc, L, st, σ))
abbrev a_r0 : aOut → aMem → Option (aSt ⊕ aRes) := fun o σ => some (.inr (o, σ))
section AN
variable {ρ : Type} (K : Nat → aLs → List Value → aMem → ρ) (N : ρ) (Rt : aOut → aMem → ρ)
theorem a_sw_nat (L : aLs) (r : List Value) (σ : aMem) (x : Int32) (d : Nat) : ∀ sw : List (Int32 × Nat), a_sw (fun t => K t L r σ) x d sw = a_el K N Rt (a_sw (fun t => a_k0 t L r σ) x d sw)
  | [] => rfl
  | q :: t => by
    unfold a_sw
    split
    · rfl
    · exact a_sw_nat L r σ x d t
theorem a_br_nat (c : ClassFile.Cond) (x y : Int32) (a b : Option (aSt ⊕ aRes)) : a_br c x y (a_el K N Rt a) (a_el K N Rt b) = a_el K N Rt (a_br c x y a b) := by
  cases c <;> unfold a_br <;> simp only <;> split <;> rfl
theorem a_exc_nat (P : aPrg) (L : aLs) (x : Nat) (σ : aMem) : a_exc K Rt P L x σ = a_el K N Rt (a_exc a_k0 a_r0 P L x σ) := by
  unfold a_exc; split <;> rfl
theorem a_call_nat (sh : List aShp) (P : aPrg) (v : Bool) (n pc : Nat) (L : aLs) (st : List Value) (σ : aMem) : a_call K N Rt sh P v n pc L st σ = a_el K N Rt (a_call a_k0 none a_r0 sh P v n pc L st σ) := by
  unfold a_call
  split
  · rfl
  · split
    · rfl
    · split
      · rfl
      · unfold a_crk
        split
        · unfold a_bi; split
          · rfl
          · exact a_exc_nat ..
          · rfl
        · unfold a_bv; split
          · rfl
          · exact a_exc_nat ..
          · rfl
        · unfold a_bl; split
          · rfl
          · exact a_exc_nat ..
          · rfl
set_option maxHeartbeats 4000000 in
theorem a_ins_nat (sl : Option Nat) (sh : List aShp) (P : aPrg) (i : Instr) (imm : Int32) (tgt : Nat) (sw : List (Int32 × Nat)) (pc : Nat) (L : aLs) (st : List Value) (σ : aMem) :
    a_ins K N Rt sl sh P i imm tgt sw pc L st σ = a_el K N Rt (a_ins a_k0 none a_r0 sl sh P i imm tgt sw pc L st σ) := by
  cases i <;> unfold a_ins <;> simp only
  all_goals first
    | rfl
    | exact a_call_nat ..
    | (unfold a_ts; split <;> first | rfl | exact a_sw_nat ..)
    | (unfold a_if; split <;> first | rfl | exact a_br_nat K N Rt _ _ _ (some (.inl (_, _, _, _))) (some (.inl (_, _, _, _))))
    | (unfold a_ic; split <;> first | rfl | exact a_br_nat K N Rt _ _ _ (some (.inl (_, _, _, _))) (some (.inl (_, _, _, _))))
    | (unfold a_ild; split <;> rfl)
    | (unfold a_lld; split <;> rfl)
    | (unfold a_ald; split <;> rfl)
    | (unfold a_ist; split <;> first | rfl | (split <;> rfl))
    | (unfold a_ast; split <;> first | rfl | (split <;> rfl))
    | (unfold a_lst; split <;> first | rfl | (split <;> rfl))
    | (unfold a_inc; split <;> rfl)
    | (unfold a_bin; split <;> rfl)
    | (unfold a_dv; split <;> first | rfl | (split <;> rfl))
    | (unfold a_lbin; split <;> rfl)
    | (unfold a_un; split <;> rfl)
    | (unfold a_lcm; split <;> rfl)
    | (unfold a_lsh; split <;> rfl)
    | (unfold a_dup; split <;> rfl)
    | (unfold a_pop; split <;> rfl)
    | (unfold a_dup2; split <;> rfl)
    | (unfold a_ial; split <;> first | rfl | (split <;> first | rfl | (split <;> first | rfl | (split <;> rfl))))
    | (unfold a_bal; split <;> first | rfl | (split <;> first | rfl | (split <;> rfl)))
    | (unfold a_lal; split <;> first | rfl | (split <;> first | rfl | (split <;> rfl)))
    | (unfold a_ias; split <;> first | rfl | (split <;> first | rfl | (split <;> rfl)))
    | (unfold a_bas; split <;> first | rfl | (split <;> first | rfl | (split <;> rfl)))
    | (unfold a_las; split <;> first | rfl | (split <;> first | rfl | (split <;> rfl)))
    | (unfold a_len; split <;> first | rfl | (split <;> first | rfl | (split <;> rfl)))
    | (unfold a_gf; split <;> first | rfl | (split <;> first | rfl | (split <;> rfl)))
    | (unfold a_pf; split <;> first | rfl | (split <;> first | rfl | (split <;> first | rfl | (split <;> rfl))))
    | (unfold a_ldc; split <;> rfl)
    | (unfold a_ldw; split <;> rfl)
    | (unfold a_ld2; split <;> rfl)
    | (unfold a_rti; split <;> first | rfl | (split <;> first | rfl | (split <;> rfl)))
    | (unfold a_rtv; split <;> first | rfl | (split <;> rfl))
    | (unfold a_rtl; split <;> first | rfl | (split <;> rfl))
    | (unfold a_th; split <;> first | rfl | (split <;> rfl))
theorem a_sem_nat (sl : Option Nat) (sh : List aShp) (P : aPrg) (pc : Nat) (L : aLs) (st : List Value) (σ : aMem) :
    a_sem K N Rt sl sh P pc L st σ = a_el K N Rt (a_stp sl sh P pc L st σ) := by
  unfold a_stp a_sem
  split
  · rfl
  · exact a_ins_nat ..
end AN
abbrev a_rs : aOut → aMem → Option aRes := fun o σ => some (o, σ)
def a_runN (sl : Option Nat) (sh : List aShp) (P : aPrg) : Nat → Nat → aLs → List Value → aMem → Option aRes
  | 0 => fun _ _ _ _ => none
  | n + 1 => a_sem (a_runN sl sh P n) none a_rs sl sh P
noncomputable def a_run (sl : Option Nat) (sh : List aShp) (P : aPrg) (pc : Nat) (L : aLs) (st : List Value) (σ : aMem) : Option aRes :=
  @dite _ (∃ (r : aRes) (n : Nat), a_runN sl sh P n pc L st σ = some r) (Classical.propDecidable _) (fun h => some h.choose) (fun _ => none)
theorem a_runN_mono (sl : Option Nat) (sh : List aShp) (P : aPrg) : ∀ (n : Nat) (pc : Nat) (L : aLs) (st : List Value) (σ : aMem) (r : aRes), a_runN sl sh P n pc L st σ = some r → a_runN sl sh P (n + 1) pc L st σ = some r
  | 0, _, _, _, _, _, h => by simp [a_runN] at h
  | n + 1, pc, L, st, σ, r, h => by
    unfold a_runN at h ⊢
    rw [a_sem_nat] at h ⊢
    generalize a_stp sl sh P pc L st σ = x at h ⊢
    match x, h with
    | none, h => exact h
    | some (.inl (pc, L, st, σ)), h => exact a_runN_mono sl sh P n _ _ _ _ _ h
    | some (.inr _), h => exact h
theorem a_runN_le {sl : Option Nat} {sh : List aShp} {P : aPrg} {n m : Nat} (h : n ≤ m) {pc : Nat} {L : aLs} {st : List Value} {σ : aMem} {r : aRes} (hr : a_runN sl sh P n pc L st σ = some r) : a_runN sl sh P m pc L st σ = some r := by
  induction h with
  | refl => exact hr
  | step _ ih => exact a_runN_mono _ _ _ _ _ _ _ _ _ ih
theorem a_run_of {sl : Option Nat} {sh : List aShp} {P : aPrg} {n : Nat} {pc : Nat} {L : aLs} {st : List Value} {σ : aMem} {r : aRes} (hr : a_runN sl sh P n pc L st σ = some r) : a_run sl sh P pc L st σ = some r := by
  have h : ∃ (r : aRes) (n : Nat), a_runN sl sh P n pc L st σ = some r := ⟨r, n, hr⟩
  unfold a_run
  rw [dif_pos h]
  obtain ⟨m, hm⟩ := h.choose_spec
  have h1 := a_runN_le (Nat.le_max_left n m) hr
  have h2 := a_runN_le (Nat.le_max_right n m) hm
  exact h2.symm.trans h1
theorem a_run_to {sl : Option Nat} {sh : List aShp} {P : aPrg} {pc : Nat} {L : aLs} {st : List Value} {σ : aMem} {r : aRes} (h : a_run sl sh P pc L st σ = some r) : ∃ n, a_runN sl sh P n pc L st σ = some r := by
  unfold a_run at h
  split at h
  · rename_i hx
    cases h
    exact hx.choose_spec
  · cases h
theorem a_run_eq (sl : Option Nat) (sh : List aShp) (P : aPrg) (pc : Nat) (L : aLs) (st : List Value) (σ : aMem) : a_run sl sh P pc L st σ = a_sem (a_run sl sh P) none a_rs sl sh P pc L st σ := by
  apply Option.ext
  intro r
  constructor
  · intro h
    obtain ⟨n, hn⟩ := a_run_to h
    cases n with
    | zero => simp [a_runN] at hn
    | succ n =>
      unfold a_runN at hn
      rw [a_sem_nat] at hn ⊢
      generalize a_stp sl sh P pc L st σ = x at hn ⊢
      match x, hn with
      | none, h => exact h
      | some (.inl (pc, L, st, σ)), h => exact a_run_of h
      | some (.inr _), h => exact h
  · intro h
    rw [a_sem_nat] at h
    generalize hx : a_stp sl sh P pc L st σ = x at h
    match x, hx, h with
    | none, _, h => cases h
    | some (.inl (pc', L', st', σ')), hx, h =>
      obtain ⟨n, hn⟩ := a_run_to h
      refine a_run_of (n := n + 1) ?_
      unfold a_runN
      rw [a_sem_nat, hx]
      exact hn
    | some (.inr (o, σ')), hx, h =>
      refine a_run_of (n := 1) ?_
      unfold a_runN
      rw [a_sem_nat, hx]
      exact h
def a_in : List Nat → Nat → Bool
  | [], _ => false
  | a :: t, n => match Nat.beq a n with
    | true => true
    | false => a_in t n
/-- up to n instructions at once, stopping at the cuts -/
noncomputable def a_ev (sl : Option Nat) (sh : List aShp) (P : aPrg) (cut : List Nat) : Nat → Nat → aLs → List Value → aMem → Option aRes
  | 0 => a_run sl sh P
  | n + 1 => a_sem (fun pc L st σ => match a_in cut pc with
      | true => a_run sl sh P pc L st σ
      | false => a_ev sl sh P cut n pc L st σ) none a_rs sl sh P
theorem a_ev_eq (sl : Option Nat) (sh : List aShp) (P : aPrg) (cut : List Nat) : ∀ (n : Nat) (pc : Nat) (L : aLs) (st : List Value) (σ : aMem), a_run sl sh P pc L st σ = a_ev sl sh P cut n pc L st σ
  | 0, _, _, _, _ => rfl
  | n + 1, pc, L, st, σ => by
    rw [a_run_eq]
    unfold a_ev
    have h : (a_run sl sh P) = (fun pc L st σ => match a_in cut pc with
      | true => a_run sl sh P pc L st σ
      | false => a_ev sl sh P cut n pc L st σ) := by
      funext pc L st σ
      split
      · rfl
      · exact a_ev_eq sl sh P cut n pc L st σ
    rw [← h]
end
section
/-! ===== the abstract machine's cells in the heap ===== -/
def a_cv (ad : Nat → Nat) : Value → Value
  | .ref k => .ref (ad k)
  | v => v
theorem a_cv_cat (ad : Nat → Nat) (v : Value) : (a_cv ad v).category = v.category := by cases v <;> rfl
theorem a_wt_sum (ad : Nat → Nat) : ∀ r : List Value, ((r.map (a_cv ad)).map fun v => v.category).sum = a_wt r
  | [] => rfl
  | v :: r => by simp only [List.map_cons, List.sum_cons, a_wt, a_cv_cat, a_wt_sum ad r]
/-- addresses, array classes, classes and slots, the state at the law's entry, the script's length and numbers -/
abbrev aG : Type := (Nat → Nat) × (Nat → ClassId) × va_G × State × Nat × (Nat → Int32)
abbrev g_ad (G : aG) : Nat → Nat := G.1
abbrev g_ca (G : aG) : Nat → ClassId := G.2.1
abbrev g_D (G : aG) : va_G := G.2.2.1
abbrev g_s (G : aG) : State := G.2.2.2.1
abbrev g_n (G : aG) : Nat := G.2.2.2.2.1
abbrev g_xs (G : aG) : Nat → Int32 := G.2.2.2.2.2
def a_fv (ad : Nat → Nat) (σ : aMem) (k : Nat) (q : (Nat ⊕ Nat) × Nat) : Value := match q.1 with
  | .inl 2 => .long (σ.2.1 k q.2)
  | .inl _ => .int (σ.1 k q.2)
  | .inr r => .ref (ad r)
def a_ce (ad : Nat → Nat) (ca : Nat → ClassId) (σ : aMem) (k : Nat) : aShp → va_E
  | .inl (3, n) => .inl (ca 3, n, .inr (.inl (σ.2.1 k)))
  | .inl (t, n) => .inl (ca t, n, .inl (σ.1 k))
  | .inr (ci, fk) => .inr (ci, fk.zipIdx.map (a_fv ad σ k))
def a_wl (ad : Nat → Nat) (ca : Nat → ClassId) (sh : List aShp) (σ : aMem) : va_W := sh.zipIdx.map (fun q => (ad q.2, a_ce ad ca σ q.2 q.1))
abbrev a_tys (ca : Nat → ClassId) : List (ClassId × FieldType) := [(ca 0, .int), (ca 1, .byte), (ca 2, .boolean), (ca 3, .long)]
theorem a_wl_get (ad : Nat → Nat) (ca : Nat → ClassId) (sh : List aShp) (σ : aMem) (k : Nat) : (a_wl ad ca sh σ)[k]? = sh[k]?.map (fun x => (ad k, a_ce ad ca σ k x)) := by
  unfold a_wl
  rw [List.getElem?_map, List.getElem?_zipIdx]
  cases sh[k]? <;> simp
theorem a_wl_at {ad : Nat → Nat} {ca : Nat → ClassId} {sh : List aShp} {σ : aMem} {k : Nat} {x : aShp} (h : sh[k]? = some x) : (a_wl ad ca sh σ)[k]? = some (ad k, a_ce ad ca σ k x) := by
  rw [a_wl_get, h]; rfl
theorem a_wl_len (ad : Nat → Nat) (ca : Nat → ClassId) (sh : List aShp) (σ : aMem) : (a_wl ad ca sh σ).length = sh.length := by simp [a_wl]
theorem a_fv_get {ad : Nat → Nat} {σ : aMem} {k : Nat} {fk : List (Nat ⊕ Nat)} {j : Nat} {x : Nat ⊕ Nat} (h : fk[j]? = some x) : (fk.zipIdx.map (a_fv ad σ k))[j]? = some (a_fv ad σ k (x, j)) := by
  rw [List.getElem?_map, List.getElem?_zipIdx, h]; simp
theorem a_si_ne {σ : aMem} {k j i : Nat} {x : Int32} (h : i ≠ k) : (a_si σ k j x).1 i = σ.1 i := by simp [a_si, va_up, h]
theorem a_si_eq {σ : aMem} {k j : Nat} {x : Int32} : (a_si σ k j x).1 k = upd (σ.1 k) j x := by simp [a_si, va_up]
theorem a_sl_ne {σ : aMem} {k j i : Nat} {x : Int64} (h : i ≠ k) : (a_sl σ k j x).2.1 i = σ.2.1 i := by simp [a_sl, va_up, h]
theorem a_sl_eq {σ : aMem} {k j : Nat} {x : Int64} : (a_sl σ k j x).2.1 k = vp_updL (σ.2.1 k) j x := by simp [a_sl, va_up]
theorem a_fv_congr {ad : Nat → Nat} {σ τ : aMem} {k : Nat} (h1 : σ.1 k = τ.1 k) (h2 : σ.2.1 k = τ.2.1 k) (q : (Nat ⊕ Nat) × Nat) : a_fv ad σ k q = a_fv ad τ k q := by
  unfold a_fv; rw [h1, h2]
theorem a_ce_congr {ad : Nat → Nat} {ca : Nat → ClassId} {σ τ : aMem} {k : Nat} (h1 : σ.1 k = τ.1 k) (h2 : σ.2.1 k = τ.2.1 k) (x : aShp) : a_ce ad ca σ k x = a_ce ad ca τ k x := by
  unfold a_ce
  split
  · rw [h2]
  · rw [h1]
  · rw [show a_fv ad σ k = a_fv ad τ k from funext (a_fv_congr h1 h2)]
/-- a cell is changed: the world of the changed memory -/
theorem a_wl_set {ad : Nat → Nat} {ca : Nat → ClassId} {sh : List aShp} {σ τ : aMem} {k : Nat} {x : aShp} {e : va_E} (h : sh[k]? = some x) (he : e = a_ce ad ca τ k x) (ho : ∀ i, i ≠ k → σ.1 i = τ.1 i ∧ σ.2.1 i = τ.2.1 i) : (a_wl ad ca sh σ).set k (ad k, e) = a_wl ad ca sh τ := by
  have hk : k < sh.length := (List.getElem?_eq_some_iff.mp h).1
  apply List.ext_getElem?
  intro i
  by_cases hi : i = k
  · subst hi
    rw [List.getElem?_set_self (by rw [a_wl_len]; exact hk), a_wl_at h, he]
  · rw [List.getElem?_set_ne (Ne.symm hi), a_wl_get, a_wl_get]
    cases sh[i]? with
    | none => rfl
    | some y => simp only [Option.map_some, a_ce_congr (ho i hi).1 (ho i hi).2]
theorem a_wl_ia {ad : Nat → Nat} {ca : Nat → ClassId} {sh : List aShp} {σ : aMem} {k j t n : Nat} {x : Int32} (h : sh[k]? = some (.inl (t, n))) (ht : t ≠ 3) : (a_wl ad ca sh σ).set k (ad k, .inl (ca t, n, .inl (upd (σ.1 k) j x))) = a_wl ad ca sh (a_si σ k j x) := by
  refine a_wl_set h ?_ (fun i hi => ⟨(a_si_ne hi).symm, rfl⟩)
  unfold a_ce
  split
  · rename_i h3; cases h3; exact absurd rfl ht
  · rename_i h3; cases h3; rw [a_si_eq]
  · rename_i h3; cases h3
theorem a_wl_la {ad : Nat → Nat} {ca : Nat → ClassId} {sh : List aShp} {σ : aMem} {k j n : Nat} {x : Int64} (h : sh[k]? = some (.inl (3, n))) : (a_wl ad ca sh σ).set k (ad k, .inl (ca 3, n, .inr (.inl (vp_updL (σ.2.1 k) j x)))) = a_wl ad ca sh (a_sl σ k j x) := by
  refine a_wl_set h ?_ (fun i hi => ⟨rfl, (a_sl_ne hi).symm⟩)
  show _ = Sum.inl (ca 3, n, Sum.inr (Sum.inl ((a_sl σ k j x).2.1 k)))
  rw [a_sl_eq]
theorem a_ce_i {ad : Nat → Nat} {ca : Nat → ClassId} {σ : aMem} {k t n : Nat} (ht : t ≠ 3) : a_ce ad ca σ k (.inl (t, n)) = .inl (ca t, n, .inl (σ.1 k)) := by
  unfold a_ce
  split
  · rename_i h3; cases h3; exact absurd rfl ht
  · rename_i h3; cases h3; rfl
  · rename_i h3; cases h3
theorem a_wl_io {ad : Nat → Nat} {ca : Nat → ClassId} {sh : List aShp} {σ : aMem} {k j ci t : Nat} {fk : List (Nat ⊕ Nat)} {x : Int32} (h : sh[k]? = some (.inr (ci, fk))) (hj : fk[j]? = some (.inl t)) (ht : t ≠ 2) :
    (a_wl ad ca sh σ).set k (ad k, .inr (ci, (fk.zipIdx.map (a_fv ad σ k)).set j (.int x))) = a_wl ad ca sh (a_si σ k j x) := by
  refine a_wl_set h ?_ (fun i hi => ⟨(a_si_ne hi).symm, rfl⟩)
  show _ = Sum.inr (ci, fk.zipIdx.map (a_fv ad (a_si σ k j x) k))
  have hl : j < fk.length := (List.getElem?_eq_some_iff.mp hj).1
  congr 2
  apply List.ext_getElem?
  intro i
  by_cases hi : i = j
  · subst hi
    rw [List.getElem?_set_self (by simpa using hl), a_fv_get hj]
    unfold a_fv
    split
    · rename_i h3; cases h3; exact absurd rfl ht
    · simp [a_si, va_up, upd]
    · rename_i h3; cases h3
  · rw [List.getElem?_set_ne (Ne.symm hi)]
    cases hfi : fk[i]? with
    | none => rw [List.getElem?_map, List.getElem?_map, List.getElem?_zipIdx, hfi]; rfl
    | some y =>
      rw [a_fv_get hfi, a_fv_get hfi]
      unfold a_fv
      split
      · rfl
      · simp [a_si, va_up, upd, hi]
      · rfl
theorem a_wl_lo {ad : Nat → Nat} {ca : Nat → ClassId} {sh : List aShp} {σ : aMem} {k j ci : Nat} {fk : List (Nat ⊕ Nat)} {x : Int64} (h : sh[k]? = some (.inr (ci, fk))) (hj : fk[j]? = some (.inl 2)) :
    (a_wl ad ca sh σ).set k (ad k, .inr (ci, (fk.zipIdx.map (a_fv ad σ k)).set j (.long x))) = a_wl ad ca sh (a_sl σ k j x) := by
  refine a_wl_set h ?_ (fun i hi => ⟨rfl, (a_sl_ne hi).symm⟩)
  show _ = Sum.inr (ci, fk.zipIdx.map (a_fv ad (a_sl σ k j x) k))
  have hl : j < fk.length := (List.getElem?_eq_some_iff.mp hj).1
  congr 2
  apply List.ext_getElem?
  intro i
  by_cases hi : i = j
  · subst hi
    rw [List.getElem?_set_self (by simpa using hl), a_fv_get hj]
    simp [a_fv, a_sl, va_up, vp_updL]
  · rw [List.getElem?_set_ne (Ne.symm hi)]
    cases hfi : fk[i]? with
    | none => rw [List.getElem?_map, List.getElem?_map, List.getElem?_zipIdx, hfi]; rfl
    | some y =>
      rw [a_fv_get hfi, a_fv_get hfi]
      unfold a_fv
      split
      · simp [a_sl, va_up, vp_updL, hi]
      · rfl
      · rfl
/-! the locals -/
def a_L (ad : Nat → Nat) (nL : Nat) (ls : Array Slot) (L : aLs) : Prop := ls.size = nL ∧ L.length = nL ∧ lv_wf ls ∧ ∀ (i : Nat) (v : Value), L[i]? = some (some v) → ls[i]? = some (.val (a_cv ad v))
def a_ll (ad : Nat → Nat) (L : aLs) : List (Nat × Value) := L.zipIdx.filterMap (fun q => q.1.map (fun v => (q.2, a_cv ad v)))
theorem a_ll_mem {ad : Nat → Nat} {L : aLs} {i : Nat} {v : Value} (h : L[i]? = some (some v)) : (i, a_cv ad v) ∈ a_ll ad L := by
  unfold a_ll
  refine List.mem_filterMap.mpr ⟨(some v, i), ?_, rfl⟩
  exact List.mem_zipIdx_iff_getElem?.mpr h
theorem a_ll_of {ad : Nat → Nat} {L : aLs} {q : Nat × Value} (h : q ∈ a_ll ad L) : ∃ v, L[q.1]? = some (some v) ∧ q.2 = a_cv ad v := by
  unfold a_ll at h
  obtain ⟨⟨o, i⟩, h1, h2⟩ := List.mem_filterMap.mp h
  have h3 := List.mem_zipIdx_iff_getElem?.mp h1
  cases o with
  | none => simp at h2
  | some v =>
    simp only [Option.map_some, Option.some.injEq] at h2
    subst h2
    exact ⟨v, h3, rfl⟩
theorem a_L.has {ad : Nat → Nat} {nL : Nat} {ls : Array Slot} {L : aLs} (h : a_L ad nL ls L) : lv_has ls nL (a_ll ad L) := by
  refine ⟨h.1, h.2.2.1, fun q hq => ?_⟩
  obtain ⟨v, h1, h2⟩ := a_ll_of hq
  rw [h2]
  exact h.2.2.2 _ _ h1
theorem a_kill_len (L : aLs) (i : Nat) : (a_kill L i).length = L.length := by
  unfold a_kill; split <;> simp
theorem a_kill_at {L : aLs} {i j : Nat} {v : Value} (h : (a_kill L i)[j]? = some (some v)) : L[j]? = some (some v) ∧ (j = i → v.category = 1) := by
  unfold a_kill at h
  split at h
  · rename_i x hx
    by_cases hij : j = i
    · subst hij
      rw [List.getElem?_set_self (List.getElem?_eq_some_iff.mp hx).1] at h
      cases h
    · rw [List.getElem?_set_ne (Ne.symm hij)] at h
      exact ⟨h, fun e => absurd e hij⟩
  · rename_i x hx
    by_cases hij : j = i
    · subst hij
      rw [List.getElem?_set_self (List.getElem?_eq_some_iff.mp hx).1] at h
      cases h
    · rw [List.getElem?_set_ne (Ne.symm hij)] at h
      exact ⟨h, fun e => absurd e hij⟩
  · rename_i h1 h2
    refine ⟨h, fun e => ?_⟩
    subst e
    cases v with
    | long x => exact absurd h (h1 x)
    | double x => exact absurd h (h2 x)
    | _ => rfl
theorem a_L.s1 {ad : Nat → Nat} {nL : Nat} {ls' : Array Slot} {L : aLs} {i : Nat} {v : Value} (hlen : L.length = nL) (hi : i < nL) (h : lv_has ls' nL ((i, a_cv ad v) :: (a_ll ad L).filter (fun q => !(q.1 == i) && !(q.1 + 1 == i && q.2.category == 2)))) : a_L ad nL ls' (a_s1 L i v) := by
  refine ⟨h.1, ?_, h.2.1, fun j w hj => ?_⟩
  · unfold a_s1; rw [List.length_set, a_kill_len]; exact hlen
  · unfold a_s1 at hj
    by_cases hij : j = i
    · subst hij
      rw [List.getElem?_set_self (by rw [a_kill_len]; omega)] at hj
      cases hj
      exact h.2.2 (j, a_cv ad v) List.mem_cons_self
    · rw [List.getElem?_set_ne (Ne.symm hij)] at hj
      obtain ⟨h1, h2⟩ := a_kill_at hj
      refine h.2.2 (j, a_cv ad w) (List.mem_cons_of_mem _ (List.mem_filter.mpr ⟨a_ll_mem h1, ?_⟩))
      have e1 : (j == i) = false := by simpa using hij
      simp only [e1, Bool.not_false, Bool.true_and, Bool.not_eq_true']
      by_cases e2 : j + 1 = i
      · have := h2 (by omega)
        rw [a_cv_cat, this]
        simp
      · have : (j + 1 == i) = false := by simpa using e2
        rw [this]; rfl
theorem a_L.s2 {ad : Nat → Nat} {nL : Nat} {ls' : Array Slot} {L : aLs} {i : Nat} {v : Value} (hlen : L.length = nL) (hi : i + 1 < nL) (h : lv_has ls' nL ((i, a_cv ad v) :: (a_ll ad L).filter (fun q => !(q.1 == i) && (!(q.1 == i + 1) && !(q.1 + 1 == i && q.2.category == 2))))) : a_L ad nL ls' (a_s2 L i v) := by
  refine ⟨h.1, ?_, h.2.1, fun j w hj => ?_⟩
  · unfold a_s2; rw [List.length_set, List.length_set, a_kill_len]; exact hlen
  · unfold a_s2 at hj
    by_cases hij : j = i
    · subst hij
      rw [List.getElem?_set_self (by rw [List.length_set, a_kill_len]; omega)] at hj
      cases hj
      exact h.2.2 (j, a_cv ad v) List.mem_cons_self
    · rw [List.getElem?_set_ne (Ne.symm hij)] at hj
      by_cases hij1 : j = i + 1
      · subst hij1
        rw [List.getElem?_set_self (by rw [a_kill_len]; omega)] at hj
        cases hj
      · rw [List.getElem?_set_ne (Ne.symm hij1)] at hj
        obtain ⟨h1, h2⟩ := a_kill_at hj
        refine h.2.2 (j, a_cv ad w) (List.mem_cons_of_mem _ (List.mem_filter.mpr ⟨a_ll_mem h1, ?_⟩))
        have e1 : (j == i) = false := by simpa using hij
        have e3 : (j == i + 1) = false := by simpa using hij1
        simp only [e1, e3, Bool.not_false, Bool.true_and, Bool.not_eq_true']
        by_cases e2 : j + 1 = i
        · have := h2 (by omega)
          rw [a_cv_cat, this]
          simp
        · have : (j + 1 == i) = false := by simpa using e2
          rw [this]; rfl
theorem a_L_nn {ad : Nat → Nat} {nL : Nat} {ls : Array Slot} {L : aLs} (h : a_L ad nL ls L) (i : Nat) : a_L ad nL ls (L.set i none) := by
  refine ⟨h.1, by rw [List.length_set]; exact h.2.1, h.2.2.1, fun j v hj => h.2.2.2 j v ?_⟩
  by_cases hij : j = i
  · subst hij
    by_cases hl : j < L.length
    · rw [List.getElem?_set_self hl] at hj; cases hj
    · have : (L.set j none)[j]? = none := by simp; omega
      rw [this] at hj; cases hj
  · rwa [List.getElem?_set_ne (Ne.symm hij)] at hj
/-- the locals at a method's entry, its arguments of one slot each -/
def a_lcl (nL : Nat) (as : List Value) : aLs := as.map some ++ List.replicate (nL - as.length) none
theorem a_args_at : ∀ (vs : List Value) (i : Nat), (∀ v ∈ vs, v.category = 1) → ∀ (j : Nat) (v : Value), vs[j]? = some v → (i + j, v) ∈ lv_args i vs
  | [], _, _, _, _, h => by simp at h
  | w :: vs, i, hc, 0, v, h => by
    simp at h; subst h
    unfold lv_args; simp
  | w :: vs, i, hc, j + 1, v, h => by
    unfold lv_args
    have h1 : w.category = 1 := hc w List.mem_cons_self
    rw [if_neg (by omega)]
    have := a_args_at vs (i + 1) (fun v hv => hc v (List.mem_cons_of_mem _ hv)) j v (by simpa using h)
    rw [show i + (j + 1) = i + 1 + j by omega]
    exact List.mem_cons_of_mem _ this
theorem a_sl1 : ∀ (vs : List Value), (∀ v ∈ vs, v.category = 1) → (lg_sl vs).length = vs.length
  | [], _ => rfl
  | v :: vs, h => by
    have h1 : v.category = 1 := h v List.mem_cons_self
    have := a_sl1 vs (fun v hv => h v (List.mem_cons_of_mem _ hv))
    unfold lg_sl at this ⊢
    rw [List.flatMap_cons, if_neg (by omega), List.length_append, this]
    simp; omega
theorem a_L.entry {ad : Nat → Nat} {nL : Nat} {as : List Value} (hc : ∀ v ∈ as, v.category = 1) (hn : as.length ≤ nL) : a_L ad nL ((lg_sl (as.map (a_cv ad)) ++ List.replicate (nL - (lg_sl (as.map (a_cv ad))).length) Slot.unset).toArray) (a_lcl nL as) := by
  have hc' : ∀ v ∈ as.map (a_cv ad), v.category = 1 := by
    intro v hv
    obtain ⟨w, h1, h2⟩ := List.mem_map.mp hv
    rw [← h2, a_cv_cat]; exact hc w h1
  have hl := a_sl1 _ hc'
  rw [List.length_map] at hl
  have h := lv_entry (as.map (a_cv ad)) (n := nL) (by omega)
  refine ⟨h.1, ?_, h.2.1, fun i v hi => ?_⟩
  · unfold a_lcl; simp; omega
  · unfold a_lcl at hi
    by_cases hil : i < as.length
    · rw [List.getElem?_append_left (by simpa using hil), List.getElem?_map] at hi
      cases hx : as[i]? with
      | none => rw [hx] at hi; cases hi
      | some w =>
        rw [hx] at hi
        cases hi
        have := a_args_at (as.map (a_cv ad)) 0 hc' i (a_cv ad v) (by rw [List.getElem?_map, hx]; rfl)
        rw [Nat.zero_add] at this
        exact h.2.2 _ this
    · rw [List.getElem?_append_right (by simpa using hil)] at hi
      rw [List.getElem?_replicate] at hi
      split at hi <;> cases hi
theorem a_take_spec : ∀ (n : Nat) (acc st as r : List Value), a_take n acc st = some (as, r) → ∃ bs, as = bs.reverse ++ acc ∧ st = bs ++ r ∧ bs.length = n
  | 0, acc, st, as, r, h => by
    unfold a_take at h; cases h
    exact ⟨[], rfl, rfl, rfl⟩
  | n + 1, acc, [], as, r, h => by unfold a_take at h; cases h
  | n + 1, acc, v :: st, as, r, h => by
    unfold a_take at h
    obtain ⟨bs, h1, h2, h3⟩ := a_take_spec n (v :: acc) st as r h
    exact ⟨v :: bs, by rw [h1]; simp, by rw [h2]; rfl, by simp [h3]⟩
theorem a_take_eq {n : Nat} {st as r : List Value} (h : a_take n [] st = some (as, r)) : st = as.reverse ++ r ∧ as.length = n := by
  obtain ⟨bs, h1, h2, h3⟩ := a_take_spec n [] st as r h
  rw [List.append_nil] at h1
  exact ⟨by rw [h1, List.reverse_reverse]; exact h2, by rw [h1, List.length_reverse]; exact h3⟩
theorem a_ok_in {j : Int32} {n : Nat} (h : a_ok j n = true) : vp_in j n := by
  unfold a_ok at h
  simp only [Bool.and_eq_true, decide_eq_true_eq] at h
  exact vp_in_iff.mpr h
end
section
/-! ===== soundness: an abstract step is the machine's ===== -/
def a_isw : Instr → Bool
  | .tableswitch _ _ _ _ => true
  | _ => false
def a_ilen : Instr → Nat
  | .bipush _ => 2 | .ldc _ => 2 | .iload _ => 2 | .lload _ => 2 | .aload _ => 2 | .istore _ => 2 | .lstore _ => 2 | .astore _ => 2 | .newarray _ => 2
  | .sipush _ => 3 | .ldc_w _ => 3 | .ldc2_w _ => 3 | .iinc _ _ => 3 | .ifCond _ _ => 3 | .if_icmp _ _ => 3 | .goto _ => 3 | .getfield _ => 3 | .putfield _ => 3 | .invokevirtual _ => 3 | .invokestatic _ => 3 | .invokespecial _ => 3 | .new _ => 3
  | _ => 1
def a_dok (cc : ByteArray) (pc : Nat) (i : Instr) : Bool := match decode cc pc with
  | .ok (j, len) => decide (j = i) && (a_isw i || Nat.beq len (a_ilen i))
  | .error _ => false
theorem a_dok_ok {cc : ByteArray} {pc : Nat} {i : Instr} (h : a_dok cc pc i = true) (hs : a_isw i = false) : decode cc pc = .ok (i, a_ilen i) := by
  unfold a_dok at h
  split at h
  · rename_i j len hd
    simp only [hs, Bool.false_or, Bool.and_eq_true, decide_eq_true_eq] at h
    rw [hd, h.1, Nat.eq_of_beq_eq_true h.2]
  · cases h
theorem a_dok_sw {cc : ByteArray} {pc : Nat} {i : Instr} (h : a_dok cc pc i = true) : ∃ len, decode cc pc = .ok (i, len) := by
  unfold a_dok at h
  split at h
  · rename_i j len hd
    simp only [Bool.and_eq_true, decide_eq_true_eq] at h
    exact ⟨len, by rw [hd, h.1]⟩
  · cases h
def a_swok (pc : Nat) (lo : Int) (offs : Array Int) (sw : List (Int32 × Nat)) (j : Nat) : Bool := match sw[j]?, offs[j]? with
  | some q, some o => decide (q.1.toInt = lo + j) && decide ((pc : Int) + o = (q.2 : Int))
  | _, _ => false
def a_iok (pc : Nat) (q : aEnt) : Bool := match q.1 with
  | .iconst n => decide (Int32.ofInt n = q.2.1)
  | .bipush n => decide ((Int8.ofInt n).toInt32 = q.2.1)
  | .sipush n => decide ((Int16.ofInt n).toInt32 = q.2.1)
  | .iinc _ n => decide (Int32.ofInt n = q.2.1)
  | .lconst n => decide (Int64.ofNat n.val = q.2.1.toInt64)
  | .ifCond _ off => decide ((pc : Int) + off = (q.2.2.1 : Int))
  | .if_icmp _ off => decide ((pc : Int) + off = (q.2.2.1 : Int))
  | .goto off => decide ((pc : Int) + off = (q.2.2.1 : Int))
  | .tableswitch d lo hi offs => decide ((pc : Int) + d = (q.2.2.1 : Int)) && (decide (hi - lo + 1 = (offs.size : Int)) && (decide (q.2.2.2.length = offs.size) && (List.range offs.size).all (a_swok pc lo offs q.2.2.2)))
  | _ => true
def a_eok (cc : ByteArray) (e : Nat × aEnt) : Bool := a_dok cc e.1 e.2.1 && a_iok e.1 e.2
theorem a_lk_mem {α : Type} : ∀ {l : List (Nat × α)} {n : Nat} {x : α}, a_lk l n = some x → (n, x) ∈ l
  | [], _, _, h => by unfold a_lk at h; cases h
  | q :: t, n, x, h => by
    unfold a_lk at h
    split at h
    · rename_i hb
      cases h
      have := Nat.eq_of_beq_eq_true hb
      subst this
      exact List.mem_cons_self
    · exact List.mem_cons_of_mem _ (a_lk_mem h)
theorem a_sw_spec {ρ : Type} (K1 : Nat → ρ) (x : Int32) (d : Nat) : ∀ sw : List (Int32 × Nat), (a_sw K1 x d sw = K1 d ∧ ∀ q ∈ sw, x ≠ q.1) ∨ ∃ (j : Nat) (q : Int32 × Nat), sw[j]? = some q ∧ x = q.1 ∧ a_sw K1 x d sw = K1 q.2
  | [] => Or.inl ⟨rfl, fun _ h => by cases h⟩
  | q :: t => by
    unfold a_sw
    split
    · rename_i h
      exact Or.inr ⟨0, q, rfl, h, rfl⟩
    · rename_i h
      rcases a_sw_spec K1 x d t with ⟨h1, h2⟩ | ⟨j, q', h1, h2, h3⟩
      · exact Or.inl ⟨h1, fun q' hq => (List.mem_cons.mp hq).elim (fun e => e ▸ h) (h2 q')⟩
      · exact Or.inr ⟨j + 1, q', h1, h2, h3⟩
/-- which cells may change: the world's, and new ones -/
def a_A (ad : Nat → Nat) (N sz : Nat) : Nat → Prop := fun q => (∃ k, k < N ∧ q = ad k) ∨ sz ≤ q
abbrev a_ty : Nat → FieldType := fun t => match t with
  | 0 => .int
  | 1 => .boolean
  | _ => .long
abbrev lw_g : List Cond := lw_tbl.filter goodWord
/-- the shapes are the classes' -/
def a_shok (sh : List aShp) : Prop := ∀ (k ci : Nat) (fk : List (Nat ⊕ Nat)), sh[k]? = some (.inr (ci, fk)) → ∃ (C : String) (T : u_T) (N : Nat), vwCl[ci]? = some (C, T, N) ∧ fk.length = N ∧ ∀ (j t : Nat), fk[j]? = some (.inl t) → t ≤ 2 ∧ parseFieldDescriptor (T j).2.2.1 = some (a_ty t) ∧ (T j).2.2.2 = false
/-- the classes' own rows -/
def a_clok : Prop := ∀ (ci : Nat) (C : String) (T : u_T) (N : Nat), vwCl[ci]? = some (C, T, N) → (∃ ty0 : Nat → FieldType, ∀ k, k < N → parseFieldDescriptor (T k).2.2.1 = some (ty0 k)) ∧ (∀ a, a < N → ∀ b, b < N → a ≠ b → (T a).2.1 ≠ (T b).2.1) ∧ ∀ w ∈ u_ws C T N, w ∈ lw_g
/-- what holds at the law's entry, and of the cells' addresses -/
def a_GF (G : aG) (sh : List aShp) : Prop := (∀ i j, i < sh.length → j < sh.length → g_ad G i = g_ad G j → i = j) ∧ (∀ k, k < sh.length → (g_s G).heap.size ≤ g_ad G k) ∧ va_K (g_D G) vwCl (a_tys (g_ca G)) (g_s G) ∧ (∃ aa : Array Value, ∀ w ∈ lw_tbl, w.before aa (g_s G) = true) ∧ va_X (g_ad G 900) (g_n G) (g_xs G) (g_s G) (g_s G).heap ∧ a_shok sh ∧ a_clok
theorem a_GF.D {G : aG} {sh : List aShp} (h : a_GF G sh) (σ : aMem) (sz : Nat) : va_D (a_A (g_ad G) sh.length sz) (a_wl (g_ad G) (g_ca G) sh σ) := by
  refine ⟨fun i j p q hi hj hpq => ?_, fun k q hk => ?_⟩
  · rw [a_wl_get] at hi hj
    cases hx : sh[i]? with
    | none => rw [hx] at hi; cases hi
    | some x =>
      cases hy : sh[j]? with
      | none => rw [hy] at hj; cases hj
      | some y =>
        rw [hx] at hi; rw [hy] at hj
        cases hi; cases hj
        exact h.1 i j (List.getElem?_eq_some_iff.mp hx).1 (List.getElem?_eq_some_iff.mp hy).1 hpq
  · rw [a_wl_get] at hk
    cases hx : sh[k]? with
    | none => rw [hx] at hk; cases hk
    | some x =>
      rw [hx] at hk
      cases hk
      exact Or.inl ⟨k, (List.getElem?_eq_some_iff.mp hx).1, rfl⟩
section AW
variable (p : Program) (l : Launch) (e : Env) (R : Room) (s : State) (m : MethodId) (args : Array Value) (below : List Frame) (meth : Method) (c : Code) (Q : State → Prop) (G : aG) (sh : List aShp) (nL g0 : Nat)
def a_W (pc : Nat) (L : aLs) (st : List Value) (σ : aMem) : Prop :=
  ∀ (H : Heap) (locs : List Loc) (ls : Array Slot), va_P (g_D G) vwCl (a_wl (g_ad G) (g_ca G) sh σ) H → va_S (a_A (g_ad G) sh.length s.heap.size) s.heap H locs → a_L (g_ad G) nL ls L → (∀ j, j < g_n G → σ.1 900 j = g_xs G j) →
    g0 ≤ σ.2.2 → W p l e R s m args below meth c H locs (σ.2.2 - g0) (6 * (σ.2.2 - g0)) Q (F0 m pc ls (st.map (a_cv (g_ad G))))
/-- .. and no more exceptions than gf -/
def a_K (gf : Nat) (pc : Nat) (L : aLs) (st : List Value) (σ : aMem) : Prop := σ.2.2 ≤ gf ∧ a_W p l e R s m args below meth c Q G sh nL g0 pc L st σ
/-- a method's own frame: its code, its class, the tables behind those of the law's entry, old cells as they were there -/
def a_M (own : String) (cc : ByteArray) : Prop := p.tables.exec = Jvm.exec ∧ c.code = cc ∧ c.maxLocals = nL ∧ s.vm.findClass own = some m.cls ∧ (g_s G).WarmedH s.vm ∧ (g_s G).heap.size ≤ s.heap.size ∧ ∀ q, q < (g_s G).heap.size → s.heap[q]? = (g_s G).heap[q]?
/-- fields by their pool places -/
def a_fok (own : String) (P : aPrg) : Prop := ∀ (n ci j : Nat), (n, ci, j) ∈ a_flds P → ∃ (C : String) (T : u_T) (N : Nat), vwCl[ci]? = some (C, T, N) ∧ j < N ∧ Cond.fieldLink own n (T j).1 (T j).2.1 (T j).2.2.1 ∈ lw_g
/-- constants by their pool places -/
def a_cok (own : String) (P : aPrg) : Prop := (∀ n x, (n, Value.int x) ∈ a_cons P → Cond.constant own n x ∈ lw_g) ∧ (∀ n x, (n, Value.long x) ∈ a_cons P → Cond.constantLong own n x ∈ lw_g) ∧ ∀ n k, (n, Value.ref k) ∈ a_cons P → ∃ tx, vk_R own n tx (g_ad G k) (g_s G)
end AW
theorem a_hts {G : aG} {sh : List aShp} {s : State} {args : Array Value} (hG : a_GF G sh) (hW : (g_s G).WarmedH s.vm) : ∀ w ∈ lw_g, w.before args s = true := by
  intro w hw
  obtain ⟨h1, h2⟩ := List.mem_filter.mp hw
  obtain ⟨aa, h3⟩ := hG.2.2.2.1
  exact word_at hW (good_of_word h2) (h3 w h1)
section AS
variable {p : Program} {l : Launch} {e : Env} {R : Room} {s : State} {m : MethodId} {args : Array Value} {below : List Frame} {meth : Method} {c : Code} {Q : State → Prop} {G : aG} {sh : List aShp} {nL g0 : Nat}
theorem a_ins_sound {gf : Nat} {sl : Option Nat} {own : String} {cc : ByteArray} {P : aPrg} {Fin : aOut → aMem → Prop} (hG : a_GF G sh) (hN : sh.length ≤ 900) (hsl : ∀ n, sl = some n → n = g_n G) (hM : a_M p s m c G nL own cc) (hF : a_fok own P) (hC : a_cok G own P)
    (hRi : ∀ pc L x σ, decode cc pc = .ok (.ireturn, 1) → (a_ret P = 0 ∨ (a_ret P = 1 ∧ (x = 0 ∨ x = 1))) → Fin (.inl (some (.int x))) σ → a_W p l e R s m args below meth c Q G sh nL g0 pc L [.int x] σ)
    (hRv : ∀ pc L σ, decode cc pc = .ok (.return_, 1) → a_ret P = 2 → Fin (.inl none) σ → a_W p l e R s m args below meth c Q G sh nL g0 pc L [] σ)
    (hRl : ∀ pc L x σ, decode cc pc = .ok (.lreturn, 1) → a_ret P = 3 → Fin (.inl (some (.long x))) σ → a_W p l e R s m args below meth c Q G sh nL g0 pc L [.long x] σ)
    (hTh : ∀ pc L st x σ, (pc, x) ∈ a_thr P → a_wt st ≤ 8 → Fin (.inr x) (a_tk σ) → a_W p l e R s m args below meth c Q G sh nL g0 pc L st σ)
    (hCa : ∀ (virt : Bool) n f na ci rk, (n, f, na, ci, rk) ∈ a_cals P → ∀ pc L as r σ, decode cc pc = .ok (if virt then .invokevirtual n else .invokestatic n, 3) → (∃ e, (pc, (if virt then .invokevirtual n else .invokestatic n), e) ∈ a_code P) → a_vok sh virt ci as = true → a_wt r ≤ 8 → as.length = na → a_wt as ≤ na →
      a_crk (a_K p l e R s m args below meth c Q G sh nL g0 gf) False Fin P rk (f as σ) (pc + 3) L r →
      a_W p l e R s m args below meth c Q G sh nL g0 pc L (as.reverse ++ r) σ)
    (i : Instr) (imm : Int32) (tgt : Nat) (sw : List (Int32 × Nat)) (pc : Nat) (L : aLs) (st : List Value) (σ : aMem) (hok : a_eok cc (pc, i, imm, tgt, sw) = true) (hmem : (pc, i, imm, tgt, sw) ∈ a_code P)
    (h : a_ins (a_K p l e R s m args below meth c Q G sh nL g0 gf) False Fin sl sh P i imm tgt sw pc L st σ) : a_W p l e R s m args below meth c Q G sh nL g0 pc L st σ := by
  obtain ⟨hx, hb, hml, hown, hWs, hbs, hbh⟩ := id hM
  have hts := a_hts (args := args) hG hWs
  have hK : va_K (g_D G) vwCl (a_tys (g_ca G)) s := va_K.moved hWs.alike hG.2.2.1
  have hD := fun σ => hG.D σ s.heap.size
  unfold a_eok at hok
  simp only [Bool.and_eq_true] at hok
  obtain ⟨hd, hi⟩ := hok
  have hdg : a_isw i = false → decode cc pc = .ok (i, a_ilen i) := fun hs => a_dok_ok hd hs
  cases i with
  | iconst n =>
    have hv : Int32.ofInt n = imm := by simpa [a_iok] using hi
    intro H locs ls hP hS hL hX hg
    exact lv_iconst hx hb (hdg rfl) hv (h.2 H locs ls hP hS hL hX hg)
  | bipush n =>
    have hv : (Int8.ofInt n).toInt32 = imm := by simpa [a_iok] using hi
    intro H locs ls hP hS hL hX hg
    exact lv_bipush hx hb (hdg rfl) hv (h.2 H locs ls hP hS hL hX hg)
  | sipush n =>
    have hv : (Int16.ofInt n).toInt32 = imm := by simpa [a_iok] using hi
    intro H locs ls hP hS hL hX hg
    exact lv_sipush hx hb (hdg rfl) hv (h.2 H locs ls hP hS hL hX hg)
  | lconst n =>
    have hv : Int64.ofNat n.val = imm.toInt64 := by simpa [a_iok] using hi
    intro H locs ls hP hS hL hX hg
    exact lv_lconst hx hb (hdg rfl) hv (h.2 H locs ls hP hS hL hX hg)
  | iload_n k =>
    unfold a_ins a_ild at h; simp only at h
    split at h
    · rename_i x hk
      intro H locs ls hP hS hL hX hg
      exact lv_iload_n hx hb (hdg rfl) rfl (hL.2.2.2 _ _ hk) (h.2 H locs ls hP hS hL hX hg)
    · exact h.elim
  | iload k =>
    unfold a_ins a_ild at h; simp only at h
    split at h
    · rename_i x hk
      intro H locs ls hP hS hL hX hg
      exact lv_iload hx hb (hdg rfl) (hL.2.2.2 _ _ hk) (h.2 H locs ls hP hS hL hX hg)
    · exact h.elim
  | lload_n k =>
    unfold a_ins a_lld at h; simp only at h
    split at h
    · rename_i x hk
      intro H locs ls hP hS hL hX hg
      exact lv_lload_n hx hb (hdg rfl) rfl (hL.2.2.2 _ _ hk) (h.2 H locs ls hP hS hL hX hg)
    · exact h.elim
  | lload k =>
    unfold a_ins a_lld at h; simp only at h
    split at h
    · rename_i x hk
      intro H locs ls hP hS hL hX hg
      exact lv_lload hx hb (hdg rfl) (hL.2.2.2 _ _ hk) (h.2 H locs ls hP hS hL hX hg)
    · exact h.elim
  | aload_n k =>
    unfold a_ins a_ald at h; simp only at h
    split at h
    · rename_i x hk
      intro H locs ls hP hS hL hX hg
      exact lv_aload_n hx hb (hdg rfl) rfl (hL.2.2.2 _ _ hk) (h.2 H locs ls hP hS hL hX hg)
    · exact h.elim
  | aload k =>
    unfold a_ins a_ald at h; simp only at h
    split at h
    · rename_i x hk
      intro H locs ls hP hS hL hX hg
      exact lv_aload hx hb (hdg rfl) (hL.2.2.2 _ _ hk) (h.2 H locs ls hP hS hL hX hg)
    · exact h.elim
  | istore_n k =>
    unfold a_ins a_ist at h; simp only at h
    split at h
    · rename_i x r
      split at h
      · rename_i hk
        have hk' := Nat.blt_eq.mp hk
        intro H locs ls hP hS hL hX hg
        have hn : k.val < nL := by rw [← hL.2.1]; exact hk'
        exact lv_istore_n hx hb (hdg rfl) rfl hL.has hn rfl (fun ls' hl => h.2 H locs ls' hP hS (a_L.s1 (v := .int x) hL.2.1 hn hl) hX hg)
      · exact h.elim
    · exact h.elim
  | istore k =>
    unfold a_ins a_ist at h; simp only at h
    split at h
    · rename_i x r
      split at h
      · rename_i hk
        have hk' := Nat.blt_eq.mp hk
        intro H locs ls hP hS hL hX hg
        have hn : k < nL := by rw [← hL.2.1]; exact hk'
        exact lv_istore hx hb (hdg rfl) hL.has hn rfl (fun ls' hl => h.2 H locs ls' hP hS (a_L.s1 (v := .int x) hL.2.1 hn hl) hX hg)
      · exact h.elim
    · exact h.elim
  | lstore_n k =>
    unfold a_ins a_lst at h; simp only at h
    split at h
    · rename_i x r
      split at h
      · rename_i hk
        have hk' := Nat.blt_eq.mp hk
        intro H locs ls hP hS hL hX hg
        have hn : k.val + 1 < nL := by rw [← hL.2.1]; exact hk'
        exact lv_lstore_n hx hb (hdg rfl) rfl hL.has hn rfl (fun ls' hl => h.2 H locs ls' hP hS (a_L.s2 (v := .long x) hL.2.1 hn hl) hX hg)
      · exact h.elim
    · exact h.elim
  | lstore k =>
    unfold a_ins a_lst at h; simp only at h
    split at h
    · rename_i x r
      split at h
      · rename_i hk
        have hk' := Nat.blt_eq.mp hk
        intro H locs ls hP hS hL hX hg
        have hn : k + 1 < nL := by rw [← hL.2.1]; exact hk'
        exact lv_lstore hx hb (hdg rfl) hL.has hn rfl (fun ls' hl => h.2 H locs ls' hP hS (a_L.s2 (v := .long x) hL.2.1 hn hl) hX hg)
      · exact h.elim
    · exact h.elim
  | astore_n k =>
    unfold a_ins a_ast at h; simp only at h
    split at h
    · rename_i x r
      split at h
      · rename_i hk
        have hk' := Nat.blt_eq.mp hk
        intro H locs ls hP hS hL hX hg
        have hn : k.val < nL := by rw [← hL.2.1]; exact hk'
        exact lv_astore_n hx hb (hdg rfl) rfl hL.has hn rfl (fun ls' hl => h.2 H locs ls' hP hS (a_L.s1 (v := .ref x) hL.2.1 hn hl) hX hg)
      · exact h.elim
    · exact h.elim
  | astore k =>
    unfold a_ins a_ast at h; simp only at h
    split at h
    · rename_i x r
      split at h
      · rename_i hk
        have hk' := Nat.blt_eq.mp hk
        intro H locs ls hP hS hL hX hg
        have hn : k < nL := by rw [← hL.2.1]; exact hk'
        exact lv_astore hx hb (hdg rfl) hL.has hn rfl (fun ls' hl => h.2 H locs ls' hP hS (a_L.s1 (v := .ref x) hL.2.1 hn hl) hX hg)
      · exact h.elim
    · exact h.elim
  | iinc k n =>
    have hv : Int32.ofInt n = imm := by simpa [a_iok] using hi
    unfold a_ins a_inc at h; simp only at h
    split at h
    · rename_i x hk
      intro H locs ls hP hS hL hX hg
      have hn : k < nL := by rw [← hL.2.1]; exact (List.getElem?_eq_some_iff.mp hk).1
      obtain ⟨k9, hk9⟩ := List.getElem?_of_mem (a_ll_mem (ad := g_ad G) hk)
      exact lv_iinc hx hb (hdg rfl) hL.has hk9 (v := x + imm) (by rw [hv]) hn rfl (fun ls' hl => h.2 H locs ls' hP hS (a_L.s1 (v := .int (x + imm)) hL.2.1 hn hl) hX hg)
    · exact h.elim
  | iadd =>
    unfold a_ins a_bin at h; simp only at h
    split at h
    · intro H locs ls hP hS hL hX hg
      exact lv_iadd hx hb (hdg rfl) (h.2 H locs ls hP hS hL hX hg)
    · exact h.elim
  | isub =>
    unfold a_ins a_bin at h; simp only at h
    split at h
    · intro H locs ls hP hS hL hX hg
      exact lv_isub hx hb (hdg rfl) (h.2 H locs ls hP hS hL hX hg)
    · exact h.elim
  | imul =>
    unfold a_ins a_bin at h; simp only at h
    split at h
    · intro H locs ls hP hS hL hX hg
      exact lv_imul hx hb (hdg rfl) (h.2 H locs ls hP hS hL hX hg)
    · exact h.elim
  | iand =>
    unfold a_ins a_bin at h; simp only at h
    split at h
    · intro H locs ls hP hS hL hX hg
      exact lv_iand hx hb (hdg rfl) (h.2 H locs ls hP hS hL hX hg)
    · exact h.elim
  | ior =>
    unfold a_ins a_bin at h; simp only at h
    split at h
    · intro H locs ls hP hS hL hX hg
      exact lv_ior hx hb (hdg rfl) (h.2 H locs ls hP hS hL hX hg)
    · exact h.elim
  | ixor =>
    unfold a_ins a_bin at h; simp only at h
    split at h
    · intro H locs ls hP hS hL hX hg
      exact lv_ixor hx hb (hdg rfl) (h.2 H locs ls hP hS hL hX hg)
    · exact h.elim
  | ishl =>
    unfold a_ins a_bin at h; simp only at h
    split at h
    · intro H locs ls hP hS hL hX hg
      exact lv_ishl hx hb (hdg rfl) (h.2 H locs ls hP hS hL hX hg)
    · exact h.elim
  | ishr =>
    unfold a_ins a_bin at h; simp only at h
    split at h
    · intro H locs ls hP hS hL hX hg
      exact lv_ishr hx hb (hdg rfl) (h.2 H locs ls hP hS hL hX hg)
    · exact h.elim
  | iushr =>
    unfold a_ins a_bin at h; simp only at h
    split at h
    · intro H locs ls hP hS hL hX hg
      exact lv_iushr hx hb (hdg rfl) rfl (h.2 H locs ls hP hS hL hX hg)
    · exact h.elim
  | idiv =>
    unfold a_ins a_dv at h; simp only at h
    split at h
    · split at h
      · exact h.elim
      · rename_i hne
        intro H locs ls hP hS hL hX hg
        exact lv_idiv hx hb (hdg rfl) hne (h.2 H locs ls hP hS hL hX hg)
    · exact h.elim
  | irem =>
    unfold a_ins a_dv at h; simp only at h
    split at h
    · split at h
      · exact h.elim
      · rename_i hne
        intro H locs ls hP hS hL hX hg
        exact lv_irem hx hb (hdg rfl) hne (h.2 H locs ls hP hS hL hX hg)
    · exact h.elim
  | ineg =>
    unfold a_ins a_un at h; simp only at h
    split at h
    · intro H locs ls hP hS hL hX hg
      exact lv_ineg hx hb (hdg rfl) (h.2 H locs ls hP hS hL hX hg)
    · exact h.elim
  | i2l =>
    unfold a_ins a_un at h; simp only at h
    split at h
    · intro H locs ls hP hS hL hX hg
      exact lv_i2l hx hb (hdg rfl) rfl (h.2 H locs ls hP hS hL hX hg)
    · exact h.elim
  | i2b =>
    unfold a_ins a_un at h; simp only at h
    split at h
    · intro H locs ls hP hS hL hX hg
      exact lv_i2b hx hb (hdg rfl) rfl (h.2 H locs ls hP hS hL hX hg)
    · exact h.elim
  | lor =>
    unfold a_ins a_lbin at h; simp only at h
    split at h
    · intro H locs ls hP hS hL hX hg
      exact lv_lor hx hb (hdg rfl) (h.2 H locs ls hP hS hL hX hg)
    · exact h.elim
  | lsub =>
    unfold a_ins a_lbin at h; simp only at h
    split at h
    · intro H locs ls hP hS hL hX hg
      exact lv_lsub hx hb (hdg rfl) (h.2 H locs ls hP hS hL hX hg)
    · exact h.elim
  | lshl =>
    unfold a_ins a_lsh at h; simp only at h
    split at h
    · intro H locs ls hP hS hL hX hg
      exact lv_lshl hx hb (hdg rfl) rfl (h.2 H locs ls hP hS hL hX hg)
    · exact h.elim
  | lcmp =>
    unfold a_ins a_lcm at h; simp only at h
    split at h
    · intro H locs ls hP hS hL hX hg
      exact W.lcmp hx hb (hdg rfl) (h.2 H locs ls hP hS hL hX hg)
    · exact h.elim
  | dup =>
    unfold a_ins a_dup at h; simp only at h
    split at h
    · intro H locs ls hP hS hL hX hg
      exact lv_dup hx hb (hdg rfl) rfl (h.2 H locs ls hP hS hL hX hg)
    · intro H locs ls hP hS hL hX hg
      exact lv_dup hx hb (hdg rfl) rfl (h.2 H locs ls hP hS hL hX hg)
    · exact h.elim
  | pop =>
    unfold a_ins a_pop at h; simp only at h
    split at h
    · intro H locs ls hP hS hL hX hg
      exact lv_pop hx hb (hdg rfl) rfl (h.2 H locs ls hP hS hL hX hg)
    · intro H locs ls hP hS hL hX hg
      exact lv_pop hx hb (hdg rfl) rfl (h.2 H locs ls hP hS hL hX hg)
    · exact h.elim
  | dup2 =>
    unfold a_ins a_dup2 at h; simp only at h
    split at h
    · intro H locs ls hP hS hL hX hg
      exact lv_dup2_11 hx hb (hdg rfl) rfl rfl (h.2 H locs ls hP hS hL hX hg)
    · exact h.elim
  | goto off =>
    have ht : (pc : Int) + off = (tgt : Int) := by simpa [a_iok] using hi
    intro H locs ls hP hS hL hX hg
    exact lv_goto hx hb (hdg rfl) ht (h.2 H locs ls hP hS hL hX hg)
  | ifCond cnd off =>
    have ht : (pc : Int) + off = (tgt : Int) := by simpa [a_iok] using hi
    unfold a_ins a_if at h; simp only at h
    split at h
    · rename_i x r
      intro H locs ls hP hS hL hX hg
      have go : ∀ {pc' : Nat}, a_W p l e R s m args below meth c Q G sh nL g0 pc' L r σ → W p l e R s m args below meth c H locs (σ.2.2 - g0) (6 * (σ.2.2 - g0)) Q (F0 m pc' ls (r.map (a_cv (g_ad G)))) := fun k => k H locs ls hP hS hL hX hg
      cases cnd <;> unfold a_br at h <;> simp only at h <;> split at h
      · rename_i hc; exact lv_if_eq hx hb (hdg rfl) ht (fun _ => go h.2) (fun hn => absurd hc hn)
      · rename_i hc; exact lv_if_eq hx hb (hdg rfl) ht (fun hn => absurd hn hc) (fun _ => go h.2)
      · rename_i hc; exact lv_if_ne hx hb (hdg rfl) ht (fun hn => absurd hc hn) (fun _ => go h.2)
      · rename_i hc; exact lv_if_ne hx hb (hdg rfl) ht (fun _ => go h.2) (fun hn => absurd hn hc)
      · rename_i hc; exact lv_if_lt hx hb (hdg rfl) ht (fun _ => go h.2) (fun hn => absurd hc hn)
      · rename_i hc; exact lv_if_lt hx hb (hdg rfl) ht (fun hn => absurd hn hc) (fun _ => go h.2)
      · rename_i hc; exact lv_if_ge hx hb (hdg rfl) ht (fun _ => go h.2) (fun hn => absurd hc hn)
      · rename_i hc; exact lv_if_ge hx hb (hdg rfl) ht (fun hn => absurd hn hc) (fun _ => go h.2)
      · rename_i hc; exact lv_if_gt hx hb (hdg rfl) ht (fun _ => go h.2) (fun hn => absurd hc hn)
      · rename_i hc; exact lv_if_gt hx hb (hdg rfl) ht (fun hn => absurd hn hc) (fun _ => go h.2)
      · rename_i hc; exact lv_if_le hx hb (hdg rfl) ht (fun _ => go h.2) (fun hn => absurd hc hn)
      · rename_i hc; exact lv_if_le hx hb (hdg rfl) ht (fun hn => absurd hn hc) (fun _ => go h.2)
    · exact h.elim
  | if_icmp cnd off =>
    have ht : (pc : Int) + off = (tgt : Int) := by simpa [a_iok] using hi
    unfold a_ins a_ic at h; simp only at h
    split at h
    · rename_i y x r
      intro H locs ls hP hS hL hX hg
      have go : ∀ {pc' : Nat}, a_W p l e R s m args below meth c Q G sh nL g0 pc' L r σ → W p l e R s m args below meth c H locs (σ.2.2 - g0) (6 * (σ.2.2 - g0)) Q (F0 m pc' ls (r.map (a_cv (g_ad G)))) := fun k => k H locs ls hP hS hL hX hg
      cases cnd <;> unfold a_br at h <;> simp only at h <;> split at h
      · rename_i hc; exact lv_icmp_eq hx hb (hdg rfl) ht (fun _ => go h.2) (fun hn => absurd hc hn)
      · rename_i hc; exact lv_icmp_eq hx hb (hdg rfl) ht (fun hn => absurd hn hc) (fun _ => go h.2)
      · rename_i hc; exact lv_icmp_ne hx hb (hdg rfl) ht (fun hn => absurd hc hn) (fun _ => go h.2)
      · rename_i hc; exact lv_icmp_ne hx hb (hdg rfl) ht (fun _ => go h.2) (fun hn => absurd hn hc)
      · rename_i hc; exact lv_icmp_lt hx hb (hdg rfl) ht (fun _ => go h.2) (fun hn => absurd hc hn)
      · rename_i hc; exact lv_icmp_lt hx hb (hdg rfl) ht (fun hn => absurd hn hc) (fun _ => go h.2)
      · rename_i hc; exact lv_icmp_ge hx hb (hdg rfl) ht (fun _ => go h.2) (fun hn => absurd hc hn)
      · rename_i hc; exact lv_icmp_ge hx hb (hdg rfl) ht (fun hn => absurd hn hc) (fun _ => go h.2)
      · rename_i hc; exact lv_icmp_gt hx hb (hdg rfl) ht (fun _ => go h.2) (fun hn => absurd hc hn)
      · rename_i hc; exact lv_icmp_gt hx hb (hdg rfl) ht (fun hn => absurd hn hc) (fun _ => go h.2)
      · rename_i hc; exact lv_icmp_le hx hb (hdg rfl) ht (fun _ => go h.2) (fun hn => absurd hc hn)
      · rename_i hc; exact lv_icmp_le hx hb (hdg rfl) ht (fun hn => absurd hn hc) (fun _ => go h.2)
    · exact h.elim
  | tableswitch d lo hi' offs =>
    obtain ⟨len, hdl⟩ := a_dok_sw hd
    simp only [a_iok, Bool.and_eq_true, decide_eq_true_eq, List.all_eq_true, List.mem_range] at hi
    obtain ⟨h1, h2, h3, h4⟩ := hi
    unfold a_ins a_ts at h; simp only at h
    split at h
    · rename_i x r
      intro H locs ls hP hS hL hX hg
      rcases a_sw_spec (fun t => a_K p l e R s m args below meth c Q G sh nL g0 gf t L r σ) x tgt sw with ⟨q1, q2⟩ | ⟨j, q, q1, q2, q3⟩
      · rw [q1] at h
        refine lv_tableOut hx hb hdl ?_ h1 (h.2 H locs ls hP hS hL hX hg)
        by_cases c1 : x.toInt < lo
        · exact Or.inl c1
        by_cases c2 : hi' < x.toInt
        · exact Or.inr c2
        exfalso
        have hj : (x.toInt - lo).toNat < offs.size := by omega
        have h5 := h4 _ hj
        unfold a_swok at h5
        split at h5
        · rename_i q o hq ho
          simp only [Bool.and_eq_true, decide_eq_true_eq] at h5
          refine q2 q (List.mem_of_getElem? hq) ?_
          rw [← Int32.toInt_inj, h5.1]
          omega
        · cases h5
      · rw [q3] at h
        have hj : j < offs.size := by rw [← h3]; exact (List.getElem?_eq_some_iff.mp q1).1
        have h5 := h4 j hj
        unfold a_swok at h5
        rw [q1] at h5
        split at h5
        · rename_i q' o hq ho
          cases hq
          simp only [Bool.and_eq_true, decide_eq_true_eq] at h5
          refine lv_tableIn hx hb hdl (by rw [q2]; omega) (by rw [q2]; omega) (off := o) (by rw [q2, h5.1, show (lo + (j : Int) - lo).toNat = j by omega]; exact ho) h5.2 (h.2 H locs ls hP hS hL hX hg)
        · cases h5
    · exact h.elim
  | ldc n =>
    unfold a_ins a_ldc at h; simp only at h
    split at h
    · rename_i x hv
      intro H locs ls hP hS hL hX hg
      have k := h.2 H locs ls hP hS hL hX hg
      exact lv_ldc hx hb hown (hts _ (hC.1 n x (a_lk_mem hv))) (hdg rfl) k
    · rename_i x hv
      intro H locs ls hP hS hL hX hg
      have k := h.2 H locs ls hP hS hL hX hg
      obtain ⟨tx, hw⟩ := hC.2.2 n x (a_lk_mem hv)
      exact va_ldcS hx hb hown (vk_R.warm hWs hw) (hdg rfl) k
    · exact h.elim
  | ldc_w n =>
    unfold a_ins a_ldw at h; simp only at h
    split at h
    · rename_i x hv
      intro H locs ls hP hS hL hX hg
      exact lv_ldcw hx hb hown (hts _ (hC.1 n x (a_lk_mem hv))) (hdg rfl) (h.2 H locs ls hP hS hL hX hg)
    · exact h.elim
  | ldc2_w n =>
    unfold a_ins a_ld2 at h; simp only at h
    split at h
    · rename_i x hv
      intro H locs ls hP hS hL hX hg
      exact lv_ldc2 hx hb hown (hts _ (hC.2.1 n x (a_lk_mem hv))) (hdg rfl) (h.2 H locs ls hP hS hL hX hg)
    · exact h.elim
  | iaload =>
    unfold a_ins a_ial at h; simp only at h
    split at h
    · rename_i j k r
      split at h
      · rename_i n hk
        split at h
        · rename_i hj
          intro H locs ls hP hS hL hX hg
          exact va_iald hx hb hK hP k 0 ((a_wl_at hk).trans (by rw [a_ce_i (by decide)])) rfl (a_ok_in hj) (hdg rfl) (h.2 H locs ls hP hS hL hX hg)
        · exact h.elim
      · split at h
        · rename_i n h9
          split at h
          · rename_i hj
            have hk9 := Nat.eq_of_beq_eq_true h9
            subst hk9
            intro H locs ls hP hS hL hX hg
            have hn := hsl _ rfl
            subst hn
            have hX0 : va_X (g_ad G 900) (g_n G) (g_xs G) s s.heap := va_X.moved hWs.alike (hG.2.2.2.2.1.kept (hbh _ (by
              obtain ⟨scr, h1, -⟩ := hG.2.2.2.2.1
              exact (Array.getElem?_eq_some_iff.mp h1).1)))
            have hin := vp_in_iff.mp (a_ok_in hj)
            have hlt : j.toNatClampNeg < g_n G := by
              show j.toInt.toNat < _
              omega
            have hbl : g_ad G 900 < s.heap.size := by
              obtain ⟨scr, h1, -⟩ := hX0
              exact (Array.getElem?_eq_some_iff.mp h1).1
            have hbA : ¬ a_A (g_ad G) sh.length s.heap.size (g_ad G 900) := by
              obtain ⟨scr, h1, -⟩ := hG.2.2.2.2.1
              have h2 := (Array.getElem?_eq_some_iff.mp h1).1
              rintro (⟨k, hk, he⟩ | hz)
              · have := hG.2.1 k hk
                omega
              · omega
            have hk := h.2 H locs ls hP hS hL hX hg
            rw [hX _ hlt] at hk
            exact va_sld hx hb hX0 hbl hbA hS (a_ok_in hj) (hdg rfl) hk
          · exact h.elim
        · exact h.elim
      · exact h.elim
    · exact h.elim
  | baload =>
    unfold a_ins a_bal at h; simp only at h
    split at h
    · rename_i j k r
      split at h
      · rename_i n hk
        split at h
        · rename_i hj
          intro H locs ls hP hS hL hX hg
          exact va_bald hx hb hK hP k 1 ((a_wl_at hk).trans (by rw [a_ce_i (by decide)])) rfl (a_ok_in hj) (hdg rfl) (h.2 H locs ls hP hS hL hX hg)
        · exact h.elim
      · rename_i n hk
        split at h
        · rename_i hj
          intro H locs ls hP hS hL hX hg
          exact va_zald hx hb hK hP k 2 ((a_wl_at hk).trans (by rw [a_ce_i (by decide)])) rfl (a_ok_in hj) (hdg rfl) (h.2 H locs ls hP hS hL hX hg)
        · exact h.elim
      · exact h.elim
    · exact h.elim
  | laload =>
    unfold a_ins a_lal at h; simp only at h
    split at h
    · rename_i j k r
      split at h
      · rename_i n hk
        split at h
        · rename_i hj
          intro H locs ls hP hS hL hX hg
          exact va_lald hx hb hK hP k 3 (a_wl_at hk) rfl (a_ok_in hj) (hdg rfl) (h.2 H locs ls hP hS hL hX hg)
        · exact h.elim
      · exact h.elim
    · exact h.elim
  | iastore =>
    unfold a_ins a_ias at h; simp only at h
    split at h
    · rename_i x j k r
      split at h
      · rename_i n hk
        split at h
        · rename_i hj
          intro H locs ls hP hS hL hX hg
          have hne : (900 : Nat) ≠ k := fun e => absurd (List.getElem?_eq_some_iff.mp hk).1 (Nat.not_lt.mpr (e ▸ hN))
          refine va_iast hx hb hK hP (hD σ) hS k 0 ((a_wl_at hk).trans (by rw [a_ce_i (by decide)])) rfl (a_ok_in hj) (hdg rfl) (fun H1 locs1 hP1 _ hS1 => ?_)
          rw [a_wl_ia hk (by decide)] at hP1
          exact h.2 H1 locs1 ls hP1 hS1 hL (fun i hi => by rw [a_si_ne hne]; exact hX i hi) hg
        · exact h.elim
      · exact h.elim
    · exact h.elim
  | bastore =>
    unfold a_ins a_bas at h; simp only at h
    split at h
    · rename_i x j k r
      split at h
      · rename_i n hk
        split at h
        · rename_i hj
          intro H locs ls hP hS hL hX hg
          have hne : (900 : Nat) ≠ k := fun e => absurd (List.getElem?_eq_some_iff.mp hk).1 (Nat.not_lt.mpr (e ▸ hN))
          refine va_bast hx hb hK hP (hD σ) hS k 1 ((a_wl_at hk).trans (by rw [a_ce_i (by decide)])) rfl (a_ok_in hj) (hdg rfl) (fun H1 locs1 hP1 _ hS1 => ?_)
          rw [a_wl_ia hk (by decide)] at hP1
          exact h.2 H1 locs1 ls hP1 hS1 hL (fun i hi => by rw [a_si_ne hne]; exact hX i hi) hg
        · exact h.elim
      · rename_i n hk
        split at h
        · rename_i hj
          intro H locs ls hP hS hL hX hg
          have hne : (900 : Nat) ≠ k := fun e => absurd (List.getElem?_eq_some_iff.mp hk).1 (Nat.not_lt.mpr (e ▸ hN))
          refine va_zast hx hb hK hP (hD σ) hS k 2 ((a_wl_at hk).trans (by rw [a_ce_i (by decide)])) rfl (a_ok_in hj) (hdg rfl) (fun H1 locs1 hP1 _ hS1 => ?_)
          rw [a_wl_ia hk (by decide)] at hP1
          exact h.2 H1 locs1 ls hP1 hS1 hL (fun i hi => by rw [a_si_ne hne]; exact hX i hi) hg
        · exact h.elim
      · exact h.elim
    · exact h.elim
  | lastore =>
    unfold a_ins a_las at h; simp only at h
    split at h
    · rename_i x j k r
      split at h
      · rename_i n hk
        split at h
        · rename_i hj
          intro H locs ls hP hS hL hX hg
          refine va_last hx hb hK hP (hD σ) hS k 3 (a_wl_at hk) rfl (a_ok_in hj) (hdg rfl) (fun H1 locs1 hP1 _ hS1 => ?_)
          rw [a_wl_la hk] at hP1
          exact h.2 H1 locs1 ls hP1 hS1 hL hX hg
        · exact h.elim
      · exact h.elim
    · exact h.elim
  | arraylength =>
    unfold a_ins a_len at h; simp only at h
    split at h
    · rename_i k r
      split at h
      · rename_i t n hk
        split at h
        · rename_i ht
          have ht := Nat.le_of_ble_eq_true ht
          intro H locs ls hP hS hL hX hg
          rcases (show t = 0 ∨ t = 1 ∨ t = 2 ∨ t = 3 by omega) with rfl | rfl | rfl | rfl
          · exact va_alen hx hb hK hP k 0 (a_wl_at hk) rfl rfl (hdg rfl) (h.2 H locs ls hP hS hL hX hg)
          · exact va_alen hx hb hK hP k 1 (a_wl_at hk) rfl rfl (hdg rfl) (h.2 H locs ls hP hS hL hX hg)
          · exact va_alen hx hb hK hP k 2 (a_wl_at hk) rfl rfl (hdg rfl) (h.2 H locs ls hP hS hL hX hg)
          · exact va_alen hx hb hK hP k 3 (a_wl_at hk) rfl rfl (hdg rfl) (h.2 H locs ls hP hS hL hX hg)
        · exact h.elim
      · split at h
        · rename_i n h9
          have hk9 := Nat.eq_of_beq_eq_true h9
          subst hk9
          have hn := hsl _ rfl
          subst hn
          intro H locs ls hP hS hL hX hg
          have hX0 : va_X (g_ad G 900) (g_n G) (g_xs G) s s.heap := va_X.moved hWs.alike (hG.2.2.2.2.1.kept (hbh _ (by
            obtain ⟨scr, h1, -⟩ := hG.2.2.2.2.1
            exact (Array.getElem?_eq_some_iff.mp h1).1)))
          have hbl : g_ad G 900 < s.heap.size := by
            obtain ⟨scr, h1, -⟩ := hX0
            exact (Array.getElem?_eq_some_iff.mp h1).1
          have hbA : ¬ a_A (g_ad G) sh.length s.heap.size (g_ad G 900) := by
            obtain ⟨scr, h1, -⟩ := hG.2.2.2.2.1
            have h2 := (Array.getElem?_eq_some_iff.mp h1).1
            rintro (⟨k, hk, he⟩ | hz)
            · have := hG.2.1 k hk
              omega
            · omega
          exact va_slen hx hb hX0 hbl hbA hS (hdg rfl) (h.2 H locs ls hP hS hL hX hg)
        · exact h.elim
      · exact h.elim
    · exact h.elim
  | getfield n =>
    unfold a_ins a_gf at h; simp only at h
    split at h
    · rename_i k r
      split at h
      · rename_i ci j c2 fk hf hk
        have hf := a_lk_mem hf
        obtain ⟨C, T, N, hc, hj, hw⟩ := hF n ci j hf
        obtain ⟨-, -, hin⟩ := hG.2.2.2.2.2.2 ci C T N hc
        intro H locs ls hP hS hL hX hg
        have key : ∀ v, Nat.beq c2 ci = true → fk[j]? = some v → W p l e R s m args below meth c H locs (σ.2.2 - g0) (6 * (σ.2.2 - g0)) Q (F0 m (pc + 3) ls (a_fv (g_ad G) σ k (v, j) :: r.map (a_cv (g_ad G)))) → W p l e R s m args below meth c H locs (σ.2.2 - g0) (6 * (σ.2.2 - g0)) Q (F0 m pc ls ((Value.ref k :: r).map (a_cv (g_ad G)))) := by
          intro v hci hv kk
          have hci := Nat.eq_of_beq_eq_true hci
          subst hci
          exact va_get (C := C) (T := T) (N := N) hx hb hts hin hown hK hP k (a_wl_at hk) hc j hj (hts _ hw) (fun _ h => h) (a_fv_get hv) (hdg rfl) kk
        split at h
        · rename_i h1 h2
          exact key _ h1 h2 (h.2 H locs ls hP hS hL hX hg)
        · rename_i t ht h1 h2
          refine key _ h1 h2 ?_
          have := h.2 H locs ls hP hS hL hX hg
          have e1 : a_fv (g_ad G) σ k (Sum.inl t, j) = .int (σ.1 k j) := by
            unfold a_fv
            split
            · rename_i h3; cases h3; exact absurd rfl ht
            · rfl
            · rename_i h3; cases h3
          rw [e1]
          exact this
        · rename_i q h1 h2
          exact key _ h1 h2 (h.2 H locs ls hP hS hL hX hg)
        · exact h.elim
      · exact h.elim
    · exact h.elim
  | putfield n =>
    unfold a_ins a_pf at h; simp only at h
    have key : ∀ (k ci j c2 : Nat) (fk : List (Nat ⊕ Nat)) (t : Nat) (v : Value) (r : List Value) (H : Heap) (locs : List Loc) (ls : Array Slot), va_P (g_D G) vwCl (a_wl (g_ad G) (g_ca G) sh σ) H → va_S (a_A (g_ad G) sh.length s.heap.size) s.heap H locs →
        a_lk (a_flds P) n = some (ci, j) → sh[k]? = some (.inr (c2, fk)) → Nat.beq c2 ci = true → fk[j]? = some (.inl t) → narrow (a_ty t) v = v → fits (a_ty t) v = true →
        (∀ (H1 : Heap) (locs1 : List Loc), va_P (g_D G) vwCl ((a_wl (g_ad G) (g_ca G) sh σ).set k (g_ad G k, .inr (c2, (fk.zipIdx.map (a_fv (g_ad G) σ k)).set j v))) H1 → va_S (a_A (g_ad G) sh.length s.heap.size) s.heap H1 locs1 → W p l e R s m args below meth c H1 locs1 (σ.2.2 - g0) (6 * (σ.2.2 - g0)) Q (F0 m (pc + 3) ls r)) →
        W p l e R s m args below meth c H locs (σ.2.2 - g0) (6 * (σ.2.2 - g0)) Q (F0 m pc ls (v :: .ref (g_ad G k) :: r)) := by
      intro k ci j c2 fk t v r H locs ls hP hS hf hk hci hj hnar hfit kk
      have hci := Nat.eq_of_beq_eq_true hci
      subst hci
      obtain ⟨C, T, N, hc, hjN, hw⟩ := hF n _ j (a_lk_mem hf)
      obtain ⟨⟨ty0, hty⟩, hnm, hin⟩ := hG.2.2.2.2.2.2 _ C T N hc
      obtain ⟨C2, T2, N2, hc2, hlen, hfk⟩ := hG.2.2.2.2.2.1 k _ fk hk
      cases hc.symm.trans hc2
      obtain ⟨-, hd2, hfin⟩ := hfk j t hj
      exact va_put (C := C) (T := T) (N := N) hx hb hts hin ty0 hty hnm hown hK hP (hD σ) hS k (a_wl_at hk) hc j hjN (hts _ hw) (fun _ h => h) hfin hd2 hnar hfit (by simpa using (List.getElem?_eq_some_iff.mp hj).1) (hdg rfl) (fun H1 locs1 a1 _ a3 => kk H1 locs1 a1 a3)
    split at h
    · rename_i x k r
      split at h
      · rename_i ci j c2 fk hf hk
        have hne : (900 : Nat) ≠ k := fun e => absurd (List.getElem?_eq_some_iff.mp hk).1 (Nat.not_lt.mpr (e ▸ hN))
        intro H locs ls hP hS hL hX hg
        split at h
        · rename_i h1 h2
          refine key k ci j c2 fk 0 (.int x) _ H locs ls hP hS hf hk h1 h2 rfl rfl (fun H1 locs1 hP1 hS1 => ?_)
          rw [a_wl_io hk h2 (by decide)] at hP1
          exact h.2 H1 locs1 ls hP1 hS1 hL (fun i hi => by rw [a_si_ne hne]; exact hX i hi) hg
        · rename_i h1 h2
          split at h
          · rename_i h01
            refine key k ci j c2 fk 1 (.int x) _ H locs ls hP hS hf hk h1 h2 (by rcases h01 with rfl | rfl <;> rfl) (by rcases h01 with rfl | rfl <;> rfl) (fun H1 locs1 hP1 hS1 => ?_)
            rw [a_wl_io hk h2 (by decide)] at hP1
            exact h.2 H1 locs1 ls hP1 hS1 hL (fun i hi => by rw [a_si_ne hne]; exact hX i hi) hg
          · exact h.elim
        · exact h.elim
      · exact h.elim
    · rename_i x k r
      split at h
      · rename_i ci j c2 fk hf hk
        intro H locs ls hP hS hL hX hg
        split at h
        · rename_i h1 h2
          refine key k ci j c2 fk 2 (.long x) _ H locs ls hP hS hf hk h1 h2 rfl rfl (fun H1 locs1 hP1 hS1 => ?_)
          rw [a_wl_lo hk h2] at hP1
          exact h.2 H1 locs1 ls hP1 hS1 hL hX hg
        · exact h.elim
      · exact h.elim
    · exact h.elim
  | invokevirtual n =>
    unfold a_ins a_call at h; simp only at h
    split at h
    · exact h.elim
    · rename_i f na ci rk hf
      split at h
      · exact h.elim
      · rename_i as r hta
        obtain ⟨e1, e2⟩ := a_take_eq hta
        split at h
        · exact h.elim
        · rename_i hb9
          simp only [Bool.and_eq_true] at hb9
          rw [e1]
          refine hCa true n f na ci rk (a_lk_mem hf) pc L as r σ (hdg rfl) ⟨_, hmem⟩ hb9.2.2 (Nat.le_of_ble_eq_true hb9.1) e2 (Nat.le_of_ble_eq_true hb9.2.1) h
  | invokestatic n =>
    unfold a_ins a_call at h; simp only at h
    split at h
    · exact h.elim
    · rename_i f na ci rk hf
      split at h
      · exact h.elim
      · rename_i as r hta
        obtain ⟨e1, e2⟩ := a_take_eq hta
        split at h
        · exact h.elim
        · rename_i hb9
          simp only [Bool.and_eq_true] at hb9
          rw [e1]
          refine hCa false n f na ci rk (a_lk_mem hf) pc L as r σ (hdg rfl) ⟨_, hmem⟩ hb9.2.2 (Nat.le_of_ble_eq_true hb9.1) e2 (Nat.le_of_ble_eq_true hb9.2.1) h
  | ireturn =>
    unfold a_ins a_rti at h; simp only at h
    split at h
    · split at h
      · rename_i h0
        exact hRi pc L _ σ (hdg rfl) (Or.inl h0) h
      · rename_i h0
        split at h
        · rename_i h01
          exact hRi pc L _ σ (hdg rfl) (Or.inr ⟨h0, h01⟩) h
        · exact h.elim
      · exact h.elim
    · exact h.elim
  | return_ =>
    unfold a_ins a_rtv at h; simp only at h
    split at h
    · split at h
      · rename_i h0
        exact hRv pc L σ (hdg rfl) h0 h
      · exact h.elim
    · exact h.elim
  | lreturn =>
    unfold a_ins a_rtl at h; simp only at h
    split at h
    · split at h
      · rename_i h0
        exact hRl pc L _ σ (hdg rfl) h0 h
      · exact h.elim
    · exact h.elim
  | new n =>
    unfold a_ins a_th at h; simp only at h
    split at h
    · rename_i x hx9
      split at h
      · rename_i h8
        exact hTh pc L st x σ (a_lk_mem hx9) (Nat.le_of_ble_eq_true h8) h
      · exact h.elim
    · exact h.elim
  | _ => exact False.elim h
end AS
end
section
/-! ===== methods: runs, contracts, calls ===== -/
abbrev a_en : Nat → String := fun x => match x with
  | 0 => "java/util/NoSuchElementException"
  | _ => "java/lang/IllegalArgumentException"
abbrev a_rm (fr lo n : Nat) : Room := { frames := fr, cells := n, slots := 6 * n, locals := lo }
def a_Wh (G : aG) (sh : List aShp) (σ : aMem) (H : Heap) : Prop := va_P (g_D G) vwCl (a_wl (g_ad G) (g_ca G) sh σ) H ∧ (g_s G).heap.size ≤ H.size ∧ (∀ q, q < (g_s G).heap.size → H[q]? = (g_s G).heap[q]?) ∧ ∀ j, j < g_n G → σ.1 900 j = g_xs G j
def a_Pre (G : aG) (sh : List aShp) (as : List Value) (σ : aMem) (sz : Nat) : Array Value → State → Prop := va_Pc (as.map (a_cv (g_ad G))) (fun U => U.heap.size = sz ∧ (g_s G).WarmedH U.vm ∧ a_Wh G sh σ U.heap)
def a_Qr (G : aG) (sh : List aShp) (v : Option Value) (σ : aMem) (sz : Nat) : Array Value → State → Outcome → State → Prop := fun _ st o t => o = .returned (v.map (a_cv (g_ad G))) ∧ a_Wh G sh σ t.heap ∧ va_F (a_A (g_ad G) sh.length sz) st t
def a_Qx (G : aG) (sh : List aShp) (x : Nat) (σ : aMem) (sz : Nat) : String → State → State → Prop := fun E st t => E = a_en x ∧ a_Wh G sh σ t.heap ∧ va_F (a_A (g_ad G) sh.length sz) st t
/-- a method's contract: where its function answers, it answers so, or throws so -/
def a_Con (l : Launch) (G : aG) (sh : List aShp) (y : MethodName) (w : Cond) (fr lo : Nat) (f : aMF) : Prop :=
  ∀ (as : List Value) (σ : aMem) (o : aOut) (σ' : aMem), f as σ = some (o, σ') → a_wt as ≤ as.length → σ.2.2 ≤ σ'.2.2 ∧ ∀ sz : Nat, match o with
    | .inl v => Met l y [w] (a_rm fr lo (σ'.2.2 - σ.2.2)) (a_Pre G sh as σ sz) (a_Qr G sh v σ' sz) (σ'.2.2 - σ.2.2) (6 * (σ'.2.2 - σ.2.2)) (a_A (g_ad G) sh.length sz)
    | .inr x => vx_Met l y [w] (a_rm fr lo (σ'.2.2 - σ.2.2)) (a_Pre G sh as σ sz) (fun _ _ _ _ => False) (a_Qx G sh x σ' sz) (σ'.2.2 - σ.2.2) (6 * (σ'.2.2 - σ.2.2)) (a_A (g_ad G) sh.length sz)
theorem a_Pre_blind (G : aG) (sh : List aShp) (as : List Value) (σ : aMem) (sz : Nat) : FrameBlind (a_Pre G sh as σ sz) := fun _ _ _ _ h => h
theorem a_A_old {G : aG} {sh : List aShp} (hG : a_GF G sh) {sz q : Nat} (hs : (g_s G).heap.size ≤ sz) (hq : q < (g_s G).heap.size) : ¬ a_A (g_ad G) sh.length sz q := by
  rintro (⟨k, hk, he⟩ | hz)
  · have := hG.2.1 k hk
    omega
  · omega
theorem a_A_sub {ad : Nat → Nat} {N a b : Nat} (h : a ≤ b) : ∀ q, a_A ad N b q → a_A ad N a q := fun q hq => hq.elim Or.inl (fun z => Or.inr (Nat.le_trans h z))
theorem a_Wh_of {G : aG} {sh : List aShp} {s : State} {σ : aMem} {H : Heap} {locs : List Loc} (hG : a_GF G sh) (hs : (g_s G).heap.size ≤ s.heap.size) (ho : ∀ q, q < (g_s G).heap.size → s.heap[q]? = (g_s G).heap[q]?) (hP : va_P (g_D G) vwCl (a_wl (g_ad G) (g_ca G) sh σ) H) (hS : va_S (a_A (g_ad G) sh.length s.heap.size) s.heap H locs) (hX : ∀ j, j < g_n G → σ.1 900 j = g_xs G j) : a_Wh G sh σ H :=
  ⟨hP, Nat.le_trans hs hS.1, fun q hq => by rw [hS.2.1 q (Nat.lt_of_lt_of_le hq hs) (a_A_old hG hs hq)]; exact ho q hq, hX⟩
theorem a_wt_one {as : List Value} (h : a_wt as ≤ as.length) : ∀ v ∈ as, v.category = 1 := by
  have key : ∀ as : List Value, as.length ≤ a_wt as ∧ (a_wt as ≤ as.length → ∀ v ∈ as, v.category = 1) := by
    intro as
    induction as with
    | nil => exact ⟨Nat.le_refl _, fun _ v hv => by cases hv⟩
    | cons w r ih =>
      have hc : 1 ≤ w.category := by rcases lv_cat w with h | h <;> omega
      refine ⟨by simp only [List.length_cons, a_wt]; omega, fun h v hv => ?_⟩
      simp only [List.length_cons, a_wt] at h
      rcases List.mem_cons.mp hv with rfl | hv
      · omega
      · exact ih.2 (by omega) v hv
  exact (key as).2 h
theorem a_crk_ret {ρ : Type} {K : Nat → aLs → List Value → aMem → ρ} {Rt : aOut → aMem → ρ} {N : ρ} {P : aPrg} {rk : Nat} {v : Option Value} {σ' : aMem} {pc : Nat} {L : aLs} {r : List Value} : a_crk K N Rt P rk (some (.inl v, σ')) pc L r = N ∨ a_crk K N Rt P rk (some (.inl v, σ')) pc L r = K pc L (v.toList ++ r) σ' := by
  unfold a_crk
  split
  · unfold a_bi
    split
    · rename_i h; cases h; exact Or.inr rfl
    · rename_i h; cases h
    · exact Or.inl rfl
  · unfold a_bv
    split
    · rename_i h; cases h; exact Or.inr rfl
    · rename_i h; cases h
    · exact Or.inl rfl
  · unfold a_bl
    split
    · rename_i h; cases h; exact Or.inr rfl
    · rename_i h; cases h
    · exact Or.inl rfl
theorem a_crk_thr {ρ : Type} {K : Nat → aLs → List Value → aMem → ρ} {Rt : aOut → aMem → ρ} {N : ρ} {P : aPrg} {rk x : Nat} {σ' : aMem} {pc : Nat} {L : aLs} {r : List Value} : a_crk K N Rt P rk (some (.inr x, σ')) pc L r = a_exc K Rt P L x σ' := by
  unfold a_crk
  split <;> rfl
theorem a_crk_none {ρ : Type} {K : Nat → aLs → List Value → aMem → ρ} {Rt : aOut → aMem → ρ} {N : ρ} {P : aPrg} {rk : Nat} {pc : Nat} {L : aLs} {r : List Value} : a_crk K N Rt P rk none pc L r = N := by
  unfold a_crk
  split <;> rfl
/-- no exception is unmade -/
def a_mono (f : aMF) : Prop := ∀ (as : List Value) (σ : aMem) (o : aOut) (σ' : aMem), f as σ = some (o, σ') → σ.2.2 ≤ σ'.2.2
set_option maxHeartbeats 4000000 in
theorem a_ins_mono {sl : Option Nat} {sh : List aShp} {P : aPrg} (hf : ∀ n f na ci rk, (n, f, na, ci, rk) ∈ a_cals P → ∀ (as : List Value) (σ : aMem) (o : aOut) (σ' : aMem), f as σ = some (o, σ') → a_wt as ≤ as.length → σ.2.2 ≤ σ'.2.2) (i : Instr) (imm : Int32) (tgt : Nat) (sw : List (Int32 × Nat)) (pc : Nat) (L : aLs) (st : List Value) (σ : aMem) :
    a_ins (fun _ _ _ τ => σ.2.2 ≤ τ.2.2) True (fun _ τ => σ.2.2 ≤ τ.2.2) sl sh P i imm tgt sw pc L st σ := by
  have hr : ∀ τ : aMem, σ.2.2 ≤ τ.2.2 → ∀ x, a_exc (fun _ _ _ τ => σ.2.2 ≤ τ.2.2) (fun _ τ => σ.2.2 ≤ τ.2.2) P L x τ := by
    intro τ h x
    unfold a_exc
    split <;> exact h
  have hcall : ∀ virt n pc, a_call (fun _ _ _ τ => σ.2.2 ≤ τ.2.2) True (fun _ τ => σ.2.2 ≤ τ.2.2) sh P virt n pc L st σ := by
    intro virt n pc
    unfold a_call
    split
    · trivial
    · rename_i f na ci rk hfl
      split
      · trivial
      · rename_i as r hta
        obtain ⟨e1, e2⟩ := a_take_eq hta
        split
        · trivial
        · rename_i hb9
          simp only [Bool.and_eq_true] at hb9
          have hw := Nat.le_of_ble_eq_true hb9.2.1
          rw [← e2] at hw
          have hm := hf n f na ci rk (a_lk_mem hfl) as σ
          generalize f as σ = o at hm
          match o, hm with
          | none, _ => rw [a_crk_none]; trivial
          | some (.inl v, τ), hm =>
            rcases a_crk_ret (K := fun _ _ _ (τ : aMem) => σ.2.2 ≤ τ.2.2) (Rt := fun _ (τ : aMem) => σ.2.2 ≤ τ.2.2) (N := True) (P := P) (rk := rk) (v := v) (σ' := τ) (pc := pc) (L := L) (r := r) with h | h
            · rw [h]; trivial
            · rw [h]; exact hm _ _ rfl hw
          | some (.inr x, τ), hm => rw [a_crk_thr]; exact hr τ (hm _ _ rfl hw) x
  cases i <;> unfold a_ins <;> simp only
  all_goals first
    | exact Nat.le_refl _
    | trivial
    | exact hcall ..
    | (unfold a_ts; split <;> first | trivial | (rename_i x r; rcases a_sw_spec (fun _ => σ.2.2 ≤ σ.2.2) x tgt sw with ⟨q1, -⟩ | ⟨j, q, -, -, q3⟩ <;> first | (rw [q1]; exact Nat.le_refl _) | (rw [q3]; exact Nat.le_refl _)))
    | (unfold a_if; split <;> first | trivial | (unfold a_br; split <;> split <;> exact Nat.le_refl _))
    | (unfold a_ic; split <;> first | trivial | (unfold a_br; split <;> split <;> exact Nat.le_refl _))
    | (unfold a_ild; split <;> first | trivial | exact Nat.le_refl _)
    | (unfold a_lld; split <;> first | trivial | exact Nat.le_refl _)
    | (unfold a_ald; split <;> first | trivial | exact Nat.le_refl _)
    | (unfold a_ist; split <;> first | trivial | (split <;> first | trivial | exact Nat.le_refl _))
    | (unfold a_ast; split <;> first | trivial | (split <;> first | trivial | exact Nat.le_refl _))
    | (unfold a_lst; split <;> first | trivial | (split <;> first | trivial | exact Nat.le_refl _))
    | (unfold a_inc; split <;> first | trivial | exact Nat.le_refl _)
    | (unfold a_bin; split <;> first | trivial | exact Nat.le_refl _)
    | (unfold a_dv; split <;> first | trivial | (split <;> first | trivial | exact Nat.le_refl _))
    | (unfold a_lbin; split <;> first | trivial | exact Nat.le_refl _)
    | (unfold a_un; split <;> first | trivial | exact Nat.le_refl _)
    | (unfold a_lcm; split <;> first | trivial | exact Nat.le_refl _)
    | (unfold a_lsh; split <;> first | trivial | exact Nat.le_refl _)
    | (unfold a_dup; split <;> first | trivial | exact Nat.le_refl _)
    | (unfold a_pop; split <;> first | trivial | exact Nat.le_refl _)
    | (unfold a_dup2; split <;> first | trivial | exact Nat.le_refl _)
    | (unfold a_ial; split <;> first | trivial | (split <;> first | trivial | (split <;> first | trivial | exact Nat.le_refl _ | (split <;> first | trivial | exact Nat.le_refl _))))
    | (unfold a_bal; split <;> first | trivial | (split <;> first | trivial | (split <;> first | trivial | exact Nat.le_refl _)))
    | (unfold a_lal; split <;> first | trivial | (split <;> first | trivial | (split <;> first | trivial | exact Nat.le_refl _)))
    | (unfold a_ias; split <;> first | trivial | (split <;> first | trivial | (split <;> first | trivial | exact Nat.le_refl _)))
    | (unfold a_bas; split <;> first | trivial | (split <;> first | trivial | (split <;> first | trivial | exact Nat.le_refl _)))
    | (unfold a_las; split <;> first | trivial | (split <;> first | trivial | (split <;> first | trivial | exact Nat.le_refl _)))
    | (unfold a_len; split <;> first | trivial | (split <;> first | trivial | (split <;> first | trivial | exact Nat.le_refl _)))
    | (unfold a_gf; split <;> first | trivial | (split <;> first | trivial | (split <;> first | trivial | exact Nat.le_refl _)))
    | (unfold a_pf; split <;> first | trivial | (split <;> first | trivial | (split <;> first | trivial | exact Nat.le_refl _ | (split <;> first | trivial | exact Nat.le_refl _))))
    | (unfold a_ldc; split <;> first | trivial | exact Nat.le_refl _)
    | (unfold a_ldw; split <;> first | trivial | exact Nat.le_refl _)
    | (unfold a_ld2; split <;> first | trivial | exact Nat.le_refl _)
    | (unfold a_rti; split <;> first | trivial | (split <;> first | trivial | exact Nat.le_refl _ | (split <;> first | trivial | exact Nat.le_refl _)))
    | (unfold a_rtv; split <;> first | trivial | (split <;> first | trivial | exact Nat.le_refl _))
    | (unfold a_rtl; split <;> first | trivial | (split <;> first | trivial | exact Nat.le_refl _))
    | (unfold a_th; split <;> first | trivial | (split <;> first | trivial | exact Nat.le_succ _))
theorem a_run_mono {sl : Option Nat} {sh : List aShp} {P : aPrg} (hf : ∀ n f na ci rk, (n, f, na, ci, rk) ∈ a_cals P → ∀ (as : List Value) (σ : aMem) (o : aOut) (σ' : aMem), f as σ = some (o, σ') → a_wt as ≤ as.length → σ.2.2 ≤ σ'.2.2) :
    ∀ (n : Nat) (pc : Nat) (L : aLs) (st : List Value) (σ : aMem) (r : aRes), a_runN sl sh P n pc L st σ = some r → σ.2.2 ≤ r.2.2.2
  | 0, _, _, _, _, _, h => by simp [a_runN] at h
  | n + 1, pc, L, st, σ, r, h => by
    unfold a_runN at h
    rw [a_sem_nat] at h
    have key : a_sem (fun _ _ _ (τ : aMem) => σ.2.2 ≤ τ.2.2) True (fun _ (τ : aMem) => σ.2.2 ≤ τ.2.2) sl sh P pc L st σ := by
      unfold a_sem
      split
      · trivial
      · exact a_ins_mono hf ..
    rw [a_sem_nat] at key
    generalize a_stp sl sh P pc L st σ = x at h key
    match x, h, key with
    | none, h, _ => cases h
    | some (.inl (pc', L', st', σ')), h, key => exact Nat.le_trans key (a_run_mono hf n pc' L' st' σ' r h)
    | some (.inr (o, σ')), h, key => cases h; exact key
end
section
/-! ===== runs are the machine's; calls by contract; a method's contract out of its checks ===== -/
theorem a_ins_nt {sl : Option Nat} {sh : List aShp} {P : aPrg} (ht : a_thr P = []) (hh : ∀ n f na ci rk, (n, f, na, ci, rk) ∈ a_cals P → ∀ (as : List Value) (σ : aMem) (x : Nat) (σ' : aMem), f as σ ≠ some (.inr x, σ')) (i : Instr) (imm : Int32) (tgt : Nat) (sw : List (Int32 × Nat)) (pc : Nat) (L : aLs) (st : List Value) (σ : aMem) :
    a_ins (fun _ _ _ _ => True) True (fun o _ => ∃ v, o = .inl v) sl sh P i imm tgt sw pc L st σ := by
  have hcall : ∀ virt n pc, a_call (fun _ _ _ _ => True) True (fun o _ => ∃ v, o = .inl v) sh P virt n pc L st σ := by
    intro virt n pc
    unfold a_call
    split
    · trivial
    · rename_i f na ci rk hfl
      split
      · trivial
      · rename_i as r hta
        split
        · trivial
        · have hm := hh n f na ci rk (a_lk_mem hfl) as σ
          generalize f as σ = o at hm
          match o, hm with
          | none, _ => rw [a_crk_none]; trivial
          | some (.inl v, τ), hm =>
            rcases a_crk_ret (K := fun _ _ _ (_ : aMem) => True) (Rt := fun (o : aOut) (_ : aMem) => ∃ v, o = .inl v) (N := True) (P := P) (rk := rk) (v := v) (σ' := τ) (pc := pc) (L := L) (r := r) with h | h <;> (rw [h]; trivial)
          | some (.inr x, τ), hm => exact absurd rfl (hm x τ)
  cases i <;> unfold a_ins <;> simp only
  all_goals first
    | trivial
    | exact hcall ..
    | (unfold a_rti; split <;> first | trivial | (split <;> first | trivial | exact ⟨_, rfl⟩ | (split <;> first | trivial | exact ⟨_, rfl⟩)))
    | (unfold a_rtv; split <;> first | trivial | (split <;> first | trivial | exact ⟨_, rfl⟩))
    | (unfold a_rtl; split <;> first | trivial | (split <;> first | trivial | exact ⟨_, rfl⟩))
    | (unfold a_th; rw [ht]; exact trivial)
    | (unfold a_ts; split <;> first | trivial | (rename_i x r; rcases a_sw_spec (fun _ => True) x tgt sw with ⟨q1, -⟩ | ⟨j, q, -, -, q3⟩ <;> first | (rw [q1]; trivial) | (rw [q3]; trivial)))
    | (unfold a_if; split <;> first | trivial | (unfold a_br; split <;> split <;> trivial))
    | (unfold a_ic; split <;> first | trivial | (unfold a_br; split <;> split <;> trivial))
    | (unfold a_ild; split <;> trivial)
    | (unfold a_lld; split <;> trivial)
    | (unfold a_ald; split <;> trivial)
    | (unfold a_ist; split <;> first | trivial | (split <;> trivial))
    | (unfold a_ast; split <;> first | trivial | (split <;> trivial))
    | (unfold a_lst; split <;> first | trivial | (split <;> trivial))
    | (unfold a_inc; split <;> trivial)
    | (unfold a_bin; split <;> trivial)
    | (unfold a_dv; split <;> first | trivial | (split <;> trivial))
    | (unfold a_lbin; split <;> trivial)
    | (unfold a_un; split <;> trivial)
    | (unfold a_lcm; split <;> trivial)
    | (unfold a_lsh; split <;> trivial)
    | (unfold a_dup; split <;> trivial)
    | (unfold a_pop; split <;> trivial)
    | (unfold a_dup2; split <;> trivial)
    | (unfold a_ial; split <;> first | trivial | (split <;> first | trivial | (split <;> first | trivial | (split <;> trivial))))
    | (unfold a_bal; split <;> first | trivial | (split <;> first | trivial | (split <;> trivial)))
    | (unfold a_lal; split <;> first | trivial | (split <;> first | trivial | (split <;> trivial)))
    | (unfold a_ias; split <;> first | trivial | (split <;> first | trivial | (split <;> trivial)))
    | (unfold a_bas; split <;> first | trivial | (split <;> first | trivial | (split <;> trivial)))
    | (unfold a_las; split <;> first | trivial | (split <;> first | trivial | (split <;> trivial)))
    | (unfold a_len; split <;> first | trivial | (split <;> first | trivial | (split <;> trivial)))
    | (unfold a_gf; split <;> first | trivial | (split <;> first | trivial | (split <;> trivial)))
    | (unfold a_pf; split <;> first | trivial | (split <;> first | trivial | (split <;> first | trivial | (split <;> trivial))))
    | (unfold a_ldc; split <;> trivial)
    | (unfold a_ldw; split <;> trivial)
    | (unfold a_ld2; split <;> trivial)
theorem a_run_nt {sl : Option Nat} {sh : List aShp} {P : aPrg} (ht : a_thr P = []) (hh : ∀ n f na ci rk, (n, f, na, ci, rk) ∈ a_cals P → ∀ (as : List Value) (σ : aMem) (x : Nat) (σ' : aMem), f as σ ≠ some (.inr x, σ')) :
    ∀ (n : Nat) (pc : Nat) (L : aLs) (st : List Value) (σ : aMem) (r : aRes), a_runN sl sh P n pc L st σ = some r → ∃ v, r.1 = .inl v
  | 0, _, _, _, _, _, h => by simp [a_runN] at h
  | n + 1, pc, L, st, σ, r, h => by
    unfold a_runN at h
    rw [a_sem_nat] at h
    have key : a_sem (fun _ _ _ (_ : aMem) => True) True (fun (o : aOut) (_ : aMem) => ∃ v, o = .inl v) sl sh P pc L st σ := by
      unfold a_sem
      split
      · trivial
      · exact a_ins_nt ht hh ..
    rw [a_sem_nat] at key
    generalize a_stp sl sh P pc L st σ = x at h key
    match x, h, key with
    | none, h, _ => cases h
    | some (.inl (pc', L', st', σ')), h, key => exact a_run_nt ht hh n pc' L' st' σ' r h
    | some (.inr (o, σ')), h, key => cases h; exact key
section AR
variable {p : Program} {l : Launch} {e : Env} {R : Room} {s : State} {m : MethodId} {args : Array Value} {below : List Frame} {meth : Method} {c : Code} {Q : State → Prop} {G : aG} {sh : List aShp} {nL g0 : Nat}
/-- behind a call that returns -/
theorem a_goR {H : Heap} {locs : List Loc} {cells slots mc ms pc : Nat} {ls : Array Slot} {st0 rest : List Value} {v : Option Value} {σ' : aMem} {a : Array Value}
    (hr : va_Run p l e R s m args below meth c H locs cells slots mc ms (F0 m pc ls st0) rest (a_Qr G sh v σ' H.size a) (a_A (g_ad G) sh.length H.size)) (hS : va_S (a_A (g_ad G) sh.length s.heap.size) s.heap H locs)
    (kk : ∀ (H1 : Heap) (locs1 : List Loc), a_Wh G sh σ' H1 → va_S (a_A (g_ad G) sh.length s.heap.size) s.heap H1 locs1 → W p l e R s m args below meth c H1 locs1 (cells + mc) (slots + ms) Q (F0 m (pc + 3) ls ((v.map (a_cv (g_ad G))).toList ++ rest))) :
    W p l e R s m args below meth c H locs cells slots Q (F0 m pc ls st0) := by
  intro T hT X
  obtain ⟨v9, st₀, t, T', L, h0, X', hL, e1, e2, ⟨hv, hB, hF⟩, st⟩ := hr T hT X
  cases hv
  obtain ⟨k1, k2, k3⟩ := vx_keep h0 e1 hS (fun q _ h => a_A_sub hS.1 q h) (fun q h => a_A_sub hS.1 q h) hL hF
  obtain ⟨t2, a1, b1⟩ := kk T'.heap (locs ++ L) (by rw [e1]; exact hB) k3 T' rfl X'
  exact ⟨t2, st t2 a1, b1⟩
/-- behind a call that throws -/
theorem a_goX {H : Heap} {locs : List Loc} {cells slots mc ms pc : Nat} {ls : Array Slot} {st0 rest : List Value} {x : Nat} {σ' : aMem}
    (hr : vx_Run p l e R s m args below meth c H locs cells slots mc ms (F0 m pc ls st0) rest (fun _ _ _ => False) (a_Qx G sh x σ' H.size) (a_A (g_ad G) sh.length H.size)) (hS : va_S (a_A (g_ad G) sh.length s.heap.size) s.heap H locs)
    (kx : ∀ (H1 : Heap) (locs1 : List Loc) (q : Addr) (ce : Cell), a_Wh G sh σ' H1 → va_S (a_A (g_ad G) sh.length s.heap.size) s.heap H1 locs1 → H1[q]? = some ce → ce.vm = .none → s.vm.findClass (a_en x) = some ce.cls → vx_W p l e R s m args below meth c H1 locs1 (cells + mc) (slots + ms) Q (F0 m pc ls rest) q) :
    W p l e R s m args below meth c H locs cells slots Q (F0 m pc ls st0) := by
  intro T hT X
  rcases hr T hT X with ⟨v9, st₀, t, T', L, h0, X', hL, e1, e2, hF, st⟩ | ⟨q, st₀, t, T', L, E, ce, h0, X', hL, e1, e2, ⟨hE, hB, hF⟩, hce, hcv, hcl, st⟩
  · exact hF.elim
  · subst hE
    obtain ⟨k1, k2, k3⟩ := vx_keep h0 e1 hS (fun q _ h => a_A_sub hS.1 q h) (fun q h => a_A_sub hS.1 q h) hL hF
    obtain ⟨t2, a1, b1⟩ := kx T'.heap (locs ++ L) q ce (by rw [e1]; exact hB) k3 (by rw [e1]; exact hce) hcv hcl T' rfl X'
    exact ⟨t2, st.trans a1, b1⟩
/-- a run is the machine's -/
theorem a_run_sound {sl : Option Nat} {own : String} {cc : ByteArray} {P : aPrg} {rf : aRes} (hG : a_GF G sh) (hN : sh.length ≤ 900) (hsl : ∀ n, sl = some n → n = g_n G) (hM : a_M p s m c G nL own cc) (hF : a_fok own P) (hC : a_cok G own P) (hcode : ∀ e ∈ a_code P, a_eok cc e = true)
    (hmono : ∀ n f na ci rk, (n, f, na, ci, rk) ∈ a_cals P → ∀ (as : List Value) (σ : aMem) (o : aOut) (σ' : aMem), f as σ = some (o, σ') → a_wt as ≤ as.length → σ.2.2 ≤ σ'.2.2)
    (hRi : ∀ pc L x σ, decode cc pc = .ok (.ireturn, 1) → (a_ret P = 0 ∨ (a_ret P = 1 ∧ (x = 0 ∨ x = 1))) → rf = (.inl (some (.int x)), σ) → a_W p l e R s m args below meth c Q G sh nL g0 pc L [.int x] σ)
    (hRv : ∀ pc L σ, decode cc pc = .ok (.return_, 1) → a_ret P = 2 → rf = (.inl none, σ) → a_W p l e R s m args below meth c Q G sh nL g0 pc L [] σ)
    (hRl : ∀ pc L x σ, decode cc pc = .ok (.lreturn, 1) → a_ret P = 3 → rf = (.inl (some (.long x)), σ) → a_W p l e R s m args below meth c Q G sh nL g0 pc L [.long x] σ)
    (hTh : ∀ pc L st x σ, (pc, x) ∈ a_thr P → a_wt st ≤ 8 → rf = (.inr x, a_tk σ) → a_W p l e R s m args below meth c Q G sh nL g0 pc L st σ)
    (hCa : ∀ (virt : Bool) n f na ci rk, (n, f, na, ci, rk) ∈ a_cals P → ∀ pc L as r σ, decode cc pc = .ok (if virt then .invokevirtual n else .invokestatic n, 3) → (∃ e, (pc, (if virt then .invokevirtual n else .invokestatic n), e) ∈ a_code P) → a_vok sh virt ci as = true → a_wt r ≤ 8 → as.length = na → a_wt as ≤ na →
      a_crk (a_K p l e R s m args below meth c Q G sh nL g0 rf.2.2.2) False (fun o σ => rf = (o, σ)) P rk (f as σ) (pc + 3) L r →
      a_W p l e R s m args below meth c Q G sh nL g0 pc L (as.reverse ++ r) σ) :
    ∀ (n : Nat) (pc : Nat) (L : aLs) (st : List Value) (σ : aMem), a_runN sl sh P n pc L st σ = some rf → a_W p l e R s m args below meth c Q G sh nL g0 pc L st σ := by
  intro n
  induction n with
  | zero => intro pc L st σ h; simp [a_runN] at h
  | succ n ih =>
    intro pc L st σ h
    have key : a_sem (a_K p l e R s m args below meth c Q G sh nL g0 rf.2.2.2) False (fun o σ => rf = (o, σ)) sl sh P pc L st σ := by
      unfold a_runN at h
      rw [a_sem_nat] at h ⊢
      generalize a_stp sl sh P pc L st σ = x at h ⊢
      match x, h with
      | none, h => cases h
      | some (.inl (pc', L', st', σ')), h => exact ⟨a_run_mono hmono n _ _ _ _ _ h, ih _ _ _ _ h⟩
      | some (.inr (o, σ')), h => exact (Option.some.inj h).symm
    unfold a_sem at key
    split at key
    · exact key.elim
    · rename_i i imm tgt sw hlk
      have hmem := a_lk_mem hlk
      exact a_ins_sound hG hN hsl hM hF hC hRi hRv hRl hTh hCa i imm tgt sw pc L st σ (hcode _ hmem) hmem key
/-- what a call's pool place says -/
def a_CF (own : String) (n : Nat) (y : MethodName) (bytes : ByteArray) (maxL : Nat) (ret : Option FieldType) (na ci : Nat) (virt : Bool) : Prop :=
  Cond.code y bytes maxL ret ∈ lw_g ∧ Cond.initialized y.cls ∈ lw_g ∧ (y.cls ≠ "java/lang/invoke/MethodHandle" ∧ y.cls ≠ "java/lang/invoke/VarHandle") ∧ (parseMethodDescriptor y.desc).map (fun d => d.parameters.length) = some (if virt then na - 1 else na) ∧
  (virt = true → 1 ≤ na ∧ ci < 1000 ∧ Cond.instanceMethod y ∈ lw_g ∧ Cond.selects y.cls y y ∈ lw_g ∧ ∃ (T : u_T) (N : Nat), vwCl[ci]? = some (y.cls, T, N)) ∧ (virt = false → Cond.static y ∈ lw_g) ∧ (Cond.methodLink own n y ∈ lw_g ∨ ∃ host, Cond.methodLinkNest own n y host ∈ lw_tbl)
theorem a_rcv_at {ci : Nat} {as : List Value} (h : a_rcv sh ci as = true) (hc : ci < 1000) : ∃ k as' fk, as = .ref k :: as' ∧ sh[k]? = some (.inr (ci, fk)) := by
  unfold a_rcv at h
  split at h
  · rename_i k as'
    split at h
    · rename_i q hq
      have := Nat.eq_of_beq_eq_true h
      obtain ⟨c9, fk⟩ := q
      exact ⟨k, as', fk, rfl, by rw [hq, ← this]⟩
    · simp only [Bool.and_eq_true] at h
      have := Nat.eq_of_beq_eq_true h.1
      omega
  · cases h
/-- a call by contract -/
theorem a_call_sound {own : String} {cc : ByteArray} {P : aPrg} {Fin : aOut → aMem → Prop} {gf : Nat} {f : aMF} {y : MethodName} {bytes : ByteArray} {maxL fr lo n na ci rk : Nat} {ret : Option FieldType} {virt : Bool} (hG : a_GF G sh) (hM : a_M p s m c G nL own cc)
    (hCon : a_Con l G sh y (.code y bytes maxL ret) fr lo f) (hCF : a_CF own n y bytes maxL ret na ci virt) (hR : fr + 1 ≤ R.frames ∧ 8 + (maxL + 11) + lo ≤ R.locals) (hRc : gf - g0 ≤ R.cells ∧ 6 * (gf - g0) ≤ R.slots)
    (hnx : Cond.methodLink own n y ∈ lw_g ∨ ∀ (as : List Value) (σ : aMem) (x : Nat) (σ' : aMem), f as σ ≠ some (.inr x, σ'))
    (pc : Nat) (hEg : ∀ L x σ', a_exc (a_K p l e R s m args below meth c Q G sh nL g0 gf) Fin P L x σ' → σ'.2.2 ≤ gf)
    (hEx : ∀ L x σ', a_exc (a_K p l e R s m args below meth c Q G sh nL g0 gf) Fin P L x σ' → ∀ (H1 : Heap) (locs1 : List Loc) (ls : Array Slot) (r : List Value) (q : Addr) (ce : Cell), a_Wh G sh σ' H1 → va_S (a_A (g_ad G) sh.length s.heap.size) s.heap H1 locs1 → a_L (g_ad G) nL ls L → g0 ≤ σ'.2.2 → H1[q]? = some ce → ce.vm = .none → s.vm.findClass (a_en x) = some ce.cls →
      vx_W p l e R s m args below meth c H1 locs1 (σ'.2.2 - g0) (6 * (σ'.2.2 - g0)) Q (F0 m pc ls r) q)
    (L : aLs) (as r : List Value) (σ : aMem) (hdg : decode cc pc = .ok (if virt then .invokevirtual n else .invokestatic n, 3)) (hrcv : virt = true → a_rcv sh ci as = true) (hwr : a_wt r ≤ 8) (hlen : as.length = na) (hwa : a_wt as ≤ na)
    (h : a_crk (a_K p l e R s m args below meth c Q G sh nL g0 gf) False Fin P rk (f as σ) (pc + 3) L r) : a_W p l e R s m args below meth c Q G sh nL g0 pc L (as.reverse ++ r) σ := by
  obtain ⟨hx, hb, hml, hown, hWs, hbs, hbh⟩ := id hM
  have hts := a_hts (args := args) hG hWs
  have hK : va_K (g_D G) vwCl (a_tys (g_ca G)) s := va_K.moved hWs.alike hG.2.2.1
  obtain ⟨c1, c2, c3, c4, c5, c6, c7⟩ := hCF
  have hcode := hts _ c1
  have hini := hts _ c2
  have hgood : ∀ w ∈ lw_g, ∀ (a' : Array Value) (U : State), s.WarmedH U.vm → w.before a' U = true := fun w hw a' U hW => word_at hW (good_of_word (List.mem_filter.mp hw).2) (hts w hw)
  have hws : ∀ w ∈ [Cond.code y bytes maxL ret], ∀ (a' : Array Value) (U : State), s.WarmedH U.vm → w.before a' U = true := fun w hw => by
    rcases List.mem_singleton.mp hw with rfl
    exact hgood _ c1
  have hnp : ∀ sig, parseMethodDescriptor y.desc = some sig → (if virt then na - 1 else na) = sig.parameters.length := fun sig hs => by
    rw [hs] at c4
    exact (Option.some.inj c4).symm
  intro H locs ls hP hS hL hX hg
  have hWh : a_Wh G sh σ H := a_Wh_of hG hbs hbh hP hS hX
  have hPre : ∀ U : State, U.heap = H → s.WarmedH U.vm → a_Pre G sh as σ H.size (as.map (a_cv (g_ad G))).toArray U := fun U hU hW => ⟨rfl, by rw [hU], State.WarmedH.trans hWs hW, by rw [hU]; exact hWh⟩
  have hstk : (as.reverse ++ r).map (a_cv (g_ad G)) = (as.map (a_cv (g_ad G))).reverse ++ r.map (a_cv (g_ad G)) := by simp
  have hwt : ((r.map (a_cv (g_ad G))).map fun v => v.category).sum ≤ 8 := by rw [a_wt_sum]; exact hwr
  rw [hstk]
  cases hfo : f as σ with
  | none => rw [hfo, a_crk_none] at h; exact h.elim
  | some q =>
    obtain ⟨o, σ'⟩ := q
    obtain ⟨hmon, hcon⟩ := hCon as σ o σ' hfo (by rw [hlen]; exact hwa)
    cases o with
    | inl v =>
      have h9 : a_K p l e R s m args below meth c Q G sh nL g0 gf (pc + 3) L (v.toList ++ r) σ' := by
        rw [hfo] at h
        rcases a_crk_ret (K := a_K p l e R s m args below meth c Q G sh nL g0 gf) (Rt := Fin) (N := False) (P := P) (rk := rk) (v := v) (σ' := σ') (pc := pc + 3) (L := L) (r := r) with hh | hh
        · rw [hh] at h; exact h.elim
        · rw [hh] at h; exact h
      have hMet : Met l y [Cond.code y bytes maxL ret] (a_rm fr lo (σ'.2.2 - σ.2.2)) (a_Pre G sh as σ H.size) (a_Qr G sh v σ' H.size) (σ'.2.2 - σ.2.2) (6 * (σ'.2.2 - σ.2.2)) (a_A (g_ad G) sh.length H.size) := hcon H.size
      have e1 : σ.2.2 - g0 + (σ'.2.2 - σ.2.2) = σ'.2.2 - g0 := by omega
      have e2 : 6 * (σ.2.2 - g0) + 6 * (σ'.2.2 - σ.2.2) = 6 * (σ'.2.2 - g0) := by omega
      have hf : σ.2.2 - g0 + (σ'.2.2 - σ.2.2) ≤ R.cells ∧ 6 * (σ.2.2 - g0) + 6 * (σ'.2.2 - σ.2.2) ≤ R.slots := by
        rw [e1, e2]
        have := h9.1
        constructor <;> omega
      have key : va_Run p l e R s m args below meth c H locs (σ.2.2 - g0) (6 * (σ.2.2 - g0)) (σ'.2.2 - σ.2.2) (6 * (σ'.2.2 - σ.2.2)) (F0 m pc ls ((as.map (a_cv (g_ad G))).reverse ++ r.map (a_cv (g_ad G)))) (r.map (a_cv (g_ad G))) (a_Qr G sh v σ' H.size (as.map (a_cv (g_ad G))).toArray) (a_A (g_ad G) sh.length H.size) := by
        cases virt with
        | false =>
          rcases c7 with c7 | ⟨host, c7⟩
          · exact va_runS (As := as.map (a_cv (g_ad G))) (rest := r.map (a_cv (g_ad G))) (n := na) (index := n) (own := own) (bytes := bytes) (maxL := maxL) (ret := ret) ⟨hx, hb, hml, hown, hts⟩ hMet ⟨⟨rfl, rfl, hR.1, hR.2, hws, List.mem_singleton.mpr rfl, hcode, hini, c3, hnp, hts _ c7⟩, hts _ (c6 rfl)⟩ ⟨a_Pre_blind _ _ _ _ _, hPre⟩ rfl (by rw [List.length_map]; exact hlen) hL.1 rfl (lv_room hwt) hdg hf
          · obtain ⟨aa, haa⟩ := hG.2.2.2.1
            have hnw : va_Nw (.methodLinkNest own n y host) s := va_Nw.warmM hWs (va_Nw.of rfl (haa _ c7))
            exact va_runSN (As := as.map (a_cv (g_ad G))) (rest := r.map (a_cv (g_ad G))) (n := na) (index := n) (own := own) (host := host) (bytes := bytes) (maxL := maxL) (ret := ret) (Ts := lw_g) ⟨hx, hb, hml, hown, hts⟩ hMet ⟨⟨⟨rfl, rfl, hR.1, hR.2, hws, List.mem_singleton.mpr rfl⟩, hcode, hini, c3, hnp, va_Nw.use rfl hnw⟩, hts _ (c6 rfl), trivial⟩ ⟨a_Pre_blind _ _ _ _ _, hPre⟩ rfl (by rw [List.length_map]; exact hlen) hL.1 rfl (lv_room hwt) hdg hf
        | true =>
          obtain ⟨hna, hci, ci1, ci2, T9, N9, hcl⟩ := c5 rfl
          obtain ⟨k, as', fk, has, hk⟩ := a_rcv_at (hrcv rfl) hci
          have hrv := va_recv (q0 := k) (ci := ci) hK hP hcl (a_wl_at hk)
          subst has
          rcases c7 with c7 | ⟨host, c7⟩
          · exact va_runV (C := y.cls) (b := g_ad G k) (As := as'.map (a_cv (g_ad G))) (rest := r.map (a_cv (g_ad G))) (n := na - 1) (index := n) (own := own) (bytes := bytes) (maxL := maxL) (ret := ret) ⟨hx, hb, hml, hown, hts⟩ hMet ⟨⟨rfl, rfl, hR.1, hR.2, hws, List.mem_singleton.mpr rfl, hcode, hini, c3, hnp, hts _ c7⟩, hts _ ci1, hts _ ci2⟩ ⟨a_Pre_blind _ _ _ _ _, hrv, hPre⟩ rfl (by rw [List.length_map]; simp at hlen; omega) hL.1 (by simp [a_cv]) (lv_room hwt) hdg hf
          · obtain ⟨aa, haa⟩ := hG.2.2.2.1
            have hnw : va_Nw (.methodLinkNest own n y host) s := va_Nw.warmM hWs (va_Nw.of rfl (haa _ c7))
            exact va_runVN (C := y.cls) (b := g_ad G k) (As := as'.map (a_cv (g_ad G))) (rest := r.map (a_cv (g_ad G))) (n := na - 1) (index := n) (own := own) (host := host) (bytes := bytes) (maxL := maxL) (ret := ret) (Ts := lw_g) ⟨hx, hb, hml, hown, hts⟩ hMet ⟨⟨⟨rfl, rfl, hR.1, hR.2, hws, List.mem_singleton.mpr rfl⟩, hcode, hini, c3, hnp, va_Nw.use rfl hnw⟩, hts _ ci1, hts _ ci2⟩ ⟨a_Pre_blind _ _ _ _ _, hrv, hPre⟩ rfl (by rw [List.length_map]; simp at hlen; omega) hL.1 (by simp [a_cv]) (lv_room hwt) hdg hf
      refine a_goR key hS (fun H1 locs1 hB hS1 => ?_)
      rw [e1, e2]
      have := h9.2 H1 locs1 ls hB.1 hS1 hL hB.2.2.2 (by omega)
      have e3 : (v.toList ++ r).map (a_cv (g_ad G)) = (v.map (a_cv (g_ad G))).toList ++ r.map (a_cv (g_ad G)) := by cases v <;> rfl
      rw [e3] at this
      exact this
    | inr x =>
      rw [hfo, a_crk_thr] at h
      have hgx := hEg L x σ' h
      have hMet : vx_Met l y [Cond.code y bytes maxL ret] (a_rm fr lo (σ'.2.2 - σ.2.2)) (a_Pre G sh as σ H.size) (fun _ _ _ _ => False) (a_Qx G sh x σ' H.size) (σ'.2.2 - σ.2.2) (6 * (σ'.2.2 - σ.2.2)) (a_A (g_ad G) sh.length H.size) := hcon H.size
      have c7 : Cond.methodLink own n y ∈ lw_g := hnx.elim id (fun h9 => absurd hfo (h9 as σ x σ'))
      have e1 : σ.2.2 - g0 + (σ'.2.2 - σ.2.2) = σ'.2.2 - g0 := by omega
      have e2 : 6 * (σ.2.2 - g0) + 6 * (σ'.2.2 - σ.2.2) = 6 * (σ'.2.2 - g0) := by omega
      have hf : σ.2.2 - g0 + (σ'.2.2 - σ.2.2) ≤ R.cells ∧ 6 * (σ.2.2 - g0) + 6 * (σ'.2.2 - σ.2.2) ≤ R.slots := by
        rw [e1, e2]
        constructor <;> omega
      have key : vx_Run p l e R s m args below meth c H locs (σ.2.2 - g0) (6 * (σ.2.2 - g0)) (σ'.2.2 - σ.2.2) (6 * (σ'.2.2 - σ.2.2)) (F0 m pc ls ((as.map (a_cv (g_ad G))).reverse ++ r.map (a_cv (g_ad G)))) (r.map (a_cv (g_ad G))) (fun _ _ _ => False) (a_Qx G sh x σ' H.size) (a_A (g_ad G) sh.length H.size) := by
        cases virt with
        | false =>
          exact vx_runS (As := as.map (a_cv (g_ad G))) (rest := r.map (a_cv (g_ad G))) (n := na) (index := n) (own := own) (bytes := bytes) (maxL := maxL) (ret := ret) ⟨hx, hb, hml, hown, hts⟩ hMet ⟨⟨rfl, rfl, hR.1, hR.2, hws, List.mem_singleton.mpr rfl, hcode, hini, c3, hnp, hts _ c7⟩, hts _ (c6 rfl)⟩ ⟨a_Pre_blind _ _ _ _ _, hPre⟩ rfl (by rw [List.length_map]; exact hlen) hL.1 rfl (lv_room hwt) hdg hf
        | true =>
          obtain ⟨hna, hci, ci1, ci2, T9, N9, hcl⟩ := c5 rfl
          obtain ⟨k, as', fk, has, hk⟩ := a_rcv_at (hrcv rfl) hci
          have hrv := va_recv (q0 := k) (ci := ci) hK hP hcl (a_wl_at hk)
          subst has
          exact vx_runV (C := y.cls) (b := g_ad G k) (As := as'.map (a_cv (g_ad G))) (rest := r.map (a_cv (g_ad G))) (n := na - 1) (index := n) (own := own) (bytes := bytes) (maxL := maxL) (ret := ret) ⟨hx, hb, hml, hown, hts⟩ hMet ⟨⟨rfl, rfl, hR.1, hR.2, hws, List.mem_singleton.mpr rfl, hcode, hini, c3, hnp, hts _ c7⟩, hts _ ci1, hts _ ci2⟩ ⟨a_Pre_blind _ _ _ _ _, hrv, hPre⟩ rfl (by rw [List.length_map]; simp at hlen; omega) hL.1 (by simp [a_cv]) (lv_room hwt) hdg hf
      refine a_goX key hS (fun H1 locs1 q ce hB hS1 k1 k2 k3 => ?_)
      rw [e1, e2]
      exact hEx L x σ' h H1 locs1 ls _ q ce hB hS1 hL (by omega) k1 k2 k3
end AR
end
section
/-! ===== a method's contract out of its checks ===== -/
abbrev a_nm : List String := ["java/lang/RuntimeException", "java/lang/Exception"]
/-- what throwing asks of the law's entry -/
def a_XG (G : aG) : Prop := vx_Zq Bundle.tN "UNASSIGNED_STACK" Bundle.steD (fun q => (g_s G).heap.size ≤ q) (g_s G) (g_s G).heap ∧ vx_Zq Bundle.tN "SUPPRESSED_SENTINEL" Bundle.listD (fun q => (g_s G).heap.size ≤ q) (g_s G) (g_s G).heap
/-- 'throw new E("text")' at pc -/
def a_tok (G : aG) (own : String) (cc : ByteArray) (fr lo pc x : Nat) : Prop := x ≤ 1 ∧ ∃ (ik is ic sa : Nat) (text : String), (decode cc pc = .ok (.new ik, 3) ∧ decode cc (pc + 3) = .ok (.dup, 1)) ∧
  ((decode cc (pc + 4) = .ok (.ldc is, 2) ∧ decode cc (pc + 6) = .ok (.invokespecial ic, 3) ∧ decode cc (pc + 9) = .ok (.athrow, 1)) ∨ (decode cc (pc + 4) = .ok (.ldc_w is, 3) ∧ decode cc (pc + 7) = .ok (.invokespecial ic, 3) ∧ decode cc (pc + 10) = .ok (.athrow, 1))) ∧
  Cond.classLink own ik (a_en x) ∈ lw_g ∧ Cond.initialized (a_en x) ∈ lw_g ∧ vk_R own is text sa (g_s G) ∧ (∀ w ∈ vx_atS own ic (a_en x) a_nm, w ∈ lw_tbl ∧ (goodWord w = true ∨ w = .castable (a_en x) (a_en x))) ∧ 6 ≤ fr ∧ 90 ≤ lo
abbrev a_rty : Nat → Option FieldType := fun k => match k with
  | 0 => some .int
  | 1 => some .boolean
  | 2 => none
  | _ => some .long
/-- the rule of a call, in every frame with enough room -/
def a_CR (l : Launch) (G : aG) (sh : List aShp) (own : String) (cc : ByteArray) (P : aPrg) (fr lo : Nat) (n : Nat) (f : aMF) (na ci rk : Nat) : Prop :=
  ∀ (p : Program) (e : Env) (R : Room) (s : State) (m : MethodId) (args : Array Value) (below : List Frame) (meth : Method) (c : Code) (Q : State → Prop) (nL g0 gf : Nat) (Fin : aOut → aMem → Prop) (virt : Bool), a_M p s m c G nL own cc → fr ≤ R.frames → lo ≤ R.locals → gf - g0 ≤ R.cells ∧ 6 * (gf - g0) ≤ R.slots →
    ∀ pc : Nat, (∀ L x σ', a_exc (a_K p l e R s m args below meth c Q G sh nL g0 gf) Fin P L x σ' → σ'.2.2 ≤ gf) →
    (∀ L x σ', a_exc (a_K p l e R s m args below meth c Q G sh nL g0 gf) Fin P L x σ' → ∀ (H1 : Heap) (locs1 : List Loc) (ls : Array Slot) (r : List Value) (q : Addr) (ce : Cell), a_Wh G sh σ' H1 → va_S (a_A (g_ad G) sh.length s.heap.size) s.heap H1 locs1 → a_L (g_ad G) nL ls L → g0 ≤ σ'.2.2 → H1[q]? = some ce → ce.vm = .none → s.vm.findClass (a_en x) = some ce.cls →
      vx_W p l e R s m args below meth c H1 locs1 (σ'.2.2 - g0) (6 * (σ'.2.2 - g0)) Q (F0 m pc ls r) q) →
    ∀ (L : aLs) (as r : List Value) (σ : aMem), decode cc pc = .ok (if virt then .invokevirtual n else .invokestatic n, 3) → a_vok sh virt ci as = true → a_wt r ≤ 8 → as.length = na → a_wt as ≤ na →
    a_crk (a_K p l e R s m args below meth c Q G sh nL g0 gf) False Fin P rk (f as σ) (pc + 3) L r → a_W p l e R s m args below meth c Q G sh nL g0 pc L (as.reverse ++ r) σ
/-- a call of a Java method -/
theorem a_CR_java {l : Launch} {G : aG} {sh : List aShp} {own : String} {cc : ByteArray} {P : aPrg} {fr lo : Nat} {n : Nat} {f : aMF} {na ci rk : Nat} {y : MethodName} {bytes : ByteArray} {maxL fr' lo' : Nat} {ret : Option FieldType} {virt : Bool} (hG : a_GF G sh) (hCon : a_Con l G sh y (.code y bytes maxL ret) fr' lo' f) (hCF : a_CF own n y bytes maxL ret na ci virt) (hci : virt = false → ci = 2000) (hf : fr' + 1 ≤ fr) (hl : 8 + (maxL + 11) + lo' ≤ lo)
    (hnx : Cond.methodLink own n y ∈ lw_g ∨ ∀ (as : List Value) (σ : aMem) (x : Nat) (σ' : aMem), f as σ ≠ some (.inr x, σ')) : a_CR l G sh own cc P fr lo n f na ci rk := by
  intro p e R s m args below meth c Q nL g0 gf Fin v2 hM h1 h2 h3 pc hEg hEx L as r σ hdg hv hwr hlen hwa h
  have hvv : v2 = virt := by
    cases v2 with
    | true =>
      cases virt with
      | true => rfl
      | false =>
        exfalso
        rw [hci rfl] at hv
        unfold a_vok a_rcv at hv
        simp only at hv
        split at hv
        · rename_i k as'
          split at hv
          · rename_i q hq
            have e1 := Nat.eq_of_beq_eq_true hv
            obtain ⟨c9, fk⟩ := q
            obtain ⟨C, T, N, hc, -⟩ := hG.2.2.2.2.2.1 k c9 fk hq
            simp only at e1
            rw [e1] at hc
            cases hc
          · simp at hv
        · cases hv
    | false =>
      cases virt with
      | false => rfl
      | true =>
        exfalso
        have e1 : ci = 2000 := Nat.eq_of_beq_eq_true hv
        have := (hCF.2.2.2.2.1 rfl).2.1
        omega
  subst hvv
  refine a_call_sound hG hM hCon hCF ⟨by omega, by omega⟩ h3 hnx pc hEg hEx L as r σ hdg (fun hh => ?_) hwr hlen hwa h
  subst hh
  exact hv
set_option maxHeartbeats 1000000 in
theorem a_method {l : Launch} {G : aG} {sh : List aShp} {y : MethodName} {cc : ByteArray} {nL : Nat} {ret : Option FieldType} {P : aPrg} {fr lo : Nat} (sl : Option Nat) (hl : l.stackTraces = false) (hG : a_GF G sh) (hN : sh.length ≤ 900) (hsl : ∀ n, sl = some n → n = g_n G) (hXG : a_XG G) (hy : plainFor y = true) (hy2 : a_thr P = [] ∨ plainName y.cls = true) (hret : ret = a_rty (a_ret P)) (hF : a_fok y.cls P) (hC : a_cok G y.cls P) (hcode : (a_code P).all (a_eok cc) = true) (hnh : a_hnd P = [])
    (hna : ∀ as σ r, a_run sl sh P 0 (a_lcl nL as) [] σ = some r → as.length ≤ nL)
    (hth : ∀ pc x, (pc, x) ∈ a_thr P → a_tok G y.cls cc fr lo pc x)
    (hcm : ∀ n f na ci rk, (n, f, na, ci, rk) ∈ a_cals P → ∀ (as : List Value) (σ : aMem) (o : aOut) (σ' : aMem), f as σ = some (o, σ') → a_wt as ≤ as.length → σ.2.2 ≤ σ'.2.2)
    (hca : ∀ n f na ci rk, (n, f, na, ci, rk) ∈ a_cals P → a_CR l G sh y.cls cc P fr lo n f na ci rk)
    (hnt : plainName y.cls = true ∨ ∀ n f na ci rk, (n, f, na, ci, rk) ∈ a_cals P → ∀ (as : List Value) (σ : aMem) (x : Nat) (σ' : aMem), f as σ ≠ some (.inr x, σ')) :
    a_Con l G sh y (.code y cc nL ret) fr lo (fun as σ => a_run sl sh P 0 (a_lcl nL as) [] σ) := by
  intro as σ o σ' hrun hwt
  have hcode' : ∀ e ∈ a_code P, a_eok cc e = true := List.all_eq_true.mp hcode
  obtain ⟨N, hN9⟩ := a_run_to hrun
  have hmon := a_run_mono hcm N _ _ _ _ _ hN9
  refine ⟨hmon, fun sz => ?_⟩
  have hone := a_wt_one hwt
  have hle := hna as σ _ hrun
  have hexc : ∀ {ρ : Type} (K : Nat → aLs → List Value → aMem → ρ) (Rt : aOut → aMem → ρ) (L : aLs) (x : Nat) (τ : aMem), a_exc K Rt P L x τ = Rt (.inr x) τ := by
    intro ρ K Rt L x τ
    unfold a_exc
    rw [hnh]
    rfl
  cases o with
  | inl v =>
    show Met l y [.code y cc nL ret] _ _ _ _ _ _
    refine va_MetF (cc := cc) (maxL := nL) (ret := ret) hy rfl ?_
    intro p e s m args below meth c s₁ B hml hv
    obtain ⟨rfl, hsz, hWs, hB⟩ := hv
    subst hsz
    have hM : a_M p s m c G nL y.cls cc := ⟨B.exec, B.bytes, hml, findClass_of_methodNamed B.named, hWs, hB.2.1, hB.2.2.1⟩
    have hlk := B.notSynchronized
    have hrt := B.returns
    rw [lg_entry_eq]
    have key := a_run_sound (p := p) (l := l) (e := e) (R := (headSpec [Cond.code y cc nL ret] (a_rm fr lo (σ'.2.2 - σ.2.2))).room) (s := s) (m := m) (args := (as.map (a_cv (g_ad G))).toArray) (below := below) (meth := meth) (c := c)
      (Q := MQ below (a_Qr G sh v σ' s.heap.size) (as.map (a_cv (g_ad G))).toArray s (σ'.2.2 - σ.2.2) (6 * (σ'.2.2 - σ.2.2)) (a_A (g_ad G) sh.length s.heap.size)) (G := G) (sh := sh) (nL := nL) (g0 := σ.2.2) (own := y.cls) (cc := cc) (rf := (.inl v, σ')) hG hN hsl hM hF hC hcode' hcm
      (by
        intro pc L x τ hd hr he
        obtain ⟨e1, e2⟩ := Prod.mk.inj he
        cases Sum.inl.inj e1
        subst e2
        intro H locs ls hP hS hL hX hg
        have hq : ∀ t : State, t.heap = H → s.WarmedH t.vm → a_Qr G sh (some (.int x)) σ' s.heap.size (as.map (a_cv (g_ad G))).toArray s (.returned (some (.int x))) t := fun t ht _ => ⟨rfl, by rw [ht]; exact a_Wh_of hG hB.2.1 hB.2.2.1 hP hS hX, hS.F ht⟩
        rcases hr with hr | ⟨hr, h01⟩
        · rw [hr] at hret
          exact W.iret B.exec B.bytes (hrt.trans hret) hq (fun q h => hS.2.2 q h) hd
        · rw [hr] at hret
          exact W.zret B.exec B.bytes (hrt.trans hret) (by rcases h01 with rfl | rfl <;> rfl) hq (fun q h => hS.2.2 q h) hd)
      (by
        intro pc L τ hd hr he
        obtain ⟨e1, e2⟩ := Prod.mk.inj he
        cases Sum.inl.inj e1
        subst e2
        intro H locs ls hP hS hL hX hg
        rw [hr] at hret
        exact W.vret B.exec B.bytes (hrt.trans hret) (fun t ht _ => ⟨rfl, by rw [ht]; exact a_Wh_of hG hB.2.1 hB.2.2.1 hP hS hX, hS.F ht⟩) (fun q h => hS.2.2 q h) hd)
      (by
        intro pc L x τ hd hr he
        obtain ⟨e1, e2⟩ := Prod.mk.inj he
        cases Sum.inl.inj e1
        subst e2
        intro H locs ls hP hS hL hX hg
        rw [hr] at hret
        exact W.lret B.exec B.bytes (hrt.trans hret) (fun t ht _ => ⟨rfl, by rw [ht]; exact a_Wh_of hG hB.2.1 hB.2.2.1 hP hS hX, hS.F ht⟩) (fun q h => hS.2.2 q h) hd)
      (by
        intro pc L st x τ _ _ he
        cases (Prod.mk.inj he).1)
      (by
        intro virt n f na ci rk hmem pc L as9 r τ hd _ hv hwr hlen hwa h9
        refine hca n f na ci rk hmem p e _ s m _ below meth c _ nL σ.2.2 σ'.2.2 (fun o τ => ((Sum.inl v, σ') : aRes) = (o, τ)) virt hM (Nat.le_refl _) (Nat.le_refl _) ⟨Nat.le_refl _, Nat.le_refl _⟩ pc ?_ ?_ L as9 r τ hd hv hwr hlen hwa h9
        · intro L x τ he
          rw [hexc] at he
          cases (Prod.mk.inj he).1
        · intro L x τ he
          rw [hexc] at he
          cases (Prod.mk.inj he).1)
      N 0 (a_lcl nL as) [] σ hN9
    have := key s.heap [] _ hB.1 va_S.rf (a_L.entry (ad := g_ad G) hone hle) hB.2.2.2 (Nat.le_refl _)
    rw [Nat.sub_self] at this
    exact this
  | inr x =>
    have hpn : plainName y.cls = true := by
      rcases hy2 with h1 | h1
      · rcases hnt with h2 | h2
        · exact h2
        · obtain ⟨v, hv⟩ := a_run_nt h1 h2 N _ _ _ _ _ hN9
          cases hv
      · exact h1
    show vx_Met l y [.code y cc nL ret] _ _ _ _ _ _ _
    refine vx_ofW (cc := cc) (maxL := nL) (ret := ret) hpn rfl ?_
    intro p e s m args below meth c s₁ B hml htab hv
    obtain ⟨rfl, hsz, hWs, hB⟩ := hv
    subst hsz
    have hM : a_M p s m c G nL y.cls cc := ⟨B.exec, B.bytes, hml, findClass_of_methodNamed B.named, hWs, hB.2.1, hB.2.2.1⟩
    have hlk := B.notSynchronized
    have hown := findClass_of_methodNamed B.named
    rw [lg_entry_eq]
    have hts := a_hts (args := (as.map (a_cv (g_ad G))).toArray) hG hWs
    have hA9 : ∀ q, a_A (g_ad G) sh.length s.heap.size q → (g_s G).heap.size ≤ q := by
      intro q hq
      rcases hq with ⟨k, hk, rfl⟩ | hz
      · exact hG.2.1 k hk
      · exact Nat.le_trans hB.2.1 hz
    have hold : ∀ q : Nat, q < (g_s G).heap.size → ¬ (g_s G).heap.size ≤ q → s.heap[q]? = (g_s G).heap[q]? := fun q h1 _ => hB.2.2.1 q h1
    have hU := ((hXG.1.moved hWs.alike).kept hold).narrow hA9
    have hV := ((hXG.2.moved hWs.alike).kept hold).narrow hA9
    have key := a_run_sound (p := p) (l := l) (e := e) (R := (headSpec [Cond.code y cc nL ret] (a_rm fr lo (σ'.2.2 - σ.2.2))).room) (s := s) (m := m) (args := (as.map (a_cv (g_ad G))).toArray) (below := below) (meth := meth) (c := c)
      (Q := vx_MQ below (fun _ _ _ _ => False) (a_Qx G sh x σ' s.heap.size) (as.map (a_cv (g_ad G))).toArray s (σ'.2.2 - σ.2.2) (6 * (σ'.2.2 - σ.2.2)) (a_A (g_ad G) sh.length s.heap.size)) (G := G) (sh := sh) (nL := nL) (g0 := σ.2.2) (own := y.cls) (cc := cc) (rf := (.inr x, σ')) hG hN hsl hM hF hC hcode' hcm
      (by intro pc L x τ _ _ he; cases (Prod.mk.inj he).1)
      (by intro pc L τ _ _ he; cases (Prod.mk.inj he).1)
      (by intro pc L x τ _ _ he; cases (Prod.mk.inj he).1)
      (by
        intro pc L st x9 τ hmem hst he
        obtain ⟨e1, e2⟩ := Prod.mk.inj he
        cases Sum.inr.inj e1
        subst e2
        obtain ⟨hx1, ik, is, ic, sa, text, ⟨d0, d3⟩, hdd, w1, w2, w3, w4, hfr, hlo⟩ := hth pc x hmem
        intro H locs ls hP hS hL hX hg
        have hat : ∀ w ∈ vx_atS y.cls ic (a_en x) a_nm, w.before (as.map (a_cv (g_ad G))).toArray s = true := by
          intro w hw
          obtain ⟨q1, q2⟩ := w4 w hw
          rcases q2 with q2 | q2
          · exact hts w (List.mem_filter.mpr ⟨q1, q2⟩)
          · subst q2
            obtain ⟨aa, haa⟩ := hG.2.2.2.1
            exact va_Nw.use rfl (va_Nw.warmC hWs (va_Nw.of rfl (haa _ q1)))
        have hgd : ∀ w ∈ Cond.classLink y.cls ik (a_en x) :: Cond.initialized (a_en x) :: vx_atS y.cls ic (a_en x) a_nm, vx_ot w = true := by
          intro w hw
          have key : ∀ w ∈ lw_g, vx_ot w = true := fun w hw => by
            unfold vx_ot
            rw [(List.mem_filter.mp hw).2, Bool.or_true]
          rcases List.mem_cons.mp hw with rfl | hw
          · exact key _ w1
          rcases List.mem_cons.mp hw with rfl | hw
          · exact key _ w2
          obtain ⟨q1, q2⟩ := w4 w hw
          rcases q2 with q2 | q2
          · exact key _ (List.mem_filter.mpr ⟨q1, q2⟩)
          · subst q2; rfl
        have hcls : Bundle.fit (a_en x) = true := by
          rcases (show x = 0 ∨ x = 1 by omega) with rfl | rfl <;> decide +kernel
        have hnms : ∀ n ∈ a_nm, Bundle.fit n = true := by decide +kernel
        have hg9 : τ.2.2 + 1 = (a_tk τ).2.2 := rfl
        have hwt9 : ((st.map (a_cv (g_ad G))).map fun v => v.category).sum ≤ 8 := by rw [a_wt_sum]; exact hst
        have hxx : ∀ t : State, s.vm.Alike t.vm → H.size ≤ t.heap.size → (∀ q : Nat, q < H.size → t.heap[q]? = H[q]?) → a_Qx G sh x (a_tk τ) s.heap.size (a_en x) s t := by
          intro t _ hsz9 hsame
          have hPt : va_P (g_D G) vwCl (a_wl (g_ad G) (g_ca G) sh (a_tk τ)) t.heap := hP.kept (fun k q hk => hsame _ (hP k q hk).lt)
          have hSt : va_S (a_A (g_ad G) sh.length s.heap.size) s.heap t.heap locs := ⟨Nat.le_trans hS.1 hsz9, fun q h1 h2 => by rw [hsame q (Nat.lt_of_lt_of_le h1 hS.1)]; exact hS.2.1 q h1 h2, hS.2.2⟩
          exact ⟨rfl, a_Wh_of hG hB.2.1 hB.2.2.1 hPt hSt hX, hSt.F rfl⟩
        have hc1 : τ.2.2 - σ.2.2 + 1 = (a_tk τ).2.2 - σ.2.2 := by omega
        have hs1 : 6 * (τ.2.2 - σ.2.2) + 6 = 6 * ((a_tk τ).2.2 - σ.2.2) := by omega
        have r1 : a_nm.length + 3 < (headSpec [Cond.code y cc nL ret] (a_rm fr lo ((a_tk τ).2.2 - σ.2.2))).room.frames := show 2 + 3 < fr by omega
        have r2 : ((st.map (a_cv (g_ad G))).map fun v => v.category).sum + (13 * (a_nm.length + 1) + 43) ≤ (headSpec [Cond.code y cc nL ret] (a_rm fr lo ((a_tk τ).2.2 - σ.2.2))).room.locals := show _ + (13 * (2 + 1) + 43) ≤ lo by omega
        have r3 : τ.2.2 - σ.2.2 + 1 ≤ (headSpec [Cond.code y cc nL ret] (a_rm fr lo ((a_tk τ).2.2 - σ.2.2))).room.cells := show _ ≤ (a_tk τ).2.2 - σ.2.2 by omega
        have r4 : 6 * (τ.2.2 - σ.2.2) + 6 ≤ (headSpec [Cond.code y cc nL ret] (a_rm fr lo ((a_tk τ).2.2 - σ.2.2))).room.slots := show _ ≤ 6 * ((a_tk τ).2.2 - σ.2.2) by omega
        rcases hdd with ⟨d4, d6, d9⟩ | ⟨d4, d7, d10⟩
        · exact vx_throwS B.exec B.bytes hl hown hcls hnms (hts _ w1) (hts _ w2) (vk_R.warm hWs w3) hat hgd hU hV hS (hL.1.trans hml.symm) d0 d3 d4 d6 d9 (fun z hz => (htab z hz).elim) r1 r2 r3 r4 hlk hxx (fun q h => hS.2.2 q h) (by omega) (by omega)
        · exact vx_throwSW B.exec B.bytes hl hown hcls hnms (hts _ w1) (hts _ w2) (vk_R.warm hWs w3) hat hgd hU hV hS (hL.1.trans hml.symm) d0 d3 d4 d7 d10 (fun z hz => (htab z hz).elim) r1 r2 r3 r4 hlk hxx (fun q h => hS.2.2 q h) (by omega) (by omega))
      (by
        intro virt n f na ci rk hmem pc L as9 r τ hd _ hv hwr hlen hwa h9
        refine hca n f na ci rk hmem p e _ s m _ below meth c _ nL σ.2.2 σ'.2.2 (fun o τ => ((Sum.inr x, σ') : aRes) = (o, τ)) virt hM (Nat.le_refl _) (Nat.le_refl _) ⟨Nat.le_refl _, Nat.le_refl _⟩ pc ?_ ?_ L as9 r τ hd hv hwr hlen hwa h9
        · intro L x τ he
          rw [hexc] at he
          rw [(Prod.mk.inj he).2]
          exact Nat.le_refl _
        · intro L x9 τ he H1 locs1 ls r9 q ce hB1 hS1 hL1 hg1 k1 k2 k3
          rw [hexc] at he
          obtain ⟨e1, e2⟩ := Prod.mk.inj he
          cases Sum.inr.inj e1
          subst e2
          exact vx_out (fun z hz => (htab z hz).elim) hlk k1 k2 k3 (fun t ht _ => ⟨rfl, by rw [ht]; exact hB1, hS1.F ht⟩) (fun q h => hS1.2.2 q h) (Nat.le_refl _) (Nat.le_refl _))
      N 0 (a_lcl nL as) [] σ hN9
    have := key s.heap [] _ hB.1 va_S.rf (a_L.entry (ad := g_ad G) hone hle) hB.2.2.2 (Nat.le_refl _)
    rw [Nat.sub_self] at this
    exact this
end
