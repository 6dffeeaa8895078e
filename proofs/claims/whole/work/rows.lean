section
-- ===== PART A: goes FIRST, ahead of the names: the tables' words, and 'selects' of the private methods out of them =====
/-- a private method of a class that the tables say can be made, by its rows of tables_1 -/
def lw_okq (q : MethodName × Nat) : Prop := (q.1.cls ≠ "java/lang/invoke/MethodHandle" ∧ q.1.cls ≠ "java/lang/invoke/VarHandle") ∧ Cond.instantiable q.1.cls q.2 ∈ tables_1 ∧ Cond.privateMethod q.1 ∈ tables_1 ∧ Cond.instanceMethod q.1 ∈ tables_1
theorem lw_p0 : lw_okq (⟨"StoutShelf", "isReader", "(I)Z"⟩, 15) := ⟨⟨by decide +kernel, by decide +kernel⟩, List.mem_of_getElem? (i := 25) (by decide +kernel), List.mem_of_getElem? (i := 333) (by decide +kernel), List.mem_of_getElem? (i := 334) (by decide +kernel)⟩
theorem lw_p1 : lw_okq (⟨"StoutShelf", "isBook", "(I)Z"⟩, 15) := ⟨⟨by decide +kernel, by decide +kernel⟩, List.mem_of_getElem? (i := 25) (by decide +kernel), List.mem_of_getElem? (i := 337) (by decide +kernel), List.mem_of_getElem? (i := 338) (by decide +kernel)⟩
theorem lw_p2 : lw_okq (⟨"StoutShelf", "settle", "(IIIII)I"⟩, 15) := ⟨⟨by decide +kernel, by decide +kernel⟩, List.mem_of_getElem? (i := 25) (by decide +kernel), List.mem_of_getElem? (i := 348) (by decide +kernel), List.mem_of_getElem? (i := 349) (by decide +kernel)⟩
theorem lw_p3 : lw_okq (⟨"StoutShelf$Standing", "tradeMove", "(I)V"⟩, 5) := ⟨⟨by decide +kernel, by decide +kernel⟩, List.mem_of_getElem? (i := 158) (by decide +kernel), List.mem_of_getElem? (i := 356) (by decide +kernel), List.mem_of_getElem? (i := 357) (by decide +kernel)⟩
theorem lw_p4 : lw_okq (⟨"StoutShelf", "troubleOfSwap", "(IIII)I"⟩, 15) := ⟨⟨by decide +kernel, by decide +kernel⟩, List.mem_of_getElem? (i := 25) (by decide +kernel), List.mem_of_getElem? (i := 367) (by decide +kernel), List.mem_of_getElem? (i := 368) (by decide +kernel)⟩
theorem lw_p5 : lw_okq (⟨"StoutShelf$Week", "tryPlace", "(II)V"⟩, 9) := ⟨⟨by decide +kernel, by decide +kernel⟩, List.mem_of_getElem? (i := 187) (by decide +kernel), List.mem_of_getElem? (i := 392) (by decide +kernel), List.mem_of_getElem? (i := 393) (by decide +kernel)⟩
theorem lw_p6 : lw_okq (⟨"StoutShelf$Week", "weigh", "(I)V"⟩, 9) := ⟨⟨by decide +kernel, by decide +kernel⟩, List.mem_of_getElem? (i := 187) (by decide +kernel), List.mem_of_getElem? (i := 396) (by decide +kernel), List.mem_of_getElem? (i := 397) (by decide +kernel)⟩
theorem lw_p7 : lw_okq (⟨"StoutShelf$Week", "tryReader", "(III)V"⟩, 9) := ⟨⟨by decide +kernel, by decide +kernel⟩, List.mem_of_getElem? (i := 187) (by decide +kernel), List.mem_of_getElem? (i := 404) (by decide +kernel), List.mem_of_getElem? (i := 405) (by decide +kernel)⟩
theorem lw_p8 : lw_okq (⟨"StoutShelf$Week", "tryExchange", "(IIIII)V"⟩, 9) := ⟨⟨by decide +kernel, by decide +kernel⟩, List.mem_of_getElem? (i := 187) (by decide +kernel), List.mem_of_getElem? (i := 409) (by decide +kernel), List.mem_of_getElem? (i := 410) (by decide +kernel)⟩
theorem lw_p9 : lw_okq (⟨"StoutShelf$Catalogue", "allEvents", "()I"⟩, 5) := ⟨⟨by decide +kernel, by decide +kernel⟩, List.mem_of_getElem? (i := 245) (by decide +kernel), List.mem_of_getElem? (i := 434) (by decide +kernel), List.mem_of_getElem? (i := 435) (by decide +kernel)⟩
theorem lw_p10 : lw_okq (⟨"StoutShelf$Catalogue", "reckonBefore", "(I)V"⟩, 5) := ⟨⟨by decide +kernel, by decide +kernel⟩, List.mem_of_getElem? (i := 245) (by decide +kernel), List.mem_of_getElem? (i := 438) (by decide +kernel), List.mem_of_getElem? (i := 439) (by decide +kernel)⟩
theorem lw_p11 : lw_okq (⟨"StoutShelf$Catalogue", "goTo", "(I)V"⟩, 5) := ⟨⟨by decide +kernel, by decide +kernel⟩, List.mem_of_getElem? (i := 245) (by decide +kernel), List.mem_of_getElem? (i := 445) (by decide +kernel), List.mem_of_getElem? (i := 446) (by decide +kernel)⟩
theorem lw_p12 : lw_okq (⟨"StoutShelf$Catalogue", "canFollow", "(II)Z"⟩, 5) := ⟨⟨by decide +kernel, by decide +kernel⟩, List.mem_of_getElem? (i := 245) (by decide +kernel), List.mem_of_getElem? (i := 451) (by decide +kernel), List.mem_of_getElem? (i := 452) (by decide +kernel)⟩
theorem lw_p13 : lw_okq (⟨"java/lang/Throwable", "fillInStackTrace", "(I)Ljava/lang/Throwable;"⟩, 6) := ⟨⟨by decide +kernel, by decide +kernel⟩, List.mem_of_getElem? (i := 528) (by decide +kernel), List.mem_of_getElem? (i := 526) (by decide +kernel), List.mem_of_getElem? (i := 527) (by decide +kernel)⟩
theorem lw_p14 : lw_okq (⟨"StoutShelf$Text", "at", "(I)I"⟩, 7) := ⟨⟨by decide +kernel, by decide +kernel⟩, List.mem_of_getElem? (i := 33) (by decide +kernel), List.mem_of_getElem? (i := 582) (by decide +kernel), List.mem_of_getElem? (i := 583) (by decide +kernel)⟩
theorem lw_p15 : lw_okq (⟨"StoutShelf$Reading", "readReader", "()Z"⟩, 4) := ⟨⟨by decide +kernel, by decide +kernel⟩, List.mem_of_getElem? (i := 138) (by decide +kernel), List.mem_of_getElem? (i := 651) (by decide +kernel), List.mem_of_getElem? (i := 652) (by decide +kernel)⟩
def lw_privs_1 : List (MethodName × Nat) := [(⟨"StoutShelf", "isReader", "(I)Z"⟩, 15), (⟨"StoutShelf", "isBook", "(I)Z"⟩, 15), (⟨"StoutShelf", "settle", "(IIIII)I"⟩, 15), (⟨"StoutShelf$Standing", "tradeMove", "(I)V"⟩, 5), (⟨"StoutShelf", "troubleOfSwap", "(IIII)I"⟩, 15), (⟨"StoutShelf$Week", "tryPlace", "(II)V"⟩, 9), (⟨"StoutShelf$Week", "weigh", "(I)V"⟩, 9), (⟨"StoutShelf$Week", "tryReader", "(III)V"⟩, 9), (⟨"StoutShelf$Week", "tryExchange", "(IIIII)V"⟩, 9), (⟨"StoutShelf$Catalogue", "allEvents", "()I"⟩, 5), (⟨"StoutShelf$Catalogue", "reckonBefore", "(I)V"⟩, 5), (⟨"StoutShelf$Catalogue", "goTo", "(I)V"⟩, 5), (⟨"StoutShelf$Catalogue", "canFollow", "(II)Z"⟩, 5), (⟨"java/lang/Throwable", "fillInStackTrace", "(I)Ljava/lang/Throwable;"⟩, 6), (⟨"StoutShelf$Text", "at", "(I)I"⟩, 7), (⟨"StoutShelf$Reading", "readReader", "()Z"⟩, 4)]
theorem lw_r1 : ∀ q ∈ lw_privs_1, lw_okq q := List.forall_mem_cons.mpr ⟨lw_p0, List.forall_mem_cons.mpr ⟨lw_p1, List.forall_mem_cons.mpr ⟨lw_p2, List.forall_mem_cons.mpr ⟨lw_p3, List.forall_mem_cons.mpr ⟨lw_p4, List.forall_mem_cons.mpr ⟨lw_p5, List.forall_mem_cons.mpr ⟨lw_p6, List.forall_mem_cons.mpr ⟨lw_p7, List.forall_mem_cons.mpr ⟨lw_p8, List.forall_mem_cons.mpr ⟨lw_p9, List.forall_mem_cons.mpr ⟨lw_p10, List.forall_mem_cons.mpr ⟨lw_p11, List.forall_mem_cons.mpr ⟨lw_p12, List.forall_mem_cons.mpr ⟨lw_p13, List.forall_mem_cons.mpr ⟨lw_p14, List.forall_mem_cons.mpr ⟨lw_p15, fun _ h => absurd h List.not_mem_nil⟩⟩⟩⟩⟩⟩⟩⟩⟩⟩⟩⟩⟩⟩⟩⟩
theorem lw_p16 : lw_okq (⟨"StoutShelf$Reading", "refuse", "(I)Z"⟩, 4) := ⟨⟨by decide +kernel, by decide +kernel⟩, List.mem_of_getElem? (i := 138) (by decide +kernel), List.mem_of_getElem? (i := 655) (by decide +kernel), List.mem_of_getElem? (i := 656) (by decide +kernel)⟩
theorem lw_p17 : lw_okq (⟨"StoutShelf$Reading", "readBook", "()Z"⟩, 4) := ⟨⟨by decide +kernel, by decide +kernel⟩, List.mem_of_getElem? (i := 138) (by decide +kernel), List.mem_of_getElem? (i := 661) (by decide +kernel), List.mem_of_getElem? (i := 662) (by decide +kernel)⟩
theorem lw_p18 : lw_okq (⟨"StoutShelf$Reading", "readPart", "(II)Z"⟩, 4) := ⟨⟨by decide +kernel, by decide +kernel⟩, List.mem_of_getElem? (i := 138) (by decide +kernel), List.mem_of_getElem? (i := 665) (by decide +kernel), List.mem_of_getElem? (i := 666) (by decide +kernel)⟩
theorem lw_p19 : lw_okq (⟨"StoutShelf$Reading", "needNumber", "()Z"⟩, 4) := ⟨⟨by decide +kernel, by decide +kernel⟩, List.mem_of_getElem? (i := 138) (by decide +kernel), List.mem_of_getElem? (i := 669) (by decide +kernel), List.mem_of_getElem? (i := 670) (by decide +kernel)⟩
theorem lw_p20 : lw_okq (⟨"StoutShelf$Reading", "readPerhaps", "(Ljava/lang/String;I)Z"⟩, 4) := ⟨⟨by decide +kernel, by decide +kernel⟩, List.mem_of_getElem? (i := 138) (by decide +kernel), List.mem_of_getElem? (i := 674) (by decide +kernel), List.mem_of_getElem? (i := 675) (by decide +kernel)⟩
theorem lw_p21 : lw_okq (⟨"StoutShelf$Reading", "readOwner", "(I)Z"⟩, 4) := ⟨⟨by decide +kernel, by decide +kernel⟩, List.mem_of_getElem? (i := 138) (by decide +kernel), List.mem_of_getElem? (i := 680) (by decide +kernel), List.mem_of_getElem? (i := 681) (by decide +kernel)⟩
theorem lw_p22 : lw_okq (⟨"StoutShelf$Reading", "needToldAhead", "(I)Z"⟩, 4) := ⟨⟨by decide +kernel, by decide +kernel⟩, List.mem_of_getElem? (i := 138) (by decide +kernel), List.mem_of_getElem? (i := 685) (by decide +kernel), List.mem_of_getElem? (i := 686) (by decide +kernel)⟩
theorem lw_p23 : lw_okq (⟨"StoutShelf$Reading", "readWants", "()Z"⟩, 4) := ⟨⟨by decide +kernel, by decide +kernel⟩, List.mem_of_getElem? (i := 138) (by decide +kernel), List.mem_of_getElem? (i := 690) (by decide +kernel), List.mem_of_getElem? (i := 691) (by decide +kernel)⟩
theorem lw_p24 : lw_okq (⟨"StoutShelf$Reading", "readLaw", "()Z"⟩, 4) := ⟨⟨by decide +kernel, by decide +kernel⟩, List.mem_of_getElem? (i := 138) (by decide +kernel), List.mem_of_getElem? (i := 695) (by decide +kernel), List.mem_of_getElem? (i := 696) (by decide +kernel)⟩
theorem lw_p25 : lw_okq (⟨"StoutShelf$Reading", "readExpr", "(I)Z"⟩, 4) := ⟨⟨by decide +kernel, by decide +kernel⟩, List.mem_of_getElem? (i := 138) (by decide +kernel), List.mem_of_getElem? (i := 700) (by decide +kernel), List.mem_of_getElem? (i := 701) (by decide +kernel)⟩
theorem lw_p26 : lw_okq (⟨"StoutShelf$Reading", "readLevel", "(II)Z"⟩, 4) := ⟨⟨by decide +kernel, by decide +kernel⟩, List.mem_of_getElem? (i := 138) (by decide +kernel), List.mem_of_getElem? (i := 708) (by decide +kernel), List.mem_of_getElem? (i := 709) (by decide +kernel)⟩
theorem lw_p27 : lw_okq (⟨"StoutShelf$Reading", "readTest", "(I)Z"⟩, 4) := ⟨⟨by decide +kernel, by decide +kernel⟩, List.mem_of_getElem? (i := 138) (by decide +kernel), List.mem_of_getElem? (i := 712) (by decide +kernel), List.mem_of_getElem? (i := 713) (by decide +kernel)⟩
theorem lw_p28 : lw_okq (⟨"StoutShelf$Reading", "operatorOf", "(I)I"⟩, 4) := ⟨⟨by decide +kernel, by decide +kernel⟩, List.mem_of_getElem? (i := 138) (by decide +kernel), List.mem_of_getElem? (i := 717) (by decide +kernel), List.mem_of_getElem? (i := 718) (by decide +kernel)⟩
theorem lw_p29 : lw_okq (⟨"StoutShelf$Reading", "readSingle", "(I)Z"⟩, 4) := ⟨⟨by decide +kernel, by decide +kernel⟩, List.mem_of_getElem? (i := 138) (by decide +kernel), List.mem_of_getElem? (i := 724) (by decide +kernel), List.mem_of_getElem? (i := 725) (by decide +kernel)⟩
theorem lw_p30 : lw_okq (⟨"StoutShelf$Reading", "needSign", "(C)Z"⟩, 4) := ⟨⟨by decide +kernel, by decide +kernel⟩, List.mem_of_getElem? (i := 138) (by decide +kernel), List.mem_of_getElem? (i := 728) (by decide +kernel), List.mem_of_getElem? (i := 729) (by decide +kernel)⟩
theorem lw_p31 : lw_okq (⟨"StoutShelf$Reading", "readIf", "(I)Z"⟩, 4) := ⟨⟨by decide +kernel, by decide +kernel⟩, List.mem_of_getElem? (i := 138) (by decide +kernel), List.mem_of_getElem? (i := 733) (by decide +kernel), List.mem_of_getElem? (i := 734) (by decide +kernel)⟩
def lw_privs_2 : List (MethodName × Nat) := [(⟨"StoutShelf$Reading", "refuse", "(I)Z"⟩, 4), (⟨"StoutShelf$Reading", "readBook", "()Z"⟩, 4), (⟨"StoutShelf$Reading", "readPart", "(II)Z"⟩, 4), (⟨"StoutShelf$Reading", "needNumber", "()Z"⟩, 4), (⟨"StoutShelf$Reading", "readPerhaps", "(Ljava/lang/String;I)Z"⟩, 4), (⟨"StoutShelf$Reading", "readOwner", "(I)Z"⟩, 4), (⟨"StoutShelf$Reading", "needToldAhead", "(I)Z"⟩, 4), (⟨"StoutShelf$Reading", "readWants", "()Z"⟩, 4), (⟨"StoutShelf$Reading", "readLaw", "()Z"⟩, 4), (⟨"StoutShelf$Reading", "readExpr", "(I)Z"⟩, 4), (⟨"StoutShelf$Reading", "readLevel", "(II)Z"⟩, 4), (⟨"StoutShelf$Reading", "readTest", "(I)Z"⟩, 4), (⟨"StoutShelf$Reading", "operatorOf", "(I)I"⟩, 4), (⟨"StoutShelf$Reading", "readSingle", "(I)Z"⟩, 4), (⟨"StoutShelf$Reading", "needSign", "(C)Z"⟩, 4), (⟨"StoutShelf$Reading", "readIf", "(I)Z"⟩, 4)]
theorem lw_r2 : ∀ q ∈ lw_privs_2, lw_okq q := List.forall_mem_cons.mpr ⟨lw_p16, List.forall_mem_cons.mpr ⟨lw_p17, List.forall_mem_cons.mpr ⟨lw_p18, List.forall_mem_cons.mpr ⟨lw_p19, List.forall_mem_cons.mpr ⟨lw_p20, List.forall_mem_cons.mpr ⟨lw_p21, List.forall_mem_cons.mpr ⟨lw_p22, List.forall_mem_cons.mpr ⟨lw_p23, List.forall_mem_cons.mpr ⟨lw_p24, List.forall_mem_cons.mpr ⟨lw_p25, List.forall_mem_cons.mpr ⟨lw_p26, List.forall_mem_cons.mpr ⟨lw_p27, List.forall_mem_cons.mpr ⟨lw_p28, List.forall_mem_cons.mpr ⟨lw_p29, List.forall_mem_cons.mpr ⟨lw_p30, List.forall_mem_cons.mpr ⟨lw_p31, fun _ h => absurd h List.not_mem_nil⟩⟩⟩⟩⟩⟩⟩⟩⟩⟩⟩⟩⟩⟩⟩⟩
theorem lw_p32 : lw_okq (⟨"StoutShelf$Reading", "needWord", "(Ljava/lang/String;)Z"⟩, 4) := ⟨⟨by decide +kernel, by decide +kernel⟩, List.mem_of_getElem? (i := 138) (by decide +kernel), List.mem_of_getElem? (i := 738) (by decide +kernel), List.mem_of_getElem? (i := 739) (by decide +kernel)⟩
theorem lw_p33 : lw_okq (⟨"StoutShelf$Reading", "readValue", "()Z"⟩, 4) := ⟨⟨by decide +kernel, by decide +kernel⟩, List.mem_of_getElem? (i := 138) (by decide +kernel), List.mem_of_getElem? (i := 744) (by decide +kernel), List.mem_of_getElem? (i := 745) (by decide +kernel)⟩
theorem lw_p34 : lw_okq (⟨"StoutShelf$Law", "push", "(I)V"⟩, 4) := ⟨⟨by decide +kernel, by decide +kernel⟩, List.mem_of_getElem? (i := 72) (by decide +kernel), List.mem_of_getElem? (i := 771) (by decide +kernel), List.mem_of_getElem? (i := 772) (by decide +kernel)⟩
theorem lw_p35 : lw_okq (⟨"StoutShelf$Law", "turn", "()V"⟩, 4) := ⟨⟨by decide +kernel, by decide +kernel⟩, List.mem_of_getElem? (i := 72) (by decide +kernel), List.mem_of_getElem? (i := 775) (by decide +kernel), List.mem_of_getElem? (i := 776) (by decide +kernel)⟩
theorem lw_p36 : lw_okq (⟨"StoutShelf$Law", "choose", "()V"⟩, 4) := ⟨⟨by decide +kernel, by decide +kernel⟩, List.mem_of_getElem? (i := 72) (by decide +kernel), List.mem_of_getElem? (i := 782) (by decide +kernel), List.mem_of_getElem? (i := 783) (by decide +kernel)⟩
theorem lw_p37 : lw_okq (⟨"StoutShelf$Law", "work", "(I)V"⟩, 4) := ⟨⟨by decide +kernel, by decide +kernel⟩, List.mem_of_getElem? (i := 72) (by decide +kernel), List.mem_of_getElem? (i := 786) (by decide +kernel), List.mem_of_getElem? (i := 787) (by decide +kernel)⟩
theorem lw_p38 : lw_okq (⟨"StoutShelf", "needBook", "(I)V"⟩, 15) := ⟨⟨by decide +kernel, by decide +kernel⟩, List.mem_of_getElem? (i := 25) (by decide +kernel), List.mem_of_getElem? (i := 836) (by decide +kernel), List.mem_of_getElem? (i := 837) (by decide +kernel)⟩
theorem lw_p39 : lw_okq (⟨"StoutShelf", "needReader", "(I)V"⟩, 15) := ⟨⟨by decide +kernel, by decide +kernel⟩, List.mem_of_getElem? (i := 25) (by decide +kernel), List.mem_of_getElem? (i := 855) (by decide +kernel), List.mem_of_getElem? (i := 856) (by decide +kernel)⟩
theorem lw_p40 : lw_okq (⟨"StoutShelf", "reachNow", "(I)I"⟩, 15) := ⟨⟨by decide +kernel, by decide +kernel⟩, List.mem_of_getElem? (i := 25) (by decide +kernel), List.mem_of_getElem? (i := 876) (by decide +kernel), List.mem_of_getElem? (i := 877) (by decide +kernel)⟩
theorem lw_p41 : lw_okq (⟨"StoutShelf$Pair", "meet", "(II)V"⟩, 5) := ⟨⟨by decide +kernel, by decide +kernel⟩, List.mem_of_getElem? (i := 223) (by decide +kernel), List.mem_of_getElem? (i := 904) (by decide +kernel), List.mem_of_getElem? (i := 905) (by decide +kernel)⟩
theorem lw_p42 : lw_okq (⟨"StoutShelf$Pair", "meetNew", "(II)V"⟩, 5) := ⟨⟨by decide +kernel, by decide +kernel⟩, List.mem_of_getElem? (i := 223) (by decide +kernel), List.mem_of_getElem? (i := 909) (by decide +kernel), List.mem_of_getElem? (i := 910) (by decide +kernel)⟩
theorem lw_p43 : lw_okq (⟨"StoutShelf$Pair", "goOn", "(III)V"⟩, 5) := ⟨⟨by decide +kernel, by decide +kernel⟩, List.mem_of_getElem? (i := 223) (by decide +kernel), List.mem_of_getElem? (i := 914) (by decide +kernel), List.mem_of_getElem? (i := 915) (by decide +kernel)⟩
theorem lw_p44 : lw_okq (⟨"StoutShelf$Pair", "tradeForEach", "(IIIIII)V"⟩, 5) := ⟨⟨by decide +kernel, by decide +kernel⟩, List.mem_of_getElem? (i := 223) (by decide +kernel), List.mem_of_getElem? (i := 918) (by decide +kernel), List.mem_of_getElem? (i := 919) (by decide +kernel)⟩
theorem lw_p45 : lw_okq (⟨"StoutShelf", "isLost", "(I)Z"⟩, 15) := ⟨⟨by decide +kernel, by decide +kernel⟩, List.mem_of_getElem? (i := 25) (by decide +kernel), List.mem_of_getElem? (i := 939) (by decide +kernel), List.mem_of_getElem? (i := 940) (by decide +kernel)⟩
theorem lw_p46 : lw_okq (⟨"StoutShelf", "freedBy", "(II)I"⟩, 15) := ⟨⟨by decide +kernel, by decide +kernel⟩, List.mem_of_getElem? (i := 25) (by decide +kernel), List.mem_of_getElem? (i := 943) (by decide +kernel), List.mem_of_getElem? (i := 944) (by decide +kernel)⟩
theorem lw_p47 : lw_okq (⟨"StoutShelf", "reachIf", "(III)I"⟩, 15) := ⟨⟨by decide +kernel, by decide +kernel⟩, List.mem_of_getElem? (i := 25) (by decide +kernel), List.mem_of_getElem? (i := 956) (by decide +kernel), List.mem_of_getElem? (i := 957) (by decide +kernel)⟩
def lw_privs_3 : List (MethodName × Nat) := [(⟨"StoutShelf$Reading", "needWord", "(Ljava/lang/String;)Z"⟩, 4), (⟨"StoutShelf$Reading", "readValue", "()Z"⟩, 4), (⟨"StoutShelf$Law", "push", "(I)V"⟩, 4), (⟨"StoutShelf$Law", "turn", "()V"⟩, 4), (⟨"StoutShelf$Law", "choose", "()V"⟩, 4), (⟨"StoutShelf$Law", "work", "(I)V"⟩, 4), (⟨"StoutShelf", "needBook", "(I)V"⟩, 15), (⟨"StoutShelf", "needReader", "(I)V"⟩, 15), (⟨"StoutShelf", "reachNow", "(I)I"⟩, 15), (⟨"StoutShelf$Pair", "meet", "(II)V"⟩, 5), (⟨"StoutShelf$Pair", "meetNew", "(II)V"⟩, 5), (⟨"StoutShelf$Pair", "goOn", "(III)V"⟩, 5), (⟨"StoutShelf$Pair", "tradeForEach", "(IIIIII)V"⟩, 5), (⟨"StoutShelf", "isLost", "(I)Z"⟩, 15), (⟨"StoutShelf", "freedBy", "(II)I"⟩, 15), (⟨"StoutShelf", "reachIf", "(III)I"⟩, 15)]
theorem lw_r3 : ∀ q ∈ lw_privs_3, lw_okq q := List.forall_mem_cons.mpr ⟨lw_p32, List.forall_mem_cons.mpr ⟨lw_p33, List.forall_mem_cons.mpr ⟨lw_p34, List.forall_mem_cons.mpr ⟨lw_p35, List.forall_mem_cons.mpr ⟨lw_p36, List.forall_mem_cons.mpr ⟨lw_p37, List.forall_mem_cons.mpr ⟨lw_p38, List.forall_mem_cons.mpr ⟨lw_p39, List.forall_mem_cons.mpr ⟨lw_p40, List.forall_mem_cons.mpr ⟨lw_p41, List.forall_mem_cons.mpr ⟨lw_p42, List.forall_mem_cons.mpr ⟨lw_p43, List.forall_mem_cons.mpr ⟨lw_p44, List.forall_mem_cons.mpr ⟨lw_p45, List.forall_mem_cons.mpr ⟨lw_p46, List.forall_mem_cons.mpr ⟨lw_p47, fun _ h => absurd h List.not_mem_nil⟩⟩⟩⟩⟩⟩⟩⟩⟩⟩⟩⟩⟩⟩⟩⟩
theorem lw_p48 : lw_okq (⟨"StoutShelf", "bindingPays", "(III)I"⟩, 15) := ⟨⟨by decide +kernel, by decide +kernel⟩, List.mem_of_getElem? (i := 25) (by decide +kernel), List.mem_of_getElem? (i := 969) (by decide +kernel), List.mem_of_getElem? (i := 970) (by decide +kernel)⟩
theorem lw_p49 : lw_okq (⟨"StoutShelf", "readersAbleWith", "(I)I"⟩, 15) := ⟨⟨by decide +kernel, by decide +kernel⟩, List.mem_of_getElem? (i := 25) (by decide +kernel), List.mem_of_getElem? (i := 986) (by decide +kernel), List.mem_of_getElem? (i := 987) (by decide +kernel)⟩
theorem lw_p50 : lw_okq (⟨"StoutShelf$Catalogue", "reckonBehind", "(I)V"⟩, 5) := ⟨⟨by decide +kernel, by decide +kernel⟩, List.mem_of_getElem? (i := 245) (by decide +kernel), List.mem_of_getElem? (i := 1002) (by decide +kernel), List.mem_of_getElem? (i := 1003) (by decide +kernel)⟩
theorem lw_p51 : lw_okq (⟨"StoutShelf$Standing", "isMoved", "(II)Z"⟩, 5) := ⟨⟨by decide +kernel, by decide +kernel⟩, List.mem_of_getElem? (i := 158) (by decide +kernel), List.mem_of_getElem? (i := 1018) (by decide +kernel), List.mem_of_getElem? (i := 1019) (by decide +kernel)⟩
theorem lw_p52 : lw_okq (⟨"StoutShelfModel", "lays", "(I)V"⟩, 62) := ⟨⟨by decide +kernel, by decide +kernel⟩, List.mem_of_getElem? (i := 1027) (by decide +kernel), List.mem_of_getElem? (i := 1229) (by decide +kernel), List.mem_of_getElem? (i := 1230) (by decide +kernel)⟩
theorem lw_p53 : lw_okq (⟨"StoutShelfModel", "right", "(ZI)Z"⟩, 62) := ⟨⟨by decide +kernel, by decide +kernel⟩, List.mem_of_getElem? (i := 1027) (by decide +kernel), List.mem_of_getElem? (i := 1237) (by decide +kernel), List.mem_of_getElem? (i := 1238) (by decide +kernel)⟩
theorem lw_p54 : lw_okq (⟨"StoutShelfModel", "goes", "()V"⟩, 62) := ⟨⟨by decide +kernel, by decide +kernel⟩, List.mem_of_getElem? (i := 1027) (by decide +kernel), List.mem_of_getElem? (i := 1241) (by decide +kernel), List.mem_of_getElem? (i := 1242) (by decide +kernel)⟩
theorem lw_p55 : lw_okq (⟨"StoutShelfModel", "byteAt", "(I)I"⟩, 62) := ⟨⟨by decide +kernel, by decide +kernel⟩, List.mem_of_getElem? (i := 1027) (by decide +kernel), List.mem_of_getElem? (i := 1245) (by decide +kernel), List.mem_of_getElem? (i := 1246) (by decide +kernel)⟩
theorem lw_p56 : lw_okq (⟨"StoutShelfModel", "isGood", "()Z"⟩, 62) := ⟨⟨by decide +kernel, by decide +kernel⟩, List.mem_of_getElem? (i := 1027) (by decide +kernel), List.mem_of_getElem? (i := 1255) (by decide +kernel), List.mem_of_getElem? (i := 1256) (by decide +kernel)⟩
theorem lw_p57 : lw_okq (⟨"StoutShelfModel", "line", "()V"⟩, 62) := ⟨⟨by decide +kernel, by decide +kernel⟩, List.mem_of_getElem? (i := 1027) (by decide +kernel), List.mem_of_getElem? (i := 1259) (by decide +kernel), List.mem_of_getElem? (i := 1260) (by decide +kernel)⟩
theorem lw_p58 : lw_okq (⟨"StoutShelfModel", "knownWord", "()I"⟩, 62) := ⟨⟨by decide +kernel, by decide +kernel⟩, List.mem_of_getElem? (i := 1027) (by decide +kernel), List.mem_of_getElem? (i := 1263) (by decide +kernel), List.mem_of_getElem? (i := 1264) (by decide +kernel)⟩
theorem lw_p59 : lw_okq (⟨"StoutShelfModel", "wrong", "(I)V"⟩, 62) := ⟨⟨by decide +kernel, by decide +kernel⟩, List.mem_of_getElem? (i := 1027) (by decide +kernel), List.mem_of_getElem? (i := 1274) (by decide +kernel), List.mem_of_getElem? (i := 1275) (by decide +kernel)⟩
theorem lw_p60 : lw_okq (⟨"StoutShelfModel", "number", "(II)I"⟩, 62) := ⟨⟨by decide +kernel, by decide +kernel⟩, List.mem_of_getElem? (i := 1027) (by decide +kernel), List.mem_of_getElem? (i := 1278) (by decide +kernel), List.mem_of_getElem? (i := 1279) (by decide +kernel)⟩
theorem lw_p61 : lw_okq (⟨"StoutShelfModel", "perhaps", "(I)I"⟩, 62) := ⟨⟨by decide +kernel, by decide +kernel⟩, List.mem_of_getElem? (i := 1027) (by decide +kernel), List.mem_of_getElem? (i := 1282) (by decide +kernel), List.mem_of_getElem? (i := 1283) (by decide +kernel)⟩
theorem lw_p62 : lw_okq (⟨"StoutShelfModel", "among", "(I)I"⟩, 62) := ⟨⟨by decide +kernel, by decide +kernel⟩, List.mem_of_getElem? (i := 1027) (by decide +kernel), List.mem_of_getElem? (i := 1286) (by decide +kernel), List.mem_of_getElem? (i := 1287) (by decide +kernel)⟩
theorem lw_p63 : lw_okq (⟨"StoutShelfModel", "amongHere", "(I)Z"⟩, 62) := ⟨⟨by decide +kernel, by decide +kernel⟩, List.mem_of_getElem? (i := 1027) (by decide +kernel), List.mem_of_getElem? (i := 1290) (by decide +kernel), List.mem_of_getElem? (i := 1291) (by decide +kernel)⟩
def lw_privs_4 : List (MethodName × Nat) := [(⟨"StoutShelf", "bindingPays", "(III)I"⟩, 15), (⟨"StoutShelf", "readersAbleWith", "(I)I"⟩, 15), (⟨"StoutShelf$Catalogue", "reckonBehind", "(I)V"⟩, 5), (⟨"StoutShelf$Standing", "isMoved", "(II)Z"⟩, 5), (⟨"StoutShelfModel", "lays", "(I)V"⟩, 62), (⟨"StoutShelfModel", "right", "(ZI)Z"⟩, 62), (⟨"StoutShelfModel", "goes", "()V"⟩, 62), (⟨"StoutShelfModel", "byteAt", "(I)I"⟩, 62), (⟨"StoutShelfModel", "isGood", "()Z"⟩, 62), (⟨"StoutShelfModel", "line", "()V"⟩, 62), (⟨"StoutShelfModel", "knownWord", "()I"⟩, 62), (⟨"StoutShelfModel", "wrong", "(I)V"⟩, 62), (⟨"StoutShelfModel", "number", "(II)I"⟩, 62), (⟨"StoutShelfModel", "perhaps", "(I)I"⟩, 62), (⟨"StoutShelfModel", "among", "(I)I"⟩, 62), (⟨"StoutShelfModel", "amongHere", "(I)Z"⟩, 62)]
theorem lw_r4 : ∀ q ∈ lw_privs_4, lw_okq q := List.forall_mem_cons.mpr ⟨lw_p48, List.forall_mem_cons.mpr ⟨lw_p49, List.forall_mem_cons.mpr ⟨lw_p50, List.forall_mem_cons.mpr ⟨lw_p51, List.forall_mem_cons.mpr ⟨lw_p52, List.forall_mem_cons.mpr ⟨lw_p53, List.forall_mem_cons.mpr ⟨lw_p54, List.forall_mem_cons.mpr ⟨lw_p55, List.forall_mem_cons.mpr ⟨lw_p56, List.forall_mem_cons.mpr ⟨lw_p57, List.forall_mem_cons.mpr ⟨lw_p58, List.forall_mem_cons.mpr ⟨lw_p59, List.forall_mem_cons.mpr ⟨lw_p60, List.forall_mem_cons.mpr ⟨lw_p61, List.forall_mem_cons.mpr ⟨lw_p62, List.forall_mem_cons.mpr ⟨lw_p63, fun _ h => absurd h List.not_mem_nil⟩⟩⟩⟩⟩⟩⟩⟩⟩⟩⟩⟩⟩⟩⟩⟩
theorem lw_p64 : lw_okq (⟨"StoutShelfModel", "expression", "()V"⟩, 62) := ⟨⟨by decide +kernel, by decide +kernel⟩, List.mem_of_getElem? (i := 1027) (by decide +kernel), List.mem_of_getElem? (i := 1294) (by decide +kernel), List.mem_of_getElem? (i := 1295) (by decide +kernel)⟩
theorem lw_p65 : lw_okq (⟨"StoutShelfModel", "deeper", "()V"⟩, 62) := ⟨⟨by decide +kernel, by decide +kernel⟩, List.mem_of_getElem? (i := 1027) (by decide +kernel), List.mem_of_getElem? (i := 1298) (by decide +kernel), List.mem_of_getElem? (i := 1299) (by decide +kernel)⟩
theorem lw_p66 : lw_okq (⟨"StoutShelfModel", "isSign", "(I)Z"⟩, 62) := ⟨⟨by decide +kernel, by decide +kernel⟩, List.mem_of_getElem? (i := 1027) (by decide +kernel), List.mem_of_getElem? (i := 1302) (by decide +kernel), List.mem_of_getElem? (i := 1303) (by decide +kernel)⟩
theorem lw_p67 : lw_okq (⟨"StoutShelfModel", "operand", "(Z)V"⟩, 62) := ⟨⟨by decide +kernel, by decide +kernel⟩, List.mem_of_getElem? (i := 1027) (by decide +kernel), List.mem_of_getElem? (i := 1306) (by decide +kernel), List.mem_of_getElem? (i := 1307) (by decide +kernel)⟩
theorem lw_p68 : lw_okq (⟨"StoutShelfModel", "waitsFor", "(I)V"⟩, 62) := ⟨⟨by decide +kernel, by decide +kernel⟩, List.mem_of_getElem? (i := 1027) (by decide +kernel), List.mem_of_getElem? (i := 1310) (by decide +kernel), List.mem_of_getElem? (i := 1311) (by decide +kernel)⟩
theorem lw_p69 : lw_okq (⟨"StoutShelfModel", "part", "()V"⟩, 62) := ⟨⟨by decide +kernel, by decide +kernel⟩, List.mem_of_getElem? (i := 1027) (by decide +kernel), List.mem_of_getElem? (i := 1314) (by decide +kernel), List.mem_of_getElem? (i := 1315) (by decide +kernel)⟩
theorem lw_p70 : lw_okq (⟨"StoutShelfModel", "puts", "(I)V"⟩, 62) := ⟨⟨by decide +kernel, by decide +kernel⟩, List.mem_of_getElem? (i := 1027) (by decide +kernel), List.mem_of_getElem? (i := 1318) (by decide +kernel), List.mem_of_getElem? (i := 1319) (by decide +kernel)⟩
theorem lw_p71 : lw_okq (⟨"StoutShelfModel", "drops", "(I)V"⟩, 62) := ⟨⟨by decide +kernel, by decide +kernel⟩, List.mem_of_getElem? (i := 1027) (by decide +kernel), List.mem_of_getElem? (i := 1322) (by decide +kernel), List.mem_of_getElem? (i := 1323) (by decide +kernel)⟩
theorem lw_p72 : lw_okq (⟨"StoutShelfModel", "opened", "()I"⟩, 62) := ⟨⟨by decide +kernel, by decide +kernel⟩, List.mem_of_getElem? (i := 1027) (by decide +kernel), List.mem_of_getElem? (i := 1332) (by decide +kernel), List.mem_of_getElem? (i := 1333) (by decide +kernel)⟩
theorem lw_p73 : lw_okq (⟨"StoutShelfModel", "closes", "()V"⟩, 62) := ⟨⟨by decide +kernel, by decide +kernel⟩, List.mem_of_getElem? (i := 1027) (by decide +kernel), List.mem_of_getElem? (i := 1336) (by decide +kernel), List.mem_of_getElem? (i := 1337) (by decide +kernel)⟩
theorem lw_p74 : lw_okq (⟨"StoutShelfModel", "turns", "(I)V"⟩, 62) := ⟨⟨by decide +kernel, by decide +kernel⟩, List.mem_of_getElem? (i := 1027) (by decide +kernel), List.mem_of_getElem? (i := 1340) (by decide +kernel), List.mem_of_getElem? (i := 1341) (by decide +kernel)⟩
theorem lw_p75 : lw_okq (⟨"StoutShelfModel", "need", "(Z)V"⟩, 62) := ⟨⟨by decide +kernel, by decide +kernel⟩, List.mem_of_getElem? (i := 1027) (by decide +kernel), List.mem_of_getElem? (i := 1344) (by decide +kernel), List.mem_of_getElem? (i := 1345) (by decide +kernel)⟩
theorem lw_p76 : lw_okq (⟨"StoutShelfModel", "copies", "([I[I)V"⟩, 62) := ⟨⟨by decide +kernel, by decide +kernel⟩, List.mem_of_getElem? (i := 1027) (by decide +kernel), List.mem_of_getElem? (i := 1348) (by decide +kernel), List.mem_of_getElem? (i := 1349) (by decide +kernel)⟩
theorem lw_p77 : lw_okq (⟨"StoutShelfModel", "reckons", "(IIII)I"⟩, 62) := ⟨⟨by decide +kernel, by decide +kernel⟩, List.mem_of_getElem? (i := 1027) (by decide +kernel), List.mem_of_getElem? (i := 1352) (by decide +kernel), List.mem_of_getElem? (i := 1353) (by decide +kernel)⟩
theorem lw_p78 : lw_okq (⟨"StoutShelfModel", "isBook", "(I)Z"⟩, 62) := ⟨⟨by decide +kernel, by decide +kernel⟩, List.mem_of_getElem? (i := 1027) (by decide +kernel), List.mem_of_getElem? (i := 1374) (by decide +kernel), List.mem_of_getElem? (i := 1375) (by decide +kernel)⟩
theorem lw_p79 : lw_okq (⟨"StoutShelfModel", "isReader", "(I)Z"⟩, 62) := ⟨⟨by decide +kernel, by decide +kernel⟩, List.mem_of_getElem? (i := 1027) (by decide +kernel), List.mem_of_getElem? (i := 1382) (by decide +kernel), List.mem_of_getElem? (i := 1383) (by decide +kernel)⟩
def lw_privs_5 : List (MethodName × Nat) := [(⟨"StoutShelfModel", "expression", "()V"⟩, 62), (⟨"StoutShelfModel", "deeper", "()V"⟩, 62), (⟨"StoutShelfModel", "isSign", "(I)Z"⟩, 62), (⟨"StoutShelfModel", "operand", "(Z)V"⟩, 62), (⟨"StoutShelfModel", "waitsFor", "(I)V"⟩, 62), (⟨"StoutShelfModel", "part", "()V"⟩, 62), (⟨"StoutShelfModel", "puts", "(I)V"⟩, 62), (⟨"StoutShelfModel", "drops", "(I)V"⟩, 62), (⟨"StoutShelfModel", "opened", "()I"⟩, 62), (⟨"StoutShelfModel", "closes", "()V"⟩, 62), (⟨"StoutShelfModel", "turns", "(I)V"⟩, 62), (⟨"StoutShelfModel", "need", "(Z)V"⟩, 62), (⟨"StoutShelfModel", "copies", "([I[I)V"⟩, 62), (⟨"StoutShelfModel", "reckons", "(IIII)I"⟩, 62), (⟨"StoutShelfModel", "isBook", "(I)Z"⟩, 62), (⟨"StoutShelfModel", "isReader", "(I)Z"⟩, 62)]
theorem lw_r5 : ∀ q ∈ lw_privs_5, lw_okq q := List.forall_mem_cons.mpr ⟨lw_p64, List.forall_mem_cons.mpr ⟨lw_p65, List.forall_mem_cons.mpr ⟨lw_p66, List.forall_mem_cons.mpr ⟨lw_p67, List.forall_mem_cons.mpr ⟨lw_p68, List.forall_mem_cons.mpr ⟨lw_p69, List.forall_mem_cons.mpr ⟨lw_p70, List.forall_mem_cons.mpr ⟨lw_p71, List.forall_mem_cons.mpr ⟨lw_p72, List.forall_mem_cons.mpr ⟨lw_p73, List.forall_mem_cons.mpr ⟨lw_p74, List.forall_mem_cons.mpr ⟨lw_p75, List.forall_mem_cons.mpr ⟨lw_p76, List.forall_mem_cons.mpr ⟨lw_p77, List.forall_mem_cons.mpr ⟨lw_p78, List.forall_mem_cons.mpr ⟨lw_p79, fun _ h => absurd h List.not_mem_nil⟩⟩⟩⟩⟩⟩⟩⟩⟩⟩⟩⟩⟩⟩⟩⟩
theorem lw_p80 : lw_okq (⟨"StoutShelfModel", "hasOf", "(I)I"⟩, 62) := ⟨⟨by decide +kernel, by decide +kernel⟩, List.mem_of_getElem? (i := 1027) (by decide +kernel), List.mem_of_getElem? (i := 1386) (by decide +kernel), List.mem_of_getElem? (i := 1387) (by decide +kernel)⟩
theorem lw_p81 : lw_okq (⟨"StoutShelfModel", "isServed", "(I)Z"⟩, 62) := ⟨⟨by decide +kernel, by decide +kernel⟩, List.mem_of_getElem? (i := 1027) (by decide +kernel), List.mem_of_getElem? (i := 1390) (by decide +kernel), List.mem_of_getElem? (i := 1391) (by decide +kernel)⟩
theorem lw_p82 : lw_okq (⟨"StoutShelfModel", "trouble", "(III)I"⟩, 62) := ⟨⟨by decide +kernel, by decide +kernel⟩, List.mem_of_getElem? (i := 1027) (by decide +kernel), List.mem_of_getElem? (i := 1398) (by decide +kernel), List.mem_of_getElem? (i := 1399) (by decide +kernel)⟩
theorem lw_p83 : lw_okq (⟨"StoutShelfModel", "writes", "(IIII)I"⟩, 62) := ⟨⟨by decide +kernel, by decide +kernel⟩, List.mem_of_getElem? (i := 1027) (by decide +kernel), List.mem_of_getElem? (i := 1402) (by decide +kernel), List.mem_of_getElem? (i := 1403) (by decide +kernel)⟩
theorem lw_p84 : lw_okq (⟨"StoutShelfModel", "reachOf", "(I)I"⟩, 62) := ⟨⟨by decide +kernel, by decide +kernel⟩, List.mem_of_getElem? (i := 1027) (by decide +kernel), List.mem_of_getElem? (i := 1426) (by decide +kernel), List.mem_of_getElem? (i := 1427) (by decide +kernel)⟩
theorem lw_p85 : lw_okq (⟨"StoutShelfModel", "comesTo", "(II)I"⟩, 62) := ⟨⟨by decide +kernel, by decide +kernel⟩, List.mem_of_getElem? (i := 1027) (by decide +kernel), List.mem_of_getElem? (i := 1430) (by decide +kernel), List.mem_of_getElem? (i := 1431) (by decide +kernel)⟩
theorem lw_p86 : lw_okq (⟨"StoutShelfModel", "comes", "(III)V"⟩, 62) := ⟨⟨by decide +kernel, by decide +kernel⟩, List.mem_of_getElem? (i := 1027) (by decide +kernel), List.mem_of_getElem? (i := 1442) (by decide +kernel), List.mem_of_getElem? (i := 1443) (by decide +kernel)⟩
theorem lw_p87 : lw_okq (⟨"StoutShelfModel", "exchanges", "(IIIZI)V"⟩, 62) := ⟨⟨by decide +kernel, by decide +kernel⟩, List.mem_of_getElem? (i := 1027) (by decide +kernel), List.mem_of_getElem? (i := 1447) (by decide +kernel), List.mem_of_getElem? (i := 1448) (by decide +kernel)⟩
theorem lw_p88 : lw_okq (⟨"StoutShelfModel", "served", "()I"⟩, 62) := ⟨⟨by decide +kernel, by decide +kernel⟩, List.mem_of_getElem? (i := 1027) (by decide +kernel), List.mem_of_getElem? (i := 1455) (by decide +kernel), List.mem_of_getElem? (i := 1456) (by decide +kernel)⟩
theorem lw_p89 : lw_okq (⟨"StoutShelfModel", "turns0", "(IZ)V"⟩, 62) := ⟨⟨by decide +kernel, by decide +kernel⟩, List.mem_of_getElem? (i := 1027) (by decide +kernel), List.mem_of_getElem? (i := 1459) (by decide +kernel), List.mem_of_getElem? (i := 1460) (by decide +kernel)⟩
theorem lw_p90 : lw_okq (⟨"StoutShelfModel", "isDoneBy", "(II)Z"⟩, 62) := ⟨⟨by decide +kernel, by decide +kernel⟩, List.mem_of_getElem? (i := 1027) (by decide +kernel), List.mem_of_getElem? (i := 1463) (by decide +kernel), List.mem_of_getElem? (i := 1464) (by decide +kernel)⟩
theorem lw_p91 : lw_okq (⟨"StoutShelfModel", "canBe", "(I)Z"⟩, 62) := ⟨⟨by decide +kernel, by decide +kernel⟩, List.mem_of_getElem? (i := 1027) (by decide +kernel), List.mem_of_getElem? (i := 1467) (by decide +kernel), List.mem_of_getElem? (i := 1468) (by decide +kernel)⟩
theorem lw_p92 : lw_okq (⟨"StoutShelfModel", "canTake", "(II)Z"⟩, 62) := ⟨⟨by decide +kernel, by decide +kernel⟩, List.mem_of_getElem? (i := 1027) (by decide +kernel), List.mem_of_getElem? (i := 1494) (by decide +kernel), List.mem_of_getElem? (i := 1495) (by decide +kernel)⟩
theorem lw_p93 : lw_okq (⟨"StoutShelfModel", "refuses", "(I)I"⟩, 62) := ⟨⟨by decide +kernel, by decide +kernel⟩, List.mem_of_getElem? (i := 1027) (by decide +kernel), List.mem_of_getElem? (i := 1502) (by decide +kernel), List.mem_of_getElem? (i := 1503) (by decide +kernel)⟩
theorem lw_p94 : lw_okq (⟨"StoutShelfModel", "ways", "(IZII)I"⟩, 62) := ⟨⟨by decide +kernel, by decide +kernel⟩, List.mem_of_getElem? (i := 1027) (by decide +kernel), List.mem_of_getElem? (i := 1514) (by decide +kernel), List.mem_of_getElem? (i := 1515) (by decide +kernel)⟩
def lw_privs_6 : List (MethodName × Nat) := [(⟨"StoutShelfModel", "hasOf", "(I)I"⟩, 62), (⟨"StoutShelfModel", "isServed", "(I)Z"⟩, 62), (⟨"StoutShelfModel", "trouble", "(III)I"⟩, 62), (⟨"StoutShelfModel", "writes", "(IIII)I"⟩, 62), (⟨"StoutShelfModel", "reachOf", "(I)I"⟩, 62), (⟨"StoutShelfModel", "comesTo", "(II)I"⟩, 62), (⟨"StoutShelfModel", "comes", "(III)V"⟩, 62), (⟨"StoutShelfModel", "exchanges", "(IIIZI)V"⟩, 62), (⟨"StoutShelfModel", "served", "()I"⟩, 62), (⟨"StoutShelfModel", "turns0", "(IZ)V"⟩, 62), (⟨"StoutShelfModel", "isDoneBy", "(II)Z"⟩, 62), (⟨"StoutShelfModel", "canBe", "(I)Z"⟩, 62), (⟨"StoutShelfModel", "canTake", "(II)Z"⟩, 62), (⟨"StoutShelfModel", "refuses", "(I)I"⟩, 62), (⟨"StoutShelfModel", "ways", "(IZII)I"⟩, 62)]
theorem lw_r6 : ∀ q ∈ lw_privs_6, lw_okq q := List.forall_mem_cons.mpr ⟨lw_p80, List.forall_mem_cons.mpr ⟨lw_p81, List.forall_mem_cons.mpr ⟨lw_p82, List.forall_mem_cons.mpr ⟨lw_p83, List.forall_mem_cons.mpr ⟨lw_p84, List.forall_mem_cons.mpr ⟨lw_p85, List.forall_mem_cons.mpr ⟨lw_p86, List.forall_mem_cons.mpr ⟨lw_p87, List.forall_mem_cons.mpr ⟨lw_p88, List.forall_mem_cons.mpr ⟨lw_p89, List.forall_mem_cons.mpr ⟨lw_p90, List.forall_mem_cons.mpr ⟨lw_p91, List.forall_mem_cons.mpr ⟨lw_p92, List.forall_mem_cons.mpr ⟨lw_p93, List.forall_mem_cons.mpr ⟨lw_p94, fun _ h => absurd h List.not_mem_nil⟩⟩⟩⟩⟩⟩⟩⟩⟩⟩⟩⟩⟩⟩⟩
def lw_privs : List (MethodName × Nat) := lw_privs_1 ++ (lw_privs_2 ++ (lw_privs_3 ++ (lw_privs_4 ++ (lw_privs_5 ++ (lw_privs_6)))))
def lw_tbl : List Cond := k2_sels lw_privs ++ tables_1
theorem lw_privs_ok : ∀ q ∈ lw_privs, lw_okq q := by
  show ∀ q ∈ lw_privs_1 ++ (lw_privs_2 ++ (lw_privs_3 ++ (lw_privs_4 ++ (lw_privs_5 ++ (lw_privs_6))))), lw_okq q
  exact List.forall_mem_append.mpr ⟨lw_r1, List.forall_mem_append.mpr ⟨lw_r2, List.forall_mem_append.mpr ⟨lw_r3, List.forall_mem_append.mpr ⟨lw_r4, List.forall_mem_append.mpr ⟨lw_r5, lw_r6⟩⟩⟩⟩⟩
end
section
/-! ===== BEGIN words of one list among another's, by their places ===== -/
theorem goodIn_r {big : List Cond} (ws : List Cond) (ps : List Nat) (hp : ws = ps.filterMap (fun i => big[i]?)) (h : ws.all goodWord = true) : GoodIn big ws := by
  intro w hw
  have h1 := List.all_eq_true.mp h w hw
  rw [hp] at hw
  obtain ⟨i, -, hi⟩ := List.mem_filterMap.mp hw
  have hm : w ∈ big := by first | exact List.mem_of_getElem? hi | exact List.getElem?_mem hi
  exact ⟨hm, good_of_word h1⟩
theorem goodIn_app {big a b : List Cond} (ha : GoodIn big a) (hb : GoodIn big b) : GoodIn big (a ++ b) := fun w h => (List.mem_append.mp h).elim (ha w) (hb w)
theorem goodIn_ca {big a b : List Cond} {c : Cond} (ha : GoodIn big (c :: a)) (hb : GoodIn big b) : GoodIn big (c :: (a ++ b)) := fun w h => (List.mem_cons.mp h).elim (fun e => ha w (List.mem_cons.mpr (Or.inl e))) (fun h => (List.mem_append.mp h).elim (fun h => ha w (List.mem_cons.mpr (Or.inr h))) (hb w))
theorem goodIn_sub {big ws : List Cond} (hm : ∀ w ∈ ws, w ∈ big) (h : ws.all goodWord = true) : GoodIn big ws := fun w hw => ⟨hm w hw, good_of_word (List.all_eq_true.mp h w hw)⟩
/-! ===== END ===== -/

/-! ===== BEGIN exceptions that leave a method, and their catching by the caller (launches without stack traces) ===== -/
section VXA
/-! The laws vx_back, vx_callV, vx_callS, vx_callSW, vx_throw0, vx_throwS follow proofs of the library, with one case more: JvmDerived/Free/Laws.lean (Back.of_free), Shelf42/LK1.lean (callV, callS), Shelf/KitTraced.lean (throwNew0V, throwNewS). -/
/-- where a method has thrown q: the class by its name, the cell, what was written, the world -/
def vx_T (XC : String → State → State → Prop) (st : State) (q : Addr) (t : State) (mc ms : Nat) (free : Addr → Prop) : Prop :=
  ∃ (E : String) (ce : Cell) (L : List Loc), XC E st t ∧ t.heap[q]? = some ce ∧ ce.vm = .none ∧ st.vm.findClass E = some ce.cls ∧ st.WarmedH t.vm ∧ st.sameButNew ({ t with vm := st.vm } : State) L mc ms ∧ ∀ z ∈ L, free z.base
def vx_Q (Qc : Array Value → State → Outcome → State → Prop) (XC : String → State → State → Prop) (mc ms : Nat) (free : Addr → Prop) : Array Value → State → Outcome → State → Prop := fun a st o t =>
  (Qc a st o t ∧ ∃ L, FrameEnd st o t L mc ms ∧ ∀ q ∈ L, free q.base) ∨ ∃ q, o = .threw q ∧ vx_T XC st q t mc ms free
/-- a callee that returns or throws -/
def vx_Met (l : Launch) (y : MethodName) (ws : List Cond) (rm : Room) (Pc : Array Value → State → Prop) (Qc : Array Value → State → Outcome → State → Prop) (XC : String → State → State → Prop) (mc ms : Nat) (free : Addr → Prop) : Prop :=
  MetFree l y (headSpec ws rm) Pc (fun _ _ _ _ _ => True) (vx_Q Qc XC mc ms free)
def vx_Post (XC : String → State → State → Prop) (mc ms : Nat) (free : Addr → Prop) : Pt → Array Value → Addr → Pt → Prop := fun A a q B =>
  ∃ (g : JFrame) (mk : MethodId) (t : State) (L : List Loc) (E : String) (ce : Cell), B.U.heap = t.heap ∧ B.U.vm = t.vm ∧ XC E (A.U.calling g mk a) t ∧ t.heap[q]? = some ce ∧ ce.vm = .none ∧ A.U.vm.findClass E = some ce.cls ∧ B.locs = A.locs ++ L ∧ (∀ z ∈ L, free z.base) ∧ B.cells = A.cells + mc ∧ B.slots = A.slots + ms
def vx_Back (l : Launch) (R : Room) (p : Program) (e : Env) (below : List Frame) (s : State) (sargs : Array Value) (y : MethodName) (len W9 : Nat)
    (Pre : Pt → Array Value → Prop) (Post : Pt → Array Value → Option Value → Pt → Prop) (PostX : Pt → Array Value → Addr → Pt → Prop) : Prop :=
  ∀ (m : MethodId) (meth : Method) (c : Code) (A : Pt) (g : JFrame) (ig : Instr) (mk : MethodId) (a : Array Value),
    Stand p l e R s m sargs below meth c A.U A.locs A.cells A.slots → g.method = m → g.locals.size = c.maxLocals → decode c.code g.pc = .ok (ig, len) →
    2 * g.monitorRoom + (g.stack.map fun v => v.category).sum ≤ W9 → A.U.methodNamed? y = some mk → Pre A a →
    (∃ (v : Option Value) (B : Pt), Stand p l e R s m sargs below meth c B.U B.locs B.cells B.slots ∧ Post A a v B ∧
      Steps p.tables e below (doInvoke e (A.U.setTop g) [] mk a).1 (B.U.setTop { g with pc := g.pc + len, stack := v.toList ++ g.stack })) ∨
    (∃ (q : Addr) (B : Pt), Stand p l e R s m sargs below meth c B.U B.locs B.cells B.slots ∧ PostX A a q B ∧
      Steps p.tables e below (doInvoke e (A.U.setTop g) [] mk a).1 ((B.U.setTop g).pushFrame (.throwing q)))
section Payer
variable {l : Launch} {R : Room} {p : Program} {e : Env} {below : List Frame} {s : State} {sargs : Array Value} {y : MethodName} {len W9 : Nat}
theorem vx_back {ws : List Cond} {rm : Room} {Pc : Array Value → State → Prop} {Qc : Array Value → State → Outcome → State → Prop} {XC : String → State → State → Prop} {mc ms : Nat} {free : Addr → Prop} {bytes : ByteArray} {maxL : Nat} {ret : Option FieldType}
    (hM : vx_Met l y ws rm Pc Qc XC mc ms free) (hblind : FrameBlind Pc) (hrc : rm.cells = mc) (hrs : rm.slots = ms)
    (hframes : rm.frames + 1 ≤ R.frames) (hlocals : W9 + (maxL + 11) + rm.locals ≤ R.locals)
    (hws : ∀ w ∈ ws, ∀ a' U, s.WarmedH U.vm → w.before a' U = true) (hcode : Cond.code y bytes maxL ret ∈ ws) (hinit : ∀ a' U, s.WarmedH U.vm → (Cond.initialized y.cls).before a' U = true) :
    vx_Back l R p e below s sargs y len W9 (PreOf R mc ms Pc) (PostOf Qc mc ms free) (vx_Post XC mc ms free) := by
  intro m meth c A g ig mk a X hg hsize hdg hW hn hp
  have h1 : (headSpec ws rm).pre.before a A.U = true := atoms_intro fun w hw => hws w hw _ _ X.warmed
  have h2 : (Cond.code y bytes maxL ret).before a A.U = true := hws _ hcode _ _ X.warmed
  have h3 : (Cond.initialized y.cls).before a A.U = true := hinit _ _ X.warmed
  have h4 : A.cells + (headSpec ws rm).room.cells ≤ R.cells := by rw [show (headSpec ws rm).room.cells = mc from hrc]; exact hp.1
  have h5 : A.slots + (headSpec ws rm).room.slots ≤ R.slots := by rw [show (headSpec ws rm).room.slots = ms from hrs]; exact hp.2.1
  have hPc : Pc a (A.U.calling g mk a) := hblind _ _ _ _ hp.2.2
  obtain ⟨U, Ls, c0, s0⟩ := A
  dsimp only [Pt.U, Pt.locs, Pt.cells, Pt.slots] at h1 h2 h3 h4 h5 X hn hPc ⊢
  obtain ⟨methY, cY, hmY, hcY, -, hlY, -, -, -, -⟩ := Cond.code_spec hn h2
  obtain ⟨kY, hkY, -⟩ := className_of_methodNamed hn
  have hinitY : kY.init = .initialized := Cond.initialized_spec (findClass_of_methodNamed hn) hkY h3
  have h : At U g.method c below := by rw [hg]; exact X.here
  have hlocals9 : W9 + (maxL + 11) + (headSpec ws rm).room.locals ≤ R.locals := hlocals
  have happ : (headSpec ws rm).appliesLoose y e.platform (U.calling g mk a) = true :=
    Spec.appliesLoose_calling (g := g) h hdg hn hkY hinitY
      (X.room_calling (g := g) (R' := (headSpec ws rm).room) hsize hmY hcY hframes (by rw [hlY]; omega) h4 h5) h1
  obtain ⟨mid, hmid⟩ := h.above
  have hfr : (U.setTop g).frames = (.java g :: mid) ++ below := by rw [State.frames_setTop' g h.top, hmid]; rfl
  obtain ⟨o, s₂, hsteps, -, hend, hq⟩ := Steps.callFree hM p X.admits X.cas X.clock (acts := []) hfr happ hPc trivial
  have hq' : vx_Q Qc XC mc ms free a (U.calling g mk a) o s₂ := hq
  rw [State.frames_setTop' g h.top] at hend
  obtain ⟨g₀, hg0⟩ := Option.isSome_iff_exists.mp h.top
  obtain ⟨r, hr⟩ := State.topJava?_eq_some.mp hg0
  have hr' : (({ U with heap := s₂.heap, slotsUsed := s₂.slotsUsed } : State).setVm s₂.vm).frames = .java g₀ :: r := hr
  rcases hq' with ⟨hqc, L, hfe, hL⟩ | ⟨q, rfl, E, ce, L, hx, hce, hcv, hcl, hW₂, hsm, hL⟩
  · obtain ⟨⟨v, rfl⟩, hW₂, e2, q2, q3, q4, q5, q6⟩ := id hfe
    have e3 : s₂ = ({ (U.calling g mk a).setFrames s₂.frames with heap := s₂.heap, slotsUsed := s₂.slotsUsed } : State).setVm s₂.vm := by
      have : s₂ = ({ s₂ with vm := (U.calling g mk a).vm } : State).setVm s₂.vm := rfl
      rw [e2] at this
      exact this
    obtain ⟨c₂, i₂, len₂, hc₂, hd₂, hf₂⟩ := hend
    have hW' : U.WarmedH s₂.vm := hW₂
    have hcc : c₂ = c := by
      have h1 : s₂.code? g.method = U.code? g.method := by
        rw [State.code?_eq, State.code?_eq, hW'.alike.method?]
      exact Option.some.inj (hc₂.symm.trans (h1.trans h.code))
    subst hcc
    have hlen : len₂ = len := by rw [hdg] at hd₂; cases hd₂; rfl
    subst hlen
    have hs₂ : s₂ = (({ U with heap := s₂.heap, slotsUsed := s₂.slotsUsed } : State).setVm s₂.vm).setTop { g with pc := g.pc + len₂, stack := v.toList ++ g.stack } := by
      refine e3.trans ?_
      rw [hf₂, State.calling_eq h.top, State.setFrames_setFrames, State.setTop_of_frames _ hr', hr]
      rfl
    have hsame : U.sameButNew ({ U with heap := s₂.heap, slotsUsed := s₂.slotsUsed } : State) L mc ms := by
      refine ⟨?_, q2, q3, q4, q5, q6⟩
      obtain ⟨t, ht, -⟩ := State.frames_cons hr
      show ({ U with heap := s₂.heap, slotsUsed := s₂.slotsUsed } : State) = { U.setFrames U.frames with heap := s₂.heap, slotsUsed := s₂.slotsUsed }
      rw [State.setFrames_self ht]
    subst hg
    refine Or.inl ⟨v, ⟨(({ U with heap := s₂.heap, slotsUsed := s₂.slotsUsed } : State).setVm s₂.vm), Ls ++ L, c0 + mc, s0 + ms⟩,
      ⟨X.admits, X.cas, X.clock, X.frames, X.room, X.hears, X.method, X.code, (X.here.setHeapUsed s₂.heap s₂.slotsUsed).setVm hW'.alike, X.tail, State.WarmedH.trans X.warmed hW', X.limits, X.bytes, X.same.trans (hsame.setVm s.vm)⟩,
      ⟨g, mk, s₂, L, rfl, rfl, hqc, rfl, hL, rfl, rfl⟩, ?_⟩
    show Steps p.tables e below _ ((({ U with heap := s₂.heap, slotsUsed := s₂.slotsUsed } : State).setVm s₂.vm).setTop { g with pc := g.pc + len₂, stack := v.toList ++ g.stack })
    rw [← hs₂]
    exact hsteps
  · obtain ⟨e2, q2, q3, q4, q5, q6⟩ := id hsm
    have e3 : s₂ = ({ (U.calling g mk a).setFrames s₂.frames with heap := s₂.heap, slotsUsed := s₂.slotsUsed } : State).setVm s₂.vm := by
      have : s₂ = ({ s₂ with vm := (U.calling g mk a).vm } : State).setVm s₂.vm := rfl
      rw [e2] at this
      exact this
    have hf₂ : s₂.frames = .throwing q :: .java g :: U.frames.tail := hend
    have hW' : U.WarmedH s₂.vm := hW₂
    have hs₂ : s₂ = ((({ U with heap := s₂.heap, slotsUsed := s₂.slotsUsed } : State).setVm s₂.vm).setTop g).pushFrame (.throwing q) := by
      refine e3.trans ?_
      rw [hf₂, State.calling_eq h.top, State.setFrames_setFrames, State.pushFrame, State.frames_setTop _ hr', State.setTop_of_frames _ hr', State.setFrames_setFrames, hr]
      rfl
    have hsame : U.sameButNew ({ U with heap := s₂.heap, slotsUsed := s₂.slotsUsed } : State) L mc ms := by
      refine ⟨?_, q2, q3, q4, q5, q6⟩
      obtain ⟨t, ht, -⟩ := State.frames_cons hr
      show ({ U with heap := s₂.heap, slotsUsed := s₂.slotsUsed } : State) = { U.setFrames U.frames with heap := s₂.heap, slotsUsed := s₂.slotsUsed }
      rw [State.setFrames_self ht]
    subst hg
    refine Or.inr ⟨q, ⟨(({ U with heap := s₂.heap, slotsUsed := s₂.slotsUsed } : State).setVm s₂.vm), Ls ++ L, c0 + mc, s0 + ms⟩,
      ⟨X.admits, X.cas, X.clock, X.frames, X.room, X.hears, X.method, X.code, (X.here.setHeapUsed s₂.heap s₂.slotsUsed).setVm hW'.alike, X.tail, State.WarmedH.trans X.warmed hW', X.limits, X.bytes, X.same.trans (hsame.setVm s.vm)⟩,
      ⟨g, mk, s₂, L, E, ce, rfl, rfl, hx, hce, hcv, hcl, rfl, hL, rfl, rfl⟩, ?_⟩
    show Steps p.tables e below _ (((({ U with heap := s₂.heap, slotsUsed := s₂.slotsUsed } : State).setVm s₂.vm).setTop g).pushFrame (.throwing q))
    rw [← hs₂]
    exact hsteps
end Payer
section Calls
variable {p : Program} {l : Launch} {e : Env} {R : Room} {s : State} {m : MethodId} {args : Array Value} {below : List Frame} {meth : Method} {c : Code} {T : State} {locs : List Loc} {cells slots : Nat}
theorem vx_callV (X : Stand p l e R s m args below meth c T locs cells slots) (hexec : p.tables.exec = Jvm.exec) {own C : String} {index : Nat} {y : MethodName} {bytes : ByteArray} {maxL : Nat} {ret : Option FieldType}
    (hown : s.vm.findClass own = some m.cls) (hlink : (Cond.methodLink own index y).before args s = true) (hinst : (Cond.instanceMethod y).before args s = true) (hsel : (Cond.selects C y y).before args s = true)
    (hcode : (Cond.code y bytes maxL ret).before args s = true) (hy : y.cls ≠ "java/lang/invoke/MethodHandle" ∧ y.cls ≠ "java/lang/invoke/VarHandle")
    {W9 : Nat} {Pre : Pt → Array Value → Prop} {Post : Pt → Array Value → Option Value → Pt → Prop} {PostX : Pt → Array Value → Addr → Pt → Prop} (hK : vx_Back l R p e below s args y 3 W9 Pre Post PostX)
    {b : Addr} {cellB : Cell} (hcell : T.heap[b]? = some cellB) (hobj : cellB.vm.isStatics = false) (hcls : s.vm.findClass C = some cellB.cls)
    {g : JFrame} (hg : g.method = m) (hsize : g.locals.size = c.maxLocals) {argsL rest : List Value} (hlen : ∀ sig, parseMethodDescriptor y.desc = some sig → argsL.length = sig.parameters.length)
    (hstack : g.stack = argsL.reverse ++ .ref b :: rest) (hW : 2 * g.monitorRoom + (rest.map fun v => v.category).sum ≤ W9) (hdg : decode c.code g.pc = .ok (.invokevirtual index, 3))
    (hpre : ∀ vm₁, s.WarmedH vm₁ → Pre ⟨T.setVm vm₁, locs, cells, slots⟩ (Value.ref b :: argsL).toArray) :
    (∃ (v : Option Value) (vm₁ : Vm) (B : Pt), s.WarmedH vm₁ ∧ Stand p l e R s m args below meth c B.U B.locs B.cells B.slots ∧ Post ⟨T.setVm vm₁, locs, cells, slots⟩ (Value.ref b :: argsL).toArray v B ∧
      ∀ target, Steps p.tables e below (B.U.setTop { g with pc := g.pc + 3, stack := v.toList ++ rest }) target → Steps p.tables e below (T.setTop g) target) ∨
    (∃ (q : Addr) (vm₁ : Vm) (B : Pt), s.WarmedH vm₁ ∧ Stand p l e R s m args below meth c B.U B.locs B.cells B.slots ∧ PostX ⟨T.setVm vm₁, locs, cells, slots⟩ (Value.ref b :: argsL).toArray q B ∧
      Steps p.tables e below (T.setTop g) ((B.U.setTop { g with stack := rest }).pushFrame (.throwing q))) := by
  obtain ⟨mk, methM, hnamed, hmethM, hstM, habM⟩ := Cond.instanceMethod_spec hinst
  obtain ⟨methM', cM, hmethM', -, -, -, -, -, -, hsigM⟩ := Cond.code_spec hnamed hcode
  cases hmethM.symm.trans hmethM'
  obtain ⟨c2, r2, m2, q1, q2, q3, q4, kP, hkP, hkPi⟩ := Cond.selects_spec hsel
  cases hcls.symm.trans q1
  cases (State.methodFound?_of_named hnamed hy).symm.trans q2
  cases hnamed.symm.trans q3
  have hselP : selectMethod e.platform s.vm cellB.cls mk = .method mk := by rw [Launch.admits_selectMethod X.admits]; exact q4
  obtain ⟨vm₁, X₁, hstep₁⟩ := X.invokevirtual hexec hown hlink hnamed hmethM hstM hkP hkPi hy (a := b) (cell := cellB) hcell
    (fun z h => by rw [h] at hobj; cases hobj) hselP hmethM habM hkP hkPi (g := g) hg (argsL := argsL) (rest := rest) (hlen _ hsigM) hstack hdg
  rcases hK m meth c ⟨T.setVm vm₁, locs, cells, slots⟩ { g with stack := rest } (.invokevirtual index) mk (Value.ref b :: argsL).toArray X₁ hg hsize hdg hW (X₁.named hnamed) (hpre vm₁ X₁.warmed) with ⟨v, B, X', hpost, hsteps⟩ | ⟨q, B, X', hpost, hsteps⟩
  · exact Or.inl ⟨v, vm₁, B, X₁.warmed, X', hpost, fun target h => hstep₁ _ fun acts => by rw [doInvoke_state]; exact hsteps.trans h⟩
  · exact Or.inr ⟨q, vm₁, B, X₁.warmed, X', hpost, hstep₁ _ fun acts => by rw [doInvoke_state]; exact hsteps⟩
theorem vx_callS (X : Stand p l e R s m args below meth c T locs cells slots) (hexec : p.tables.exec = Jvm.exec) {own : String} {index : Nat} {y : MethodName} {bytes : ByteArray} {maxL : Nat} {ret : Option FieldType}
    (hown : s.vm.findClass own = some m.cls) (hlink : (Cond.methodLink own index y).before args s = true) (hstat : (Cond.static y).before args s = true) (hinit : (Cond.initialized y.cls).before args s = true)
    (hcode : (Cond.code y bytes maxL ret).before args s = true) (hy : y.cls ≠ "java/lang/invoke/MethodHandle" ∧ y.cls ≠ "java/lang/invoke/VarHandle")
    {W9 : Nat} {Pre : Pt → Array Value → Prop} {Post : Pt → Array Value → Option Value → Pt → Prop} {PostX : Pt → Array Value → Addr → Pt → Prop} (hK : vx_Back l R p e below s args y 3 W9 Pre Post PostX)
    {g : JFrame} (hg : g.method = m) (hsize : g.locals.size = c.maxLocals) {argsL rest : List Value} (hlen : ∀ sig, parseMethodDescriptor y.desc = some sig → argsL.length = sig.parameters.length)
    (hstack : g.stack = argsL.reverse ++ rest) (hW : 2 * g.monitorRoom + (rest.map fun v => v.category).sum ≤ W9) (hdg : decode c.code g.pc = .ok (.invokestatic index, 3))
    (hpre : ∀ vm₁, s.WarmedH vm₁ → Pre ⟨T.setVm vm₁, locs, cells, slots⟩ argsL.toArray) :
    (∃ (v : Option Value) (vm₁ : Vm) (B : Pt), s.WarmedH vm₁ ∧ Stand p l e R s m args below meth c B.U B.locs B.cells B.slots ∧ Post ⟨T.setVm vm₁, locs, cells, slots⟩ argsL.toArray v B ∧
      ∀ target, Steps p.tables e below (B.U.setTop { g with pc := g.pc + 3, stack := v.toList ++ rest }) target → Steps p.tables e below (T.setTop g) target) ∨
    (∃ (q : Addr) (vm₁ : Vm) (B : Pt), s.WarmedH vm₁ ∧ Stand p l e R s m args below meth c B.U B.locs B.cells B.slots ∧ PostX ⟨T.setVm vm₁, locs, cells, slots⟩ argsL.toArray q B ∧
      Steps p.tables e below (T.setTop g) ((B.U.setTop { g with stack := rest }).pushFrame (.throwing q))) := by
  obtain ⟨mk, hnamed⟩ := Cond.code_named hcode
  obtain ⟨methM, cM, hmethM, -, -, -, -, -, -, hsigM⟩ := Cond.code_spec hnamed hcode
  have hstatic : methM.isStatic = true := Cond.static_spec hnamed hmethM hstat
  obtain ⟨kP, hkP, -⟩ := className_of_methodNamed hnamed
  have hinitP : kP.init = .initialized := Cond.initialized_spec (findClass_of_methodNamed hnamed) hkP hinit
  obtain ⟨vm₁, X₁, hstep₁⟩ := X.invokestatic hexec hown hlink hnamed hmethM hstatic hkP hinitP hy (g := g) hg (argsL := argsL) (rest := rest) (hlen _ hsigM) hstack hdg
  rcases hK m meth c ⟨T.setVm vm₁, locs, cells, slots⟩ { g with stack := rest } (.invokestatic index) mk argsL.toArray X₁ hg hsize hdg hW (X₁.named hnamed) (hpre vm₁ X₁.warmed) with ⟨v, B, X', hpost, hsteps⟩ | ⟨q, B, X', hpost, hsteps⟩
  · exact Or.inl ⟨v, vm₁, B, X₁.warmed, X', hpost, fun target h => hstep₁ _ fun acts => by rw [doInvoke_state]; exact hsteps.trans h⟩
  · exact Or.inr ⟨q, vm₁, B, X₁.warmed, X', hpost, hstep₁ _ fun acts => by rw [doInvoke_state]; exact hsteps⟩
end Calls
theorem vx_cls {s : State} {T : State} {vm₁ : Vm} {E : String} {k : ClassId} (hW : s.WarmedH vm₁) (h : (T.setVm vm₁).vm.findClass E = some k) : s.vm.findClass E = some k := by
  have h1 : vm₁.findClass E = some k := h
  rw [hW.alike.findClass] at h1
  exact h1
/-- the method's frame g, with q thrown over it -/
def vx_W (p : Program) (l : Launch) (e : Env) (R : Room) (s : State) (m : MethodId) (args : Array Value) (below : List Frame) (meth : Method) (c : Code) (H : Heap) (locs : List Loc) (cells slots : Nat) (Q : State → Prop) (g : JFrame) (q : Addr) : Prop :=
  ∀ T : State, T.heap = H → Stand p l e R s m args below meth c T locs cells slots → ∃ t, Steps p.tables e below ((T.setTop g).pushFrame (.throwing q)) t ∧ Q t
def vx_Run (p : Program) (l : Launch) (e : Env) (R : Room) (s : State) (m : MethodId) (args : Array Value) (below : List Frame) (meth : Method) (c : Code) (H : Heap) (locs : List Loc) (cells slots mc ms : Nat) (g : JFrame) (rest : List Value) (Qa : State → Outcome → State → Prop) (XC : String → State → State → Prop) (free : Addr → Prop) : Prop :=
  ∀ T : State, T.heap = H → Stand p l e R s m args below meth c T locs cells slots →
    (∃ (v : Option Value) (st₀ t T' : State) (L : List Loc), st₀.heap = H ∧ Stand p l e R s m args below meth c T' (locs ++ L) (cells + mc) (slots + ms) ∧ (∀ q ∈ L, free q.base) ∧ T'.heap = t.heap ∧ T'.vm = t.vm ∧ Qa st₀ (.returned v) t ∧
      Goes p e below T g T' { g with pc := g.pc + 3, stack := v.toList ++ rest }) ∨
    (∃ (q : Addr) (st₀ t T' : State) (L : List Loc) (E : String) (ce : Cell), st₀.heap = H ∧ Stand p l e R s m args below meth c T' (locs ++ L) (cells + mc) (slots + ms) ∧ (∀ z ∈ L, free z.base) ∧ T'.heap = t.heap ∧ T'.vm = t.vm ∧ XC E st₀ t ∧ t.heap[q]? = some ce ∧ ce.vm = .none ∧ s.vm.findClass E = some ce.cls ∧
      Steps p.tables e below (T.setTop g) ((T'.setTop { g with stack := rest }).pushFrame (.throwing q)))
def vx_X {S : Type} (px : S → Prop) (B : String → S → State → Prop) (A : Nat → Prop) : String → State → State → Prop := fun E st t => ∃ u : S, px u ∧ B E u t ∧ va_F A st t
section Runs
variable {p : Program} {l : Launch} {e : Env} {R : Room} {s : State} {m : MethodId} {args : Array Value} {below : List Frame} {meth : Method} {c : Code} {H : Heap} {locs : List Loc} {cells slots : Nat}
variable {y : MethodName} {bytes cc : ByteArray} {maxL nL mc ms n index : Nat} {ret : Option FieldType} {ws : List Cond} {rm : Room} {Pc : Array Value → State → Prop} {Qc : Array Value → State → Outcome → State → Prop} {XC : String → State → State → Prop} {free : Addr → Prop} {Ts : List Cond} {own C : String} {b : Addr} {As rest : List Value} {g : JFrame}
theorem vx_callBack (cb : CallB R s args own index y bytes maxL ret ws rm mc ms n) (hM : vx_Met l y ws rm Pc Qc XC mc ms free) (hbl : FrameBlind Pc) : vx_Back l R p e below s args y 3 8 (PreOf R mc ms Pc) (PostOf Qc mc ms free) (vx_Post XC mc ms free) := by
  obtain ⟨hrc, hrs, hfr, hlo, hws, hcw, -, hini, -⟩ := cb
  exact vx_back (bytes := bytes) (maxL := maxL) (ret := ret) hM hbl hrc hrs hfr hlo hws hcw (fun a' U hW => word_at hW (Or.inl (by first | rfl | simp [Cond.onTables, Cond.keeps, Cond.steady])) hini)
theorem vx_runV (S : CallFix p m c cc nL s args Ts own) (hM : vx_Met l y ws rm Pc Qc XC mc ms free) (cw : CallW R s args own C index y bytes maxL ret ws rm mc ms n) (hp : PreV s H C b Pc As)
    (hg : g.method = m) (hn : As.length = n) (hsize : g.locals.size = nL) (hstack : g.stack = As.reverse ++ .ref b :: rest) (hW : 2 * g.monitorRoom + (rest.map fun v => v.category).sum ≤ 8) (hdg : decode cc g.pc = .ok (.invokevirtual index, 3)) (hf : cells + mc ≤ R.cells ∧ slots + ms ≤ R.slots) :
    vx_Run p l e R s m args below meth c H locs cells slots mc ms g rest (Qc (Value.ref b :: As).toArray) XC free := by
  have hK : vx_Back l R p e below s args y 3 8 (PreOf R mc ms Pc) (PostOf Qc mc ms free) (vx_Post XC mc ms free) := vx_callBack cw.1 hM hp.1
  obtain ⟨⟨-, -, -, -, -, -, hcode, -, hy, hlen, hl⟩, hin, hse⟩ := cw
  obtain ⟨hx, hb, hml, ho, -⟩ := S
  obtain ⟨-, ⟨cellB, hcB, hoB, hclB⟩, hPc⟩ := hp
  intro T hT X
  rcases vx_callV X hx (C := C) (bytes := bytes) (maxL := maxL) (ret := ret) ho hl hin hse hcode hy hK (by rw [hT]; exact hcB) hoB hclB hg (hsize.trans hml.symm) (argsL := As) (rest := rest) (fun sig h => hn.trans (hlen sig h)) hstack hW (by rw [hb]; exact hdg)
    (fun vm₁ hW₁ => ⟨hf.1, hf.2, hPc (T.setVm vm₁) hT hW₁⟩) with ⟨v, vm₁, ⟨U', l2, c2, s2⟩, hW₁, X', ⟨g', mk, t, L, e1, e2, hq, h1, hL, h2, h3⟩, st⟩ | ⟨q, vm₁, ⟨U', l2, c2, s2⟩, hW₁, X', ⟨g', mk, t, L, E, ce, e1, e2, hq, hce, hcv, hcl, h1, hL, h2, h3⟩, st⟩
  · dsimp only [Pt.U, Pt.locs, Pt.cells, Pt.slots] at X' e1 e2 h1 h2 h3 st
    subst h1; subst h2; subst h3
    exact Or.inl ⟨v, (T.setVm vm₁).calling g' mk (Value.ref b :: As).toArray, t, U', L, hT, X', hL, e1, e2, hq, st⟩
  · dsimp only [Pt.U, Pt.locs, Pt.cells, Pt.slots] at X' e1 e2 h1 h2 h3 st hcl
    subst h1; subst h2; subst h3
    exact Or.inr ⟨q, (T.setVm vm₁).calling g' mk (Value.ref b :: As).toArray, t, U', L, E, ce, hT, X', hL, e1, e2, hq, hce, hcv, vx_cls hW₁ hcl, st⟩
theorem vx_runS (S : CallFix p m c cc nL s args Ts own) (hM : vx_Met l y ws rm Pc Qc XC mc ms free) (cw : CallB R s args own index y bytes maxL ret ws rm mc ms n ∧ (Cond.static y).before args s = true) (hp : PreS s H Pc As)
    (hg : g.method = m) (hn : As.length = n) (hsize : g.locals.size = nL) (hstack : g.stack = As.reverse ++ rest) (hW : 2 * g.monitorRoom + (rest.map fun v => v.category).sum ≤ 8) (hdg : decode cc g.pc = .ok (.invokestatic index, 3)) (hf : cells + mc ≤ R.cells ∧ slots + ms ≤ R.slots) :
    vx_Run p l e R s m args below meth c H locs cells slots mc ms g rest (Qc As.toArray) XC free := by
  have hK : vx_Back l R p e below s args y 3 8 (PreOf R mc ms Pc) (PostOf Qc mc ms free) (vx_Post XC mc ms free) := vx_callBack cw.1 hM hp.1
  obtain ⟨⟨-, -, -, -, -, -, hcode, hini, hy, hlen, hl⟩, hstt⟩ := cw
  obtain ⟨hx, hb, hml, ho, -⟩ := S
  intro T hT X
  rcases vx_callS X hx (bytes := bytes) (maxL := maxL) (ret := ret) ho hl hstt hini hcode hy hK hg (hsize.trans hml.symm) (argsL := As) (rest := rest) (fun sig h => hn.trans (hlen sig h)) hstack hW (by rw [hb]; exact hdg)
    (fun vm₁ hW₁ => ⟨hf.1, hf.2, hp.2 (T.setVm vm₁) hT hW₁⟩) with ⟨v, vm₁, ⟨U', l2, c2, s2⟩, hW₁, X', ⟨g', mk, t, L, e1, e2, hq, h1, hL, h2, h3⟩, st⟩ | ⟨q, vm₁, ⟨U', l2, c2, s2⟩, hW₁, X', ⟨g', mk, t, L, E, ce, e1, e2, hq, hce, hcv, hcl, h1, hL, h2, h3⟩, st⟩
  · dsimp only [Pt.U, Pt.locs, Pt.cells, Pt.slots] at X' e1 e2 h1 h2 h3 st
    subst h1; subst h2; subst h3
    exact Or.inl ⟨v, (T.setVm vm₁).calling g' mk As.toArray, t, U', L, hT, X', hL, e1, e2, hq, st⟩
  · dsimp only [Pt.U, Pt.locs, Pt.cells, Pt.slots] at X' e1 e2 h1 h2 h3 st hcl
    subst h1; subst h2; subst h3
    exact Or.inr ⟨q, (T.setVm vm₁).calling g' mk As.toArray, t, U', L, E, ce, hT, X', hL, e1, e2, hq, hce, hcv, vx_cls hW₁ hcl, st⟩
end Runs
section Rows
variable {p : Program} {l : Launch} {e : Env} {R : Room} {s : State} {m : MethodId} {args : Array Value} {below : List Frame} {meth : Method} {c : Code} {H : Heap} {locs : List Loc} {cells slots : Nat} {Q : State → Prop}
variable {mc ms : Nat} {free : Addr → Prop} {A0 A1 : Nat → Prop} {H0 : Heap} {a : Array Value} {pc : Nat} {ls : Array Slot} {st0 rest : List Value}
theorem vx_keep {st₀ t T' : State} {L : List Loc} (h0 : st₀.heap = H) (e1 : T'.heap = t.heap) (hS : va_S A0 H0 H locs) (hA : ∀ q, q < H.size → A1 q → A0 q) (hf : ∀ q, free q → A0 q) (hL : ∀ q ∈ L, free q.base) (hF : va_F A1 st₀ t) :
    H.size ≤ T'.heap.size ∧ (∀ q : Nat, q < H.size → ¬ A1 q → T'.heap[q]? = H[q]?) ∧ va_S A0 H0 T'.heap (locs ++ L) := by
  obtain ⟨hz, hk⟩ := hF
  rw [h0] at hz hk
  exact ⟨by rw [e1]; exact hz, fun q h1 h2 => by rw [e1]; exact hk q h1 h2,
    ⟨Nat.le_trans hS.1 (by rw [e1]; exact hz), fun q h1 h2 => by rw [e1, hk q (Nat.lt_of_lt_of_le h1 hS.1) (fun z => h2 (hA q (Nat.lt_of_lt_of_le h1 hS.1) z))]; exact hS.2.1 q h1 h2, fun q hq => by
      rcases List.mem_append.mp hq with h | h
      · exact hS.2.2 q h
      · exact hf _ (hL q h)⟩⟩
theorem vx_calli {S SX : Type} {post : Int32 → S → Prop} {px : SX → Prop} {B : S → State → Prop} {BX : String → SX → State → Prop} {AX : Nat → Prop} (hr : vx_Run p l e R s m args below meth c H locs cells slots mc ms (F0 m pc ls st0) rest (va_Qi post B A1 a) (vx_X px BX AX) free) (hS : va_S A0 H0 H locs) (hA : ∀ q, q < H.size → A1 q → A0 q) (hf : ∀ q, free q → A0 q) (hAX : ∀ q, q < H.size → AX q → A0 q)
    (kx : ∀ (E : String) (ce : Cell) (q9 : Addr) (u : SX) (t : State) (H1 : Heap) (locs1 : List Loc), t.heap = H1 → s.vm.Alike t.vm → px u → BX E u t → H.size ≤ H1.size → (∀ q : Nat, q < H.size → ¬ AX q → H1[q]? = H[q]?) → va_S A0 H0 H1 locs1 → H1[q9]? = some ce → ce.vm = .none → s.vm.findClass E = some ce.cls → vx_W p l e R s m args below meth c H1 locs1 (cells + mc) (slots + ms) Q (F0 m pc ls rest) q9)
    (kk : ∀ (r : Int32) (u : S) (t : State) (H1 : Heap) (locs1 : List Loc), t.heap = H1 → s.vm.Alike t.vm → post r u → B u t → H.size ≤ H1.size → (∀ q : Nat, q < H.size → ¬ A1 q → H1[q]? = H[q]?) → va_S A0 H0 H1 locs1 → W p l e R s m args below meth c H1 locs1 (cells + mc) (slots + ms) Q (F0 m (pc + 3) ls (.int r :: rest))) : W p l e R s m args below meth c H locs cells slots Q (F0 m pc ls st0) := by
  intro T hT X
  rcases hr T hT X with ⟨v, st₀, t, T', L, h0, X', hL, e1, e2, ⟨⟨r, u, hv, hp, hb⟩, hF⟩, st⟩ | ⟨q, st₀, t, T', L, E, ce, h0, X', hL, e1, e2, ⟨u, hp, hb, hF⟩, hce, hcv, hcl, st⟩
  · cases hv
    obtain ⟨k1, k2, k3⟩ := vx_keep h0 e1 hS hA hf hL hF
    obtain ⟨t2, a1, b1⟩ := kk r u t T'.heap (locs ++ L) e1.symm (by rw [← e2]; exact X'.warmed.alike) hp hb k1 k2 k3 T' rfl X'
    exact ⟨t2, st t2 a1, b1⟩
  · obtain ⟨k1, k2, k3⟩ := vx_keep h0 e1 hS hAX hf hL hF
    obtain ⟨t2, a1, b1⟩ := kx E ce q u t T'.heap (locs ++ L) e1.symm (by rw [← e2]; exact X'.warmed.alike) hp hb k1 k2 k3 (by rw [e1]; exact hce) hcv hcl T' rfl X'
    exact ⟨t2, st.trans a1, b1⟩
theorem vx_calll {S SX : Type} {post : Int64 → S → Prop} {px : SX → Prop} {B : S → State → Prop} {BX : String → SX → State → Prop} {AX : Nat → Prop} (hr : vx_Run p l e R s m args below meth c H locs cells slots mc ms (F0 m pc ls st0) rest (va_Ql post B A1 a) (vx_X px BX AX) free) (hS : va_S A0 H0 H locs) (hA : ∀ q, q < H.size → A1 q → A0 q) (hf : ∀ q, free q → A0 q) (hAX : ∀ q, q < H.size → AX q → A0 q)
    (kx : ∀ (E : String) (ce : Cell) (q9 : Addr) (u : SX) (t : State) (H1 : Heap) (locs1 : List Loc), t.heap = H1 → s.vm.Alike t.vm → px u → BX E u t → H.size ≤ H1.size → (∀ q : Nat, q < H.size → ¬ AX q → H1[q]? = H[q]?) → va_S A0 H0 H1 locs1 → H1[q9]? = some ce → ce.vm = .none → s.vm.findClass E = some ce.cls → vx_W p l e R s m args below meth c H1 locs1 (cells + mc) (slots + ms) Q (F0 m pc ls rest) q9)
    (kk : ∀ (r : Int64) (u : S) (t : State) (H1 : Heap) (locs1 : List Loc), t.heap = H1 → s.vm.Alike t.vm → post r u → B u t → H.size ≤ H1.size → (∀ q : Nat, q < H.size → ¬ A1 q → H1[q]? = H[q]?) → va_S A0 H0 H1 locs1 → W p l e R s m args below meth c H1 locs1 (cells + mc) (slots + ms) Q (F0 m (pc + 3) ls (.long r :: rest))) : W p l e R s m args below meth c H locs cells slots Q (F0 m pc ls st0) := by
  intro T hT X
  rcases hr T hT X with ⟨v, st₀, t, T', L, h0, X', hL, e1, e2, ⟨⟨r, u, hv, hp, hb⟩, hF⟩, st⟩ | ⟨q, st₀, t, T', L, E, ce, h0, X', hL, e1, e2, ⟨u, hp, hb, hF⟩, hce, hcv, hcl, st⟩
  · cases hv
    obtain ⟨k1, k2, k3⟩ := vx_keep h0 e1 hS hA hf hL hF
    obtain ⟨t2, a1, b1⟩ := kk r u t T'.heap (locs ++ L) e1.symm (by rw [← e2]; exact X'.warmed.alike) hp hb k1 k2 k3 T' rfl X'
    exact ⟨t2, st t2 a1, b1⟩
  · obtain ⟨k1, k2, k3⟩ := vx_keep h0 e1 hS hAX hf hL hF
    obtain ⟨t2, a1, b1⟩ := kx E ce q u t T'.heap (locs ++ L) e1.symm (by rw [← e2]; exact X'.warmed.alike) hp hb k1 k2 k3 (by rw [e1]; exact hce) hcv hcl T' rfl X'
    exact ⟨t2, st.trans a1, b1⟩
theorem vx_callf {S SX : Type} {post : UInt32 → S → Prop} {px : SX → Prop} {B : S → State → Prop} {BX : String → SX → State → Prop} {AX : Nat → Prop} (hr : vx_Run p l e R s m args below meth c H locs cells slots mc ms (F0 m pc ls st0) rest (va_Qf post B A1 a) (vx_X px BX AX) free) (hS : va_S A0 H0 H locs) (hA : ∀ q, q < H.size → A1 q → A0 q) (hf : ∀ q, free q → A0 q) (hAX : ∀ q, q < H.size → AX q → A0 q)
    (kx : ∀ (E : String) (ce : Cell) (q9 : Addr) (u : SX) (t : State) (H1 : Heap) (locs1 : List Loc), t.heap = H1 → s.vm.Alike t.vm → px u → BX E u t → H.size ≤ H1.size → (∀ q : Nat, q < H.size → ¬ AX q → H1[q]? = H[q]?) → va_S A0 H0 H1 locs1 → H1[q9]? = some ce → ce.vm = .none → s.vm.findClass E = some ce.cls → vx_W p l e R s m args below meth c H1 locs1 (cells + mc) (slots + ms) Q (F0 m pc ls rest) q9)
    (kk : ∀ (r : UInt32) (u : S) (t : State) (H1 : Heap) (locs1 : List Loc), t.heap = H1 → s.vm.Alike t.vm → post r u → B u t → H.size ≤ H1.size → (∀ q : Nat, q < H.size → ¬ A1 q → H1[q]? = H[q]?) → va_S A0 H0 H1 locs1 → W p l e R s m args below meth c H1 locs1 (cells + mc) (slots + ms) Q (F0 m (pc + 3) ls (.float r :: rest))) : W p l e R s m args below meth c H locs cells slots Q (F0 m pc ls st0) := by
  intro T hT X
  rcases hr T hT X with ⟨v, st₀, t, T', L, h0, X', hL, e1, e2, ⟨⟨r, u, hv, hp, hb⟩, hF⟩, st⟩ | ⟨q, st₀, t, T', L, E, ce, h0, X', hL, e1, e2, ⟨u, hp, hb, hF⟩, hce, hcv, hcl, st⟩
  · cases hv
    obtain ⟨k1, k2, k3⟩ := vx_keep h0 e1 hS hA hf hL hF
    obtain ⟨t2, a1, b1⟩ := kk r u t T'.heap (locs ++ L) e1.symm (by rw [← e2]; exact X'.warmed.alike) hp hb k1 k2 k3 T' rfl X'
    exact ⟨t2, st t2 a1, b1⟩
  · obtain ⟨k1, k2, k3⟩ := vx_keep h0 e1 hS hAX hf hL hF
    obtain ⟨t2, a1, b1⟩ := kx E ce q u t T'.heap (locs ++ L) e1.symm (by rw [← e2]; exact X'.warmed.alike) hp hb k1 k2 k3 (by rw [e1]; exact hce) hcv hcl T' rfl X'
    exact ⟨t2, st.trans a1, b1⟩
theorem vx_calld {S SX : Type} {post : UInt64 → S → Prop} {px : SX → Prop} {B : S → State → Prop} {BX : String → SX → State → Prop} {AX : Nat → Prop} (hr : vx_Run p l e R s m args below meth c H locs cells slots mc ms (F0 m pc ls st0) rest (va_Qd post B A1 a) (vx_X px BX AX) free) (hS : va_S A0 H0 H locs) (hA : ∀ q, q < H.size → A1 q → A0 q) (hf : ∀ q, free q → A0 q) (hAX : ∀ q, q < H.size → AX q → A0 q)
    (kx : ∀ (E : String) (ce : Cell) (q9 : Addr) (u : SX) (t : State) (H1 : Heap) (locs1 : List Loc), t.heap = H1 → s.vm.Alike t.vm → px u → BX E u t → H.size ≤ H1.size → (∀ q : Nat, q < H.size → ¬ AX q → H1[q]? = H[q]?) → va_S A0 H0 H1 locs1 → H1[q9]? = some ce → ce.vm = .none → s.vm.findClass E = some ce.cls → vx_W p l e R s m args below meth c H1 locs1 (cells + mc) (slots + ms) Q (F0 m pc ls rest) q9)
    (kk : ∀ (r : UInt64) (u : S) (t : State) (H1 : Heap) (locs1 : List Loc), t.heap = H1 → s.vm.Alike t.vm → post r u → B u t → H.size ≤ H1.size → (∀ q : Nat, q < H.size → ¬ A1 q → H1[q]? = H[q]?) → va_S A0 H0 H1 locs1 → W p l e R s m args below meth c H1 locs1 (cells + mc) (slots + ms) Q (F0 m (pc + 3) ls (.double r :: rest))) : W p l e R s m args below meth c H locs cells slots Q (F0 m pc ls st0) := by
  intro T hT X
  rcases hr T hT X with ⟨v, st₀, t, T', L, h0, X', hL, e1, e2, ⟨⟨r, u, hv, hp, hb⟩, hF⟩, st⟩ | ⟨q, st₀, t, T', L, E, ce, h0, X', hL, e1, e2, ⟨u, hp, hb, hF⟩, hce, hcv, hcl, st⟩
  · cases hv
    obtain ⟨k1, k2, k3⟩ := vx_keep h0 e1 hS hA hf hL hF
    obtain ⟨t2, a1, b1⟩ := kk r u t T'.heap (locs ++ L) e1.symm (by rw [← e2]; exact X'.warmed.alike) hp hb k1 k2 k3 T' rfl X'
    exact ⟨t2, st t2 a1, b1⟩
  · obtain ⟨k1, k2, k3⟩ := vx_keep h0 e1 hS hAX hf hL hF
    obtain ⟨t2, a1, b1⟩ := kx E ce q u t T'.heap (locs ++ L) e1.symm (by rw [← e2]; exact X'.warmed.alike) hp hb k1 k2 k3 (by rw [e1]; exact hce) hcv hcl T' rfl X'
    exact ⟨t2, st.trans a1, b1⟩
theorem vx_callv {S SX : Type} {post : S → Prop} {px : SX → Prop} {B : S → State → Prop} {BX : String → SX → State → Prop} {AX : Nat → Prop} (hr : vx_Run p l e R s m args below meth c H locs cells slots mc ms (F0 m pc ls st0) rest (va_Qv post B A1 a) (vx_X px BX AX) free) (hS : va_S A0 H0 H locs) (hA : ∀ q, q < H.size → A1 q → A0 q) (hf : ∀ q, free q → A0 q) (hAX : ∀ q, q < H.size → AX q → A0 q)
    (kx : ∀ (E : String) (ce : Cell) (q9 : Addr) (u : SX) (t : State) (H1 : Heap) (locs1 : List Loc), t.heap = H1 → s.vm.Alike t.vm → px u → BX E u t → H.size ≤ H1.size → (∀ q : Nat, q < H.size → ¬ AX q → H1[q]? = H[q]?) → va_S A0 H0 H1 locs1 → H1[q9]? = some ce → ce.vm = .none → s.vm.findClass E = some ce.cls → vx_W p l e R s m args below meth c H1 locs1 (cells + mc) (slots + ms) Q (F0 m pc ls rest) q9)
    (kk : ∀ (u : S) (t : State) (H1 : Heap) (locs1 : List Loc), t.heap = H1 → s.vm.Alike t.vm → post u → B u t → H.size ≤ H1.size → (∀ q : Nat, q < H.size → ¬ A1 q → H1[q]? = H[q]?) → va_S A0 H0 H1 locs1 → W p l e R s m args below meth c H1 locs1 (cells + mc) (slots + ms) Q (F0 m (pc + 3) ls (rest))) : W p l e R s m args below meth c H locs cells slots Q (F0 m pc ls st0) := by
  intro T hT X
  rcases hr T hT X with ⟨v, st₀, t, T', L, h0, X', hL, e1, e2, ⟨⟨u, hv, hp, hb⟩, hF⟩, st⟩ | ⟨q, st₀, t, T', L, E, ce, h0, X', hL, e1, e2, ⟨u, hp, hb, hF⟩, hce, hcv, hcl, st⟩
  · cases hv
    obtain ⟨k1, k2, k3⟩ := vx_keep h0 e1 hS hA hf hL hF
    obtain ⟨t2, a1, b1⟩ := kk u t T'.heap (locs ++ L) e1.symm (by rw [← e2]; exact X'.warmed.alike) hp hb k1 k2 k3 T' rfl X'
    exact ⟨t2, st t2 a1, b1⟩
  · obtain ⟨k1, k2, k3⟩ := vx_keep h0 e1 hS hAX hf hL hF
    obtain ⟨t2, a1, b1⟩ := kx E ce q u t T'.heap (locs ++ L) e1.symm (by rw [← e2]; exact X'.warmed.alike) hp hb k1 k2 k3 (by rw [e1]; exact hce) hcv hcl T' rfl X'
    exact ⟨t2, st.trans a1, b1⟩
/-- caught by the row x of this method's table; the rows ahead don't take it -/
theorem vx_catch {own name : String} {E : String} {ce : Cell} {q : Addr} (hown : s.vm.findClass own = some m.cls) (pre : List ExceptionTableEntry) (x : ExceptionTableEntry) (suf : List ExceptionTableEntry) (hsplit : c.exceptionTable.toList = pre ++ x :: suf)
    (hpass : ∀ z ∈ pre, covers z pc = false ∨ (z.catchType ≠ 0 ∧ ∃ nm : String, (Cond.classLink own z.catchType nm).before args s = true ∧ va_Nc E nm s)) (hx : covers x pc = true) (h0 : x.catchType ≠ 0)
    (hlink : (Cond.classLink own x.catchType name).before args s = true) (hcast : (Cond.castable E name).before args s = true) (hcell : H[q]? = some ce) (hv : ce.vm = .none) (hcl : s.vm.findClass E = some ce.cls)
    (kk : W p l e R s m args below meth c H locs cells slots Q (F0 m x.handlerPc ls [.ref q])) : vx_W p l e R s m args below meth c H locs cells slots Q (F0 m pc ls rest) q := by
  intro T hT X
  have hpl : e.platform.magicAccessors = ({} : Platform).magicAccessors := by rw [X.admits.platform]
  obtain ⟨c3, c4, hc3, hc4, hasg⟩ := Cond.castable_spec hcast
  cases Option.some.inj (hc3.symm.trans hcl)
  obtain ⟨c5, hc5, hcl5⟩ := Cond.classLink_spec hown hlink e.platform hpl
  cases Option.some.inj (hc4.symm.trans hc5)
  obtain ⟨vm', X', st⟩ := Stand.thenCaughtThrough X q (g := F0 m pc ls rest) rfl (Steps.refl _) (by rw [hT]; exact hcell) (by rw [hv]; rfl) (by obtain ⟨k9, h9, -⟩ := Vm.findClass_spec hcl; exact ⟨k9, h9⟩) pre x suf hsplit
    (fun z hz => by
      rcases hpass z hz with h | ⟨hz0, nm, hl1, hn1⟩
      · exact Or.inl h
      · obtain ⟨c6, hc6, hcl6⟩ := Cond.classLink_spec hown hl1 e.platform hpl
        obtain ⟨a8, b8, h1, h2, h3⟩ := hn1
        cases Option.some.inj (h1.symm.trans hcl)
        cases Option.some.inj (h2.symm.trans hc6)
        exact Or.inr ⟨hz0, _, hcl6, h3⟩) hx (Or.inr ⟨h0, c4, hcl5, hasg⟩)
  obtain ⟨t, a1, b1⟩ := kk (T.setVm vm') hT X'
  exact ⟨t, st.trans a1, b1⟩
end Rows
section Ends
variable {p : Program} {l : Launch} {e : Env} {R : Room} {s : State} {m : MethodId} {args : Array Value} {below : List Frame} {meth : Method} {c : Code} {H : Heap} {locs : List Loc} {cells slots : Nat} {Q : State → Prop}
variable {mc ms : Nat} {free : Addr → Prop} {A0 A1 : Nat → Prop} {H0 : Heap} {a : Array Value} {ls : Array Slot} {st0 rest : List Value}
variable {Qc : Array Value → State → Outcome → State → Prop} {XC : String → State → State → Prop}
/-- what a body that may throw owes at its end -/
def vx_MQ (below : List Frame) (Qc : Array Value → State → Outcome → State → Prop) (XC : String → State → State → Prop) (a : Array Value) (s : State) (mc ms : Nat) (free : Addr → Prop) : State → Prop := fun t =>
  ∃ o, t.status = .running ∧ Ended t below o ∧ vx_Q Qc XC mc ms free a s o t
theorem vx_ret {g : JFrame} {mc ms : Nat} (k : W p l e R s m args below meth c H locs cells slots (MQ below Qc args s mc ms free) g) : W p l e R s m args below meth c H locs cells slots (vx_MQ below Qc XC args s mc ms free) g := by
  intro T hT X
  obtain ⟨t, a1, o, b1, b2, b3, b4⟩ := k T hT X
  exact ⟨t, a1, o, b1, b2, Or.inl ⟨b3, b4⟩⟩
/-- not caught here: it goes on to the caller -/
theorem vx_widen {g : JFrame} {q : Addr} {k n : Nat} (h1 : cells ≤ k) (h2 : slots ≤ n) (kk : vx_W p l e R s m args below meth c H locs k n Q g q) : vx_W p l e R s m args below meth c H locs cells slots Q g q := fun T hT X => kk T hT (stand_widen X h1 h2)
theorem vx_out {pc : Nat} {E : String} {ce : Cell} {q : Addr} {mc ms : Nat} (hout : ∀ x ∈ c.exceptionTable.toList, covers x pc = false) (hlocks : meth.locks = false) (hcell : H[q]? = some ce) (hv : ce.vm = .none) (hcl : s.vm.findClass E = some ce.cls)
    (hx : ∀ t : State, t.heap = H → s.vm.Alike t.vm → XC E s t) (hf : ∀ z ∈ locs, free z.base) (hc : cells ≤ mc) (hs : slots ≤ ms) :
    vx_W p l e R s m args below meth c H locs cells slots (vx_MQ below Qc XC args s mc ms free) (F0 m pc ls rest) q := by
  intro T hT X
  obtain ⟨st1, hrun, hend, hW, hsm⟩ := X.leaveThrown q (g := F0 m pc ls rest) rfl rfl rfl hout hlocks
  have hcell9 : (T.setFrames (.throwing q :: below)).heap[q]? = some ce := by
    show T.heap[q]? = some ce
    rw [hT]; exact hcell
  exact ⟨_, st1, .threw q, hrun, hend, Or.inr ⟨q, rfl, E, ce, locs, hx _ hT hW.alike, hcell9, hv, hcl, hW, hsm.mono hc hs, hf⟩⟩
theorem vx_frame {U : State} {k n : Nat} (h : s.sameButNew ({ U with vm := s.vm } : State) locs k n) : s.heap.size ≤ U.heap.size ∧ ∀ q : Nat, q < s.heap.size → (∀ z ∈ locs, z.base ≠ q) → U.heap[q]? = s.heap[q]? := by
  obtain ⟨-, h2, -, -, -, h6⟩ := h
  refine ⟨h2, fun q hq hz => ?_⟩
  obtain ⟨c9, e1, e2, e3, e4⟩ := h6 q _ (Array.getElem?_eq_getElem hq)
  have hs : c9.slots = (s.heap[q]).slots := Array.ext_getElem? fun i => e4 i fun hm => hz _ hm rfl
  have h9 : c9 = s.heap[q] := by
    rw [hs] at e2
    exact e2
  have e5 : U.heap[q]? = some c9 := e1
  rw [e5, h9, Array.getElem?_eq_getElem hq]
/-- the words of a throw but the four that speak of the heap -/
def vx_no (w : Cond) : Bool := decide (w ≠ .isRef (.static Bundle.tN "UNASSIGNED_STACK" Bundle.steD)) && decide (w ≠ .isRef (.static Bundle.tN "SUPPRESSED_SENTINEL" Bundle.listD)) && decide (w ≠ .laysStatic Bundle.tN "UNASSIGNED_STACK" Bundle.steD) && decide (w ≠ .laysStatic Bundle.tN "SUPPRESSED_SENTINEL" Bundle.listD)
def vx_at0 (own : String) (ic : Nat) (X : String) (names : List String) : List Cond := (Bundle.ownAtoms0 own ic X names).filter vx_no
def vx_atS (own : String) (ic : Nat) (X : String) (names : List String) : List Cond := (Bundle.ownAtoms own ic X names).filter vx_no
/-- a word that the tables alone decide, or a good one -/
def vx_ot (w : Cond) : Bool := w.onTables || goodWord w
theorem vx_ot_at {args a' : Array Value} {s U : State} {w : Cond} (hW : s.WarmedH U.vm) (hvm : s.vm = U.vm) (hg : vx_ot w = true) (h : w.before args s = true) : w.before a' U = true := by
  simp only [vx_ot, Bool.or_eq_true] at hg
  rcases hg with hg | hg
  · exact va_tabs hg hvm h
  · exact word_at hW (good_of_word hg) h
/-- a list's words: the good ones out of the method's own list, the others by premises of their own -/
theorem vx_hat {args : Array Value} {s : State} {L B : List Cond} (h1 : ∀ w ∈ L.filter goodWord, w.before args s = true) (h2 : ∀ w ∈ L.filter (fun w => !goodWord w), w ∈ B) (h3 : ∀ w ∈ B, w.before args s = true) : ∀ w ∈ L, w.before args s = true := by
  intro w hw
  by_cases g : goodWord w = true
  · exact h1 w (List.mem_filter.mpr ⟨hw, g⟩)
  · refine h3 w (h2 w (List.mem_filter.mpr ⟨hw, ?_⟩))
    show (!goodWord w) = true
    cases hgw : goodWord w
    · rfl
    · exact absurd hgw g
theorem vx_c {args : Array Value} {s : State} {w : Cond} {B : List Cond} (h : w.before args s = true) (t : ∀ w ∈ B, w.before args s = true) : ∀ w' ∈ w :: B, w'.before args s = true := fun w' h' => (List.mem_cons.mp h').elim (fun e => by rw [e]; exact h) (t w')
theorem vx_n {args : Array Value} {s : State} : ∀ w ∈ ([] : List Cond), w.before args s = true := fun _ h => nomatch h
theorem vx_own {args : Array Value} {s : State} {L : List Cond} (h1 : ∀ w ∈ L.filter vx_no, w.before args s = true)
    (hU : (Cond.isRef (.static Bundle.tN "UNASSIGNED_STACK" Bundle.steD)).before args s = true) (hN : (Cond.isRef (.static Bundle.tN "SUPPRESSED_SENTINEL" Bundle.listD)).before args s = true)
    (lU : (Cond.laysStatic Bundle.tN "UNASSIGNED_STACK" Bundle.steD).before args s = true) (lN : (Cond.laysStatic Bundle.tN "SUPPRESSED_SENTINEL" Bundle.listD).before args s = true) : ∀ w ∈ L, w.before args s = true := by
  intro w hw
  by_cases e1 : w = .isRef (.static Bundle.tN "UNASSIGNED_STACK" Bundle.steD)
  · rw [e1]; exact hU
  · by_cases e2 : w = .isRef (.static Bundle.tN "SUPPRESSED_SENTINEL" Bundle.listD)
    · rw [e2]; exact hN
    · by_cases e3 : w = .laysStatic Bundle.tN "UNASSIGNED_STACK" Bundle.steD
      · rw [e3]; exact lU
      · by_cases e4 : w = .laysStatic Bundle.tN "SUPPRESSED_SENTINEL" Bundle.listD
        · rw [e4]; exact lN
        · exact h1 w (List.mem_filter.mpr ⟨hw, by unfold vx_no; rw [decide_eq_true e1, decide_eq_true e2, decide_eq_true e3, decide_eq_true e4]; rfl⟩)
/-- where a static field lies, its class's statics cell in H -/
def vx_L (C n d : String) (A : Nat → Prop) (U : State) (H : Heap) : Prop := ∃ (c : ClassId) (k : Class) (i : Nat) (f : Field) (a : Nat) (cell : Cell), U.vm.findClass C = some c ∧ U.fieldFound? C n d = some (c, k, i, f) ∧ f.isStatic = true ∧ k.statics = some a ∧ H[a]? = some cell ∧ cell.vm.isStatics = true ∧ cell.cls = c ∧ f.slot < cell.slots.size ∧ k.staticTypes[f.slot]? = some f.type ∧ ¬ A a
theorem vx_L.moved {C n d : String} {A : Nat → Prop} {u U : State} {H : Heap} (hvm : u.vm.Alike U.vm) (h : vx_L C n d A u H) : vx_L C n d A U H := by
  obtain ⟨c, k, i, f, a, cell, h1, h2, h3, h4, h5, h6, h7, h8, h9, h10⟩ := h
  obtain ⟨k', hi', he⟩ := State.fieldFound?_setVm hvm h2
  exact ⟨c, k', i, f, a, cell, by rw [hvm.findClass]; exact h1, hi', h3, by rw [he]; exact h4, h5, h6, h7, h8, by rw [he]; exact h9, h10⟩
theorem vx_L.kept {C n d : String} {A : Nat → Prop} {U : State} {H H1 : Heap} (h : vx_L C n d A U H) (hq : ∀ a : Nat, a < H.size → ¬ A a → H1[a]? = H[a]?) : vx_L C n d A U H1 := by
  obtain ⟨c, k, i, f, a, cell, h1, h2, h3, h4, h5, h6, h7, h8, h9, h10⟩ := h
  exact ⟨c, k, i, f, a, cell, h1, h2, h3, h4, by rw [hq a (Array.getElem?_eq_some_iff.mp h5).1 h10]; exact h5, h6, h7, h8, h9, h10⟩
theorem vx_L.narrow {C n d : String} {A B : Nat → Prop} {U : State} {H : Heap} (h : vx_L C n d A U H) (hAB : ∀ q, B q → A q) : vx_L C n d B U H := by
  obtain ⟨c, k, i, f, a, cell, h1, h2, h3, h4, h5, h6, h7, h8, h9, h10⟩ := h
  exact ⟨c, k, i, f, a, cell, h1, h2, h3, h4, h5, h6, h7, h8, h9, fun z => h10 (hAB _ z)⟩
theorem vx_L.word {C n d : String} {A : Nat → Prop} {s : State} {args : Array Value} (h : vx_L C n d A s s.heap) : (Cond.laysStatic C n d).before args s = true := by
  obtain ⟨c, k, i, f, a, cell, h1, h2, h3, h4, h5, h6, h7, h8, h9, -⟩ := h
  show (Cond.laysStatic C n d).holds args s none s [] = true
  exact Cond.laysStatic_of h1 h2 h3 h4 h5 h6 h7 h8 h9
/-- .. and what it holds: null or some reference -/
def vx_Zq (C n d : String) (A : Nat → Prop) (U : State) (H : Heap) : Prop := va_Zq C n d A U H ∧ vx_L C n d A U H
theorem vx_Zq.moved {C n d : String} {A : Nat → Prop} {u U : State} {H : Heap} (hvm : u.vm.Alike U.vm) (h : vx_Zq C n d A u H) : vx_Zq C n d A U H := ⟨va_Zq.moved hvm h.1, vx_L.moved hvm h.2⟩
theorem vx_Zq.kept {C n d : String} {A : Nat → Prop} {U : State} {H H1 : Heap} (h : vx_Zq C n d A U H) (hq : ∀ a : Nat, a < H.size → ¬ A a → H1[a]? = H[a]?) : vx_Zq C n d A U H1 := ⟨va_Zq.kept h.1 hq, vx_L.kept h.2 hq⟩
theorem vx_Zq.narrow {C n d : String} {A B : Nat → Prop} {U : State} {H : Heap} (h : vx_Zq C n d A U H) (hAB : ∀ q, B q → A q) : vx_Zq C n d B U H := ⟨va_Zq.narrow h.1 hAB, vx_L.narrow h.2 hAB⟩
theorem vx_Zqof {args : Array Value} {s : State} {C n d : String} {A : Nat → Prop} (hl : (Cond.laysStatic C n d).before args s = true) (hini : (Cond.initialized C).before args s = true) (h : (Cond.isRef (.static C n d)).before args s = true) (hA : ∀ a : Nat, a < s.heap.size → ¬ A a) : vx_Zq C n d A s s.heap := by
  refine ⟨va_Zqof hl hini h hA, ?_⟩
  obtain ⟨c, k, i, f, a, cell, h1, h2, h3, h4, h5, h6, h7, h8, h9⟩ := Cond.laysStatic_spec hl
  exact ⟨c, k, i, f, a, cell, h1, h2, h3, h4, h5, h6, h7, h8, h9, hA a (Array.getElem?_eq_some_iff.mp h5).1⟩
theorem vx_isRef {C n d : String} {v : Value} {A : Nat → Prop} {s : State} {args : Array Value} (h : va_Z C n d v A s s.heap) (hv : v.isRef = true) : (Cond.isRef (.static C n d)).before args s = true := by
  obtain ⟨cf, kf, fi, f, a, cell, h1, h2, h3, h4, h5, h6, h7, -⟩ := h
  have he : (Term.static C n d).eval args s none [] s = some v := by
    simp [Term.eval, State.fieldNamed?, h1, h2, h4, h5, h6, h7]
  simp only [Cond.before, Cond.holds, Cond.value, he]
  cases v <;> simp_all [Value.isRef]
theorem vx_isRefq {C n d : String} {A : Nat → Prop} {s : State} {args : Array Value} (h : va_Zq C n d A s s.heap) : (Cond.isRef (.static C n d)).before args s = true := by
  rcases h with h | ⟨t, h⟩
  · exact vx_isRef h rfl
  · exact vx_isRef h rfl
/-- the same frame, seen from here: as if the method were called anew in this heap -/
theorem vx_rebase {T : State} (X : Stand p l e R s m args below meth c T locs cells slots) {R' : Room} (hf : R'.frames ≤ R.frames) (hl : R'.locals ≤ R.locals) (hc : cells + R'.cells ≤ R.cells) (hs : slots + R'.slots ≤ R.slots) :
    Stand p l e R' ((T.setVm s.vm).setFrames (.invoking m args :: below)) m args below meth c T [] 0 0 := by
  have htop : (T.setVm s.vm).topJava?.isSome := X.here.top
  have hF : ((T.setVm s.vm).setFrames (.invoking m args :: below)).frames = .invoking m args :: below := State.frames_setFrames _ (State.cur_lt_of_top htop)
  obtain ⟨g₀, hg0⟩ := Option.isSome_iff_exists.mp htop
  obtain ⟨r, hr⟩ := State.topJava?_eq_some.mp hg0
  have hl9 : e.platform.stackLimits (T.setVm s.vm).me = e.platform.stackLimits s.me := X.limits
  have hb9 : (T.setVm s.vm).me.stackBytes = s.me.stackBytes := X.bytes
  refine ⟨X.admits, X.cas, X.clock, hF, ?_, X.hears, X.method, X.code, X.here, X.tail, X.warmed, ?_, ?_, ?_⟩
  · have h := X.room
    have hU : ((T.setVm s.vm).setFrames (.invoking m args :: below)).localsInUse = s.localsInUse := by
      rw [State.localsInUse_invoking hF (meth := meth) (c := c) X.method X.code, State.localsInUse_invoking X.frames X.method X.code]
    simp only [State.hasRoom, Bool.and_eq_true, decide_eq_true_eq] at h ⊢
    obtain ⟨⟨⟨⟨h1, h2, h3, h4, h5, h6⟩, h7⟩, h8⟩, h9⟩ := h
    rw [X.frames, List.length_cons] at h2 h3
    have q1 := X.heapSize
    have q2 := X.used
    simp only [hF, hU, List.length_cons, State.stackLimits_setFrames, State.stackBytes_setFrames, hl9, hb9]
    refine ⟨⟨⟨⟨by omega, by omega, by omega, by omega, by omega, h6⟩, ?_⟩, ?_⟩, X.book⟩
    · show T.heap.size + R'.cells ≤ e.platform.maxCells
      omega
    · show T.slotsUsed + R'.slots ≤ e.platform.maxSlots
      omega
  · rw [State.stackLimits_setFrames]; rfl
  · rw [State.stackBytes_setFrames]; rfl
  · refine ⟨?_, Nat.le_refl _, Nat.le_refl _, ?_, ?_, fun a c9 h9 => ⟨c9, h9, rfl, rfl, fun _ _ => rfl⟩⟩
    · obtain ⟨t, ht, -⟩ := State.frames_cons hr
      show T.setVm s.vm = { ((T.setVm s.vm).setFrames (.invoking m args :: below)).setFrames (T.setVm s.vm).frames with heap := T.heap, slotsUsed := T.slotsUsed }
      rw [State.setFrames_setFrames, State.setFrames_self ht]
      rfl
    · show T.slotsUsed = T.slotsUsed + ((T.heap.toList.drop T.heap.size).map (·.slots.size)).sum
      rw [List.drop_eq_nil_of_le (Nat.le_of_eq Array.length_toList)]
      rfl
    · show ((T.heap.toList.drop T.heap.size).map (·.slots.size)).sum ≤ 0
      rw [List.drop_eq_nil_of_le (Nat.le_of_eq Array.length_toList)]
      exact Nat.le_refl _
/-- 'throw new E()': new; dup; invokespecial; athrow -/
theorem vx_throw0 {cc : ByteArray} {pc : Nat} (hexec : p.tables.exec = Jvm.exec) (hb : c.code = cc) (hl : l.stackTraces = false) {own cls : String} {names : List String} {ik ic mc ms : Nat} {A : Nat → Prop}
    (hown : s.vm.findClass own = some m.cls) (hcls : Bundle.fit cls = true) (hnames : ∀ n ∈ names, Bundle.fit n = true)
    (hk : (Cond.classLink own ik cls).before args s = true) (hini : (Cond.initialized cls).before args s = true) (hat : ∀ w ∈ vx_at0 own ic cls names, w.before args s = true)
    (hgood : ∀ w ∈ Cond.classLink own ik cls :: Cond.initialized cls :: vx_at0 own ic cls names, vx_ot w = true)
    (hU : vx_Zq Bundle.tN "UNASSIGNED_STACK" Bundle.steD A s s.heap) (hN : vx_Zq Bundle.tN "SUPPRESSED_SENTINEL" Bundle.listD A s s.heap) (hS : va_S A s.heap H locs) (hsize : ls.size = c.maxLocals)
    (d0 : decode cc pc = .ok (.new ik, 3)) (d3 : decode cc (pc + 3) = .ok (.dup, 1)) (d4 : decode cc (pc + 4) = .ok (.invokespecial ic, 3)) (d7 : decode cc (pc + 7) = .ok (.athrow, 1))
    (hout : ∀ x ∈ c.exceptionTable.toList, covers x (pc + 7) = false)
    (hRframes : names.length + 3 < R.frames) (hRlocals : (rest.map fun v => v.category).sum + (13 * (names.length + 1) + 42) ≤ R.locals) (hRcells : cells + 1 ≤ R.cells) (hRslots : slots + 6 ≤ R.slots) (hlocks : meth.locks = false)
    (hx : ∀ t : State, s.vm.Alike t.vm → H.size ≤ t.heap.size → (∀ q : Nat, q < H.size → t.heap[q]? = H[q]?) → XC cls s t)
    (hf : ∀ z ∈ locs, free z.base) (hc : cells + 1 ≤ mc) (hs : slots + 6 ≤ ms) :
    W p l e R s m args below meth c H locs cells slots (vx_MQ below Qc XC args s mc ms free) (F0 m pc ls rest) := by
  intro T hT X
  have htr : e.platform.stackTraces = false := (show e.platform.stackTraces = l.stackTraces by rw [X.admits.platform]).trans hl
  have Y := vx_rebase X (R' := { frames := R.frames, locals := R.locals, cells := 1, slots := 6 }) (Nat.le_refl _) (Nat.le_refl _) hRcells hRslots
  obtain ⟨s', hA⟩ : ∃ z, z = (T.setVm s.vm).setFrames (.invoking m args :: below) := ⟨_, rfl⟩
  rw [← hA] at Y
  have hvm : s'.vm = s.vm := by rw [hA]; rfl
  have hhp : s'.heap = H := by rw [hA]; exact hT
  have hW0 : s.WarmedH s'.vm := by rw [hvm]; exact State.WarmedH.refl s
  have hat' : ∀ w ∈ vx_at0 own ic cls names, w.before args s' = true := fun w hw => vx_ot_at hW0 hvm.symm (hgood w (List.mem_cons_of_mem _ (List.mem_cons_of_mem _ hw))) (hat w hw)
  have hk' : (Cond.classLink own ik cls).before args s' = true := vx_ot_at hW0 hvm.symm (hgood _ List.mem_cons_self) hk
  have hini' : (Cond.initialized cls).before args s' = true := vx_ot_at hW0 hvm.symm (hgood _ (List.mem_cons_of_mem _ List.mem_cons_self)) hini
  have hU' : vx_Zq Bundle.tN "UNASSIGNED_STACK" Bundle.steD A s' s'.heap := by rw [hhp]; exact vx_Zq.moved hW0.alike (hU.kept hS.2.1)
  have hN' : vx_Zq Bundle.tN "SUPPRESSED_SENTINEL" Bundle.listD A s' s'.heap := by rw [hhp]; exact vx_Zq.moved hW0.alike (hN.kept hS.2.1)
  have h : ∀ w ∈ Bundle.ownAtoms0 own ic cls names, w.before args s' = true := vx_own hat' (vx_isRefq hU'.1) (vx_isRefq hN'.1) hU'.2.word hN'.2.word
  have hown' : s'.vm.findClass own = some m.cls := by rw [hvm]; exact hown
  have hins : (Cond.instantiable cls 6).before args s' = true := h _ (by simp [Bundle.ownAtoms0])
  obtain ⟨vm₁, cX, kX, hfX, hkX, -, -, X₁, st1⟩ := Y.newCold hexec (own := own) (C := cls) (index := ik) (n := 6) hown' hk' hins hini'
    (g := F0 m pc ls rest) rfl (by rw [hb]; exact d0) (Nat.le_refl _) (Nat.le_refl _)
  generalize hT1 : (T.setVm vm₁).pushCell { cls := cX, slots := kX.instanceTypes.map defaultValue, vm := .none } = T1 at X₁ st1
  have hcat : (Value.ref T.heap.size).category = 1 := rfl
  have hcellA : T1.heap[T.heap.size]? = some (freshCell cX kX) := by rw [← hT1]; exact State.heap_pushCell_size _ _
  have d3' : decode c.code (pc + 3) = .ok (.dup, 1) := by rw [hb]; exact d3
  obtain ⟨U, hsteps, hrun, hend, hW, hsame, ce, hce, hO⟩ := X₁.ctorThrow0 hexec htr (own := own) (cls := cls) (names := names) (ic := ic) hown' hcls hnames h (fun x hx => nomatch hx) hfX hkX hcellA (by rw [hhp, hT]; exact Nat.le_refl _)
    (g := { method := m, pc := pc + 4, locals := ls, stack := .ref T.heap.size :: .ref T.heap.size :: rest, locked := none }) rfl hsize rfl rfl (rest := rest) rfl
    (by rw [hb]; exact d4) (by rw [hb]; exact d7) hout hRframes (by simp only [List.map_cons, List.sum_cons, hcat]; omega) hlocks
  obtain ⟨f1, f2⟩ := vx_frame hsame
  rw [hhp] at f1 f2
  have hWs : s.WarmedH U.vm := State.WarmedH.trans hW0 hW
  have hcl : s.vm.findClass cls = some ce.cls := by
    have h9 := hO.cls
    rw [hvm] at h9
    exact h9
  have hall : s.sameButNew ({ U with vm := s.vm } : State) locs mc ms := by
    subst hA
    obtain ⟨e1, e2⟩ := hsame
    rw [State.setFrames_setFrames] at e1
    have h2 : (T.setVm s.vm).sameButNew ({ U with vm := s.vm } : State) [] (0 + 1) (0 + 6) := ⟨e1, e2⟩
    have h3 := X.same.trans h2
    rw [List.append_nil] at h3
    exact h3.mono hc hs
  refine ⟨U, ?_, .threw T.heap.size, hrun, hend, Or.inr ⟨T.heap.size, rfl, cls, ce, locs, hx U hWs.alike f1 (fun q hq => f2 q hq (fun z hz => nomatch hz)), hce, hO.vm, hcl, hWs, hall, hf⟩⟩
  refine st1 _ ?_
  show Steps p.tables e below (T1.setTop { method := m, pc := pc + 3, locals := ls, stack := .ref T.heap.size :: rest, locked := none }) _
  jvm_step X₁.here [X₁.here.top, hexec, d3', Value.category]
  exact hsteps
/-- 'throw new E("text")': new; dup; ldc; invokespecial; athrow -/
theorem vx_throwS {cc : ByteArray} {pc : Nat} (hexec : p.tables.exec = Jvm.exec) (hb : c.code = cc) (hl : l.stackTraces = false) {own cls text : String} {names : List String} {ik is ic mc ms sa : Nat} {A : Nat → Prop}
    (hown : s.vm.findClass own = some m.cls) (hcls : Bundle.fit cls = true) (hnames : ∀ n ∈ names, Bundle.fit n = true)
    (hk : (Cond.classLink own ik cls).before args s = true) (hini : (Cond.initialized cls).before args s = true) (hstr : vk_R own is text sa s) (hat : ∀ w ∈ vx_atS own ic cls names, w.before args s = true)
    (hgood : ∀ w ∈ Cond.classLink own ik cls :: Cond.initialized cls :: vx_atS own ic cls names, vx_ot w = true)
    (hU : vx_Zq Bundle.tN "UNASSIGNED_STACK" Bundle.steD A s s.heap) (hN : vx_Zq Bundle.tN "SUPPRESSED_SENTINEL" Bundle.listD A s s.heap) (hS : va_S A s.heap H locs) (hsize : ls.size = c.maxLocals)
    (d0 : decode cc pc = .ok (.new ik, 3)) (d3 : decode cc (pc + 3) = .ok (.dup, 1)) (d4 : decode cc (pc + 4) = .ok (.ldc is, 2)) (d6 : decode cc (pc + 6) = .ok (.invokespecial ic, 3)) (d9 : decode cc (pc + 9) = .ok (.athrow, 1))
    (hout : ∀ x ∈ c.exceptionTable.toList, covers x (pc + 9) = false)
    (hRframes : names.length + 3 < R.frames) (hRlocals : (rest.map fun v => v.category).sum + (13 * (names.length + 1) + 43) ≤ R.locals) (hRcells : cells + 1 ≤ R.cells) (hRslots : slots + 6 ≤ R.slots) (hlocks : meth.locks = false)
    (hx : ∀ t : State, s.vm.Alike t.vm → H.size ≤ t.heap.size → (∀ q : Nat, q < H.size → t.heap[q]? = H[q]?) → XC cls s t)
    (hf : ∀ z ∈ locs, free z.base) (hc : cells + 1 ≤ mc) (hs : slots + 6 ≤ ms) :
    W p l e R s m args below meth c H locs cells slots (vx_MQ below Qc XC args s mc ms free) (F0 m pc ls rest) := by
  intro T hT X
  have htr : e.platform.stackTraces = false := (show e.platform.stackTraces = l.stackTraces by rw [X.admits.platform]).trans hl
  have Y := vx_rebase X (R' := { frames := R.frames, locals := R.locals, cells := 1, slots := 6 }) (Nat.le_refl _) (Nat.le_refl _) hRcells hRslots
  obtain ⟨s', hA⟩ : ∃ z, z = (T.setVm s.vm).setFrames (.invoking m args :: below) := ⟨_, rfl⟩
  rw [← hA] at Y
  have hvm : s'.vm = s.vm := by rw [hA]; rfl
  have hhp : s'.heap = H := by rw [hA]; exact hT
  have hW0 : s.WarmedH s'.vm := by rw [hvm]; exact State.WarmedH.refl s
  have hat' : ∀ w ∈ vx_atS own ic cls names, w.before args s' = true := fun w hw => vx_ot_at hW0 hvm.symm (hgood w (List.mem_cons_of_mem _ (List.mem_cons_of_mem _ hw))) (hat w hw)
  have hk' : (Cond.classLink own ik cls).before args s' = true := vx_ot_at hW0 hvm.symm (hgood _ List.mem_cons_self) hk
  have hini' : (Cond.initialized cls).before args s' = true := vx_ot_at hW0 hvm.symm (hgood _ (List.mem_cons_of_mem _ List.mem_cons_self)) hini
  have hU' : vx_Zq Bundle.tN "UNASSIGNED_STACK" Bundle.steD A s' s'.heap := by rw [hhp]; exact vx_Zq.moved hW0.alike (hU.kept hS.2.1)
  have hN' : vx_Zq Bundle.tN "SUPPRESSED_SENTINEL" Bundle.listD A s' s'.heap := by rw [hhp]; exact vx_Zq.moved hW0.alike (hN.kept hS.2.1)
  have h : ∀ w ∈ Bundle.ownAtoms own ic cls names, w.before args s' = true := vx_own hat' (vx_isRefq hU'.1) (vx_isRefq hN'.1) hU'.2.word hN'.2.word
  have hown' : s'.vm.findClass own = some m.cls := by rw [hvm]; exact hown
  have hins : (Cond.instantiable cls 6).before args s' = true := h _ (by simp [Bundle.ownAtoms])
  obtain ⟨vm₁, cX, kX, hfX, hkX, -, -, X₁, st1⟩ := Y.newCold hexec (own := own) (C := cls) (index := ik) (n := 6) hown' hk' hins hini'
    (g := F0 m pc ls rest) rfl (by rw [hb]; exact d0) (Nat.le_refl _) (Nat.le_refl _)
  generalize hT1 : (T.setVm vm₁).pushCell { cls := cX, slots := kX.instanceTypes.map defaultValue, vm := .none } = T1 at X₁ st1
  have hcat : (Value.ref T.heap.size).category = 1 := rfl
  have hcellA : T1.heap[T.heap.size]? = some (freshCell cX kX) := by rw [← hT1]; exact State.heap_pushCell_size _ _
  have d3' : decode c.code (pc + 3) = .ok (.dup, 1) := by rw [hb]; exact d3
  have d4' : decode c.code (pc + 4) = .ok (.ldc is, 2) := by rw [hb]; exact d4
  have hstr' : vk_R own is text sa s' := vk_R.warm hW0 hstr
  obtain ⟨U, hsteps, hrun, hend, hW, hsame, ce, hce, hO⟩ := X₁.ctorThrowS hexec htr (own := own) (cls := cls) (names := names) (ic := ic) hown' hcls hnames h (fun x hx => nomatch hx) hfX hkX hcellA (by rw [hhp, hT]; exact Nat.le_refl _) (msg := .ref sa) rfl
    (g := { method := m, pc := pc + 6, locals := ls, stack := .ref sa :: .ref T.heap.size :: .ref T.heap.size :: rest, locked := none }) rfl hsize rfl rfl (rest := rest) rfl
    (by rw [hb]; exact d6) (by rw [hb]; exact d9) hout hRframes (by simp only [List.map_cons, List.sum_cons, hcat]; omega) hlocks
  obtain ⟨f1, f2⟩ := vx_frame hsame
  rw [hhp] at f1 f2
  have hWs : s.WarmedH U.vm := State.WarmedH.trans hW0 hW
  have hcl : s.vm.findClass cls = some ce.cls := by
    have h9 := hO.cls
    rw [hvm] at h9
    exact h9
  have hall : s.sameButNew ({ U with vm := s.vm } : State) locs mc ms := by
    subst hA
    obtain ⟨e1, e2⟩ := hsame
    rw [State.setFrames_setFrames] at e1
    have h2 : (T.setVm s.vm).sameButNew ({ U with vm := s.vm } : State) [] (0 + 1) (0 + 6) := ⟨e1, e2⟩
    have h3 := X.same.trans h2
    rw [List.append_nil] at h3
    exact h3.mono hc hs
  refine ⟨U, ?_, .threw T.heap.size, hrun, hend, Or.inr ⟨T.heap.size, rfl, cls, ce, locs, hx U hWs.alike f1 (fun q hq => f2 q hq (fun z hz => nomatch hz)), hce, hO.vm, hcl, hWs, hall, hf⟩⟩
  refine st1 _ ?_
  show Steps p.tables e below (T1.setTop { method := m, pc := pc + 3, locals := ls, stack := .ref T.heap.size :: rest, locked := none }) _
  jvm_step X₁.here [X₁.here.top, hexec, d3', Value.category]
  exact X₁.ldcString hexec (own := own) (text := text) (index := is) (a := sa) hown' hstr'.1 hstr'.2
    (g := { method := m, pc := pc + 4, locals := ls, stack := .ref T.heap.size :: .ref T.heap.size :: rest, locked := none }) rfl d4' _ hsteps
/-- 'throw new E("text")', the text by a wide index -/
theorem vx_throwSW {cc : ByteArray} {pc : Nat} (hexec : p.tables.exec = Jvm.exec) (hb : c.code = cc) (hl : l.stackTraces = false) {own cls text : String} {names : List String} {ik is ic mc ms sa : Nat} {A : Nat → Prop}
    (hown : s.vm.findClass own = some m.cls) (hcls : Bundle.fit cls = true) (hnames : ∀ n ∈ names, Bundle.fit n = true)
    (hk : (Cond.classLink own ik cls).before args s = true) (hini : (Cond.initialized cls).before args s = true) (hstr : vk_R own is text sa s) (hat : ∀ w ∈ vx_atS own ic cls names, w.before args s = true)
    (hgood : ∀ w ∈ Cond.classLink own ik cls :: Cond.initialized cls :: vx_atS own ic cls names, vx_ot w = true)
    (hU : vx_Zq Bundle.tN "UNASSIGNED_STACK" Bundle.steD A s s.heap) (hN : vx_Zq Bundle.tN "SUPPRESSED_SENTINEL" Bundle.listD A s s.heap) (hS : va_S A s.heap H locs) (hsize : ls.size = c.maxLocals)
    (d0 : decode cc pc = .ok (.new ik, 3)) (d3 : decode cc (pc + 3) = .ok (.dup, 1)) (d4 : decode cc (pc + 4) = .ok (.ldc_w is, 3)) (d7 : decode cc (pc + 7) = .ok (.invokespecial ic, 3)) (d10 : decode cc (pc + 10) = .ok (.athrow, 1))
    (hout : ∀ x ∈ c.exceptionTable.toList, covers x (pc + 10) = false)
    (hRframes : names.length + 3 < R.frames) (hRlocals : (rest.map fun v => v.category).sum + (13 * (names.length + 1) + 43) ≤ R.locals) (hRcells : cells + 1 ≤ R.cells) (hRslots : slots + 6 ≤ R.slots) (hlocks : meth.locks = false)
    (hx : ∀ t : State, s.vm.Alike t.vm → H.size ≤ t.heap.size → (∀ q : Nat, q < H.size → t.heap[q]? = H[q]?) → XC cls s t)
    (hf : ∀ z ∈ locs, free z.base) (hc : cells + 1 ≤ mc) (hs : slots + 6 ≤ ms) :
    W p l e R s m args below meth c H locs cells slots (vx_MQ below Qc XC args s mc ms free) (F0 m pc ls rest) := by
  intro T hT X
  have htr : e.platform.stackTraces = false := (show e.platform.stackTraces = l.stackTraces by rw [X.admits.platform]).trans hl
  have Y := vx_rebase X (R' := { frames := R.frames, locals := R.locals, cells := 1, slots := 6 }) (Nat.le_refl _) (Nat.le_refl _) hRcells hRslots
  obtain ⟨s', hA⟩ : ∃ z, z = (T.setVm s.vm).setFrames (.invoking m args :: below) := ⟨_, rfl⟩
  rw [← hA] at Y
  have hvm : s'.vm = s.vm := by rw [hA]; rfl
  have hhp : s'.heap = H := by rw [hA]; exact hT
  have hW0 : s.WarmedH s'.vm := by rw [hvm]; exact State.WarmedH.refl s
  have hat' : ∀ w ∈ vx_atS own ic cls names, w.before args s' = true := fun w hw => vx_ot_at hW0 hvm.symm (hgood w (List.mem_cons_of_mem _ (List.mem_cons_of_mem _ hw))) (hat w hw)
  have hk' : (Cond.classLink own ik cls).before args s' = true := vx_ot_at hW0 hvm.symm (hgood _ List.mem_cons_self) hk
  have hini' : (Cond.initialized cls).before args s' = true := vx_ot_at hW0 hvm.symm (hgood _ (List.mem_cons_of_mem _ List.mem_cons_self)) hini
  have hU' : vx_Zq Bundle.tN "UNASSIGNED_STACK" Bundle.steD A s' s'.heap := by rw [hhp]; exact vx_Zq.moved hW0.alike (hU.kept hS.2.1)
  have hN' : vx_Zq Bundle.tN "SUPPRESSED_SENTINEL" Bundle.listD A s' s'.heap := by rw [hhp]; exact vx_Zq.moved hW0.alike (hN.kept hS.2.1)
  have h : ∀ w ∈ Bundle.ownAtoms own ic cls names, w.before args s' = true := vx_own hat' (vx_isRefq hU'.1) (vx_isRefq hN'.1) hU'.2.word hN'.2.word
  have hown' : s'.vm.findClass own = some m.cls := by rw [hvm]; exact hown
  have hins : (Cond.instantiable cls 6).before args s' = true := h _ (by simp [Bundle.ownAtoms])
  obtain ⟨vm₁, cX, kX, hfX, hkX, -, -, X₁, st1⟩ := Y.newCold hexec (own := own) (C := cls) (index := ik) (n := 6) hown' hk' hins hini'
    (g := F0 m pc ls rest) rfl (by rw [hb]; exact d0) (Nat.le_refl _) (Nat.le_refl _)
  generalize hT1 : (T.setVm vm₁).pushCell { cls := cX, slots := kX.instanceTypes.map defaultValue, vm := .none } = T1 at X₁ st1
  have hcat : (Value.ref T.heap.size).category = 1 := rfl
  have hcellA : T1.heap[T.heap.size]? = some (freshCell cX kX) := by rw [← hT1]; exact State.heap_pushCell_size _ _
  have d3' : decode c.code (pc + 3) = .ok (.dup, 1) := by rw [hb]; exact d3
  have d4' : decode c.code (pc + 4) = .ok (.ldc_w is, 3) := by rw [hb]; exact d4
  have hstr' : vk_R own is text sa s' := vk_R.warm hW0 hstr
  obtain ⟨U, hsteps, hrun, hend, hW, hsame, ce, hce, hO⟩ := X₁.ctorThrowS hexec htr (own := own) (cls := cls) (names := names) (ic := ic) hown' hcls hnames h (fun x hx => nomatch hx) hfX hkX hcellA (by rw [hhp, hT]; exact Nat.le_refl _) (msg := .ref sa) rfl
    (g := { method := m, pc := pc + 7, locals := ls, stack := .ref sa :: .ref T.heap.size :: .ref T.heap.size :: rest, locked := none }) rfl hsize rfl rfl (rest := rest) rfl
    (by rw [hb]; exact d7) (by rw [hb]; exact d10) hout hRframes (by simp only [List.map_cons, List.sum_cons, hcat]; omega) hlocks
  obtain ⟨f1, f2⟩ := vx_frame hsame
  rw [hhp] at f1 f2
  have hWs : s.WarmedH U.vm := State.WarmedH.trans hW0 hW
  have hcl : s.vm.findClass cls = some ce.cls := by
    have h9 := hO.cls
    rw [hvm] at h9
    exact h9
  have hall : s.sameButNew ({ U with vm := s.vm } : State) locs mc ms := by
    subst hA
    obtain ⟨e1, e2⟩ := hsame
    rw [State.setFrames_setFrames] at e1
    have h2 : (T.setVm s.vm).sameButNew ({ U with vm := s.vm } : State) [] (0 + 1) (0 + 6) := ⟨e1, e2⟩
    have h3 := X.same.trans h2
    rw [List.append_nil] at h3
    exact h3.mono hc hs
  refine ⟨U, ?_, .threw T.heap.size, hrun, hend, Or.inr ⟨T.heap.size, rfl, cls, ce, locs, hx U hWs.alike f1 (fun q hq => f2 q hq (fun z hz => nomatch hz)), hce, hO.vm, hcl, hWs, hall, hf⟩⟩
  refine st1 _ ?_
  show Steps p.tables e below (T1.setTop { method := m, pc := pc + 3, locals := ls, stack := .ref T.heap.size :: rest, locked := none }) _
  jvm_step X₁.here [X₁.here.top, hexec, d3', Value.category]
  exact X₁.ldcStringW hexec (own := own) (text := text) (index := is) (a := sa) hown' hstr'.1 hstr'.2
    (g := { method := m, pc := pc + 4, locals := ls, stack := .ref T.heap.size :: .ref T.heap.size :: rest, locked := none }) rfl d4' _ hsteps
end Ends
section Bodies
variable {l : Launch}
theorem vx_ofW {y : MethodName} {ws ws' : List Cond} {rm : Room} {Pc : Array Value → State → Prop} {Qc : Array Value → State → Outcome → State → Prop} {XC : String → State → State → Prop} {mc ms : Nat} {free : Addr → Prop} {cc : ByteArray} {maxL : Nat} {ret : Option FieldType}
    (hy : plainName y.cls = true) (hw : ws = Cond.code y cc maxL ret :: ws')
    (body : ∀ p e s m args below meth c s₁, BodyLoose p l y (headSpec ws rm) cc maxL ret e s m args below meth c s₁ → c.maxLocals = maxL → (∀ x ∈ c.exceptionTable.toList, False) → Pc args s →
      W p l e (headSpec ws rm).room s m args below meth c s.heap [] 0 0 (vx_MQ below Qc XC args s mc ms free) (entryFrame m args maxL)) : vx_Met l y ws rm Pc Qc XC mc ms free := by
  refine MetFree.of_bodyS (code := cc) (maxLocals := maxL) (ret := ret) hy ?_ ?_
  · intro args s m h hn
    obtain ⟨meth, c, h1, h2, h3, h4, h5, h6, -, -⟩ := Cond.code_spec hn (atoms_spec (ws := ws) h _ (by rw [hw]; exact List.mem_cons_self))
    exact ⟨meth, c, h1, h2, h3, h4, h5, h6⟩
  · intro p e s m args below meth c s₁ B hml hP _
    have hh0 : s₁.heap = s.heap := by rw [B.state]; rfl
    have ht : ∀ x ∈ c.exceptionTable.toList, False := by
      obtain ⟨meth9, c9, h1, h2, -, -, -, -, h7, -⟩ := Cond.code_spec B.named (atoms_spec (ws := ws) B.pre _ (by rw [hw]; exact List.mem_cons_self))
      cases Option.some.inj (h1.symm.trans B.method)
      cases Option.some.inj (h2.symm.trans (Stand.of_body B).code)
      intro x hx
      rw [Array.isEmpty_iff.mp h7] at hx
      cases hx
    obtain ⟨t, a1, o, b1, b2, b3⟩ := body p e s m args below meth c s₁ B hml ht hP s₁ hh0 (Stand.of_body B)
    exact ⟨t, o, a1, b1, b2, b3⟩
/-- the table of a body with handlers -/
theorem vx_table {p : Program} {x y : MethodName} {S : Spec} {cc bytes : ByteArray} {maxL maxL' : Nat} {ret ret' : Option FieldType} {e : Env} {s s₁ : State} {m : MethodId} {args : Array Value} {below : List Frame} {meth : Method} {c : Code} {hh : List (Nat × Nat × Nat × Nat)}
    (B : BodyLoose p l y S cc maxL ret e s m args below meth c s₁) (h : (Cond.codeWith y bytes maxL' ret' hh).before args s = true) : c.exceptionTable.toList = tableOf hh := by
  obtain ⟨m9, meth9, c9, hn9, h1, h2, -, -, h6, -⟩ := Cond.codeWith_spec h
  cases Option.some.inj (hn9.symm.trans B.named)
  cases Option.some.inj (h1.symm.trans B.method)
  cases Option.some.inj (h2.symm.trans (Stand.of_body B).code)
  rw [← h6, table_eq]
end Bodies
end VXA
/-! ===== END ===== -/
/-! ===== BEGIN a static call of a method with an exception table ===== -/
section VXS
variable {p : Program} {l : Launch} {e : Env} {R : Room} {s : State} {m : MethodId} {args : Array Value} {below : List Frame} {meth : Method} {c : Code} {T : State} {H : Heap} {locs : List Loc} {cells slots : Nat}
abbrev vx_CSW (R : Room) (s : State) (args : Array Value) (own : String) (index : Nat) (y : MethodName) (bytes : ByteArray) (maxL : Nat) (ret : Option FieldType) (hh : List (Nat × Nat × Nat × Nat)) (ws : List Cond) (rm : Room) (mc ms n : Nat) : Prop :=
  (rm.cells = mc ∧ rm.slots = ms ∧ rm.frames + 1 ≤ R.frames ∧ 8 + (maxL + 11) + rm.locals ≤ R.locals ∧ (∀ w ∈ ws, ∀ (a' : Array Value) (U : State), s.WarmedH U.vm → w.before a' U = true) ∧ Cond.codeWith y bytes maxL ret hh ∈ ws) ∧
  (Cond.codeWith y bytes maxL ret hh).before args s = true ∧ (Cond.initialized y.cls).before args s = true ∧ (y.cls ≠ "java/lang/invoke/MethodHandle" ∧ y.cls ≠ "java/lang/invoke/VarHandle") ∧
  (∀ sig, parseMethodDescriptor y.desc = some sig → n = sig.parameters.length) ∧ (Cond.methodLink own index y).before args s = true ∧ (Cond.static y).before args s = true
theorem vx_cwSW {own : String} {index maxL mc ms : Nat} {y : MethodName} {bytes : ByteArray} {ret : Option FieldType} {hh : List (Nat × Nat × Nat × Nat)} {Ts ws ws' : List Cond} {rm : Room} (n : Nat) (ht : ∀ w ∈ Ts, w.before args s = true) (hT : GoodIn Ts (va_wsS own index y ws)) (hw : ws = Cond.codeWith y bytes maxL ret hh :: ws') (hrc : rm.cells = mc) (hrs : rm.slots = ms)
    (hd : y.cls ≠ "java/lang/invoke/MethodHandle" ∧ y.cls ≠ "java/lang/invoke/VarHandle" ∧ (parseMethodDescriptor y.desc).map (fun d => d.parameters.length) = some n) (hR : rm.frames + 1 ≤ R.frames ∧ 8 + (maxL + 11) + rm.locals ≤ R.locals) :
    vx_CSW R s args own index y bytes maxL ret hh ws rm mc ms n := by
  have ok : ∀ w ∈ va_wsS own index y ws, w.before args s = true := fun w h => ht w (hT w h).1
  have hG : GoodIn Ts ws := fun w h => hT w (by unfold va_wsS; exact List.mem_append_right _ h)
  have hc : Cond.codeWith y bytes maxL ret hh ∈ ws := by rw [hw]; exact List.mem_cons_self
  refine ⟨⟨hrc, hrs, hR.1, hR.2, pay_in ht hG, hc⟩, ht _ (hG _ hc).1, ok _ (by simp [va_wsS]), ⟨hd.1, hd.2.1⟩, fun sig h => ?_, ok _ (by simp [va_wsS]), ok _ (by simp [va_wsS])⟩
  have h2 := hd.2.2
  rw [h] at h2
  exact (Option.some.inj h2).symm
theorem vx_callSW (X : Stand p l e R s m args below meth c T locs cells slots) (hexec : p.tables.exec = Jvm.exec) {own : String} {index : Nat} {y : MethodName} {bytes : ByteArray} {maxL : Nat} {ret : Option FieldType} {hh : List (Nat × Nat × Nat × Nat)}
    (hown : s.vm.findClass own = some m.cls) (hlink : (Cond.methodLink own index y).before args s = true) (hstat : (Cond.static y).before args s = true) (hinit : (Cond.initialized y.cls).before args s = true)
    (hcode : (Cond.codeWith y bytes maxL ret hh).before args s = true) (hy : y.cls ≠ "java/lang/invoke/MethodHandle" ∧ y.cls ≠ "java/lang/invoke/VarHandle")
    {W9 : Nat} {Pre : Pt → Array Value → Prop} {Post : Pt → Array Value → Option Value → Pt → Prop} (hK : Back l R p e below s args y 3 W9 Pre Post)
    {g : JFrame} (hg : g.method = m) (hsize : g.locals.size = c.maxLocals) {argsL rest : List Value} (hlen : ∀ sig, parseMethodDescriptor y.desc = some sig → argsL.length = sig.parameters.length)
    (hstack : g.stack = argsL.reverse ++ rest) (hW : 2 * g.monitorRoom + (rest.map fun v => v.category).sum ≤ W9) (hdg : decode c.code g.pc = .ok (.invokestatic index, 3))
    (hpre : ∀ vm₁, s.WarmedH vm₁ → Pre ⟨T.setVm vm₁, locs, cells, slots⟩ argsL.toArray) :
    ∃ (v : Option Value) (vm₁ : Vm) (B : Pt), s.WarmedH vm₁ ∧ Stand p l e R s m args below meth c B.U B.locs B.cells B.slots ∧ Post ⟨T.setVm vm₁, locs, cells, slots⟩ argsL.toArray v B ∧
      ∀ target, Steps p.tables e below (B.U.setTop { g with pc := g.pc + 3, stack := v.toList ++ rest }) target → Steps p.tables e below (T.setTop g) target := by
  obtain ⟨mk, methM, cM, hnamed, hmethM, -, -, -, -, -, -, hsigM⟩ := Cond.codeWith_spec hcode
  have hstatic : methM.isStatic = true := Cond.static_spec hnamed hmethM hstat
  obtain ⟨kP, hkP, -⟩ := className_of_methodNamed hnamed
  have hinitP : kP.init = .initialized := Cond.initialized_spec (findClass_of_methodNamed hnamed) hkP hinit
  obtain ⟨vm₁, X₁, hstep₁⟩ := X.invokestatic hexec hown hlink hnamed hmethM hstatic hkP hinitP hy (g := g) hg (argsL := argsL) (rest := rest) (hlen _ hsigM) hstack hdg
  obtain ⟨v, B, X', hpost, hsteps⟩ := hK m meth c ⟨T.setVm vm₁, locs, cells, slots⟩ { g with stack := rest } (.invokestatic index) mk argsL.toArray X₁ hg hsize hdg hW (X₁.named hnamed) (hpre vm₁ X₁.warmed)
  exact ⟨v, vm₁, B, X₁.warmed, X', hpost, fun target h => hstep₁ _ fun acts => by rw [doInvoke_state]; exact hsteps.trans h⟩
theorem vx_runSW {y : MethodName} {bytes cc : ByteArray} {maxL nL mc ms n index : Nat} {ret : Option FieldType} {hh : List (Nat × Nat × Nat × Nat)} {ws : List Cond} {rm : Room} {Pc : Array Value → State → Prop} {Qc : Array Value → State → Outcome → State → Prop} {free : Addr → Prop} {Ts : List Cond} {own : String} {As rest : List Value} {g : JFrame}
    (S : CallFix p m c cc nL s args Ts own) (hM : Met l y ws rm Pc Qc mc ms free) (cw : vx_CSW R s args own index y bytes maxL ret hh ws rm mc ms n) (hp : PreS s H Pc As)
    (hg : g.method = m) (hn : As.length = n) (hsize : g.locals.size = nL) (hstack : g.stack = As.reverse ++ rest) (hW : 2 * g.monitorRoom + (rest.map fun v => v.category).sum ≤ 8) (hdg : decode cc g.pc = .ok (.invokestatic index, 3)) (hf : cells + mc ≤ R.cells ∧ slots + ms ≤ R.slots) :
    va_Run p l e R s m args below meth c H locs cells slots mc ms g rest (Qc As.toArray) (free) := by
  obtain ⟨⟨hrc, hrs, hfr, hlo, hws, hcw⟩, hcode, hini, hy, hlen, hl, hstt⟩ := cw
  have hK : Back l R p e below s args y 3 8 (PreOf R mc ms Pc) (PostOf Qc mc ms free) := va_backW (hh := hh) (bytes := bytes) (maxL := maxL) (ret := ret) hM hp.1 hrc hrs hfr hlo hws hcw (fun a' U hW => word_at hW (Or.inl (by first | rfl | simp [Cond.onTables, Cond.keeps, Cond.steady])) hini)
  obtain ⟨hx, hb, hml, ho, -⟩ := S
  intro T hT X
  obtain ⟨v, vm₁, ⟨U', l2, c2, s2⟩, hW₁, X', ⟨g', mk, t, L, e1, e2, hq, h1, hL, h2, h3⟩, st⟩ := vx_callSW X hx (hh := hh) (bytes := bytes) (maxL := maxL) (ret := ret) ho hl hstt hini hcode hy hK hg (hsize.trans hml.symm) (argsL := As) (rest := rest) (fun sig h => hn.trans (hlen sig h)) hstack hW (by rw [hb]; exact hdg)
    (fun vm₁ hW₁ => ⟨hf.1, hf.2, hp.2 (T.setVm vm₁) hT hW₁⟩)
  dsimp only [Pt.U, Pt.locs, Pt.cells, Pt.slots] at X' e1 e2 h1 h2 h3 st
  subst h1; subst h2; subst h3
  exact ⟨v, (T.setVm vm₁).calling g' mk As.toArray, t, U', L, hT, X', hL, e1, e2, hq, st⟩
/-- not caught here, past rows that name other classes: it goes on to the caller -/
theorem vx_outP {p : Program} {l : Launch} {e : Env} {R : Room} {s : State} {m : MethodId} {args : Array Value} {below : List Frame} {meth : Method} {c : Code} {H : Heap} {locs : List Loc} {cells slots : Nat} {free : Addr → Prop} {ls : Array Slot} {rest : List Value} {Qc : Array Value → State → Outcome → State → Prop} {XC : String → State → State → Prop}
    {pc : Nat} {own E : String} {ce : Cell} {q : Addr} {mc ms : Nat} (hown : s.vm.findClass own = some m.cls) (hlocks : meth.locks = false)
    (hpass : ∀ z ∈ c.exceptionTable.toList, covers z pc = false ∨ (z.catchType ≠ 0 ∧ ∃ nm : String, (Cond.classLink own z.catchType nm).before args s = true ∧ va_Nc E nm s)) (hcell : H[q]? = some ce) (hv : ce.vm = .none) (hcl : s.vm.findClass E = some ce.cls)
    (hx : ∀ t : State, t.heap = H → s.vm.Alike t.vm → XC E s t) (hf : ∀ z ∈ locs, free z.base) (hc : cells ≤ mc) (hs : slots ≤ ms) :
    vx_W p l e R s m args below meth c H locs cells slots (vx_MQ below Qc XC args s mc ms free) (F0 m pc ls rest) q := by
  intro T hT X
  have hpl : e.platform.magicAccessors = ({} : Platform).magicAccessors := by rw [X.admits.platform]
  obtain ⟨vm', hW', X', st⟩ := Stand.outThrough X hlocks q (g := F0 m pc ls rest) rfl rfl rfl (cell := ce) (by rw [hT]; exact hcell) (by rw [hv]; rfl)
    (by obtain ⟨k9, h9, -⟩ := Vm.findClass_spec hcl; exact ⟨k9, h9⟩) (fun z hz => by
      rcases hpass z hz with h | ⟨hz0, nm, hl1, hn1⟩
      · exact Or.inl h
      · obtain ⟨c6, hc6, hcl6⟩ := Cond.classLink_spec hown hl1 e.platform hpl
        obtain ⟨a8, b8, h1, h2, h3⟩ := hn1
        cases Option.some.inj (h1.symm.trans hcl)
        cases Option.some.inj (h2.symm.trans hc6)
        exact Or.inr ⟨hz0, _, hcl6, h3⟩)
  obtain ⟨g₀, hfr⟩ := X'.frames_eq
  have hcell9 : ((T.setVm vm').setFrames (.throwing q :: below)).heap[q]? = some ce := by
    show T.heap[q]? = some ce
    rw [hT]; exact hcell
  have hend : Ended ((T.setVm vm').setFrames (.throwing q :: below)) below (.threw q) := State.frames_setFrames _ (State.cur_lt_of_frames hfr)
  refine ⟨(T.setVm vm').setFrames (.throwing q :: below), ?_, .threw q, X'.here.running, hend, Or.inr ⟨q, rfl, E, ce, locs, hx _ hT (X'.ends _).1.alike, hcell9, hv, hcl, (X'.ends _).1, (X'.ends _).2.mono hc hs, hf⟩⟩
  rw [X.pushThrowing_eq]
  exact st
/-- a thing of a world lies in the heap -/
theorem vx_lt {D : va_G} {cl : List vw_C} {ws : va_W} {H1 : Heap} (h : va_P D cl ws H1) {k : Nat} {q : Nat × va_E} (hk : ws[k]? = some q) : q.1 < H1.size := (h k q hk).lt
end VXS
/-! ===== END ===== -/
/-! ===== BEGIN methods with a table of their own: called by a name, returning or throwing ===== -/
section VXH
/-! vx_backW, vx_callVX, vx_callSX, vx_callVW, vx_runVW, vx_runVX, vx_runSX, vx_ofWH follow the same proofs as their sisters above (Free/Laws.lean, Shelf42/LK1.lean); vx_outP calls Shelf42/NT130.lean (outThrough). -/
section
variable {l : Launch} {R : Room} {p : Program} {e : Env} {below : List Frame} {s : State} {sargs : Array Value} {y : MethodName} {len W9 : Nat}
theorem vx_backW {ws : List Cond} {rm : Room} {Pc : Array Value → State → Prop} {Qc : Array Value → State → Outcome → State → Prop} {XC : String → State → State → Prop} {mc ms : Nat} {free : Addr → Prop} {bytes : ByteArray} {maxL : Nat} {ret : Option FieldType} {hh : List (Nat × Nat × Nat × Nat)}
    (hM : vx_Met l y ws rm Pc Qc XC mc ms free) (hblind : FrameBlind Pc) (hrc : rm.cells = mc) (hrs : rm.slots = ms)
    (hframes : rm.frames + 1 ≤ R.frames) (hlocals : W9 + (maxL + 11) + rm.locals ≤ R.locals)
    (hws : ∀ w ∈ ws, ∀ a' U, s.WarmedH U.vm → w.before a' U = true) (hcode : Cond.codeWith y bytes maxL ret hh ∈ ws) (hinit : ∀ a' U, s.WarmedH U.vm → (Cond.initialized y.cls).before a' U = true) :
    vx_Back l R p e below s sargs y len W9 (PreOf R mc ms Pc) (PostOf Qc mc ms free) (vx_Post XC mc ms free) := by
  intro m meth c A g ig mk a X hg hsize hdg hW hn hp
  have h1 : (headSpec ws rm).pre.before a A.U = true := atoms_intro fun w hw => hws w hw _ _ X.warmed
  have h2 : (Cond.codeWith y bytes maxL ret hh).before a A.U = true := hws _ hcode _ _ X.warmed
  have h3 : (Cond.initialized y.cls).before a A.U = true := hinit _ _ X.warmed
  have h4 : A.cells + (headSpec ws rm).room.cells ≤ R.cells := by rw [show (headSpec ws rm).room.cells = mc from hrc]; exact hp.1
  have h5 : A.slots + (headSpec ws rm).room.slots ≤ R.slots := by rw [show (headSpec ws rm).room.slots = ms from hrs]; exact hp.2.1
  have hPc : Pc a (A.U.calling g mk a) := hblind _ _ _ _ hp.2.2
  obtain ⟨U, Ls, c0, s0⟩ := A
  dsimp only [Pt.U, Pt.locs, Pt.cells, Pt.slots] at h1 h2 h3 h4 h5 X hn hPc ⊢
  obtain ⟨m9, methY, cY, hn9, hmY, hcY, -, hlY, -⟩ := Cond.codeWith_spec h2
  cases Option.some.inj (hn9.symm.trans hn)
  obtain ⟨kY, hkY, -⟩ := className_of_methodNamed hn
  have hinitY : kY.init = .initialized := Cond.initialized_spec (findClass_of_methodNamed hn) hkY h3
  have h : At U g.method c below := by rw [hg]; exact X.here
  have hlocals9 : W9 + (maxL + 11) + (headSpec ws rm).room.locals ≤ R.locals := hlocals
  have happ : (headSpec ws rm).appliesLoose y e.platform (U.calling g mk a) = true :=
    Spec.appliesLoose_calling (g := g) h hdg hn hkY hinitY
      (X.room_calling (g := g) (R' := (headSpec ws rm).room) hsize hmY hcY hframes (by rw [hlY]; omega) h4 h5) h1
  obtain ⟨mid, hmid⟩ := h.above
  have hfr : (U.setTop g).frames = (.java g :: mid) ++ below := by rw [State.frames_setTop' g h.top, hmid]; rfl
  obtain ⟨o, s₂, hsteps, -, hend, hq⟩ := Steps.callFree hM p X.admits X.cas X.clock (acts := []) hfr happ hPc trivial
  have hq' : vx_Q Qc XC mc ms free a (U.calling g mk a) o s₂ := hq
  rw [State.frames_setTop' g h.top] at hend
  obtain ⟨g₀, hg0⟩ := Option.isSome_iff_exists.mp h.top
  obtain ⟨r, hr⟩ := State.topJava?_eq_some.mp hg0
  have hr' : (({ U with heap := s₂.heap, slotsUsed := s₂.slotsUsed } : State).setVm s₂.vm).frames = .java g₀ :: r := hr
  rcases hq' with ⟨hqc, L, hfe, hL⟩ | ⟨q, rfl, E, ce, L, hx, hce, hcv, hcl, hW₂, hsm, hL⟩
  · obtain ⟨⟨v, rfl⟩, hW₂, e2, q2, q3, q4, q5, q6⟩ := id hfe
    have e3 : s₂ = ({ (U.calling g mk a).setFrames s₂.frames with heap := s₂.heap, slotsUsed := s₂.slotsUsed } : State).setVm s₂.vm := by
      have : s₂ = ({ s₂ with vm := (U.calling g mk a).vm } : State).setVm s₂.vm := rfl
      rw [e2] at this
      exact this
    obtain ⟨c₂, i₂, len₂, hc₂, hd₂, hf₂⟩ := hend
    have hW' : U.WarmedH s₂.vm := hW₂
    have hcc : c₂ = c := by
      have h1 : s₂.code? g.method = U.code? g.method := by
        rw [State.code?_eq, State.code?_eq, hW'.alike.method?]
      exact Option.some.inj (hc₂.symm.trans (h1.trans h.code))
    subst hcc
    have hlen : len₂ = len := by rw [hdg] at hd₂; cases hd₂; rfl
    subst hlen
    have hs₂ : s₂ = (({ U with heap := s₂.heap, slotsUsed := s₂.slotsUsed } : State).setVm s₂.vm).setTop { g with pc := g.pc + len₂, stack := v.toList ++ g.stack } := by
      refine e3.trans ?_
      rw [hf₂, State.calling_eq h.top, State.setFrames_setFrames, State.setTop_of_frames _ hr', hr]
      rfl
    have hsame : U.sameButNew ({ U with heap := s₂.heap, slotsUsed := s₂.slotsUsed } : State) L mc ms := by
      refine ⟨?_, q2, q3, q4, q5, q6⟩
      obtain ⟨t, ht, -⟩ := State.frames_cons hr
      show ({ U with heap := s₂.heap, slotsUsed := s₂.slotsUsed } : State) = { U.setFrames U.frames with heap := s₂.heap, slotsUsed := s₂.slotsUsed }
      rw [State.setFrames_self ht]
    subst hg
    refine Or.inl ⟨v, ⟨(({ U with heap := s₂.heap, slotsUsed := s₂.slotsUsed } : State).setVm s₂.vm), Ls ++ L, c0 + mc, s0 + ms⟩,
      ⟨X.admits, X.cas, X.clock, X.frames, X.room, X.hears, X.method, X.code, (X.here.setHeapUsed s₂.heap s₂.slotsUsed).setVm hW'.alike, X.tail, State.WarmedH.trans X.warmed hW', X.limits, X.bytes, X.same.trans (hsame.setVm s.vm)⟩,
      ⟨g, mk, s₂, L, rfl, rfl, hqc, rfl, hL, rfl, rfl⟩, ?_⟩
    show Steps p.tables e below _ ((({ U with heap := s₂.heap, slotsUsed := s₂.slotsUsed } : State).setVm s₂.vm).setTop { g with pc := g.pc + len₂, stack := v.toList ++ g.stack })
    rw [← hs₂]
    exact hsteps
  · obtain ⟨e2, q2, q3, q4, q5, q6⟩ := id hsm
    have e3 : s₂ = ({ (U.calling g mk a).setFrames s₂.frames with heap := s₂.heap, slotsUsed := s₂.slotsUsed } : State).setVm s₂.vm := by
      have : s₂ = ({ s₂ with vm := (U.calling g mk a).vm } : State).setVm s₂.vm := rfl
      rw [e2] at this
      exact this
    have hf₂ : s₂.frames = .throwing q :: .java g :: U.frames.tail := hend
    have hW' : U.WarmedH s₂.vm := hW₂
    have hs₂ : s₂ = ((({ U with heap := s₂.heap, slotsUsed := s₂.slotsUsed } : State).setVm s₂.vm).setTop g).pushFrame (.throwing q) := by
      refine e3.trans ?_
      rw [hf₂, State.calling_eq h.top, State.setFrames_setFrames, State.pushFrame, State.frames_setTop _ hr', State.setTop_of_frames _ hr', State.setFrames_setFrames, hr]
      rfl
    have hsame : U.sameButNew ({ U with heap := s₂.heap, slotsUsed := s₂.slotsUsed } : State) L mc ms := by
      refine ⟨?_, q2, q3, q4, q5, q6⟩
      obtain ⟨t, ht, -⟩ := State.frames_cons hr
      show ({ U with heap := s₂.heap, slotsUsed := s₂.slotsUsed } : State) = { U.setFrames U.frames with heap := s₂.heap, slotsUsed := s₂.slotsUsed }
      rw [State.setFrames_self ht]
    subst hg
    refine Or.inr ⟨q, ⟨(({ U with heap := s₂.heap, slotsUsed := s₂.slotsUsed } : State).setVm s₂.vm), Ls ++ L, c0 + mc, s0 + ms⟩,
      ⟨X.admits, X.cas, X.clock, X.frames, X.room, X.hears, X.method, X.code, (X.here.setHeapUsed s₂.heap s₂.slotsUsed).setVm hW'.alike, X.tail, State.WarmedH.trans X.warmed hW', X.limits, X.bytes, X.same.trans (hsame.setVm s.vm)⟩,
      ⟨g, mk, s₂, L, E, ce, rfl, rfl, hx, hce, hcv, hcl, rfl, hL, rfl, rfl⟩, ?_⟩
    show Steps p.tables e below _ (((({ U with heap := s₂.heap, slotsUsed := s₂.slotsUsed } : State).setVm s₂.vm).setTop g).pushFrame (.throwing q))
    rw [← hs₂]
    exact hsteps
end
variable {p : Program} {l : Launch} {e : Env} {R : Room} {s : State} {m : MethodId} {args : Array Value} {below : List Frame} {meth : Method} {c : Code} {T : State} {H : Heap} {locs : List Loc} {cells slots : Nat}
theorem vx_callVX (X : Stand p l e R s m args below meth c T locs cells slots) (hexec : p.tables.exec = Jvm.exec) {own C : String} {index : Nat} {y : MethodName} {bytes : ByteArray} {maxL : Nat} {ret : Option FieldType} {hh : List (Nat × Nat × Nat × Nat)}
    (hown : s.vm.findClass own = some m.cls) (hlink : (Cond.methodLink own index y).before args s = true) (hinst : (Cond.instanceMethod y).before args s = true) (hsel : (Cond.selects C y y).before args s = true)
    (hcode : (Cond.codeWith y bytes maxL ret hh).before args s = true) (hy : y.cls ≠ "java/lang/invoke/MethodHandle" ∧ y.cls ≠ "java/lang/invoke/VarHandle")
    {W9 : Nat} {Pre : Pt → Array Value → Prop} {Post : Pt → Array Value → Option Value → Pt → Prop} {PostX : Pt → Array Value → Addr → Pt → Prop} (hK : vx_Back l R p e below s args y 3 W9 Pre Post PostX)
    {b : Addr} {cellB : Cell} (hcell : T.heap[b]? = some cellB) (hobj : cellB.vm.isStatics = false) (hcls : s.vm.findClass C = some cellB.cls)
    {g : JFrame} (hg : g.method = m) (hsize : g.locals.size = c.maxLocals) {argsL rest : List Value} (hlen : ∀ sig, parseMethodDescriptor y.desc = some sig → argsL.length = sig.parameters.length)
    (hstack : g.stack = argsL.reverse ++ .ref b :: rest) (hW : 2 * g.monitorRoom + (rest.map fun v => v.category).sum ≤ W9) (hdg : decode c.code g.pc = .ok (.invokevirtual index, 3))
    (hpre : ∀ vm₁, s.WarmedH vm₁ → Pre ⟨T.setVm vm₁, locs, cells, slots⟩ (Value.ref b :: argsL).toArray) :
    (∃ (v : Option Value) (vm₁ : Vm) (B : Pt), s.WarmedH vm₁ ∧ Stand p l e R s m args below meth c B.U B.locs B.cells B.slots ∧ Post ⟨T.setVm vm₁, locs, cells, slots⟩ (Value.ref b :: argsL).toArray v B ∧
      ∀ target, Steps p.tables e below (B.U.setTop { g with pc := g.pc + 3, stack := v.toList ++ rest }) target → Steps p.tables e below (T.setTop g) target) ∨
    (∃ (q : Addr) (vm₁ : Vm) (B : Pt), s.WarmedH vm₁ ∧ Stand p l e R s m args below meth c B.U B.locs B.cells B.slots ∧ PostX ⟨T.setVm vm₁, locs, cells, slots⟩ (Value.ref b :: argsL).toArray q B ∧
      Steps p.tables e below (T.setTop g) ((B.U.setTop { g with stack := rest }).pushFrame (.throwing q))) := by
  obtain ⟨mk, methM, hnamed, hmethM, hstM, habM⟩ := Cond.instanceMethod_spec hinst
  obtain ⟨m8, methM', cM, hn8, hmethM', -, -, -, -, -, -, hsigM⟩ := Cond.codeWith_spec hcode
  cases Option.some.inj (hn8.symm.trans hnamed)
  cases hmethM.symm.trans hmethM'
  obtain ⟨c2, r2, m2, q1, q2, q3, q4, kP, hkP, hkPi⟩ := Cond.selects_spec hsel
  cases hcls.symm.trans q1
  cases (State.methodFound?_of_named hnamed hy).symm.trans q2
  cases hnamed.symm.trans q3
  have hselP : selectMethod e.platform s.vm cellB.cls mk = .method mk := by rw [Launch.admits_selectMethod X.admits]; exact q4
  obtain ⟨vm₁, X₁, hstep₁⟩ := X.invokevirtual hexec hown hlink hnamed hmethM hstM hkP hkPi hy (a := b) (cell := cellB) hcell
    (fun z h => by rw [h] at hobj; cases hobj) hselP hmethM habM hkP hkPi (g := g) hg (argsL := argsL) (rest := rest) (hlen _ hsigM) hstack hdg
  rcases hK m meth c ⟨T.setVm vm₁, locs, cells, slots⟩ { g with stack := rest } (.invokevirtual index) mk (Value.ref b :: argsL).toArray X₁ hg hsize hdg hW (X₁.named hnamed) (hpre vm₁ X₁.warmed) with ⟨v, B, X', hpost, hsteps⟩ | ⟨q, B, X', hpost, hsteps⟩
  · exact Or.inl ⟨v, vm₁, B, X₁.warmed, X', hpost, fun target h => hstep₁ _ fun acts => by rw [doInvoke_state]; exact hsteps.trans h⟩
  · exact Or.inr ⟨q, vm₁, B, X₁.warmed, X', hpost, hstep₁ _ fun acts => by rw [doInvoke_state]; exact hsteps⟩
theorem vx_callSX (X : Stand p l e R s m args below meth c T locs cells slots) (hexec : p.tables.exec = Jvm.exec) {own : String} {index : Nat} {y : MethodName} {bytes : ByteArray} {maxL : Nat} {ret : Option FieldType} {hh : List (Nat × Nat × Nat × Nat)}
    (hown : s.vm.findClass own = some m.cls) (hlink : (Cond.methodLink own index y).before args s = true) (hstat : (Cond.static y).before args s = true) (hinit : (Cond.initialized y.cls).before args s = true)
    (hcode : (Cond.codeWith y bytes maxL ret hh).before args s = true) (hy : y.cls ≠ "java/lang/invoke/MethodHandle" ∧ y.cls ≠ "java/lang/invoke/VarHandle")
    {W9 : Nat} {Pre : Pt → Array Value → Prop} {Post : Pt → Array Value → Option Value → Pt → Prop} {PostX : Pt → Array Value → Addr → Pt → Prop} (hK : vx_Back l R p e below s args y 3 W9 Pre Post PostX)
    {g : JFrame} (hg : g.method = m) (hsize : g.locals.size = c.maxLocals) {argsL rest : List Value} (hlen : ∀ sig, parseMethodDescriptor y.desc = some sig → argsL.length = sig.parameters.length)
    (hstack : g.stack = argsL.reverse ++ rest) (hW : 2 * g.monitorRoom + (rest.map fun v => v.category).sum ≤ W9) (hdg : decode c.code g.pc = .ok (.invokestatic index, 3))
    (hpre : ∀ vm₁, s.WarmedH vm₁ → Pre ⟨T.setVm vm₁, locs, cells, slots⟩ argsL.toArray) :
    (∃ (v : Option Value) (vm₁ : Vm) (B : Pt), s.WarmedH vm₁ ∧ Stand p l e R s m args below meth c B.U B.locs B.cells B.slots ∧ Post ⟨T.setVm vm₁, locs, cells, slots⟩ argsL.toArray v B ∧
      ∀ target, Steps p.tables e below (B.U.setTop { g with pc := g.pc + 3, stack := v.toList ++ rest }) target → Steps p.tables e below (T.setTop g) target) ∨
    (∃ (q : Addr) (vm₁ : Vm) (B : Pt), s.WarmedH vm₁ ∧ Stand p l e R s m args below meth c B.U B.locs B.cells B.slots ∧ PostX ⟨T.setVm vm₁, locs, cells, slots⟩ argsL.toArray q B ∧
      Steps p.tables e below (T.setTop g) ((B.U.setTop { g with stack := rest }).pushFrame (.throwing q))) := by
  obtain ⟨mk, methM, cM, hnamed, hmethM, -, -, -, -, -, -, hsigM⟩ := Cond.codeWith_spec hcode
  have hstatic : methM.isStatic = true := Cond.static_spec hnamed hmethM hstat
  obtain ⟨kP, hkP, -⟩ := className_of_methodNamed hnamed
  have hinitP : kP.init = .initialized := Cond.initialized_spec (findClass_of_methodNamed hnamed) hkP hinit
  obtain ⟨vm₁, X₁, hstep₁⟩ := X.invokestatic hexec hown hlink hnamed hmethM hstatic hkP hinitP hy (g := g) hg (argsL := argsL) (rest := rest) (hlen _ hsigM) hstack hdg
  rcases hK m meth c ⟨T.setVm vm₁, locs, cells, slots⟩ { g with stack := rest } (.invokestatic index) mk argsL.toArray X₁ hg hsize hdg hW (X₁.named hnamed) (hpre vm₁ X₁.warmed) with ⟨v, B, X', hpost, hsteps⟩ | ⟨q, B, X', hpost, hsteps⟩
  · exact Or.inl ⟨v, vm₁, B, X₁.warmed, X', hpost, fun target h => hstep₁ _ fun acts => by rw [doInvoke_state]; exact hsteps.trans h⟩
  · exact Or.inr ⟨q, vm₁, B, X₁.warmed, X', hpost, hstep₁ _ fun acts => by rw [doInvoke_state]; exact hsteps⟩
theorem vx_callVW (X : Stand p l e R s m args below meth c T locs cells slots) (hexec : p.tables.exec = Jvm.exec) {own C : String} {index : Nat} {y : MethodName} {bytes : ByteArray} {maxL : Nat} {ret : Option FieldType} {hh : List (Nat × Nat × Nat × Nat)}
    (hown : s.vm.findClass own = some m.cls) (hlink : (Cond.methodLink own index y).before args s = true) (hinst : (Cond.instanceMethod y).before args s = true) (hsel : (Cond.selects C y y).before args s = true)
    (hcode : (Cond.codeWith y bytes maxL ret hh).before args s = true) (hy : y.cls ≠ "java/lang/invoke/MethodHandle" ∧ y.cls ≠ "java/lang/invoke/VarHandle")
    {W9 : Nat} {Pre : Pt → Array Value → Prop} {Post : Pt → Array Value → Option Value → Pt → Prop} (hK : Back l R p e below s args y 3 W9 Pre Post)
    {b : Addr} {cellB : Cell} (hcell : T.heap[b]? = some cellB) (hobj : cellB.vm.isStatics = false) (hcls : s.vm.findClass C = some cellB.cls)
    {g : JFrame} (hg : g.method = m) (hsize : g.locals.size = c.maxLocals) {argsL rest : List Value} (hlen : ∀ sig, parseMethodDescriptor y.desc = some sig → argsL.length = sig.parameters.length)
    (hstack : g.stack = argsL.reverse ++ .ref b :: rest) (hW : 2 * g.monitorRoom + (rest.map fun v => v.category).sum ≤ W9) (hdg : decode c.code g.pc = .ok (.invokevirtual index, 3))
    (hpre : ∀ vm₁, s.WarmedH vm₁ → Pre ⟨T.setVm vm₁, locs, cells, slots⟩ (Value.ref b :: argsL).toArray) :
    ∃ (v : Option Value) (vm₁ : Vm) (B : Pt), s.WarmedH vm₁ ∧ Stand p l e R s m args below meth c B.U B.locs B.cells B.slots ∧ Post ⟨T.setVm vm₁, locs, cells, slots⟩ (Value.ref b :: argsL).toArray v B ∧
      ∀ target, Steps p.tables e below (B.U.setTop { g with pc := g.pc + 3, stack := v.toList ++ rest }) target → Steps p.tables e below (T.setTop g) target := by
  obtain ⟨mk, methM, hnamed, hmethM, hstM, habM⟩ := Cond.instanceMethod_spec hinst
  obtain ⟨m8, methM', cM, hn8, hmethM', -, -, -, -, -, -, hsigM⟩ := Cond.codeWith_spec hcode
  cases Option.some.inj (hn8.symm.trans hnamed)
  cases hmethM.symm.trans hmethM'
  obtain ⟨c2, r2, m2, q1, q2, q3, q4, kP, hkP, hkPi⟩ := Cond.selects_spec hsel
  cases hcls.symm.trans q1
  cases (State.methodFound?_of_named hnamed hy).symm.trans q2
  cases hnamed.symm.trans q3
  have hselP : selectMethod e.platform s.vm cellB.cls mk = .method mk := by rw [Launch.admits_selectMethod X.admits]; exact q4
  obtain ⟨vm₁, X₁, hstep₁⟩ := X.invokevirtual hexec hown hlink hnamed hmethM hstM hkP hkPi hy (a := b) (cell := cellB) hcell
    (fun z h => by rw [h] at hobj; cases hobj) hselP hmethM habM hkP hkPi (g := g) hg (argsL := argsL) (rest := rest) (hlen _ hsigM) hstack hdg
  obtain ⟨v, B, X', hpost, hsteps⟩ := hK m meth c ⟨T.setVm vm₁, locs, cells, slots⟩ { g with stack := rest } (.invokevirtual index) mk (Value.ref b :: argsL).toArray X₁ hg hsize hdg hW (X₁.named hnamed) (hpre vm₁ X₁.warmed)
  exact ⟨v, vm₁, B, X₁.warmed, X', hpost, fun target h => hstep₁ _ fun acts => by rw [doInvoke_state]; exact hsteps.trans h⟩
abbrev vx_CVW (R : Room) (s : State) (args : Array Value) (own C : String) (index : Nat) (y : MethodName) (bytes : ByteArray) (maxL : Nat) (ret : Option FieldType) (hh : List (Nat × Nat × Nat × Nat)) (ws : List Cond) (rm : Room) (mc ms n : Nat) : Prop :=
  (rm.cells = mc ∧ rm.slots = ms ∧ rm.frames + 1 ≤ R.frames ∧ 8 + (maxL + 11) + rm.locals ≤ R.locals ∧ (∀ w ∈ ws, ∀ (a' : Array Value) (U : State), s.WarmedH U.vm → w.before a' U = true) ∧ Cond.codeWith y bytes maxL ret hh ∈ ws) ∧
  (Cond.codeWith y bytes maxL ret hh).before args s = true ∧ (Cond.initialized y.cls).before args s = true ∧ (y.cls ≠ "java/lang/invoke/MethodHandle" ∧ y.cls ≠ "java/lang/invoke/VarHandle") ∧
  (∀ sig, parseMethodDescriptor y.desc = some sig → n = sig.parameters.length) ∧ (Cond.methodLink own index y).before args s = true ∧ (Cond.instanceMethod y).before args s = true ∧ (Cond.selects C y y).before args s = true
theorem vx_cwVW {own C : String} {index maxL mc ms : Nat} {y : MethodName} {bytes : ByteArray} {ret : Option FieldType} {hh : List (Nat × Nat × Nat × Nat)} {Ts ws ws' : List Cond} {rm : Room} (n : Nat) (ht : ∀ w ∈ Ts, w.before args s = true) (hT : GoodIn Ts (wsV own index C y ws)) (hw : ws = Cond.codeWith y bytes maxL ret hh :: ws') (hrc : rm.cells = mc) (hrs : rm.slots = ms)
    (hd : y.cls = C ∧ y.cls ≠ "java/lang/invoke/MethodHandle" ∧ y.cls ≠ "java/lang/invoke/VarHandle" ∧ (parseMethodDescriptor y.desc).map (fun d => d.parameters.length) = some n) (hR : rm.frames + 1 ≤ R.frames ∧ 8 + (maxL + 11) + rm.locals ≤ R.locals) :
    vx_CVW R s args own C index y bytes maxL ret hh ws rm mc ms n := by
  obtain ⟨hC, hd⟩ := hd
  subst hC
  have ok : ∀ w ∈ wsV own index y.cls y ws, w.before args s = true := fun w h => ht w (hT w h).1
  have hG : GoodIn Ts ws := fun w h => hT w (by unfold wsV; exact List.mem_append_right _ h)
  have hc : Cond.codeWith y bytes maxL ret hh ∈ ws := by rw [hw]; exact List.mem_cons_self
  refine ⟨⟨hrc, hrs, hR.1, hR.2, pay_in ht hG, hc⟩, ht _ (hG _ hc).1, ok _ (by simp [wsV]), ⟨hd.1, hd.2.1⟩, fun sig h => ?_, ok _ (by simp [wsV]), ok _ (by simp [wsV]), ok _ (by simp [wsV])⟩
  have h2 := hd.2.2
  rw [h] at h2
  exact (Option.some.inj h2).symm
theorem vx_runVW {y : MethodName} {bytes cc : ByteArray} {maxL nL mc ms n index : Nat} {ret : Option FieldType} {hh : List (Nat × Nat × Nat × Nat)} {ws : List Cond} {rm : Room} {Pc : Array Value → State → Prop} {Qc : Array Value → State → Outcome → State → Prop} {free : Addr → Prop} {Ts : List Cond} {own C : String} {b : Addr} {As rest : List Value} {g : JFrame}
    (S : CallFix p m c cc nL s args Ts own) (hM : Met l y ws rm Pc Qc mc ms free) (cw : vx_CVW R s args own C index y bytes maxL ret hh ws rm mc ms n) (hp : PreV s H C b Pc As)
    (hg : g.method = m) (hn : As.length = n) (hsize : g.locals.size = nL) (hstack : g.stack = As.reverse ++ .ref b :: rest) (hW : 2 * g.monitorRoom + (rest.map fun v => v.category).sum ≤ 8) (hdg : decode cc g.pc = .ok (.invokevirtual index, 3)) (hf : cells + mc ≤ R.cells ∧ slots + ms ≤ R.slots) :
    va_Run p l e R s m args below meth c H locs cells slots mc ms g rest (Qc (Value.ref b :: As).toArray) free := by
  obtain ⟨⟨hrc, hrs, hfr, hlo, hws, hcw⟩, hcode, hini, hy, hlen, hl, hin, hse⟩ := cw
  have hK : Back l R p e below s args y 3 8 (PreOf R mc ms Pc) (PostOf Qc mc ms free) := va_backW (hh := hh) (bytes := bytes) (maxL := maxL) (ret := ret) hM hp.1 hrc hrs hfr hlo hws hcw (fun a' U hW => word_at hW (Or.inl (by first | rfl | simp [Cond.onTables, Cond.keeps, Cond.steady])) hini)
  obtain ⟨hx, hb, hml, ho, -⟩ := S
  obtain ⟨-, ⟨cellB, hcB, hoB, hclB⟩, hPc⟩ := hp
  intro T hT X
  obtain ⟨v, vm₁, ⟨U', l2, c2, s2⟩, hW₁, X', ⟨g', mk, t, L, e1, e2, hq, h1, hL, h2, h3⟩, st⟩ := vx_callVW X hx (C := C) (hh := hh) (bytes := bytes) (maxL := maxL) (ret := ret) ho hl hin hse hcode hy hK (by rw [hT]; exact hcB) hoB hclB hg (hsize.trans hml.symm) (argsL := As) (rest := rest) (fun sig h => hn.trans (hlen sig h)) hstack hW (by rw [hb]; exact hdg)
    (fun vm₁ hW₁ => ⟨hf.1, hf.2, hPc (T.setVm vm₁) hT hW₁⟩)
  dsimp only [Pt.U, Pt.locs, Pt.cells, Pt.slots] at X' e1 e2 h1 h2 h3 st
  subst h1; subst h2; subst h3
  exact ⟨v, (T.setVm vm₁).calling g' mk (Value.ref b :: As).toArray, t, U', L, hT, X', hL, e1, e2, hq, st⟩
section
variable {y : MethodName} {bytes cc : ByteArray} {maxL nL mc ms n index : Nat} {ret : Option FieldType} {ws : List Cond} {rm : Room} {Pc : Array Value → State → Prop} {Qc : Array Value → State → Outcome → State → Prop} {XC : String → State → State → Prop} {free : Addr → Prop} {Ts : List Cond} {own C : String} {b : Addr} {As rest : List Value} {g : JFrame}
theorem vx_runVX {hh : List (Nat × Nat × Nat × Nat)} (S : CallFix p m c cc nL s args Ts own) (hM : vx_Met l y ws rm Pc Qc XC mc ms free) (cw : vx_CVW R s args own C index y bytes maxL ret hh ws rm mc ms n) (hp : PreV s H C b Pc As)
    (hg : g.method = m) (hn : As.length = n) (hsize : g.locals.size = nL) (hstack : g.stack = As.reverse ++ .ref b :: rest) (hW : 2 * g.monitorRoom + (rest.map fun v => v.category).sum ≤ 8) (hdg : decode cc g.pc = .ok (.invokevirtual index, 3)) (hf : cells + mc ≤ R.cells ∧ slots + ms ≤ R.slots) :
    vx_Run p l e R s m args below meth c H locs cells slots mc ms g rest (Qc (Value.ref b :: As).toArray) XC free := by
  obtain ⟨⟨hrc, hrs, hfr, hlo, hws, hcw⟩, hcode, hini, hy, hlen, hl, hin, hse⟩ := cw
  have hK : vx_Back l R p e below s args y 3 8 (PreOf R mc ms Pc) (PostOf Qc mc ms free) (vx_Post XC mc ms free) := vx_backW (hh := hh) (bytes := bytes) (maxL := maxL) (ret := ret) hM hp.1 hrc hrs hfr hlo hws hcw (fun a' U hW => word_at hW (Or.inl (by first | rfl | simp [Cond.onTables, Cond.keeps, Cond.steady])) hini)
  obtain ⟨hx, hb, hml, ho, -⟩ := S
  obtain ⟨-, ⟨cellB, hcB, hoB, hclB⟩, hPc⟩ := hp
  intro T hT X
  rcases vx_callVX X hx (C := C) (hh := hh) (bytes := bytes) (maxL := maxL) (ret := ret) ho hl hin hse hcode hy hK (by rw [hT]; exact hcB) hoB hclB hg (hsize.trans hml.symm) (argsL := As) (rest := rest) (fun sig h => hn.trans (hlen sig h)) hstack hW (by rw [hb]; exact hdg)
    (fun vm₁ hW₁ => ⟨hf.1, hf.2, hPc (T.setVm vm₁) hT hW₁⟩) with ⟨v, vm₁, ⟨U', l2, c2, s2⟩, hW₁, X', ⟨g', mk, t, L, e1, e2, hq, h1, hL, h2, h3⟩, st⟩ | ⟨q, vm₁, ⟨U', l2, c2, s2⟩, hW₁, X', ⟨g', mk, t, L, E, ce, e1, e2, hq, hce, hcv, hcl, h1, hL, h2, h3⟩, st⟩
  · dsimp only [Pt.U, Pt.locs, Pt.cells, Pt.slots] at X' e1 e2 h1 h2 h3 st
    subst h1; subst h2; subst h3
    exact Or.inl ⟨v, (T.setVm vm₁).calling g' mk (Value.ref b :: As).toArray, t, U', L, hT, X', hL, e1, e2, hq, st⟩
  · dsimp only [Pt.U, Pt.locs, Pt.cells, Pt.slots] at X' e1 e2 h1 h2 h3 st hcl
    subst h1; subst h2; subst h3
    exact Or.inr ⟨q, (T.setVm vm₁).calling g' mk (Value.ref b :: As).toArray, t, U', L, E, ce, hT, X', hL, e1, e2, hq, hce, hcv, vx_cls hW₁ hcl, st⟩
theorem vx_runSX {hh : List (Nat × Nat × Nat × Nat)} (S : CallFix p m c cc nL s args Ts own) (hM : vx_Met l y ws rm Pc Qc XC mc ms free) (cw : vx_CSW R s args own index y bytes maxL ret hh ws rm mc ms n) (hp : PreS s H Pc As)
    (hg : g.method = m) (hn : As.length = n) (hsize : g.locals.size = nL) (hstack : g.stack = As.reverse ++ rest) (hW : 2 * g.monitorRoom + (rest.map fun v => v.category).sum ≤ 8) (hdg : decode cc g.pc = .ok (.invokestatic index, 3)) (hf : cells + mc ≤ R.cells ∧ slots + ms ≤ R.slots) :
    vx_Run p l e R s m args below meth c H locs cells slots mc ms g rest (Qc As.toArray) XC free := by
  obtain ⟨⟨hrc, hrs, hfr, hlo, hws, hcw⟩, hcode, hini, hy, hlen, hl, hstt⟩ := cw
  have hK : vx_Back l R p e below s args y 3 8 (PreOf R mc ms Pc) (PostOf Qc mc ms free) (vx_Post XC mc ms free) := vx_backW (hh := hh) (bytes := bytes) (maxL := maxL) (ret := ret) hM hp.1 hrc hrs hfr hlo hws hcw (fun a' U hW => word_at hW (Or.inl (by first | rfl | simp [Cond.onTables, Cond.keeps, Cond.steady])) hini)
  obtain ⟨hx, hb, hml, ho, -⟩ := S
  intro T hT X
  rcases vx_callSX X hx (hh := hh) (bytes := bytes) (maxL := maxL) (ret := ret) ho hl hstt hini hcode hy hK hg (hsize.trans hml.symm) (argsL := As) (rest := rest) (fun sig h => hn.trans (hlen sig h)) hstack hW (by rw [hb]; exact hdg)
    (fun vm₁ hW₁ => ⟨hf.1, hf.2, hp.2 (T.setVm vm₁) hT hW₁⟩) with ⟨v, vm₁, ⟨U', l2, c2, s2⟩, hW₁, X', ⟨g', mk, t, L, e1, e2, hq, h1, hL, h2, h3⟩, st⟩ | ⟨q, vm₁, ⟨U', l2, c2, s2⟩, hW₁, X', ⟨g', mk, t, L, E, ce, e1, e2, hq, hce, hcv, hcl, h1, hL, h2, h3⟩, st⟩
  · dsimp only [Pt.U, Pt.locs, Pt.cells, Pt.slots] at X' e1 e2 h1 h2 h3 st
    subst h1; subst h2; subst h3
    exact Or.inl ⟨v, (T.setVm vm₁).calling g' mk As.toArray, t, U', L, hT, X', hL, e1, e2, hq, st⟩
  · dsimp only [Pt.U, Pt.locs, Pt.cells, Pt.slots] at X' e1 e2 h1 h2 h3 st hcl
    subst h1; subst h2; subst h3
    exact Or.inr ⟨q, (T.setVm vm₁).calling g' mk As.toArray, t, U', L, E, ce, hT, X', hL, e1, e2, hq, hce, hcv, vx_cls hW₁ hcl, st⟩
end
end VXH
theorem vx_ofWH {l : Launch} {y : MethodName} {ws ws' : List Cond} {rm : Room} {Pc : Array Value → State → Prop} {Qc : Array Value → State → Outcome → State → Prop} {XC : String → State → State → Prop} {mc ms : Nat} {free : Addr → Prop} {cc : ByteArray} {maxL : Nat} {ret : Option FieldType} {hh : List (Nat × Nat × Nat × Nat)}
    (hy : plainName y.cls = true) (hw : ws = Cond.codeWith y cc maxL ret hh :: ws')
    (body : ∀ p e s m args below meth c s₁, BodyLoose p l y (headSpec ws rm) cc maxL ret e s m args below meth c s₁ → c.maxLocals = maxL → Pc args s →
      W p l e (headSpec ws rm).room s m args below meth c s.heap [] 0 0 (vx_MQ below Qc XC args s mc ms free) (entryFrame m args maxL)) : vx_Met l y ws rm Pc Qc XC mc ms free := by
  refine MetFree.of_bodyS (code := cc) (maxLocals := maxL) (ret := ret) hy ?_ ?_
  · intro args s m h hn
    obtain ⟨m9, meth, c, hn9, h1, h2, h3, h4, -, h5, h6, -⟩ := Cond.codeWith_spec (atoms_spec (ws := ws) h _ (by rw [hw]; exact List.mem_cons_self))
    cases hn.symm.trans hn9
    exact ⟨meth, c, h1, h2, h3, h4, h5, h6⟩
  · intro p e s m args below meth c s₁ B hml hP _
    have hh0 : s₁.heap = s.heap := by rw [B.state]; rfl
    obtain ⟨t, a1, o, b1, b2, b3⟩ := body p e s m args below meth c s₁ B hml hP s₁ hh0 (Stand.of_body B)
    exact ⟨t, o, a1, b1, b2, b3⟩
/-! ===== END ===== -/
end
section
/-! ===== an exception whose own constructor's pool place isn't 7: NoSuchElementException's of this JDK ===== -/
def a_atX (own : String) (ic : Nat) (X : String) (ix : Nat) (rx : ByteArray) (names : List String) : List Cond := (Bundle.ownAtomsX own ic X ix rx names).filter vx_no
def a_rx (rx : ByteArray) (ix : Nat) : Prop := decode rx 0 = .ok (.aload_n 0, 1) ∧ decode rx 1 = .ok (.aload_n 1, 1) ∧ decode rx 2 = .ok (.invokespecial ix, 3) ∧ decode rx 5 = .ok (.return_, 1)
section AX
variable {p : Program} {l : Launch} {e : Env} {R : Room} {s : State} {m₀ : MethodId} {args : Array Value} {below : List Frame} {meth : Method} {c : Code} {W9 : State} {locs : List Loc} {cells slots : Nat}
set_option maxHeartbeats 1000000 in
/-- the constructor and the throw behind it, in a launch without stack traces -/
theorem a_ctorX (X : Stand p l e R s m₀ args below meth c W9 locs cells slots) (hexec : p.tables.exec = Jvm.exec) (htr : e.platform.stackTraces = false) {own cls : String} {names : List String} {ic ix : Nat} {rx : ByteArray} (hrx : a_rx rx ix)
    (hown : s.vm.findClass own = some m₀.cls) (hcls : Bundle.fit cls = true) (hnames : ∀ n ∈ names, Bundle.fit n = true) (h : ∀ a ∈ Bundle.ownAtomsX own ic cls ix rx names, a.before args s = true)
    (hlocs : ∀ x ∈ locs, ∀ cell, s.heap[x.base]? = some cell → cell.vm.isStatics = false)
    {a : Addr} {cX : ClassId} {kX : Class} (hfoundX : s.vm.findClass cls = some cX) (hkX : s.vm.classes[cX]? = some kX) (hcell : W9.heap[a]? = some (freshCell cX kX)) (hnew : s.heap.size ≤ a) {msg : Value} (hmsg : msg.isRef = true)
    {g : JFrame} (hg : g.method = m₀) (hsize : g.locals.size = c.maxLocals) (hlocked : g.locked = none) (hentered : g.entered = []) {rest : List Value} (hstack : g.stack = msg :: .ref a :: .ref a :: rest)
    (hd6 : decode c.code g.pc = .ok (.invokespecial ic, 3)) (hd9 : decode c.code (g.pc + 3) = .ok (.athrow, 1)) (hout : ∀ x ∈ c.exceptionTable.toList, covers x (g.pc + 3) = false)
    (hRframes : names.length + 3 < R.frames) (hRlocals : 2 * g.monitorRoom + ((Value.ref a :: rest).map fun v => v.category).sum + (13 * (names.length + 1) + 42) ≤ R.locals) (hlocks : meth.locks = false) :
    ∃ U : State, Steps p.tables e below (W9.setTop g) U ∧ U.status = .running ∧ Ended U below (.threw a) ∧ s.WarmedH U.vm ∧ s.sameButNew ({ U with vm := s.vm } : State) locs cells slots ∧ ∃ ce : Cell, U.heap[a]? = some ce ∧ ce.vm = .none ∧ s.vm.findClass cls = some ce.cls := by
  have howns : e.platform.frameOwnsMonitors = true := by rw [X.admits.platform]
  have hfin : e.platform.finalization = false := by rw [X.admits.platform]
  have hpl : e.platform.magicAccessors = ({} : Platform).magicAccessors := by rw [X.admits.platform]
  obtain ⟨x0, x1, x2, x5⟩ := hrx
  have w : ∀ x, x ∈ Bundle.ownAtomsX own ic cls ix rx names → x.holds args s none s [] = true := fun x hx => h x hx
  obtain ⟨T, Z0, L, -, Y⟩ := ThrowableC.of_atoms (args := args) howns hfin hpl (fun x hx => h x (by simp [Bundle.ownAtomsX, hx]))
  obtain ⟨Z, M, LZ, LM, hnZ⟩ := Init0T.ofS_atoms (args := args) hpl L Y (fun x hx => h x (by simp [Bundle.ownAtomsX, hx]))
  obtain ⟨P1, Ps, hlen, L1, hL, hP1m, hlink1, hlink⟩ := Bundle.chainSX (args := args) hpl hnZ x0 x1 x2 x5 names cls hcls hnames (fun x hx => h x (by simp [Bundle.ownAtomsX, hx]))
  have hfound : s.vm.findClass cls = some P1.m.cls := findClass_of_methodNamed hP1m
  cases Option.some.inj (hfoundX.symm.trans hfound)
  obtain ⟨c1, kX', hc1, hk, hord, -, -, hn6⟩ := Cond.instantiable_spec (w (.instantiable cls 6) (by simp [Bundle.ownAtomsX]))
  cases Option.some.inj (hc1.symm.trans hfound)
  cases Option.some.inj (hkX.symm.trans hk)
  have hsel0 : selectMethod e.platform s.vm P1.m.cls T.fill0 = .method T.fill0 := by
    obtain ⟨c2, r2, m2, q1, q2, q3, q4, -⟩ := Cond.selects_spec (w (.selects cls Bundle.tFill0 Bundle.tFill0) (by simp [Bundle.ownAtomsX]))
    cases Option.some.inj (q1.symm.trans hfound)
    cases Option.some.inj (q2.symm.trans (State.methodFound?_of_named Y.fill0 (by decide)))
    cases Option.some.inj (q3.symm.trans Y.fill0)
    rw [Launch.admits_selectMethod X.admits]; exact q4
  have hselF : selectMethod e.platform s.vm P1.m.cls T.fill = .method T.fill := by
    obtain ⟨c2, r2, m2, q1, q2, q3, q4, -⟩ := Cond.selects_spec (w (.selects cls Bundle.tFill Bundle.tFill) (by simp [Bundle.ownAtomsX]))
    cases Option.some.inj (q1.symm.trans hfound)
    cases Option.some.inj (q2.symm.trans (State.methodFound?_of_named Y.fill (by decide)))
    cases Option.some.inj (q3.symm.trans Y.fill)
    rw [Launch.admits_selectMethod X.admits]; exact q4
  obtain ⟨cellS0, hcS0, hiss⟩ := Y.statics
  obtain ⟨u0, hu0⟩ := Cond.staticRefV Y.unassigned L.unassignedStatic L.statics hcS0 hiss (w (.isRef (.static Bundle.tN "UNASSIGNED_STACK" Bundle.steD)) (by simp [Bundle.ownAtomsX]))
  obtain ⟨sen, hsen⟩ := Cond.staticRefV Y.sentinel L.sentinelStatic L.statics hcS0 hiss (w (.isRef (.static Bundle.tN "SUPPRESSED_SENTINEL" Bundle.listD)) (by simp [Bundle.ownAtomsX]))
  obtain ⟨cb, ib, fB, hkb, hgb, hab, hsB, -, hnB, htB, hffB⟩ := Cond.ownField (t := .object "java/lang/Object") Y.found L.cls (by decide +kernel) (w (.fieldLink Bundle.tN 198 Bundle.tN "backtrace" "Ljava/lang/Object;") (by simp [Bundle.ownAtomsX])) (w (.lays Bundle.tN Bundle.tN "backtrace" "Ljava/lang/Object;") (by simp [Bundle.ownAtomsX])) e.platform hpl
  obtain ⟨cellS, hcellS, heS, -, hkeep⟩ := X.same.2.2.2.2.2 T.aS cellS0 hcS0
  have hcellS : W9.heap[T.aS]? = some cellS := hcellS
  have hout' : ∀ i, (⟨T.aS, i⟩ : Loc) ∉ locs := fun i hmem => by
    have := hlocs _ hmem cellS0 hcS0
    rw [hiss] at this; cases this
  have hknownS : cellS.vm ≠ .unknown := by
    rw [heS]; intro hu
    rw [show cellS0.vm = .unknown from hu] at hiss
    cases hiss
  have hneS : T.aS ≠ a := Nat.ne_of_lt (Nat.lt_of_lt_of_le (Array.getElem?_eq_some_iff.mp hcS0).1 hnew)
  obtain ⟨iM, hffM⟩ := Y.msg
  obtain ⟨tyC, dC, hdC, hdnC⟩ := Cond.laysAt hfound hk Y.cause (w (.lays cls Bundle.tN "cause" "Ljava/lang/Throwable;") (by simp [Bundle.ownAtomsX]))
  obtain ⟨tyS, dS, hdS, hdnS⟩ := Cond.laysAt hfound hk Y.stack (w (.lays cls Bundle.tN "stackTrace" Bundle.steD) (by simp [Bundle.ownAtomsX]))
  obtain ⟨tyP, dP, hdP, hdnP⟩ := Cond.laysAt hfound hk Y.supp (w (.lays cls Bundle.tN "suppressedExceptions" Bundle.listD) (by simp [Bundle.ownAtomsX]))
  obtain ⟨tyM, dM, hdM, hdnM⟩ := Cond.laysAt hfound hk hffM (w (.lays cls Bundle.tN "detailMessage" "Ljava/lang/String;") (by simp [Bundle.ownAtomsX]))
  obtain ⟨tyB, dB, hdB, hdnB⟩ := Cond.laysAt hfound hk hffB (w (.lays cls Bundle.tN "backtrace" "Ljava/lang/Object;") (by simp [Bundle.ownAtomsX]))
  have bC := Cond.laysApart hdB hdC hdnB hdnC (by rw [hnB, Y.causeName]; decide)
  have bS := Cond.laysApart hdB hdS hdnB hdnS (by rw [hnB, Y.stackName]; decide)
  have bP := Cond.laysApart hdB hdP hdnB hdnP (by rw [hnB, Y.suppName]; decide)
  have hskip : SkipFacts T e.platform s (fun u => u) u0 ((preparedCellV T.toThrowableT (freshCell P1.m.cls kX) a u0 sen).withEntry W9.cur) :=
    ⟨{ ci198 := cb, i198 := ib, fBack := fB }, ⟨hkb, hgb, hab, hsB⟩, by
      have := fresh_default (c := P1.m.cls) tyB
      rw [htB] at this
      simpa [preparedCellV, Cell.setSlot, Cell.withEntry, Array.getElem?_setIfInBounds, bC, bS, bP, bC.symm, bS.symm, bP.symm, defaultValue] using this, fun _ _ => rfl⟩
  obtain ⟨tm, methC, cdC, kC, vm₁, hnC, -, -, -, -, -, -, -, hW₁, st1⟩ := Steps.initColdS (tb := p.tables) (e := e) (below := below) (s := s) (U := W9) X.here hexec X.warmed hpl hown (t := Bundle.initS cls) rfl rfl (Bundle.fit_spec hcls).2
    (w (.methodLink own ic (Bundle.initS cls)) (by simp [Bundle.ownAtomsX])) (h (.instanceMethod (Bundle.initS cls)) (by cases names <;> simp [Bundle.ownAtomsX, Bundle.chainSAtomsX, Bundle.passSAtoms])) (bytes := rx) (maxL := 2) (h (.code (Bundle.initS cls) rx 2 none) (by cases names <;> simp [Bundle.ownAtomsX, Bundle.chainSAtomsX, Bundle.passSAtoms]))
    (f := g) hg (a := a) (msg := msg) (rest := .ref a :: rest) hstack hd6
  cases Option.some.inj (hnC.symm.trans hP1m)
  have X₁ := X.noted hW₁
  obtain ⟨vm₂, X₂, st2⟩ := X₁.ctorMessageOffV hexec (g := { g with stack := .ref a :: rest }) hg hsize T L Z LZ M LM (P1 :: Ps)
    (fun P hP => by rcases List.mem_cons.mp hP with rfl | hP; exact L1; exact hL P hP) ⟨hlink1, hlink⟩ (u0 := u0) (sen := sen) (self := a) hmsg (cell := freshCell P1.m.cls kX) (cellS := cellS)
    hcell (fun _ => by simp) (by simp) rfl rfl hsel0 hselF hcellS hneS hknownS (by rw [hkeep _ (hout' _)]; exact hu0) (by rw [hkeep _ (hout' _)]; exact hsen)
    (Takes.of_laid hk hord tyC (by rw [Y.causeType]; rfl)) (Takes.of_laid hk hord tyS (by rw [Y.stackType]; exact fits_refV_array _ u0)) (Takes.of_laid hk hord tyP (by rw [Y.suppType]; exact fits_refV_object _ sen))
    (Takes.of_laid hk hord tyM (by rw [Y.msgType]; exact fits_refV_object _ ⟨msg, hmsg⟩)) Y.objLocals hskip htr [] hd6
    (by simp only [List.length_cons, hlen]; omega) (by simp only [List.length_cons, hlen]; exact hRlocals)
  obtain ⟨hwalk, hrun, hended, hWU, hsame⟩ := X₂.athrowLeaves hexec (g := { g with stack := .ref a :: rest, pc := g.pc + 3 }) hg hlocked hentered hout (a := a) (rest := rest) rfl hd9 hlocks
  have hlt : a < ((W9.setVm vm₁).setVm vm₂).heap.size := (Array.getElem?_eq_some_iff.mp hcell).1
  have hU := heapAt_setCell_self (s := (W9.setVm vm₁).setVm vm₂) (plainBareV T.toThrowableT (freshCell P1.m.cls kX) a u0 sen msg) hlt
  refine ⟨_, st1 _ (fun acts => ?_), hrun, hended, hWU, hsame.weaken (fun y hy hlt' => ?_) (Nat.le_refl _) (Nat.le_refl _), _, hU, rfl, hfound⟩
  · rw [doInvoke_state]
    exact st2 _ hwalk
  · rcases List.mem_append.mp hy with h1 | h1
    · exact h1
    · exfalso
      have hb : y.base = a := by
        simp only [List.mem_cons, List.not_mem_nil, or_false] at h1
        rcases h1 with rfl | rfl | rfl | rfl | rfl <;> rfl
      rw [hb] at hlt'
      exact Nat.not_lt.mpr hnew hlt'
end AX
section AT
variable {p : Program} {l : Launch} {e : Env} {R : Room} {s : State} {m : MethodId} {args : Array Value} {below : List Frame} {meth : Method} {c : Code} {H : Heap} {locs : List Loc} {cells slots : Nat} {Q : State → Prop}
variable {mc ms : Nat} {free : Addr → Prop} {A0 A1 : Nat → Prop} {H0 : Heap} {a : Array Value} {ls : Array Slot} {st0 rest : List Value}
variable {Qc : Array Value → State → Outcome → State → Prop} {XC : String → State → State → Prop}
theorem ax_throwS {cc : ByteArray} {pc : Nat} (hexec : p.tables.exec = Jvm.exec) (hb : c.code = cc) (hl : l.stackTraces = false) {own cls text : String} {names : List String} {ik is ic ix mc ms sa : Nat} {rx : ByteArray} (hrx : a_rx rx ix) {A : Nat → Prop}
    (hown : s.vm.findClass own = some m.cls) (hcls : Bundle.fit cls = true) (hnames : ∀ n ∈ names, Bundle.fit n = true)
    (hk : (Cond.classLink own ik cls).before args s = true) (hini : (Cond.initialized cls).before args s = true) (hstr : vk_R own is text sa s) (hat : ∀ w ∈ a_atX own ic cls ix rx names, w.before args s = true)
    (hgood : ∀ w ∈ Cond.classLink own ik cls :: Cond.initialized cls :: a_atX own ic cls ix rx names, vx_ot w = true)
    (hU : vx_Zq Bundle.tN "UNASSIGNED_STACK" Bundle.steD A s s.heap) (hN : vx_Zq Bundle.tN "SUPPRESSED_SENTINEL" Bundle.listD A s s.heap) (hS : va_S A s.heap H locs) (hsize : ls.size = c.maxLocals)
    (d0 : decode cc pc = .ok (.new ik, 3)) (d3 : decode cc (pc + 3) = .ok (.dup, 1)) (d4 : decode cc (pc + 4) = .ok (.ldc is, 2)) (d6 : decode cc (pc + 6) = .ok (.invokespecial ic, 3)) (d9 : decode cc (pc + 9) = .ok (.athrow, 1))
    (hout : ∀ x ∈ c.exceptionTable.toList, covers x (pc + 9) = false)
    (hRframes : names.length + 3 < R.frames) (hRlocals : (rest.map fun v => v.category).sum + (13 * (names.length + 1) + 43) ≤ R.locals) (hRcells : cells + 1 ≤ R.cells) (hRslots : slots + 6 ≤ R.slots) (hlocks : meth.locks = false)
    (hx : ∀ t : State, s.vm.Alike t.vm → H.size ≤ t.heap.size → (∀ q : Nat, q < H.size → t.heap[q]? = H[q]?) → XC cls s t)
    (hf : ∀ z ∈ locs, free z.base) (hc : cells + 1 ≤ mc) (hs : slots + 6 ≤ ms) :
    W p l e R s m args below meth c H locs cells slots (vx_MQ below Qc XC args s mc ms free) (F0 m pc ls rest) := by
  intro T hT X
  have htr : e.platform.stackTraces = false := (show e.platform.stackTraces = l.stackTraces by rw [X.admits.platform]).trans hl
  have Y := vx_rebase X (R' := { frames := R.frames, locals := R.locals, cells := 1, slots := 6 }) (Nat.le_refl _) (Nat.le_refl _) hRcells hRslots
  obtain ⟨s', hA⟩ : ∃ z, z = (T.setVm s.vm).setFrames (.invoking m args :: below) := ⟨_, rfl⟩
  rw [← hA] at Y
  have hvm : s'.vm = s.vm := by rw [hA]; rfl
  have hhp : s'.heap = H := by rw [hA]; exact hT
  have hW0 : s.WarmedH s'.vm := by rw [hvm]; exact State.WarmedH.refl s
  have hat' : ∀ w ∈ a_atX own ic cls ix rx names, w.before args s' = true := fun w hw => vx_ot_at hW0 hvm.symm (hgood w (List.mem_cons_of_mem _ (List.mem_cons_of_mem _ hw))) (hat w hw)
  have hk' : (Cond.classLink own ik cls).before args s' = true := vx_ot_at hW0 hvm.symm (hgood _ List.mem_cons_self) hk
  have hini' : (Cond.initialized cls).before args s' = true := vx_ot_at hW0 hvm.symm (hgood _ (List.mem_cons_of_mem _ List.mem_cons_self)) hini
  have hU' : vx_Zq Bundle.tN "UNASSIGNED_STACK" Bundle.steD A s' s'.heap := by rw [hhp]; exact vx_Zq.moved hW0.alike (hU.kept hS.2.1)
  have hN' : vx_Zq Bundle.tN "SUPPRESSED_SENTINEL" Bundle.listD A s' s'.heap := by rw [hhp]; exact vx_Zq.moved hW0.alike (hN.kept hS.2.1)
  have h : ∀ w ∈ Bundle.ownAtomsX own ic cls ix rx names, w.before args s' = true := vx_own hat' (vx_isRefq hU'.1) (vx_isRefq hN'.1) hU'.2.word hN'.2.word
  have hown' : s'.vm.findClass own = some m.cls := by rw [hvm]; exact hown
  have hins : (Cond.instantiable cls 6).before args s' = true := h _ (by simp [Bundle.ownAtomsX])
  obtain ⟨vm₁, cX, kX, hfX, hkX, -, -, X₁, st1⟩ := Y.newCold hexec (own := own) (C := cls) (index := ik) (n := 6) hown' hk' hins hini'
    (g := F0 m pc ls rest) rfl (by rw [hb]; exact d0) (Nat.le_refl _) (Nat.le_refl _)
  generalize hT1 : (T.setVm vm₁).pushCell { cls := cX, slots := kX.instanceTypes.map defaultValue, vm := .none } = T1 at X₁ st1
  have hcat : (Value.ref T.heap.size).category = 1 := rfl
  have hcellA : T1.heap[T.heap.size]? = some (freshCell cX kX) := by rw [← hT1]; exact State.heap_pushCell_size _ _
  have d3' : decode c.code (pc + 3) = .ok (.dup, 1) := by rw [hb]; exact d3
  have d4' : decode c.code (pc + 4) = .ok (.ldc is, 2) := by rw [hb]; exact d4
  have hstr' : vk_R own is text sa s' := vk_R.warm hW0 hstr
  obtain ⟨U, hsteps, hrun, hend, hW, hsame, ce, hce, hOv, hOc⟩ := a_ctorX X₁ hexec htr hrx (own := own) (cls := cls) (names := names) (ic := ic) hown' hcls hnames h (fun x hx => nomatch hx) hfX hkX hcellA (by rw [hhp, hT]; exact Nat.le_refl _) (msg := .ref sa) rfl
    (g := { method := m, pc := pc + 6, locals := ls, stack := .ref sa :: .ref T.heap.size :: .ref T.heap.size :: rest, locked := none }) rfl hsize rfl rfl (rest := rest) rfl
    (by rw [hb]; exact d6) (by rw [hb]; exact d9) hout hRframes (by simp only [List.map_cons, List.sum_cons, hcat]; omega) hlocks
  obtain ⟨f1, f2⟩ := vx_frame hsame
  rw [hhp] at f1 f2
  have hWs : s.WarmedH U.vm := State.WarmedH.trans hW0 hW
  have hcl : s.vm.findClass cls = some ce.cls := by
    have h9 := hOc
    rw [hvm] at h9
    exact h9
  have hall : s.sameButNew ({ U with vm := s.vm } : State) locs mc ms := by
    subst hA
    obtain ⟨e1, e2⟩ := hsame
    rw [State.setFrames_setFrames] at e1
    have h2 : (T.setVm s.vm).sameButNew ({ U with vm := s.vm } : State) [] (0 + 1) (0 + 6) := ⟨e1, e2⟩
    have h3 := X.same.trans h2
    rw [List.append_nil] at h3
    exact h3.mono hc hs
  refine ⟨U, ?_, .threw T.heap.size, hrun, hend, Or.inr ⟨T.heap.size, rfl, cls, ce, locs, hx U hWs.alike f1 (fun q hq => f2 q hq (fun z hz => nomatch hz)), hce, hOv, hcl, hWs, hall, hf⟩⟩
  refine st1 _ ?_
  show Steps p.tables e below (T1.setTop { method := m, pc := pc + 3, locals := ls, stack := .ref T.heap.size :: rest, locked := none }) _
  jvm_step X₁.here [X₁.here.top, hexec, d3', Value.category]
  exact X₁.ldcString hexec (own := own) (text := text) (index := is) (a := sa) hown' hstr'.1 hstr'.2
    (g := { method := m, pc := pc + 4, locals := ls, stack := .ref T.heap.size :: .ref T.heap.size :: rest, locked := none }) rfl d4' _ hsteps
theorem ax_throwW {cc : ByteArray} {pc : Nat} (hexec : p.tables.exec = Jvm.exec) (hb : c.code = cc) (hl : l.stackTraces = false) {own cls text : String} {names : List String} {ik is ic ix mc ms sa : Nat} {rx : ByteArray} (hrx : a_rx rx ix) {A : Nat → Prop}
    (hown : s.vm.findClass own = some m.cls) (hcls : Bundle.fit cls = true) (hnames : ∀ n ∈ names, Bundle.fit n = true)
    (hk : (Cond.classLink own ik cls).before args s = true) (hini : (Cond.initialized cls).before args s = true) (hstr : vk_R own is text sa s) (hat : ∀ w ∈ a_atX own ic cls ix rx names, w.before args s = true)
    (hgood : ∀ w ∈ Cond.classLink own ik cls :: Cond.initialized cls :: a_atX own ic cls ix rx names, vx_ot w = true)
    (hU : vx_Zq Bundle.tN "UNASSIGNED_STACK" Bundle.steD A s s.heap) (hN : vx_Zq Bundle.tN "SUPPRESSED_SENTINEL" Bundle.listD A s s.heap) (hS : va_S A s.heap H locs) (hsize : ls.size = c.maxLocals)
    (d0 : decode cc pc = .ok (.new ik, 3)) (d3 : decode cc (pc + 3) = .ok (.dup, 1)) (d4 : decode cc (pc + 4) = .ok (.ldc_w is, 3)) (d7 : decode cc (pc + 7) = .ok (.invokespecial ic, 3)) (d10 : decode cc (pc + 10) = .ok (.athrow, 1))
    (hout : ∀ x ∈ c.exceptionTable.toList, covers x (pc + 10) = false)
    (hRframes : names.length + 3 < R.frames) (hRlocals : (rest.map fun v => v.category).sum + (13 * (names.length + 1) + 43) ≤ R.locals) (hRcells : cells + 1 ≤ R.cells) (hRslots : slots + 6 ≤ R.slots) (hlocks : meth.locks = false)
    (hx : ∀ t : State, s.vm.Alike t.vm → H.size ≤ t.heap.size → (∀ q : Nat, q < H.size → t.heap[q]? = H[q]?) → XC cls s t)
    (hf : ∀ z ∈ locs, free z.base) (hc : cells + 1 ≤ mc) (hs : slots + 6 ≤ ms) :
    W p l e R s m args below meth c H locs cells slots (vx_MQ below Qc XC args s mc ms free) (F0 m pc ls rest) := by
  intro T hT X
  have htr : e.platform.stackTraces = false := (show e.platform.stackTraces = l.stackTraces by rw [X.admits.platform]).trans hl
  have Y := vx_rebase X (R' := { frames := R.frames, locals := R.locals, cells := 1, slots := 6 }) (Nat.le_refl _) (Nat.le_refl _) hRcells hRslots
  obtain ⟨s', hA⟩ : ∃ z, z = (T.setVm s.vm).setFrames (.invoking m args :: below) := ⟨_, rfl⟩
  rw [← hA] at Y
  have hvm : s'.vm = s.vm := by rw [hA]; rfl
  have hhp : s'.heap = H := by rw [hA]; exact hT
  have hW0 : s.WarmedH s'.vm := by rw [hvm]; exact State.WarmedH.refl s
  have hat' : ∀ w ∈ a_atX own ic cls ix rx names, w.before args s' = true := fun w hw => vx_ot_at hW0 hvm.symm (hgood w (List.mem_cons_of_mem _ (List.mem_cons_of_mem _ hw))) (hat w hw)
  have hk' : (Cond.classLink own ik cls).before args s' = true := vx_ot_at hW0 hvm.symm (hgood _ List.mem_cons_self) hk
  have hini' : (Cond.initialized cls).before args s' = true := vx_ot_at hW0 hvm.symm (hgood _ (List.mem_cons_of_mem _ List.mem_cons_self)) hini
  have hU' : vx_Zq Bundle.tN "UNASSIGNED_STACK" Bundle.steD A s' s'.heap := by rw [hhp]; exact vx_Zq.moved hW0.alike (hU.kept hS.2.1)
  have hN' : vx_Zq Bundle.tN "SUPPRESSED_SENTINEL" Bundle.listD A s' s'.heap := by rw [hhp]; exact vx_Zq.moved hW0.alike (hN.kept hS.2.1)
  have h : ∀ w ∈ Bundle.ownAtomsX own ic cls ix rx names, w.before args s' = true := vx_own hat' (vx_isRefq hU'.1) (vx_isRefq hN'.1) hU'.2.word hN'.2.word
  have hown' : s'.vm.findClass own = some m.cls := by rw [hvm]; exact hown
  have hins : (Cond.instantiable cls 6).before args s' = true := h _ (by simp [Bundle.ownAtomsX])
  obtain ⟨vm₁, cX, kX, hfX, hkX, -, -, X₁, st1⟩ := Y.newCold hexec (own := own) (C := cls) (index := ik) (n := 6) hown' hk' hins hini'
    (g := F0 m pc ls rest) rfl (by rw [hb]; exact d0) (Nat.le_refl _) (Nat.le_refl _)
  generalize hT1 : (T.setVm vm₁).pushCell { cls := cX, slots := kX.instanceTypes.map defaultValue, vm := .none } = T1 at X₁ st1
  have hcat : (Value.ref T.heap.size).category = 1 := rfl
  have hcellA : T1.heap[T.heap.size]? = some (freshCell cX kX) := by rw [← hT1]; exact State.heap_pushCell_size _ _
  have d3' : decode c.code (pc + 3) = .ok (.dup, 1) := by rw [hb]; exact d3
  have d4' : decode c.code (pc + 4) = .ok (.ldc_w is, 3) := by rw [hb]; exact d4
  have hstr' : vk_R own is text sa s' := vk_R.warm hW0 hstr
  obtain ⟨U, hsteps, hrun, hend, hW, hsame, ce, hce, hOv, hOc⟩ := a_ctorX X₁ hexec htr hrx (own := own) (cls := cls) (names := names) (ic := ic) hown' hcls hnames h (fun x hx => nomatch hx) hfX hkX hcellA (by rw [hhp, hT]; exact Nat.le_refl _) (msg := .ref sa) rfl
    (g := { method := m, pc := pc + 7, locals := ls, stack := .ref sa :: .ref T.heap.size :: .ref T.heap.size :: rest, locked := none }) rfl hsize rfl rfl (rest := rest) rfl
    (by rw [hb]; exact d7) (by rw [hb]; exact d10) hout hRframes (by simp only [List.map_cons, List.sum_cons, hcat]; omega) hlocks
  obtain ⟨f1, f2⟩ := vx_frame hsame
  rw [hhp] at f1 f2
  have hWs : s.WarmedH U.vm := State.WarmedH.trans hW0 hW
  have hcl : s.vm.findClass cls = some ce.cls := by
    have h9 := hOc
    rw [hvm] at h9
    exact h9
  have hall : s.sameButNew ({ U with vm := s.vm } : State) locs mc ms := by
    subst hA
    obtain ⟨e1, e2⟩ := hsame
    rw [State.setFrames_setFrames] at e1
    have h2 : (T.setVm s.vm).sameButNew ({ U with vm := s.vm } : State) [] (0 + 1) (0 + 6) := ⟨e1, e2⟩
    have h3 := X.same.trans h2
    rw [List.append_nil] at h3
    exact h3.mono hc hs
  refine ⟨U, ?_, .threw T.heap.size, hrun, hend, Or.inr ⟨T.heap.size, rfl, cls, ce, locs, hx U hWs.alike f1 (fun q hq => f2 q hq (fun z hz => nomatch hz)), hce, hOv, hcl, hWs, hall, hf⟩⟩
  refine st1 _ ?_
  show Steps p.tables e below (T1.setTop { method := m, pc := pc + 3, locals := ls, stack := .ref T.heap.size :: rest, locked := none }) _
  jvm_step X₁.here [X₁.here.top, hexec, d3', Value.category]
  exact X₁.ldcStringW hexec (own := own) (text := text) (index := is) (a := sa) hown' hstr'.1 hstr'.2
    (g := { method := m, pc := pc + 4, locals := ls, stack := .ref T.heap.size :: .ref T.heap.size :: rest, locked := none }) rfl d4' _ hsteps
end AT
end
section
/-! ===== BEGIN printed: names, fields, word lists, decode rows ===== -/
def RX0 : String := "StoutShelf$Catalogue"
def TX0 : u_T := fun k => match k with
  | 0 => ("StoutShelf$Catalogue", "told", "LStoutShelf$Told;", true)
  | 1 => ("StoutShelf$Catalogue", "now", "LStoutShelf$Standing;", true)
  | 2 => ("StoutShelf$Catalogue", "sets", "[I", true)
  | 3 => ("StoutShelf$Catalogue", "before", "[I", true)
  | _ => ("StoutShelf$Catalogue", "behind", "[I", true)
def tyX0 : Nat → FieldType := fun k => match k with
  | 0 => .object "StoutShelf$Told"
  | 1 => .object "StoutShelf$Standing"
  | 2 => .array .int
  | 3 => .array .int
  | _ => .array .int
abbrev wsX00 : List Cond := u_ws RX0 TX0 5
theorem nmX0 : ∀ a, a < 5 → ∀ b, b < 5 → a ≠ b → (TX0 a).2.1 ≠ (TX0 b).2.1 := by decide +kernel
theorem tyX0_ok : ∀ k, k < 5 → parseFieldDescriptor (TX0 k).2.2.1 = some (tyX0 k) := by decide +kernel
abbrev cX0_init : ByteArray := prog_2_method_1_code
def yX0_init : MethodName := ⟨RX0, "<init>", "(LStoutShelf$Told;LStoutShelf$Standing;)V"⟩
abbrev cX0_ordersOfAll : ByteArray := prog_2_method_2_code
def yX0_ordersOfAll : MethodName := ⟨RX0, "ordersOfAll", "()I"⟩
abbrev cX0_ordersWith : ByteArray := prog_2_method_3_code
def yX0_ordersWith : MethodName := ⟨RX0, "ordersWith", "(II)I"⟩
abbrev cX0_smallestKnot : ByteArray := prog_2_method_4_code
def yX0_smallestKnot : MethodName := ⟨RX0, "smallestKnot", "()I"⟩
abbrev cX0_allEvents : ByteArray := prog_2_method_5_code
def yX0_allEvents : MethodName := ⟨RX0, "allEvents", "()I"⟩
abbrev cX0_reckonBefore : ByteArray := prog_2_method_6_code
def yX0_reckonBefore : MethodName := ⟨RX0, "reckonBefore", "(I)V"⟩
abbrev cX0_reckonBehind : ByteArray := prog_2_method_7_code
def yX0_reckonBehind : MethodName := ⟨RX0, "reckonBehind", "(I)V"⟩
abbrev cX0_goTo : ByteArray := prog_2_method_8_code
def yX0_goTo : MethodName := ⟨RX0, "goTo", "(I)V"⟩
abbrev cX0_canFollow : ByteArray := prog_2_method_9_code
def yX0_canFollow : MethodName := ⟨RX0, "canFollow", "(II)Z"⟩
def RX1 : String := "StoutShelf$Law"
def TX1 : u_T := fun k => match k with
  | 0 => ("StoutShelf$Law", "code", "[I", true)
  | 1 => ("StoutShelf$Law", "size", "I", false)
  | 2 => ("StoutShelf$Law", "stack", "[I", true)
  | _ => ("StoutShelf$Law", "top", "I", false)
def tyX1 : Nat → FieldType := fun k => match k with
  | 0 => .array .int
  | 1 => .int
  | 2 => .array .int
  | _ => .int
abbrev wsX10 : List Cond := u_ws RX1 TX1 4
theorem nmX1 : ∀ a, a < 4 → ∀ b, b < 4 → a ≠ b → (TX1 a).2.1 ≠ (TX1 b).2.1 := by decide +kernel
theorem tyX1_ok : ∀ k, k < 4 → parseFieldDescriptor (TX1 k).2.2.1 = some (tyX1 k) := by decide +kernel
abbrev cX1_init : ByteArray := prog_3_method_1_code
def yX1_init : MethodName := ⟨RX1, "<init>", "()V"⟩
abbrev cX1_clear : ByteArray := prog_3_method_2_code
def yX1_clear : MethodName := ⟨RX1, "clear", "()V"⟩
abbrev cX1_add : ByteArray := prog_3_method_3_code
def yX1_add : MethodName := ⟨RX1, "add", "(I)V"⟩
abbrev cX1_take : ByteArray := prog_3_method_4_code
def yX1_take : MethodName := ⟨RX1, "take", "(LStoutShelf$Law;)V"⟩
abbrev cX1_reckon : ByteArray := prog_3_method_5_code
def yX1_reckon : MethodName := ⟨RX1, "reckon", "(IIII)I"⟩
abbrev cX1_push : ByteArray := prog_3_method_6_code
def yX1_push : MethodName := ⟨RX1, "push", "(I)V"⟩
abbrev cX1_turn : ByteArray := prog_3_method_7_code
def yX1_turn : MethodName := ⟨RX1, "turn", "()V"⟩
abbrev cX1_choose : ByteArray := prog_3_method_8_code
def yX1_choose : MethodName := ⟨RX1, "choose", "()V"⟩
abbrev cX1_work : ByteArray := prog_3_method_9_code
def yX1_work : MethodName := ⟨RX1, "work", "(I)V"⟩
abbrev cX1_join : ByteArray := prog_3_method_10_code
def yX1_join : MethodName := ⟨RX1, "join", "(III)I"⟩
abbrev cX1_bit : ByteArray := prog_3_method_11_code
def yX1_bit : MethodName := ⟨RX1, "bit", "(Z)I"⟩
def RX2 : String := "StoutShelf$Pair"
def TX2 : u_T := fun k => match k with
  | 0 => ("StoutShelf$Pair", "told", "LStoutShelf$Told;", true)
  | 1 => ("StoutShelf$Pair", "states", "[I", true)
  | 2 => ("StoutShelf$Pair", "table", "[I", true)
  | 3 => ("StoutShelf$Pair", "count", "I", false)
  | _ => ("StoutShelf$Pair", "spent", "Z", false)
def tyX2 : Nat → FieldType := fun k => match k with
  | 0 => .object "StoutShelf$Told"
  | 1 => .array .int
  | 2 => .array .int
  | 3 => .int
  | _ => .boolean
abbrev wsX20 : List Cond := u_ws RX2 TX2 5
theorem nmX2 : ∀ a, a < 5 → ∀ b, b < 5 → a ≠ b → (TX2 a).2.1 ≠ (TX2 b).2.1 := by decide +kernel
theorem tyX2_ok : ∀ k, k < 5 → parseFieldDescriptor (TX2 k).2.2.1 = some (tyX2 k) := by decide +kernel
abbrev cX2_init : ByteArray := prog_4_method_1_code
def yX2_init : MethodName := ⟨RX2, "<init>", "(LStoutShelf$Told;)V"⟩
abbrev cX2_fewestMoves : ByteArray := prog_4_method_2_code
def yX2_fewestMoves : MethodName := ⟨RX2, "fewestMoves", "(IIII)I"⟩
abbrev cX2_goOn : ByteArray := prog_4_method_3_code
def yX2_goOn : MethodName := ⟨RX2, "goOn", "(III)V"⟩
abbrev cX2_tradeForEach : ByteArray := prog_4_method_4_code
def yX2_tradeForEach : MethodName := ⟨RX2, "tradeForEach", "(IIIIII)V"⟩
abbrev cX2_meet : ByteArray := prog_4_method_5_code
def yX2_meet : MethodName := ⟨RX2, "meet", "(II)V"⟩
abbrev cX2_meetNew : ByteArray := prog_4_method_6_code
def yX2_meetNew : MethodName := ⟨RX2, "meetNew", "(II)V"⟩
def RX3 : String := "StoutShelf$Reading"
def TX3 : u_T := fun k => match k with
  | 0 => ("StoutShelf$Reading", "text", "LStoutShelf$Text;", true)
  | 1 => ("StoutShelf$Reading", "draft", "LStoutShelf$Told;", true)
  | 2 => ("StoutShelf$Reading", "found", "I", false)
  | _ => ("StoutShelf$Reading", "place", "I", false)
def tyX3 : Nat → FieldType := fun k => match k with
  | 0 => .object "StoutShelf$Text"
  | 1 => .object "StoutShelf$Told"
  | 2 => .int
  | _ => .int
abbrev wsX30 : List Cond := u_ws RX3 TX3 4
theorem nmX3 : ∀ a, a < 4 → ∀ b, b < 4 → a ≠ b → (TX3 a).2.1 ≠ (TX3 b).2.1 := by decide +kernel
theorem tyX3_ok : ∀ k, k < 4 → parseFieldDescriptor (TX3 k).2.2.1 = some (tyX3 k) := by decide +kernel
abbrev cX3_init : ByteArray := prog_5_method_1_code
def yX3_init : MethodName := ⟨RX3, "<init>", "(LStoutShelf$Text;LStoutShelf$Told;)V"⟩
abbrev cX3_readAll : ByteArray := prog_5_method_2_code
def yX3_readAll : MethodName := ⟨RX3, "readAll", "(I)I"⟩
abbrev cX3_refuse : ByteArray := prog_5_method_3_code
def yX3_refuse : MethodName := ⟨RX3, "refuse", "(I)Z"⟩
abbrev cX3_readReader : ByteArray := prog_5_method_4_code
def yX3_readReader : MethodName := ⟨RX3, "readReader", "()Z"⟩
abbrev cX3_readBook : ByteArray := prog_5_method_5_code
def yX3_readBook : MethodName := ⟨RX3, "readBook", "()Z"⟩
abbrev cX3_readPart : ByteArray := prog_5_method_6_code
def yX3_readPart : MethodName := ⟨RX3, "readPart", "(II)Z"⟩
abbrev cX3_readPerhaps : ByteArray := prog_5_method_7_code
def yX3_readPerhaps : MethodName := ⟨RX3, "readPerhaps", "(Ljava/lang/String;I)Z"⟩
abbrev cX3_readOwner : ByteArray := prog_5_method_8_code
def yX3_readOwner : MethodName := ⟨RX3, "readOwner", "(I)Z"⟩
abbrev cX3_readWants : ByteArray := prog_5_method_9_code
def yX3_readWants : MethodName := ⟨RX3, "readWants", "()Z"⟩
abbrev cX3_readLaw : ByteArray := prog_5_method_10_code
def yX3_readLaw : MethodName := ⟨RX3, "readLaw", "()Z"⟩
abbrev cX3_readExpr : ByteArray := prog_5_method_11_code
def yX3_readExpr : MethodName := ⟨RX3, "readExpr", "(I)Z"⟩
abbrev cX3_readLevel : ByteArray := prog_5_method_12_code
def yX3_readLevel : MethodName := ⟨RX3, "readLevel", "(II)Z"⟩
abbrev cX3_operatorOf : ByteArray := prog_5_method_13_code
def yX3_operatorOf : MethodName := ⟨RX3, "operatorOf", "(I)I"⟩
abbrev cX3_readTest : ByteArray := prog_5_method_14_code
def yX3_readTest : MethodName := ⟨RX3, "readTest", "(I)Z"⟩
abbrev cX3_readSingle : ByteArray := prog_5_method_15_code
def yX3_readSingle : MethodName := ⟨RX3, "readSingle", "(I)Z"⟩
abbrev cX3_readIf : ByteArray := prog_5_method_16_code
def yX3_readIf : MethodName := ⟨RX3, "readIf", "(I)Z"⟩
abbrev cX3_readValue : ByteArray := prog_5_method_17_code
def yX3_readValue : MethodName := ⟨RX3, "readValue", "()Z"⟩
abbrev cX3_needNumber : ByteArray := prog_5_method_18_code
def yX3_needNumber : MethodName := ⟨RX3, "needNumber", "()Z"⟩
abbrev cX3_needToldAhead : ByteArray := prog_5_method_19_code
def yX3_needToldAhead : MethodName := ⟨RX3, "needToldAhead", "(I)Z"⟩
abbrev cX3_needSign : ByteArray := prog_5_method_20_code
def yX3_needSign : MethodName := ⟨RX3, "needSign", "(C)Z"⟩
abbrev cX3_needWord : ByteArray := prog_5_method_21_code
def yX3_needWord : MethodName := ⟨RX3, "needWord", "(Ljava/lang/String;)Z"⟩
def RX4 : String := "StoutShelf$Standing"
def TX4 : u_T := fun k => match k with
  | 0 => ("StoutShelf$Standing", "sets", "[I", true)
  | 1 => ("StoutShelf$Standing", "moves", "[I", true)
  | 2 => ("StoutShelf$Standing", "moveCount", "I", false)
  | 3 => ("StoutShelf$Standing", "events", "[I", true)
  | _ => ("StoutShelf$Standing", "eventCount", "I", false)
def tyX4 : Nat → FieldType := fun k => match k with
  | 0 => .array .int
  | 1 => .array .int
  | 2 => .int
  | 3 => .array .int
  | _ => .int
abbrev wsX40 : List Cond := u_ws RX4 TX4 5
theorem nmX4 : ∀ a, a < 5 → ∀ b, b < 5 → a ≠ b → (TX4 a).2.1 ≠ (TX4 b).2.1 := by decide +kernel
theorem tyX4_ok : ∀ k, k < 5 → parseFieldDescriptor (TX4 k).2.2.1 = some (tyX4 k) := by decide +kernel
abbrev cX4_init : ByteArray := prog_6_method_1_code
def yX4_init : MethodName := ⟨RX4, "<init>", "()V"⟩
abbrev cX4_begin : ByteArray := prog_6_method_2_code
def yX4_begin : MethodName := ⟨RX4, "begin", "([I)V"⟩
abbrev cX4_take : ByteArray := prog_6_method_3_code
def yX4_take : MethodName := ⟨RX4, "take", "(LStoutShelf$Standing;)V"⟩
abbrev cX4_writeMove : ByteArray := prog_6_method_4_code
def yX4_writeMove : MethodName := ⟨RX4, "writeMove", "(IIII)V"⟩
abbrev cX4_takeBackMove : ByteArray := prog_6_method_5_code
def yX4_takeBackMove : MethodName := ⟨RX4, "takeBackMove", "()V"⟩
abbrev cX4_tradeMove : ByteArray := prog_6_method_6_code
def yX4_tradeMove : MethodName := ⟨RX4, "tradeMove", "(I)V"⟩
abbrev cX4_writeEvent : ByteArray := prog_6_method_7_code
def yX4_writeEvent : MethodName := ⟨RX4, "writeEvent", "(III)V"⟩
abbrev cX4_changesOf : ByteArray := prog_6_method_8_code
def yX4_changesOf : MethodName := ⟨RX4, "changesOf", "(I)I"⟩
abbrev cX4_placeAfterChange : ByteArray := prog_6_method_9_code
def yX4_placeAfterChange : MethodName := ⟨RX4, "placeAfterChange", "(II)I"⟩
abbrev cX4_isMoved : ByteArray := prog_6_method_10_code
def yX4_isMoved : MethodName := ⟨RX4, "isMoved", "(II)Z"⟩
def RX5 : String := "StoutShelf$Text"
def TX5 : u_T := fun k => match k with
  | 0 => ("StoutShelf$Text", "bytes", "[B", true)
  | 1 => ("StoutShelf$Text", "size", "I", false)
  | 2 => ("StoutShelf$Text", "kind", "I", false)
  | 3 => ("StoutShelf$Text", "from", "I", false)
  | 4 => ("StoutShelf$Text", "number", "I", false)
  | 5 => ("StoutShelf$Text", "to", "I", false)
  | _ => ("StoutShelf$Text", "length", "I", false)
def tyX5 : Nat → FieldType := fun k => match k with
  | 0 => .array .byte
  | 1 => .int
  | 2 => .int
  | 3 => .int
  | 4 => .int
  | 5 => .int
  | _ => .int
abbrev wsX50 : List Cond := u_ws RX5 TX5 7
theorem nmX5 : ∀ a, a < 7 → ∀ b, b < 7 → a ≠ b → (TX5 a).2.1 ≠ (TX5 b).2.1 := by decide +kernel
theorem tyX5_ok : ∀ k, k < 7 → parseFieldDescriptor (TX5 k).2.2.1 = some (tyX5 k) := by decide +kernel
abbrev cX5_init : ByteArray := prog_7_method_1_code
def yX5_init : MethodName := ⟨RX5, "<init>", "()V"⟩
abbrev cX5_put : ByteArray := prog_7_method_2_code
def yX5_put : MethodName := ⟨RX5, "put", "(I)V"⟩
abbrev cX5_begin : ByteArray := prog_7_method_3_code
def yX5_begin : MethodName := ⟨RX5, "begin", "(I)V"⟩
abbrev cX5_next : ByteArray := prog_7_method_4_code
def yX5_next : MethodName := ⟨RX5, "next", "()V"⟩
abbrev cX5_isWord : ByteArray := prog_7_method_5_code
def yX5_isWord : MethodName := ⟨RX5, "isWord", "(Ljava/lang/String;)Z"⟩
abbrev cX5_isSign : ByteArray := prog_7_method_6_code
def yX5_isSign : MethodName := ⟨RX5, "isSign", "(C)Z"⟩
abbrev cX5_at : ByteArray := prog_7_method_7_code
def yX5_at : MethodName := ⟨RX5, "at", "(I)I"⟩
abbrev cX5_isBlank : ByteArray := prog_7_method_8_code
def yX5_isBlank : MethodName := ⟨RX5, "isBlank", "(I)Z"⟩
abbrev cX5_isLetter : ByteArray := prog_7_method_9_code
def yX5_isLetter : MethodName := ⟨RX5, "isLetter", "(I)Z"⟩
abbrev cX5_isDigit : ByteArray := prog_7_method_10_code
def yX5_isDigit : MethodName := ⟨RX5, "isDigit", "(I)Z"⟩
def RX6 : String := "StoutShelf$Told"
def TX6 : u_T := fun k => match k with
  | 0 => ("StoutShelf$Told", "books", "I", false)
  | 1 => ("StoutShelf$Told", "readers", "I", false)
  | 2 => ("StoutShelf$Told", "lawTold", "Z", false)
  | 3 => ("StoutShelf$Told", "law", "LStoutShelf$Law;", true)
  | 4 => ("StoutShelf$Told", "parts", "[I", true)
  | 5 => ("StoutShelf$Told", "wants", "[I", true)
  | 6 => ("StoutShelf$Told", "first", "[I", true)
  | 7 => ("StoutShelf$Told", "pages", "[I", true)
  | _ => ("StoutShelf$Told", "fewer", "[I", true)
def tyX6 : Nat → FieldType := fun k => match k with
  | 0 => .int
  | 1 => .int
  | 2 => .boolean
  | 3 => .object "StoutShelf$Law"
  | 4 => .array .int
  | 5 => .array .int
  | 6 => .array .int
  | 7 => .array .int
  | _ => .array .int
abbrev wsX60 : List Cond := u_ws RX6 TX6 9
theorem nmX6 : ∀ a, a < 9 → ∀ b, b < 9 → a ≠ b → (TX6 a).2.1 ≠ (TX6 b).2.1 := by decide +kernel
theorem tyX6_ok : ∀ k, k < 9 → parseFieldDescriptor (TX6 k).2.2.1 = some (tyX6 k) := by decide +kernel
abbrev cX6_init : ByteArray := prog_8_method_1_code
def yX6_init : MethodName := ⟨RX6, "<init>", "()V"⟩
abbrev cX6_clear : ByteArray := prog_8_method_2_code
def yX6_clear : MethodName := ⟨RX6, "clear", "()V"⟩
abbrev cX6_take : ByteArray := prog_8_method_3_code
def yX6_take : MethodName := ⟨RX6, "take", "(LStoutShelf$Told;)V"⟩
abbrev cX6_reckon : ByteArray := prog_8_method_4_code
def yX6_reckon : MethodName := ⟨RX6, "reckon", "()V"⟩
abbrev cX6_pagesWithMore : ByteArray := prog_8_method_5_code
def yX6_pagesWithMore : MethodName := ⟨RX6, "pagesWithMore", "(II)I"⟩
abbrev cX6_pagesBound : ByteArray := prog_8_method_6_code
def yX6_pagesBound : MethodName := ⟨RX6, "pagesBound", "(II)I"⟩
abbrev cX6_pagesTogether : ByteArray := prog_8_method_7_code
def yX6_pagesTogether : MethodName := ⟨RX6, "pagesTogether", "(I)I"⟩
abbrev cX6_booksUnder : ByteArray := prog_8_method_8_code
def yX6_booksUnder : MethodName := ⟨RX6, "booksUnder", "(I)I"⟩
abbrev cX6_takeableFor : ByteArray := prog_8_method_9_code
def yX6_takeableFor : MethodName := ⟨RX6, "takeableFor", "(I)I"⟩
abbrev cX6_troubleOf : ByteArray := prog_8_method_10_code
def yX6_troubleOf : MethodName := ⟨RX6, "troubleOf", "([IIII)I"⟩
abbrev cX6_isServed : ByteArray := prog_8_method_11_code
def yX6_isServed : MethodName := ⟨RX6, "isServed", "([II)Z"⟩
def RX7 : String := "StoutShelf$Week"
def TX7 : u_T := fun k => match k with
  | 0 => ("StoutShelf$Week", "told", "LStoutShelf$Told;", true)
  | 1 => ("StoutShelf$Week", "sets", "[I", true)
  | 2 => ("StoutShelf$Week", "tried", "[I", true)
  | 3 => ("StoutShelf$Week", "best", "[I", true)
  | 4 => ("StoutShelf$Week", "bestCount", "I", false)
  | 5 => ("StoutShelf$Week", "bestServed", "I", false)
  | 6 => ("StoutShelf$Week", "tries", "I", false)
  | 7 => ("StoutShelf$Week", "kept", "[I", true)
  | _ => ("StoutShelf$Week", "keptCount", "I", false)
def tyX7 : Nat → FieldType := fun k => match k with
  | 0 => .object "StoutShelf$Told"
  | 1 => .array .int
  | 2 => .array .int
  | 3 => .array .int
  | 4 => .int
  | 5 => .int
  | 6 => .int
  | 7 => .array .int
  | _ => .int
abbrev wsX70 : List Cond := u_ws RX7 TX7 9
theorem nmX7 : ∀ a, a < 9 → ∀ b, b < 9 → a ≠ b → (TX7 a).2.1 ≠ (TX7 b).2.1 := by decide +kernel
theorem tyX7_ok : ∀ k, k < 9 → parseFieldDescriptor (TX7 k).2.2.1 = some (tyX7 k) := by decide +kernel
abbrev cX7_init : ByteArray := prog_9_method_1_code
def yX7_init : MethodName := ⟨RX7, "<init>", "(LStoutShelf$Told;)V"⟩
abbrev cX7_plan : ByteArray := prog_9_method_2_code
def yX7_plan : MethodName := ⟨RX7, "plan", "([I)I"⟩
abbrev cX7_tryPlace : ByteArray := prog_9_method_3_code
def yX7_tryPlace : MethodName := ⟨RX7, "tryPlace", "(II)V"⟩
abbrev cX7_tryReader : ByteArray := prog_9_method_4_code
def yX7_tryReader : MethodName := ⟨RX7, "tryReader", "(III)V"⟩
abbrev cX7_tryExchange : ByteArray := prog_9_method_5_code
def yX7_tryExchange : MethodName := ⟨RX7, "tryExchange", "(IIIII)V"⟩
abbrev cX7_weigh : ByteArray := prog_9_method_6_code
def yX7_weigh : MethodName := ⟨RX7, "weigh", "(I)V"⟩
def RX8 : String := "StoutShelf"
def TX8 : u_T := fun k => match k with
  | 0 => ("StoutShelf", "text", "LStoutShelf$Text;", true)
  | 1 => ("StoutShelf", "draft", "LStoutShelf$Told;", true)
  | 2 => ("StoutShelf", "told", "LStoutShelf$Told;", true)
  | 3 => ("StoutShelf", "reading", "LStoutShelf$Reading;", true)
  | 4 => ("StoutShelf", "now", "LStoutShelf$Standing;", true)
  | 5 => ("StoutShelf", "kept", "LStoutShelf$Standing;", true)
  | 6 => ("StoutShelf", "weeks", "LStoutShelf$Week;", true)
  | 7 => ("StoutShelf", "pair", "LStoutShelf$Pair;", true)
  | 8 => ("StoutShelf", "catalogue", "LStoutShelf$Catalogue;", true)
  | 9 => ("StoutShelf", "takeable", "[I", true)
  | 10 => ("StoutShelf", "imaged", "Z", false)
  | 11 => ("StoutShelf", "faultPlace", "I", false)
  | 12 => ("StoutShelf", "textsRefused", "I", false)
  | 13 => ("StoutShelf", "movesRefused", "I", false)
  | _ => ("StoutShelf", "eventsRefused", "I", false)
def tyX8 : Nat → FieldType := fun k => match k with
  | 0 => .object "StoutShelf$Text"
  | 1 => .object "StoutShelf$Told"
  | 2 => .object "StoutShelf$Told"
  | 3 => .object "StoutShelf$Reading"
  | 4 => .object "StoutShelf$Standing"
  | 5 => .object "StoutShelf$Standing"
  | 6 => .object "StoutShelf$Week"
  | 7 => .object "StoutShelf$Pair"
  | 8 => .object "StoutShelf$Catalogue"
  | 9 => .array .int
  | 10 => .boolean
  | 11 => .int
  | 12 => .int
  | 13 => .int
  | _ => .int
abbrev wsX80 : List Cond := u_ws RX8 TX8 15
theorem nmX8 : ∀ a, a < 15 → ∀ b, b < 15 → a ≠ b → (TX8 a).2.1 ≠ (TX8 b).2.1 := by decide +kernel
theorem tyX8_ok : ∀ k, k < 15 → parseFieldDescriptor (TX8 k).2.2.1 = some (tyX8 k) := by decide +kernel
abbrev cX8_init : ByteArray := prog_1_method_1_code
def yX8_init : MethodName := ⟨RX8, "<init>", "()V"⟩
abbrev cX8_feed : ByteArray := prog_1_method_2_code
def yX8_feed : MethodName := ⟨RX8, "feed", "(IIIII)I"⟩
abbrev cX8_library : ByteArray := prog_1_method_3_code
def yX8_library : MethodName := ⟨RX8, "library", "(I)I"⟩
abbrev cX8_fault : ByteArray := prog_1_method_4_code
def yX8_fault : MethodName := ⟨RX8, "fault", "()I"⟩
abbrev cX8_count : ByteArray := prog_1_method_5_code
def yX8_count : MethodName := ⟨RX8, "count", "(I)I"⟩
abbrev cX8_book : ByteArray := prog_1_method_6_code
def yX8_book : MethodName := ⟨RX8, "book", "(II)I"⟩
abbrev cX8_reader : ByteArray := prog_1_method_7_code
def yX8_reader : MethodName := ⟨RX8, "reader", "(II)I"⟩
abbrev cX8_exchange : ByteArray := prog_1_method_8_code
def yX8_exchange : MethodName := ⟨RX8, "exchange", "(III)I"⟩
abbrev cX8_swap : ByteArray := prog_1_method_9_code
def yX8_swap : MethodName := ⟨RX8, "swap", "(IIII)I"⟩
abbrev cX8_judge : ByteArray := prog_1_method_10_code
def yX8_judge : MethodName := ⟨RX8, "judge", "(III)I"⟩
abbrev cX8_undo : ByteArray := prog_1_method_11_code
def yX8_undo : MethodName := ⟨RX8, "undo", "()I"⟩
abbrev cX8_move : ByteArray := prog_1_method_12_code
def yX8_move : MethodName := ⟨RX8, "move", "(II)I"⟩
abbrev cX8_reach : ByteArray := prog_1_method_13_code
def yX8_reach : MethodName := ⟨RX8, "reach", "(I)I"⟩
abbrev cX8_way : ByteArray := prog_1_method_14_code
def yX8_way : MethodName := ⟨RX8, "way", "(II)I"⟩
abbrev cX8_together : ByteArray := prog_1_method_15_code
def yX8_together : MethodName := ⟨RX8, "together", "(III)I"⟩
abbrev cX8_week : ByteArray := prog_1_method_16_code
def yX8_week : MethodName := ⟨RX8, "week", "()I"⟩
abbrev cX8_row : ByteArray := prog_1_method_17_code
def yX8_row : MethodName := ⟨RX8, "row", "(II)I"⟩
abbrev cX8_lost : ByteArray := prog_1_method_18_code
def yX8_lost : MethodName := ⟨RX8, "lost", "(II)I"⟩
abbrev cX8_worth : ByteArray := prog_1_method_19_code
def yX8_worth : MethodName := ⟨RX8, "worth", "(I)I"⟩
abbrev cX8_bind : ByteArray := prog_1_method_20_code
def yX8_bind : MethodName := ⟨RX8, "bind", "(II)I"⟩
abbrev cX8_fire : ByteArray := prog_1_method_21_code
def yX8_fire : MethodName := ⟨RX8, "fire", "(I)I"⟩
abbrev cX8_event : ByteArray := prog_1_method_22_code
def yX8_event : MethodName := ⟨RX8, "event", "(III)I"⟩
abbrev cX8_forget : ByteArray := prog_1_method_23_code
def yX8_forget : MethodName := ⟨RX8, "forget", "()I"⟩
abbrev cX8_orders : ByteArray := prog_1_method_24_code
def yX8_orders : MethodName := ⟨RX8, "orders", "()I"⟩
abbrev cX8_there : ByteArray := prog_1_method_25_code
def yX8_there : MethodName := ⟨RX8, "there", "(II)I"⟩
abbrev cX8_knot : ByteArray := prog_1_method_26_code
def yX8_knot : MethodName := ⟨RX8, "knot", "()I"⟩
abbrev cX8_hands : ByteArray := prog_1_method_27_code
def yX8_hands : MethodName := ⟨RX8, "hands", "(II)I"⟩
abbrev cX8_image : ByteArray := prog_1_method_28_code
def yX8_image : MethodName := ⟨RX8, "image", "()V"⟩
abbrev cX8_restore : ByteArray := prog_1_method_29_code
def yX8_restore : MethodName := ⟨RX8, "restore", "()Z"⟩
abbrev cX8_isBook : ByteArray := prog_1_method_30_code
def yX8_isBook : MethodName := ⟨RX8, "isBook", "(I)Z"⟩
abbrev cX8_isReader : ByteArray := prog_1_method_31_code
def yX8_isReader : MethodName := ⟨RX8, "isReader", "(I)Z"⟩
abbrev cX8_needBook : ByteArray := prog_1_method_32_code
def yX8_needBook : MethodName := ⟨RX8, "needBook", "(I)V"⟩
abbrev cX8_needReader : ByteArray := prog_1_method_33_code
def yX8_needReader : MethodName := ⟨RX8, "needReader", "(I)V"⟩
abbrev cX8_needWhat : ByteArray := prog_1_method_34_code
def yX8_needWhat : MethodName := ⟨RX8, "needWhat", "(II)V"⟩
abbrev cX8_troubleOfSwap : ByteArray := prog_1_method_35_code
def yX8_troubleOfSwap : MethodName := ⟨RX8, "troubleOfSwap", "(IIII)I"⟩
abbrev cX8_settle : ByteArray := prog_1_method_36_code
def yX8_settle : MethodName := ⟨RX8, "settle", "(IIIII)I"⟩
abbrev cX8_reachNow : ByteArray := prog_1_method_37_code
def yX8_reachNow : MethodName := ⟨RX8, "reachNow", "(I)I"⟩
abbrev cX8_reachIf : ByteArray := prog_1_method_38_code
def yX8_reachIf : MethodName := ⟨RX8, "reachIf", "(III)I"⟩
abbrev cX8_bindingPays : ByteArray := prog_1_method_39_code
def yX8_bindingPays : MethodName := ⟨RX8, "bindingPays", "(III)I"⟩
abbrev cX8_isLost : ByteArray := prog_1_method_40_code
def yX8_isLost : MethodName := ⟨RX8, "isLost", "(I)Z"⟩
abbrev cX8_freedBy : ByteArray := prog_1_method_41_code
def yX8_freedBy : MethodName := ⟨RX8, "freedBy", "(II)I"⟩
abbrev cX8_readersAbleWith : ByteArray := prog_1_method_42_code
def yX8_readersAbleWith : MethodName := ⟨RX8, "readersAbleWith", "(I)I"⟩
abbrev cX8_holds : ByteArray := prog_1_method_43_code
def yX8_holds : MethodName := ⟨RX8, "holds", "(II)Z"⟩
abbrev cX8_placeOf : ByteArray := prog_1_method_44_code
def yX8_placeOf : MethodName := ⟨RX8, "placeOf", "([II)I"⟩
abbrev cX8_trade : ByteArray := prog_1_method_45_code
def yX8_trade : MethodName := ⟨RX8, "trade", "([IIIII)V"⟩
def RX9 : String := "StoutShelfModel"
def TX9 : u_T := fun k => match k with
  | 0 => ("StoutShelfModel", "thrown", "I", false)
  | 1 => ("StoutShelfModel", "books", "I", false)
  | 2 => ("StoutShelfModel", "readers", "I", false)
  | 3 => ("StoutShelfModel", "book", "[I", true)
  | 4 => ("StoutShelfModel", "owner", "[I", true)
  | 5 => ("StoutShelfModel", "firstOwner", "[I", true)
  | 6 => ("StoutShelfModel", "wants", "[I", true)
  | 7 => ("StoutShelfModel", "code", "[I", true)
  | 8 => ("StoutShelfModel", "pages", "[I", true)
  | 9 => ("StoutShelfModel", "tape", "[I", true)
  | 10 => ("StoutShelfModel", "taped", "I", false)
  | 11 => ("StoutShelfModel", "faultKind", "I", false)
  | 12 => ("StoutShelfModel", "faultPlace", "I", false)
  | 13 => ("StoutShelfModel", "refused", "[I", true)
  | 14 => ("StoutShelfModel", "size", "I", false)
  | 15 => ("StoutShelfModel", "next", "I", false)
  | 16 => ("StoutShelfModel", "sort", "I", false)
  | 17 => ("StoutShelfModel", "place", "I", false)
  | 18 => ("StoutShelfModel", "long0", "I", false)
  | 19 => ("StoutShelfModel", "value", "I", false)
  | 20 => ("StoutShelfModel", "sign", "I", false)
  | 21 => ("StoutShelfModel", "word", "J", false)
  | 22 => ("StoutShelfModel", "newBooks", "I", false)
  | 23 => ("StoutShelfModel", "newReaders", "I", false)
  | 24 => ("StoutShelfModel", "top", "I", false)
  | 25 => ("StoutShelfModel", "waiting", "I", false)
  | 26 => ("StoutShelfModel", "depth", "I", false)
  | 27 => ("StoutShelfModel", "hasLaw", "Z", false)
  | 28 => ("StoutShelfModel", "newBook", "[I", true)
  | 29 => ("StoutShelfModel", "newOwner", "[I", true)
  | 30 => ("StoutShelfModel", "newWants", "[I", true)
  | 31 => ("StoutShelfModel", "readCode", "[I", true)
  | 32 => ("StoutShelfModel", "waits", "[I", true)
  | 33 => ("StoutShelfModel", "tested", "[Z", true)
  | 34 => ("StoutShelfModel", "pile", "[I", true)
  | 35 => ("StoutShelfModel", "moves", "I", false)
  | 36 => ("StoutShelfModel", "moved", "[I", true)
  | 37 => ("StoutShelfModel", "far", "[I", true)
  | 38 => ("StoutShelfModel", "queue", "[I", true)
  | 39 => ("StoutShelfModel", "its", "[I", true)
  | 40 => ("StoutShelfModel", "queued", "I", false)
  | 41 => ("StoutShelfModel", "states", "[I", true)
  | 42 => ("StoutShelfModel", "statesFar", "[I", true)
  | 43 => ("StoutShelfModel", "table", "[I", true)
  | 44 => ("StoutShelfModel", "many", "I", false)
  | 45 => ("StoutShelfModel", "isSpent", "Z", false)
  | 46 => ("StoutShelfModel", "trying", "[I", true)
  | 47 => ("StoutShelfModel", "rowOf", "[I", true)
  | 48 => ("StoutShelfModel", "tries", "I", false)
  | 49 => ("StoutShelfModel", "rowLong", "I", false)
  | 50 => ("StoutShelfModel", "hasRow", "Z", false)
  | 51 => ("StoutShelfModel", "keptRow", "[I", true)
  | 52 => ("StoutShelfModel", "keptLong", "I", false)
  | 53 => ("StoutShelfModel", "events", "I", false)
  | 54 => ("StoutShelfModel", "event", "[I", true)
  | 55 => ("StoutShelfModel", "order", "[I", true)
  | 56 => ("StoutShelfModel", "hasImage", "Z", false)
  | 57 => ("StoutShelfModel", "imageMoves", "I", false)
  | 58 => ("StoutShelfModel", "imageEvents", "I", false)
  | 59 => ("StoutShelfModel", "imageOwner", "[I", true)
  | 60 => ("StoutShelfModel", "imageMoved", "[I", true)
  | _ => ("StoutShelfModel", "imageEvent", "[I", true)
def tyX9 : Nat → FieldType := fun k => match k with
  | 0 => .int
  | 1 => .int
  | 2 => .int
  | 3 => .array .int
  | 4 => .array .int
  | 5 => .array .int
  | 6 => .array .int
  | 7 => .array .int
  | 8 => .array .int
  | 9 => .array .int
  | 10 => .int
  | 11 => .int
  | 12 => .int
  | 13 => .array .int
  | 14 => .int
  | 15 => .int
  | 16 => .int
  | 17 => .int
  | 18 => .int
  | 19 => .int
  | 20 => .int
  | 21 => .long
  | 22 => .int
  | 23 => .int
  | 24 => .int
  | 25 => .int
  | 26 => .int
  | 27 => .boolean
  | 28 => .array .int
  | 29 => .array .int
  | 30 => .array .int
  | 31 => .array .int
  | 32 => .array .int
  | 33 => .array .boolean
  | 34 => .array .int
  | 35 => .int
  | 36 => .array .int
  | 37 => .array .int
  | 38 => .array .int
  | 39 => .array .int
  | 40 => .int
  | 41 => .array .int
  | 42 => .array .int
  | 43 => .array .int
  | 44 => .int
  | 45 => .boolean
  | 46 => .array .int
  | 47 => .array .int
  | 48 => .int
  | 49 => .int
  | 50 => .boolean
  | 51 => .array .int
  | 52 => .int
  | 53 => .int
  | 54 => .array .int
  | 55 => .array .int
  | 56 => .boolean
  | 57 => .int
  | 58 => .int
  | 59 => .array .int
  | 60 => .array .int
  | _ => .array .int
abbrev wsX90 : List Cond := u_ws RX9 TX9 62
theorem nmX9 : ∀ a, a < 62 → ∀ b, b < 62 → a ≠ b → (TX9 a).2.1 ≠ (TX9 b).2.1 := by decide +kernel
theorem tyX9_ok : ∀ k, k < 62 → parseFieldDescriptor (TX9 k).2.2.1 = some (tyX9 k) := by decide +kernel
abbrev cX9_init : ByteArray := prog_11_method_1_code
def yX9_init : MethodName := ⟨RX9, "<init>", "()V"⟩
abbrev cX9_thrown : ByteArray := prog_11_method_2_code
def yX9_thrown : MethodName := ⟨RX9, "thrown", "()I"⟩
abbrev cX9_right : ByteArray := prog_11_method_3_code
def yX9_right : MethodName := ⟨RX9, "right", "(ZI)Z"⟩
abbrev cX9_within : ByteArray := prog_11_method_4_code
def yX9_within : MethodName := ⟨RX9, "within", "(III)Z"⟩
abbrev cX9_bits : ByteArray := prog_11_method_5_code
def yX9_bits : MethodName := ⟨RX9, "bits", "(I)I"⟩
abbrev cX9_copies : ByteArray := prog_11_method_6_code
def yX9_copies : MethodName := ⟨RX9, "copies", "([I[I)V"⟩
abbrev cX9_feed : ByteArray := prog_11_method_7_code
def yX9_feed : MethodName := ⟨RX9, "feed", "(IIIII)I"⟩
abbrev cX9_lays : ByteArray := prog_11_method_8_code
def yX9_lays : MethodName := ⟨RX9, "lays", "(I)V"⟩
abbrev cX9_byteAt : ByteArray := prog_11_method_9_code
def yX9_byteAt : MethodName := ⟨RX9, "byteAt", "(I)I"⟩
abbrev cX9_isLetter : ByteArray := prog_11_method_10_code
def yX9_isLetter : MethodName := ⟨RX9, "isLetter", "(I)Z"⟩
abbrev cX9_isDigit : ByteArray := prog_11_method_11_code
def yX9_isDigit : MethodName := ⟨RX9, "isDigit", "(I)Z"⟩
abbrev cX9_goes : ByteArray := prog_11_method_12_code
def yX9_goes : MethodName := ⟨RX9, "goes", "()V"⟩
abbrev cX9_spelled : ByteArray := prog_11_method_13_code
def yX9_spelled : MethodName := ⟨RX9, "spelled", "(IIIIII)J"⟩
abbrev cX9_letters : ByteArray := prog_11_method_14_code
def yX9_letters : MethodName := ⟨RX9, "letters", "(I)J"⟩
abbrev cX9_knownWord : ByteArray := prog_11_method_15_code
def yX9_knownWord : MethodName := ⟨RX9, "knownWord", "()I"⟩
abbrev cX9_wrong : ByteArray := prog_11_method_16_code
def yX9_wrong : MethodName := ⟨RX9, "wrong", "(I)V"⟩
abbrev cX9_isGood : ByteArray := prog_11_method_17_code
def yX9_isGood : MethodName := ⟨RX9, "isGood", "()Z"⟩
abbrev cX9_isSign : ByteArray := prog_11_method_18_code
def yX9_isSign : MethodName := ⟨RX9, "isSign", "(I)Z"⟩
abbrev cX9_need : ByteArray := prog_11_method_19_code
def yX9_need : MethodName := ⟨RX9, "need", "(Z)V"⟩
abbrev cX9_number : ByteArray := prog_11_method_20_code
def yX9_number : MethodName := ⟨RX9, "number", "(II)I"⟩
abbrev cX9_perhaps : ByteArray := prog_11_method_21_code
def yX9_perhaps : MethodName := ⟨RX9, "perhaps", "(I)I"⟩
abbrev cX9_amongHere : ByteArray := prog_11_method_22_code
def yX9_amongHere : MethodName := ⟨RX9, "amongHere", "(I)Z"⟩
abbrev cX9_among : ByteArray := prog_11_method_23_code
def yX9_among : MethodName := ⟨RX9, "among", "(I)I"⟩
abbrev cX9_puts : ByteArray := prog_11_method_24_code
def yX9_puts : MethodName := ⟨RX9, "puts", "(I)V"⟩
abbrev cX9_isOpen : ByteArray := prog_11_method_25_code
def yX9_isOpen : MethodName := ⟨RX9, "isOpen", "(I)Z"⟩
abbrev cX9_strength : ByteArray := prog_11_method_26_code
def yX9_strength : MethodName := ⟨RX9, "strength", "(I)I"⟩
abbrev cX9_drops : ByteArray := prog_11_method_27_code
def yX9_drops : MethodName := ⟨RX9, "drops", "(I)V"⟩
abbrev cX9_waitsFor : ByteArray := prog_11_method_28_code
def yX9_waitsFor : MethodName := ⟨RX9, "waitsFor", "(I)V"⟩
abbrev cX9_part : ByteArray := prog_11_method_29_code
def yX9_part : MethodName := ⟨RX9, "part", "()V"⟩
abbrev cX9_deeper : ByteArray := prog_11_method_30_code
def yX9_deeper : MethodName := ⟨RX9, "deeper", "()V"⟩
abbrev cX9_operand : ByteArray := prog_11_method_31_code
def yX9_operand : MethodName := ⟨RX9, "operand", "(Z)V"⟩
abbrev cX9_opened : ByteArray := prog_11_method_32_code
def yX9_opened : MethodName := ⟨RX9, "opened", "()I"⟩
abbrev cX9_turns : ByteArray := prog_11_method_33_code
def yX9_turns : MethodName := ⟨RX9, "turns", "(I)V"⟩
abbrev cX9_closes : ByteArray := prog_11_method_34_code
def yX9_closes : MethodName := ⟨RX9, "closes", "()V"⟩
abbrev cX9_expression : ByteArray := prog_11_method_35_code
def yX9_expression : MethodName := ⟨RX9, "expression", "()V"⟩
abbrev cX9_line : ByteArray := prog_11_method_36_code
def yX9_line : MethodName := ⟨RX9, "line", "()V"⟩
abbrev cX9_library : ByteArray := prog_11_method_37_code
def yX9_library : MethodName := ⟨RX9, "library", "(I)I"⟩
abbrev cX9_fault : ByteArray := prog_11_method_38_code
def yX9_fault : MethodName := ⟨RX9, "fault", "()I"⟩
abbrev cX9_works : ByteArray := prog_11_method_39_code
def yX9_works : MethodName := ⟨RX9, "works", "(III)I"⟩
abbrev cX9_reckons : ByteArray := prog_11_method_40_code
def yX9_reckons : MethodName := ⟨RX9, "reckons", "(IIII)I"⟩
abbrev cX9_hasOf : ByteArray := prog_11_method_41_code
def yX9_hasOf : MethodName := ⟨RX9, "hasOf", "(I)I"⟩
abbrev cX9_count : ByteArray := prog_11_method_42_code
def yX9_count : MethodName := ⟨RX9, "count", "(I)I"⟩
abbrev cX9_isBook : ByteArray := prog_11_method_43_code
def yX9_isBook : MethodName := ⟨RX9, "isBook", "(I)Z"⟩
abbrev cX9_isReader : ByteArray := prog_11_method_44_code
def yX9_isReader : MethodName := ⟨RX9, "isReader", "(I)Z"⟩
abbrev cX9_book : ByteArray := prog_11_method_45_code
def yX9_book : MethodName := ⟨RX9, "book", "(II)I"⟩
abbrev cX9_reader : ByteArray := prog_11_method_46_code
def yX9_reader : MethodName := ⟨RX9, "reader", "(II)I"⟩
abbrev cX9_isServed : ByteArray := prog_11_method_47_code
def yX9_isServed : MethodName := ⟨RX9, "isServed", "(I)Z"⟩
abbrev cX9_refuses : ByteArray := prog_11_method_48_code
def yX9_refuses : MethodName := ⟨RX9, "refuses", "(I)I"⟩
abbrev cX9_trouble : ByteArray := prog_11_method_49_code
def yX9_trouble : MethodName := ⟨RX9, "trouble", "(III)I"⟩
abbrev cX9_writes : ByteArray := prog_11_method_50_code
def yX9_writes : MethodName := ⟨RX9, "writes", "(IIII)I"⟩
abbrev cX9_exchange : ByteArray := prog_11_method_51_code
def yX9_exchange : MethodName := ⟨RX9, "exchange", "(III)I"⟩
abbrev cX9_swap : ByteArray := prog_11_method_52_code
def yX9_swap : MethodName := ⟨RX9, "swap", "(IIII)I"⟩
abbrev cX9_judge : ByteArray := prog_11_method_53_code
def yX9_judge : MethodName := ⟨RX9, "judge", "(III)I"⟩
abbrev cX9_undo : ByteArray := prog_11_method_54_code
def yX9_undo : MethodName := ⟨RX9, "undo", "()I"⟩
abbrev cX9_move : ByteArray := prog_11_method_55_code
def yX9_move : MethodName := ⟨RX9, "move", "(II)I"⟩
abbrev cX9_comesTo : ByteArray := prog_11_method_56_code
def yX9_comesTo : MethodName := ⟨RX9, "comesTo", "(II)I"⟩
abbrev cX9_reachOf : ByteArray := prog_11_method_57_code
def yX9_reachOf : MethodName := ⟨RX9, "reachOf", "(I)I"⟩
abbrev cX9_reach : ByteArray := prog_11_method_58_code
def yX9_reach : MethodName := ⟨RX9, "reach", "(I)I"⟩
abbrev cX9_way : ByteArray := prog_11_method_59_code
def yX9_way : MethodName := ⟨RX9, "way", "(II)I"⟩
abbrev cX9_comes : ByteArray := prog_11_method_60_code
def yX9_comes : MethodName := ⟨RX9, "comes", "(III)V"⟩
abbrev cX9_exchanges : ByteArray := prog_11_method_61_code
def yX9_exchanges : MethodName := ⟨RX9, "exchanges", "(IIIZI)V"⟩
abbrev cX9_together : ByteArray := prog_11_method_62_code
def yX9_together : MethodName := ⟨RX9, "together", "(III)I"⟩
abbrev cX9_served : ByteArray := prog_11_method_63_code
def yX9_served : MethodName := ⟨RX9, "served", "()I"⟩
abbrev cX9_isDoneBy : ByteArray := prog_11_method_64_code
def yX9_isDoneBy : MethodName := ⟨RX9, "isDoneBy", "(II)Z"⟩
abbrev cX9_week : ByteArray := prog_11_method_65_code
def yX9_week : MethodName := ⟨RX9, "week", "()I"⟩
abbrev cX9_canBe : ByteArray := prog_11_method_66_code
def yX9_canBe : MethodName := ⟨RX9, "canBe", "(I)Z"⟩
abbrev cX9_turns0 : ByteArray := prog_11_method_67_code
def yX9_turns0 : MethodName := ⟨RX9, "turns0", "(IZ)V"⟩
abbrev cX9_row : ByteArray := prog_11_method_68_code
def yX9_row : MethodName := ⟨RX9, "row", "(II)I"⟩
abbrev cX9_lost : ByteArray := prog_11_method_69_code
def yX9_lost : MethodName := ⟨RX9, "lost", "(II)I"⟩
abbrev cX9_worth : ByteArray := prog_11_method_70_code
def yX9_worth : MethodName := ⟨RX9, "worth", "(I)I"⟩
abbrev cX9_bind : ByteArray := prog_11_method_71_code
def yX9_bind : MethodName := ⟨RX9, "bind", "(II)I"⟩
abbrev cX9_fire : ByteArray := prog_11_method_72_code
def yX9_fire : MethodName := ⟨RX9, "fire", "(I)I"⟩
abbrev cX9_canTake : ByteArray := prog_11_method_73_code
def yX9_canTake : MethodName := ⟨RX9, "canTake", "(II)Z"⟩
abbrev cX9_event : ByteArray := prog_11_method_74_code
def yX9_event : MethodName := ⟨RX9, "event", "(III)I"⟩
abbrev cX9_forget : ByteArray := prog_11_method_75_code
def yX9_forget : MethodName := ⟨RX9, "forget", "()I"⟩
abbrev cX9_ways : ByteArray := prog_11_method_76_code
def yX9_ways : MethodName := ⟨RX9, "ways", "(IZII)I"⟩
abbrev cX9_orders : ByteArray := prog_11_method_77_code
def yX9_orders : MethodName := ⟨RX9, "orders", "()I"⟩
abbrev cX9_there : ByteArray := prog_11_method_78_code
def yX9_there : MethodName := ⟨RX9, "there", "(II)I"⟩
abbrev cX9_knot : ByteArray := prog_11_method_79_code
def yX9_knot : MethodName := ⟨RX9, "knot", "()I"⟩
abbrev cX9_hands : ByteArray := prog_11_method_80_code
def yX9_hands : MethodName := ⟨RX9, "hands", "(II)I"⟩
abbrev cX9_image : ByteArray := prog_11_method_81_code
def yX9_image : MethodName := ⟨RX9, "image", "()V"⟩
abbrev cX9_restore : ByteArray := prog_11_method_82_code
def yX9_restore : MethodName := ⟨RX9, "restore", "()Z"⟩
def RJx145de : String := "java/io/Serializable"
def TJx145de : u_T := fun k => match k with
  | _ => ("", "", "", false)
def tyJx145de : Nat → FieldType := fun k => match k with
  | _ => .int
abbrev wsJx145de0 : List Cond := u_ws RJx145de TJx145de 0
theorem nmJx145de : ∀ a, a < 0 → ∀ b, b < 0 → a ≠ b → (TJx145de a).2.1 ≠ (TJx145de b).2.1 := by decide +kernel
theorem tyJx145de_ok : ∀ k, k < 0 → parseFieldDescriptor (TJx145de k).2.2.1 = some (tyJx145de k) := by decide +kernel
def RJx9f9b0 : String := "java/lang/CharSequence"
def TJx9f9b0 : u_T := fun k => match k with
  | _ => ("", "", "", false)
def tyJx9f9b0 : Nat → FieldType := fun k => match k with
  | _ => .int
abbrev wsJx9f9b00 : List Cond := u_ws RJx9f9b0 TJx9f9b0 0
theorem nmJx9f9b0 : ∀ a, a < 0 → ∀ b, b < 0 → a ≠ b → (TJx9f9b0 a).2.1 ≠ (TJx9f9b0 b).2.1 := by decide +kernel
theorem tyJx9f9b0_ok : ∀ k, k < 0 → parseFieldDescriptor (TJx9f9b0 k).2.2.1 = some (tyJx9f9b0 k) := by decide +kernel
def RJxb160c : String := "java/lang/Comparable"
def TJxb160c : u_T := fun k => match k with
  | _ => ("", "", "", false)
def tyJxb160c : Nat → FieldType := fun k => match k with
  | _ => .int
abbrev wsJxb160c0 : List Cond := u_ws RJxb160c TJxb160c 0
theorem nmJxb160c : ∀ a, a < 0 → ∀ b, b < 0 → a ≠ b → (TJxb160c a).2.1 ≠ (TJxb160c b).2.1 := by decide +kernel
theorem tyJxb160c_ok : ∀ k, k < 0 → parseFieldDescriptor (TJxb160c k).2.2.1 = some (tyJxb160c k) := by decide +kernel
def RJ6 : String := "java/lang/Integer"
def TJ6 : u_T := fun k => match k with
  | _ => ("", "", "", false)
def tyJ6 : Nat → FieldType := fun k => match k with
  | _ => .int
abbrev wsJ60 : List Cond := u_ws RJ6 TJ6 0
theorem nmJ6 : ∀ a, a < 0 → ∀ b, b < 0 → a ≠ b → (TJ6 a).2.1 ≠ (TJ6 b).2.1 := by decide +kernel
theorem tyJ6_ok : ∀ k, k < 0 → parseFieldDescriptor (TJ6 k).2.2.1 = some (tyJ6 k) := by decide +kernel
abbrev cJ6_bitCount_0f7a4 : ByteArray := prog_17_method_49_code
def yJ6_bitCount_0f7a4 : MethodName := ⟨RJ6, "bitCount", "(I)I"⟩
def RJ9 : String := "java/lang/Math"
def TJ9 : u_T := fun k => match k with
  | _ => ("", "", "", false)
def tyJ9 : Nat → FieldType := fun k => match k with
  | _ => .int
abbrev wsJ90 : List Cond := u_ws RJ9 TJ9 0
theorem nmJ9 : ∀ a, a < 0 → ∀ b, b < 0 → a ≠ b → (TJ9 a).2.1 ≠ (TJ9 b).2.1 := by decide +kernel
theorem tyJ9_ok : ∀ k, k < 0 → parseFieldDescriptor (TJ9 k).2.2.1 = some (tyJ9 k) := by decide +kernel
abbrev cJ9_min_7cf53 : ByteArray := prog_18_method_69_code
def yJ9_min_7cf53 : MethodName := ⟨RJ9, "min", "(II)I"⟩
def RJ0 : String := "java/lang/String"
def TJ0 : u_T := fun k => match k with
  | _ => ("", "", "", false)
def tyJ0 : Nat → FieldType := fun k => match k with
  | _ => .int
abbrev wsJ00 : List Cond := u_ws RJ0 TJ0 0
theorem nmJ0 : ∀ a, a < 0 → ∀ b, b < 0 → a ≠ b → (TJ0 a).2.1 ≠ (TJ0 b).2.1 := by decide +kernel
theorem tyJ0_ok : ∀ k, k < 0 → parseFieldDescriptor (TJ0 k).2.2.1 = some (tyJ0 k) := by decide +kernel
abbrev cJ0_length_8abf5 : ByteArray := prog_20_method_54_code
def yJ0_length_8abf5 : MethodName := ⟨RJ0, "length", "()I"⟩
abbrev cJ0_charAt_5068e : ByteArray := prog_20_method_56_code
def yJ0_charAt_5068e : MethodName := ⟨RJ0, "charAt", "(I)C"⟩
abbrev cJ0_coder_7d493 : ByteArray := prog_20_method_152_code
def yJ0_coder_7d493 : MethodName := ⟨RJ0, "coder", "()B"⟩
abbrev cJ0_isLatin1_aae02 : ByteArray := prog_20_method_154_code
def yJ0_isLatin1_aae02 : MethodName := ⟨RJ0, "isLatin1", "()Z"⟩
abbrev cJ0_checkIndex_df160 : ByteArray := prog_20_method_155_code
def yJ0_checkIndex_df160 : MethodName := ⟨RJ0, "checkIndex", "(II)V"⟩
def RJ1 : String := "java/lang/StringLatin1"
def TJ1 : u_T := fun k => match k with
  | _ => ("", "", "", false)
def tyJ1 : Nat → FieldType := fun k => match k with
  | _ => .int
abbrev wsJ10 : List Cond := u_ws RJ1 TJ1 0
theorem nmJ1 : ∀ a, a < 0 → ∀ b, b < 0 → a ≠ b → (TJ1 a).2.1 ≠ (TJ1 b).2.1 := by decide +kernel
theorem tyJ1_ok : ∀ k, k < 0 → parseFieldDescriptor (TJ1 k).2.2.1 = some (tyJ1 k) := by decide +kernel
abbrev cJ1_charAt_3b067 : ByteArray := prog_21_method_2_code
def yJ1_charAt_3b067 : MethodName := ⟨RJ1, "charAt", "([BI)C"⟩
def RJ2 : String := "java/lang/StringUTF16"
def TJ2 : u_T := fun k => match k with
  | _ => ("", "", "", false)
def tyJ2 : Nat → FieldType := fun k => match k with
  | _ => .int
abbrev wsJ20 : List Cond := u_ws RJ2 TJ2 0
theorem nmJ2 : ∀ a, a < 0 → ∀ b, b < 0 → a ≠ b → (TJ2 a).2.1 ≠ (TJ2 b).2.1 := by decide +kernel
theorem tyJ2_ok : ∀ k, k < 0 → parseFieldDescriptor (TJ2 k).2.2.1 = some (tyJ2 k) := by decide +kernel
abbrev cJ2_getChar_3b067 : ByteArray := prog_22_method_5_code
def yJ2_getChar_3b067 : MethodName := ⟨RJ2, "getChar", "([BI)C"⟩
abbrev cJ2_length_9d52b : ByteArray := prog_22_method_6_code
def yJ2_length_9d52b : MethodName := ⟨RJ2, "length", "([B)I"⟩
abbrev cJ2_charAt_3b067 : ByteArray := prog_22_method_83_code
def yJ2_charAt_3b067 : MethodName := ⟨RJ2, "charAt", "([BI)C"⟩
abbrev cJ2_checkIndex_2214a : ByteArray := prog_22_method_91_code
def yJ2_checkIndex_2214a : MethodName := ⟨RJ2, "checkIndex", "(I[B)V"⟩
def RJ10 : String := "java/lang/System"
def TJ10 : u_T := fun k => match k with
  | _ => ("", "", "", false)
def tyJ10 : Nat → FieldType := fun k => match k with
  | _ => .int
abbrev wsJ100 : List Cond := u_ws RJ10 TJ10 0
theorem nmJ10 : ∀ a, a < 0 → ∀ b, b < 0 → a ≠ b → (TJ10 a).2.1 ≠ (TJ10 b).2.1 := by decide +kernel
theorem tyJ10_ok : ∀ k, k < 0 → parseFieldDescriptor (TJ10 k).2.2.1 = some (tyJ10 k) := by decide +kernel
def RJxfd54e : String := "java/lang/constant/Constable"
def TJxfd54e : u_T := fun k => match k with
  | _ => ("", "", "", false)
def tyJxfd54e : Nat → FieldType := fun k => match k with
  | _ => .int
abbrev wsJxfd54e0 : List Cond := u_ws RJxfd54e TJxfd54e 0
theorem nmJxfd54e : ∀ a, a < 0 → ∀ b, b < 0 → a ≠ b → (TJxfd54e a).2.1 ≠ (TJxfd54e b).2.1 := by decide +kernel
theorem tyJxfd54e_ok : ∀ k, k < 0 → parseFieldDescriptor (TJxfd54e k).2.2.1 = some (tyJxfd54e k) := by decide +kernel
def RJx3cf43 : String := "java/lang/constant/ConstantDesc"
def TJx3cf43 : u_T := fun k => match k with
  | _ => ("", "", "", false)
def tyJx3cf43 : Nat → FieldType := fun k => match k with
  | _ => .int
abbrev wsJx3cf430 : List Cond := u_ws RJx3cf43 TJx3cf43 0
theorem nmJx3cf43 : ∀ a, a < 0 → ∀ b, b < 0 → a ≠ b → (TJx3cf43 a).2.1 ≠ (TJx3cf43 b).2.1 := by decide +kernel
theorem tyJx3cf43_ok : ∀ k, k < 0 → parseFieldDescriptor (TJx3cf43 k).2.2.1 = some (tyJx3cf43 k) := by decide +kernel
def RJ7 : String := "java/util/Arrays"
def TJ7 : u_T := fun k => match k with
  | _ => ("", "", "", false)
def tyJ7 : Nat → FieldType := fun k => match k with
  | _ => .int
abbrev wsJ70 : List Cond := u_ws RJ7 TJ7 0
theorem nmJ7 : ∀ a, a < 0 → ∀ b, b < 0 → a ≠ b → (TJ7 a).2.1 ≠ (TJ7 b).2.1 := by decide +kernel
theorem tyJ7_ok : ∀ k, k < 0 → parseFieldDescriptor (TJ7 k).2.2.1 = some (tyJ7 k) := by decide +kernel
abbrev cJ7_fill_53178 : ByteArray := prog_27_method_103_code
def yJ7_fill_53178 : MethodName := ⟨RJ7, "fill", "([II)V"⟩
def RJ3 : String := "jdk/internal/util/Preconditions"
def TJ3 : u_T := fun k => match k with
  | _ => ("", "", "", false)
def tyJ3 : Nat → FieldType := fun k => match k with
  | _ => .int
abbrev wsJ30 : List Cond := u_ws RJ3 TJ3 0
theorem nmJ3 : ∀ a, a < 0 → ∀ b, b < 0 → a ≠ b → (TJ3 a).2.1 ≠ (TJ3 b).2.1 := by decide +kernel
theorem tyJ3_ok : ∀ k, k < 0 → parseFieldDescriptor (TJ3 k).2.2.1 = some (tyJ3 k) := by decide +kernel
abbrev cJ3_checkIndex_8e157 : ByteArray := prog_29_method_11_code
def yJ3_checkIndex_8e157 : MethodName := ⟨RJ3, "checkIndex", "(IILjava/util/function/BiFunction;)I"⟩
def RL : String := "StoutShelfLaw"
abbrev cL_library : ByteArray := method_3_code
def yL_library : MethodName := ⟨RL, "library", "(LStoutShelf;I[J)I"⟩
abbrev cL_count : ByteArray := method_4_code
def yL_count : MethodName := ⟨RL, "count", "(LStoutShelf;I[J)I"⟩
abbrev cL_book : ByteArray := method_5_code
def yL_book : MethodName := ⟨RL, "book", "(LStoutShelf;II[J)I"⟩
abbrev cL_reader : ByteArray := method_6_code
def yL_reader : MethodName := ⟨RL, "reader", "(LStoutShelf;II[J)I"⟩
abbrev cL_move : ByteArray := method_7_code
def yL_move : MethodName := ⟨RL, "move", "(LStoutShelf;II[J)I"⟩
abbrev cL_reach : ByteArray := method_8_code
def yL_reach : MethodName := ⟨RL, "reach", "(LStoutShelf;I[J)I"⟩
abbrev cL_way : ByteArray := method_9_code
def yL_way : MethodName := ⟨RL, "way", "(LStoutShelf;II[J)I"⟩
abbrev cL_together : ByteArray := method_10_code
def yL_together : MethodName := ⟨RL, "together", "(LStoutShelf;III[J)I"⟩
abbrev cL_row : ByteArray := method_11_code
def yL_row : MethodName := ⟨RL, "row", "(LStoutShelf;II[J)I"⟩
abbrev cL_lost : ByteArray := method_12_code
def yL_lost : MethodName := ⟨RL, "lost", "(LStoutShelf;II[J)I"⟩
abbrev cL_worth : ByteArray := method_13_code
def yL_worth : MethodName := ⟨RL, "worth", "(LStoutShelf;I[J)I"⟩
abbrev cL_bind : ByteArray := method_14_code
def yL_bind : MethodName := ⟨RL, "bind", "(LStoutShelf;II[J)I"⟩
abbrev cL_fire : ByteArray := method_15_code
def yL_fire : MethodName := ⟨RL, "fire", "(LStoutShelf;I[J)I"⟩
abbrev cL_there : ByteArray := method_16_code
def yL_there : MethodName := ⟨RL, "there", "(LStoutShelf;II[J)I"⟩
abbrev cL_hands : ByteArray := method_17_code
def yL_hands : MethodName := ⟨RL, "hands", "(LStoutShelf;II[J)I"⟩
abbrev cL_law : ByteArray := code
def yL_law : MethodName := ⟨RL, "law", "([I)Z"⟩
abbrev vwCl : List vw_C := [(RX0, TX0, 5), (RX1, TX1, 4), (RX2, TX2, 5), (RX3, TX3, 4), (RX4, TX4, 5), (RX5, TX5, 7), (RX6, TX6, 9), (RX7, TX7, 9), (RX8, TX8, 15), (RX9, TX9, 62)]
end
section
/-! ===== an abstract machine over numbered cells: one instruction in the style of continuations, runs, their unfolding ===== -/
/-- ints, longs, how many exceptions were made -/
abbrev aMem : Type := (Nat → Nat → Int32) × (Nat → Nat → Int64) × Nat
abbrev aOut : Type := Option Value ⊕ Nat
abbrev aRes : Type := aOut × aMem
abbrev aMF : Type := List Value → aMem → Option aRes
abbrev aLs : Type := List (Option Value)
/-- a cell's shape: .inl (element type, length): 0 int, 1 byte, 2 boolean, 3 long; .inr (class, fields): .inl 0 int, 1 boolean, 2 long, .inr a reference to that cell -/
abbrev aShp : Type := (Nat × Nat) ⊕ (Nat × List (Nat ⊕ Nat))
abbrev aEnt : Type := Instr × Int32 × Nat × List (Int32 × Nat)
/-- code, fields (pool place: class, slot), calls (pool place: function, arguments, receiver's class, kind of answer), constants, handlers (exception: pc behind the store, local), throws (pc: exception), kind of answer -/
abbrev aPrg : Type := List (Nat × aEnt) × List (Nat × Nat × Nat) × List (Nat × aMF × Nat × Nat × Nat) × List (Nat × Value) × List (Nat × Nat × Nat) × List (Nat × Nat) × Nat
abbrev a_code (P : aPrg) : List (Nat × aEnt) := P.1
abbrev a_flds (P : aPrg) : List (Nat × Nat × Nat) := P.2.1
abbrev a_cals (P : aPrg) : List (Nat × aMF × Nat × Nat × Nat) := P.2.2.1
abbrev a_cons (P : aPrg) : List (Nat × Value) := P.2.2.2.1
abbrev a_hnd (P : aPrg) : List (Nat × Nat × Nat) := P.2.2.2.2.1
abbrev a_thr (P : aPrg) : List (Nat × Nat) := P.2.2.2.2.2.1
abbrev a_ret (P : aPrg) : Nat := P.2.2.2.2.2.2
def a_lk {α : Type} : List (Nat × α) → Nat → Option α
  | [], _ => none
  | q :: t, n => match Nat.beq q.1 n with
    | true => some q.2
    | false => a_lk t n
def a_si (σ : aMem) (k j : Nat) (x : Int32) : aMem := (va_up σ.1 k (upd (σ.1 k) j x), σ.2)
def a_sl (σ : aMem) (k j : Nat) (x : Int64) : aMem := (σ.1, va_up σ.2.1 k (vp_updL (σ.2.1 k) j x), σ.2.2)
def a_tk (σ : aMem) : aMem := (σ.1, σ.2.1, σ.2.2 + 1)
def a_ok (j : Int32) (n : Nat) : Bool := decide (0 ≤ j.toInt) && decide (j.toInt < n)
def a_take : Nat → List Value → List Value → Option (List Value × List Value)
  | 0, acc, r => some (acc, r)
  | n + 1, acc, v :: r => a_take n (v :: acc) r
  | _ + 1, _, [] => none
def a_wt : List Value → Nat
  | [] => 0
  | v :: r => v.category + a_wt r
def a_rcv (sh : List aShp) (ci : Nat) (as : List Value) : Bool := match as with
  | .ref k :: _ => match sh[k]? with
    | some (.inr q) => Nat.beq q.1 ci
    | _ => Nat.beq ci 1000 && Nat.ble 1000 k
  | _ => false
def a_vok (sh : List aShp) (virt : Bool) (ci : Nat) (as : List Value) : Bool := match virt with
  | true => a_rcv sh ci as
  | false => Nat.beq ci 2000
def a_kill (L : aLs) (i : Nat) : aLs := match L[i]? with
  | some (some (.long _)) => L.set i none
  | some (some (.double _)) => L.set i none
  | _ => L
def a_s1 (L : aLs) (i : Nat) (v : Value) : aLs := (a_kill L (i - 1)).set i (some v)
def a_s2 (L : aLs) (i : Nat) (v : Value) : aLs := ((a_kill L (i - 1)).set (i + 1) none).set i (some v)
section AM
variable {ρ : Type}
def a_bi (o : Option aRes) (K : Int32 → aMem → ρ) (N : ρ) (X : Nat → aMem → ρ) : ρ := match o with
  | some (.inl (some (.int r)), σ) => K r σ
  | some (.inr x, σ) => X x σ
  | _ => N
def a_bv (o : Option aRes) (K : aMem → ρ) (N : ρ) (X : Nat → aMem → ρ) : ρ := match o with
  | some (.inl none, σ) => K σ
  | some (.inr x, σ) => X x σ
  | _ => N
def a_bl (o : Option aRes) (K : Int64 → aMem → ρ) (N : ρ) (X : Nat → aMem → ρ) : ρ := match o with
  | some (.inl (some (.long r)), σ) => K r σ
  | some (.inr x, σ) => X x σ
  | _ => N
variable (K : Nat → aLs → List Value → aMem → ρ) (N : ρ) (Rt : aOut → aMem → ρ)
def a_ild (pc : Nat) (k : Nat) (L : aLs) (st : List Value) (σ : aMem) : ρ := match L[k]? with
  | some (some (.int x)) => K pc L (.int x :: st) σ
  | _ => N
def a_lld (pc : Nat) (k : Nat) (L : aLs) (st : List Value) (σ : aMem) : ρ := match L[k]? with
  | some (some (.long x)) => K pc L (.long x :: st) σ
  | _ => N
def a_ald (pc : Nat) (k : Nat) (L : aLs) (st : List Value) (σ : aMem) : ρ := match L[k]? with
  | some (some (.ref x)) => K pc L (.ref x :: st) σ
  | _ => N
def a_ist (pc : Nat) (k : Nat) (L : aLs) (st : List Value) (σ : aMem) : ρ := match st with
  | .int x :: r => match Nat.blt k L.length with
    | true => K pc (a_s1 L k (.int x)) r σ
    | false => N
  | _ => N
def a_ast (pc : Nat) (k : Nat) (L : aLs) (st : List Value) (σ : aMem) : ρ := match st with
  | .ref x :: r => match Nat.blt k L.length with
    | true => K pc (a_s1 L k (.ref x)) r σ
    | false => N
  | _ => N
def a_lst (pc : Nat) (k : Nat) (L : aLs) (st : List Value) (σ : aMem) : ρ := match st with
  | .long x :: r => match Nat.blt (k + 1) L.length with
    | true => K pc (a_s2 L k (.long x)) r σ
    | false => N
  | _ => N
def a_inc (pc : Nat) (k : Nat) (imm : Int32) (L : aLs) (st : List Value) (σ : aMem) : ρ := match L[k]? with
  | some (some (.int x)) => K pc (a_s1 L k (.int (x + imm))) st σ
  | _ => N
def a_bin (f : Int32 → Int32 → Int32) (pc : Nat) (L : aLs) (st : List Value) (σ : aMem) : ρ := match st with
  | .int y :: .int x :: r => K pc L (.int (f x y) :: r) σ
  | _ => N
def a_dv (f : Int32 → Int32 → Int32) (pc : Nat) (L : aLs) (st : List Value) (σ : aMem) : ρ := match st with
  | .int y :: .int x :: r => if y = 0 then N else K pc L (.int (f x y) :: r) σ
  | _ => N
def a_lbin (f : Int64 → Int64 → Int64) (pc : Nat) (L : aLs) (st : List Value) (σ : aMem) : ρ := match st with
  | .long y :: .long x :: r => K pc L (.long (f x y) :: r) σ
  | _ => N
def a_un (f : Int32 → Value) (pc : Nat) (L : aLs) (st : List Value) (σ : aMem) : ρ := match st with
  | .int x :: r => K pc L (f x :: r) σ
  | _ => N
def a_lcm (pc : Nat) (L : aLs) (st : List Value) (σ : aMem) : ρ := match st with
  | .long y :: .long x :: r => K pc L (.int (lg_cmp x y) :: r) σ
  | _ => N
def a_lsh (pc : Nat) (L : aLs) (st : List Value) (σ : aMem) : ρ := match st with
  | .int y :: .long x :: r => K pc L (.long (x <<< (y.toInt64 &&& 63)) :: r) σ
  | _ => N
def a_br (c : ClassFile.Cond) (x y : Int32) (a b : ρ) : ρ := match c with
  | .eq => if x = y then a else b
  | .ne => if x = y then b else a
  | .lt => if x < y then a else b
  | .ge => if y ≤ x then a else b
  | .gt => if y < x then a else b
  | .le => if x ≤ y then a else b
def a_if (c : ClassFile.Cond) (tgt pc : Nat) (L : aLs) (st : List Value) (σ : aMem) : ρ := match st with
  | .int x :: r => a_br c x 0 (K tgt L r σ) (K pc L r σ)
  | _ => N
def a_ic (c : ClassFile.Cond) (tgt pc : Nat) (L : aLs) (st : List Value) (σ : aMem) : ρ := match st with
  | .int y :: .int x :: r => a_br c x y (K tgt L r σ) (K pc L r σ)
  | _ => N
def a_sw (K1 : Nat → ρ) (x : Int32) (d : Nat) : List (Int32 × Nat) → ρ
  | [] => K1 d
  | q :: t => if x = q.1 then K1 q.2 else a_sw K1 x d t
def a_ts (tgt : Nat) (sw : List (Int32 × Nat)) (L : aLs) (st : List Value) (σ : aMem) : ρ := match st with
  | .int x :: r => a_sw (fun t => K t L r σ) x tgt sw
  | _ => N
def a_dup (pc : Nat) (L : aLs) (st : List Value) (σ : aMem) : ρ := match st with
  | .int x :: r => K pc L (.int x :: .int x :: r) σ
  | .ref x :: r => K pc L (.ref x :: .ref x :: r) σ
  | _ => N
def a_pop (pc : Nat) (L : aLs) (st : List Value) (σ : aMem) : ρ := match st with
  | .int _ :: r => K pc L r σ
  | .ref _ :: r => K pc L r σ
  | _ => N
def a_dup2 (pc : Nat) (L : aLs) (st : List Value) (σ : aMem) : ρ := match st with
  | .int x :: .ref y :: r => K pc L (.int x :: .ref y :: .int x :: .ref y :: r) σ
  | _ => N
def a_ial (sl : Option Nat) (sh : List aShp) (pc : Nat) (L : aLs) (st : List Value) (σ : aMem) : ρ := match st with
  | .int j :: .ref k :: r => match sh[k]? with
    | some (.inl (0, n)) => match a_ok j n with
      | true => K pc L (.int (σ.1 k j.toNatClampNeg) :: r) σ
      | false => N
    | none => match sl, Nat.beq k 900 with
      | some n, true => match a_ok j n with
        | true => K pc L (.int (σ.1 900 j.toNatClampNeg) :: r) σ
        | false => N
      | _, _ => N
    | _ => N
  | _ => N
def a_bal (sh : List aShp) (pc : Nat) (L : aLs) (st : List Value) (σ : aMem) : ρ := match st with
  | .int j :: .ref k :: r => match sh[k]? with
    | some (.inl (1, n)) => match a_ok j n with
      | true => K pc L (.int (σ.1 k j.toNatClampNeg) :: r) σ
      | false => N
    | some (.inl (2, n)) => match a_ok j n with
      | true => K pc L (.int (σ.1 k j.toNatClampNeg) :: r) σ
      | false => N
    | _ => N
  | _ => N
def a_lal (sh : List aShp) (pc : Nat) (L : aLs) (st : List Value) (σ : aMem) : ρ := match st with
  | .int j :: .ref k :: r => match sh[k]? with
    | some (.inl (3, n)) => match a_ok j n with
      | true => K pc L (.long (σ.2.1 k j.toNatClampNeg) :: r) σ
      | false => N
    | _ => N
  | _ => N
def a_ias (sh : List aShp) (pc : Nat) (L : aLs) (st : List Value) (σ : aMem) : ρ := match st with
  | .int x :: .int j :: .ref k :: r => match sh[k]? with
    | some (.inl (0, n)) => match a_ok j n with
      | true => K pc L r (a_si σ k j.toNatClampNeg x)
      | false => N
    | _ => N
  | _ => N
def a_bas (sh : List aShp) (pc : Nat) (L : aLs) (st : List Value) (σ : aMem) : ρ := match st with
  | .int x :: .int j :: .ref k :: r => match sh[k]? with
    | some (.inl (1, n)) => match a_ok j n with
      | true => K pc L r (a_si σ k j.toNatClampNeg (vp_nar .byte x))
      | false => N
    | some (.inl (2, n)) => match a_ok j n with
      | true => K pc L r (a_si σ k j.toNatClampNeg (vp_nar .boolean x))
      | false => N
    | _ => N
  | _ => N
def a_las (sh : List aShp) (pc : Nat) (L : aLs) (st : List Value) (σ : aMem) : ρ := match st with
  | .long x :: .int j :: .ref k :: r => match sh[k]? with
    | some (.inl (3, n)) => match a_ok j n with
      | true => K pc L r (a_sl σ k j.toNatClampNeg x)
      | false => N
    | _ => N
  | _ => N
def a_len (sl : Option Nat) (sh : List aShp) (pc : Nat) (L : aLs) (st : List Value) (σ : aMem) : ρ := match st with
  | .ref k :: r => match sh[k]? with
    | some (.inl (t, n)) => match Nat.ble t 3 with
      | true => K pc L (.int (Int32.ofNat n) :: r) σ
      | false => N
    | none => match sl, Nat.beq k 900 with
      | some n, true => K pc L (.int (Int32.ofNat n) :: r) σ
      | _, _ => N
    | _ => N
  | _ => N
def a_gf (sh : List aShp) (P : aPrg) (n : Nat) (pc : Nat) (L : aLs) (st : List Value) (σ : aMem) : ρ := match st with
  | .ref k :: r => match a_lk (a_flds P) n, sh[k]? with
    | some (ci, j), some (.inr (c2, fk)) => match Nat.beq c2 ci, fk[j]? with
      | true, some (.inl 2) => K pc L (.long (σ.2.1 k j) :: r) σ
      | true, some (.inl _) => K pc L (.int (σ.1 k j) :: r) σ
      | true, some (.inr q) => K pc L (.ref q :: r) σ
      | _, _ => N
    | _, _ => N
  | _ => N
def a_pf (sh : List aShp) (P : aPrg) (n : Nat) (pc : Nat) (L : aLs) (st : List Value) (σ : aMem) : ρ := match st with
  | .int x :: .ref k :: r => match a_lk (a_flds P) n, sh[k]? with
    | some (ci, j), some (.inr (c2, fk)) => match Nat.beq c2 ci, fk[j]? with
      | true, some (.inl 0) => K pc L r (a_si σ k j x)
      | true, some (.inl 1) => if x = 0 ∨ x = 1 then K pc L r (a_si σ k j x) else N
      | _, _ => N
    | _, _ => N
  | .long x :: .ref k :: r => match a_lk (a_flds P) n, sh[k]? with
    | some (ci, j), some (.inr (c2, fk)) => match Nat.beq c2 ci, fk[j]? with
      | true, some (.inl 2) => K pc L r (a_sl σ k j x)
      | _, _ => N
    | _, _ => N
  | _ => N
def a_ldc (P : aPrg) (n : Nat) (pc : Nat) (L : aLs) (st : List Value) (σ : aMem) : ρ := match a_lk (a_cons P) n with
  | some (.int x) => K pc L (.int x :: st) σ
  | some (.ref x) => K pc L (.ref x :: st) σ
  | _ => N
def a_ldw (P : aPrg) (n : Nat) (pc : Nat) (L : aLs) (st : List Value) (σ : aMem) : ρ := match a_lk (a_cons P) n with
  | some (.int x) => K pc L (.int x :: st) σ
  | _ => N
def a_ld2 (P : aPrg) (n : Nat) (pc : Nat) (L : aLs) (st : List Value) (σ : aMem) : ρ := match a_lk (a_cons P) n with
  | some (.long x) => K pc L (.long x :: st) σ
  | _ => N
def a_exc (P : aPrg) (L : aLs) (x : Nat) (σ : aMem) : ρ := match a_lk (a_hnd P) x with
  | some (h, k) => K h (L.set k none) [] σ
  | none => Rt (.inr x) σ
def a_crk (P : aPrg) (rk : Nat) (o : Option aRes) (pc : Nat) (L : aLs) (r : List Value) : ρ := match rk with
  | 0 => a_bi o (fun x σ' => K pc L (.int x :: r) σ') N (fun x σ' => a_exc K Rt P L x σ')
  | 1 => a_bv o (fun σ' => K pc L r σ') N (fun x σ' => a_exc K Rt P L x σ')
  | _ => a_bl o (fun x σ' => K pc L (.long x :: r) σ') N (fun x σ' => a_exc K Rt P L x σ')
def a_call (sh : List aShp) (P : aPrg) (virt : Bool) (n : Nat) (pc : Nat) (L : aLs) (st : List Value) (σ : aMem) : ρ := match a_lk (a_cals P) n with
  | none => N
  | some (f, na, ci, rk) => match a_take na [] st with
    | none => N
    | some (as, r) => match Nat.ble (a_wt r) 8 && (Nat.ble (a_wt as) na && a_vok sh virt ci as) with
      | false => N
      | true => a_crk K N Rt P rk (f as σ) pc L r
def a_rti (P : aPrg) (st : List Value) (σ : aMem) : ρ := match st with
  | [.int x] => match a_ret P with
    | 0 => Rt (.inl (some (.int x))) σ
    | 1 => if x = 0 ∨ x = 1 then Rt (.inl (some (.int x))) σ else N
    | _ => N
  | _ => N
def a_rtv (P : aPrg) (st : List Value) (σ : aMem) : ρ := match st with
  | [] => match a_ret P with
    | 2 => Rt (.inl none) σ
    | _ => N
  | _ => N
def a_rtl (P : aPrg) (st : List Value) (σ : aMem) : ρ := match st with
  | [.long x] => match a_ret P with
    | 3 => Rt (.inl (some (.long x))) σ
    | _ => N
  | _ => N
def a_th (P : aPrg) (pc : Nat) (st : List Value) (σ : aMem) : ρ := match a_lk (a_thr P) pc with
  | some x => match Nat.ble (a_wt st) 8 with
    | true => Rt (.inr x) (a_tk σ)
    | false => N
  | none => N
def a_ins (sl : Option Nat) (sh : List aShp) (P : aPrg) (i : Instr) (imm : Int32) (tgt : Nat) (sw : List (Int32 × Nat)) (pc : Nat) (L : aLs) (st : List Value) (σ : aMem) : ρ := match i with
  | .iconst _ => K (pc + 1) L (.int imm :: st) σ
  | .bipush _ => K (pc + 2) L (.int imm :: st) σ
  | .sipush _ => K (pc + 3) L (.int imm :: st) σ
  | .lconst _ => K (pc + 1) L (.long imm.toInt64 :: st) σ
  | .ldc n => a_ldc K N P n (pc + 2) L st σ
  | .ldc_w n => a_ldw K N P n (pc + 3) L st σ
  | .ldc2_w n => a_ld2 K N P n (pc + 3) L st σ
  | .iload_n k => a_ild K N (pc + 1) k.val L st σ
  | .iload k => a_ild K N (pc + 2) k L st σ
  | .lload_n k => a_lld K N (pc + 1) k.val L st σ
  | .lload k => a_lld K N (pc + 2) k L st σ
  | .aload_n k => a_ald K N (pc + 1) k.val L st σ
  | .aload k => a_ald K N (pc + 2) k L st σ
  | .istore_n k => a_ist K N (pc + 1) k.val L st σ
  | .istore k => a_ist K N (pc + 2) k L st σ
  | .lstore_n k => a_lst K N (pc + 1) k.val L st σ
  | .lstore k => a_lst K N (pc + 2) k L st σ
  | .astore_n k => a_ast K N (pc + 1) k.val L st σ
  | .astore k => a_ast K N (pc + 2) k L st σ
  | .iinc k _ => a_inc K N (pc + 3) k imm L st σ
  | .iadd => a_bin K N (fun x y => x + y) (pc + 1) L st σ
  | .isub => a_bin K N (fun x y => x - y) (pc + 1) L st σ
  | .imul => a_bin K N (fun x y => x * y) (pc + 1) L st σ
  | .iand => a_bin K N (fun x y => x &&& y) (pc + 1) L st σ
  | .ior => a_bin K N (fun x y => x ||| y) (pc + 1) L st σ
  | .ixor => a_bin K N (fun x y => x ^^^ y) (pc + 1) L st σ
  | .ishl => a_bin K N (fun x y => x <<< (y &&& 31)) (pc + 1) L st σ
  | .ishr => a_bin K N (fun x y => x >>> (y &&& 31)) (pc + 1) L st σ
  | .iushr => a_bin K N (fun x y => (x.toUInt32 >>> (y.toUInt32 &&& Int32.toUInt32 31)).toInt32) (pc + 1) L st σ
  | .idiv => a_dv K N (fun x y => x / y) (pc + 1) L st σ
  | .irem => a_dv K N (fun x y => x - x / y * y) (pc + 1) L st σ
  | .ineg => a_un K N (fun x => .int (-x)) (pc + 1) L st σ
  | .i2l => a_un K N (fun x => .long x.toInt64) (pc + 1) L st σ
  | .i2b => a_un K N (fun x => .int x.toInt8.toInt32) (pc + 1) L st σ
  | .lor => a_lbin K N (fun x y => x ||| y) (pc + 1) L st σ
  | .lsub => a_lbin K N (fun x y => x - y) (pc + 1) L st σ
  | .lshl => a_lsh K N (pc + 1) L st σ
  | .lcmp => a_lcm K N (pc + 1) L st σ
  | .dup => a_dup K N (pc + 1) L st σ
  | .pop => a_pop K N (pc + 1) L st σ
  | .dup2 => a_dup2 K N (pc + 1) L st σ
  | .ifCond c _ => a_if K N c tgt (pc + 3) L st σ
  | .if_icmp c _ => a_ic K N c tgt (pc + 3) L st σ
  | .goto _ => K tgt L st σ
  | .tableswitch _ _ _ _ => a_ts K N tgt sw L st σ
  | .iaload => a_ial K N sl sh (pc + 1) L st σ
  | .baload => a_bal K N sh (pc + 1) L st σ
  | .laload => a_lal K N sh (pc + 1) L st σ
  | .iastore => a_ias K N sh (pc + 1) L st σ
  | .bastore => a_bas K N sh (pc + 1) L st σ
  | .lastore => a_las K N sh (pc + 1) L st σ
  | .arraylength => a_len K N sl sh (pc + 1) L st σ
  | .getfield n => a_gf K N sh P n (pc + 3) L st σ
  | .putfield n => a_pf K N sh P n (pc + 3) L st σ
  | .invokevirtual n => a_call K N Rt sh P true n (pc + 3) L st σ
  | .invokestatic n => a_call K N Rt sh P false n (pc + 3) L st σ
  | .ireturn => a_rti N Rt P st σ
  | .return_ => a_rtv N Rt P st σ
  | .lreturn => a_rtl N Rt P st σ
  | .new _ => a_th N Rt P pc st σ
  | _ => N
def a_sem (sl : Option Nat) (sh : List aShp) (P : aPrg) (pc : Nat) (L : aLs) (st : List Value) (σ : aMem) : ρ := match a_lk (a_code P) pc with
  | none => N
  | some (i, imm, tgt, sw) => a_ins K N Rt sl sh P i imm tgt sw pc L st σ
end AM
abbrev aSt : Type := Nat × aLs × List Value × aMem
/-- one step, as data -/
def a_stp (sl : Option Nat) (sh : List aShp) (P : aPrg) (pc : Nat) (L : aLs) (st : List Value) (σ : aMem) : Option (aSt ⊕ aRes) :=
  a_sem (fun pc L st σ => some (.inl (pc, L, st, σ))) none (fun o σ => some (.inr (o, σ))) sl sh P pc L st σ
def a_el {ρ : Type} (K : Nat → aLs → List Value → aMem → ρ) (N : ρ) (Rt : aOut → aMem → ρ) : Option (aSt ⊕ aRes) → ρ
  | none => N
  | some (.inl (pc, L, st, σ)) => K pc L st σ
  | some (.inr (o, σ)) => Rt o σ
end
section
/-! ===== naturality of one instruction, runs, unfolding ===== -/
abbrev a_k0 : Nat → aLs → List Value → aMem → Option (aSt ⊕ aRes) := fun pc L st σ => some (.inl (pc, L, st, σ))
abbrev a_r0 : aOut → aMem → Option (aSt ⊕ aRes) := fun o σ => some (.inr (o, σ))
section AN
variable {ρ : Type} (K : Nat → aLs → List Value → aMem → ρ) (N : ρ) (Rt : aOut → aMem → ρ)
theorem a_sw_nat (L : aLs) (r : List Value) (σ : aMem) (x : Int32) (d : Nat) : ∀ sw : List (Int32 × Nat), a_sw (fun t => K t L r σ) x d sw = a_el K N Rt (a_sw (fun t => a_k0 t L r σ) x d sw)
  | [] => rfl
  | q :: t => by
    unfold a_sw
    split
    · rfl
    · exact a_sw_nat L r σ x d t
theorem a_br_nat (c : ClassFile.Cond) (x y : Int32) (a b : Option (aSt ⊕ aRes)) : a_br c x y (a_el K N Rt a) (a_el K N Rt b) = a_el K N Rt (a_br c x y a b) := by
  cases c <;> unfold a_br <;> simp only <;> split <;> rfl
theorem a_exc_nat (P : aPrg) (L : aLs) (x : Nat) (σ : aMem) : a_exc K Rt P L x σ = a_el K N Rt (a_exc a_k0 a_r0 P L x σ) := by
  unfold a_exc; split <;> rfl
theorem a_call_nat (sh : List aShp) (P : aPrg) (v : Bool) (n pc : Nat) (L : aLs) (st : List Value) (σ : aMem) : a_call K N Rt sh P v n pc L st σ = a_el K N Rt (a_call a_k0 none a_r0 sh P v n pc L st σ) := by
  unfold a_call
  split
  · rfl
  · split
    · rfl
    · split
      · rfl
      · unfold a_crk
        split
        · unfold a_bi; split
          · rfl
          · exact a_exc_nat ..
          · rfl
        · unfold a_bv; split
          · rfl
          · exact a_exc_nat ..
          · rfl
        · unfold a_bl; split
          · rfl
          · exact a_exc_nat ..
          · rfl
set_option maxHeartbeats 4000000 in
theorem a_ins_nat (sl : Option Nat) (sh : List aShp) (P : aPrg) (i : Instr) (imm : Int32) (tgt : Nat) (sw : List (Int32 × Nat)) (pc : Nat) (L : aLs) (st : List Value) (σ : aMem) :
    a_ins K N Rt sl sh P i imm tgt sw pc L st σ = a_el K N Rt (a_ins a_k0 none a_r0 sl sh P i imm tgt sw pc L st σ) := by
  cases i <;> unfold a_ins <;> simp only
  all_goals first
    | rfl
    | exact a_call_nat ..
    | (unfold a_ts; split <;> first | rfl | exact a_sw_nat ..)
    | (unfold a_if; split <;> first | rfl | exact a_br_nat K N Rt _ _ _ (some (.inl (_, _, _, _))) (some (.inl (_, _, _, _))))
    | (unfold a_ic; split <;> first | rfl | exact a_br_nat K N Rt _ _ _ (some (.inl (_, _, _, _))) (some (.inl (_, _, _, _))))
    | (unfold a_ild; split <;> rfl)
    | (unfold a_lld; split <;> rfl)
    | (unfold a_ald; split <;> rfl)
    | (unfold a_ist; split <;> first | rfl | (split <;> rfl))
    | (unfold a_ast; split <;> first | rfl | (split <;> rfl))
    | (unfold a_lst; split <;> first | rfl | (split <;> rfl))
    | (unfold a_inc; split <;> rfl)
    | (unfold a_bin; split <;> rfl)
    | (unfold a_dv; split <;> first | rfl | (split <;> rfl))
    | (unfold a_lbin; split <;> rfl)
    | (unfold a_un; split <;> rfl)
    | (unfold a_lcm; split <;> rfl)
    | (unfold a_lsh; split <;> rfl)
    | (unfold a_dup; split <;> rfl)
    | (unfold a_pop; split <;> rfl)
    | (unfold a_dup2; split <;> rfl)
    | (unfold a_ial; split <;> first | rfl | (split <;> first | rfl | (split <;> first | rfl | (split <;> rfl))))
    | (unfold a_bal; split <;> first | rfl | (split <;> first | rfl | (split <;> rfl)))
    | (unfold a_lal; split <;> first | rfl | (split <;> first | rfl | (split <;> rfl)))
    | (unfold a_ias; split <;> first | rfl | (split <;> first | rfl | (split <;> rfl)))
    | (unfold a_bas; split <;> first | rfl | (split <;> first | rfl | (split <;> rfl)))
    | (unfold a_las; split <;> first | rfl | (split <;> first | rfl | (split <;> rfl)))
    | (unfold a_len; split <;> first | rfl | (split <;> first | rfl | (split <;> rfl)))
    | (unfold a_gf; split <;> first | rfl | (split <;> first | rfl | (split <;> rfl)))
    | (unfold a_pf; split <;> first | rfl | (split <;> first | rfl | (split <;> first | rfl | (split <;> rfl))))
    | (unfold a_ldc; split <;> rfl)
    | (unfold a_ldw; split <;> rfl)
    | (unfold a_ld2; split <;> rfl)
    | (unfold a_rti; split <;> first | rfl | (split <;> first | rfl | (split <;> rfl)))
    | (unfold a_rtv; split <;> first | rfl | (split <;> rfl))
    | (unfold a_rtl; split <;> first | rfl | (split <;> rfl))
    | (unfold a_th; split <;> first | rfl | (split <;> rfl))
theorem a_sem_nat (sl : Option Nat) (sh : List aShp) (P : aPrg) (pc : Nat) (L : aLs) (st : List Value) (σ : aMem) :
    a_sem K N Rt sl sh P pc L st σ = a_el K N Rt (a_stp sl sh P pc L st σ) := by
  unfold a_stp a_sem
  split
  · rfl
  · exact a_ins_nat ..
end AN
abbrev a_rs : aOut → aMem → Option aRes := fun o σ => some (o, σ)
def a_runN (sl : Option Nat) (sh : List aShp) (P : aPrg) : Nat → Nat → aLs → List Value → aMem → Option aRes
  | 0 => fun _ _ _ _ => none
  | n + 1 => a_sem (a_runN sl sh P n) none a_rs sl sh P
noncomputable def a_run (sl : Option Nat) (sh : List aShp) (P : aPrg) (pc : Nat) (L : aLs) (st : List Value) (σ : aMem) : Option aRes :=
  @dite _ (∃ (r : aRes) (n : Nat), a_runN sl sh P n pc L st σ = some r) (Classical.propDecidable _) (fun h => some h.choose) (fun _ => none)
theorem a_runN_mono (sl : Option Nat) (sh : List aShp) (P : aPrg) : ∀ (n : Nat) (pc : Nat) (L : aLs) (st : List Value) (σ : aMem) (r : aRes), a_runN sl sh P n pc L st σ = some r → a_runN sl sh P (n + 1) pc L st σ = some r
  | 0, _, _, _, _, _, h => by simp [a_runN] at h
  | n + 1, pc, L, st, σ, r, h => by
    unfold a_runN at h ⊢
    rw [a_sem_nat] at h ⊢
    generalize a_stp sl sh P pc L st σ = x at h ⊢
    match x, h with
    | none, h => exact h
    | some (.inl (pc, L, st, σ)), h => exact a_runN_mono sl sh P n _ _ _ _ _ h
    | some (.inr _), h => exact h
theorem a_runN_le {sl : Option Nat} {sh : List aShp} {P : aPrg} {n m : Nat} (h : n ≤ m) {pc : Nat} {L : aLs} {st : List Value} {σ : aMem} {r : aRes} (hr : a_runN sl sh P n pc L st σ = some r) : a_runN sl sh P m pc L st σ = some r := by
  induction h with
  | refl => exact hr
  | step _ ih => exact a_runN_mono _ _ _ _ _ _ _ _ _ ih
theorem a_run_of {sl : Option Nat} {sh : List aShp} {P : aPrg} {n : Nat} {pc : Nat} {L : aLs} {st : List Value} {σ : aMem} {r : aRes} (hr : a_runN sl sh P n pc L st σ = some r) : a_run sl sh P pc L st σ = some r := by
  have h : ∃ (r : aRes) (n : Nat), a_runN sl sh P n pc L st σ = some r := ⟨r, n, hr⟩
  unfold a_run
  rw [dif_pos h]
  obtain ⟨m, hm⟩ := h.choose_spec
  have h1 := a_runN_le (Nat.le_max_left n m) hr
  have h2 := a_runN_le (Nat.le_max_right n m) hm
  exact h2.symm.trans h1
theorem a_run_to {sl : Option Nat} {sh : List aShp} {P : aPrg} {pc : Nat} {L : aLs} {st : List Value} {σ : aMem} {r : aRes} (h : a_run sl sh P pc L st σ = some r) : ∃ n, a_runN sl sh P n pc L st σ = some r := by
  unfold a_run at h
  split at h
  · rename_i hx
    cases h
    exact hx.choose_spec
  · cases h
theorem a_run_eq (sl : Option Nat) (sh : List aShp) (P : aPrg) (pc : Nat) (L : aLs) (st : List Value) (σ : aMem) : a_run sl sh P pc L st σ = a_sem (a_run sl sh P) none a_rs sl sh P pc L st σ := by
  apply Option.ext
  intro r
  constructor
  · intro h
    obtain ⟨n, hn⟩ := a_run_to h
    cases n with
    | zero => simp [a_runN] at hn
    | succ n =>
      unfold a_runN at hn
      rw [a_sem_nat] at hn ⊢
      generalize a_stp sl sh P pc L st σ = x at hn ⊢
      match x, hn with
      | none, h => exact h
      | some (.inl (pc, L, st, σ)), h => exact a_run_of h
      | some (.inr _), h => exact h
  · intro h
    rw [a_sem_nat] at h
    generalize hx : a_stp sl sh P pc L st σ = x at h
    match x, hx, h with
    | none, _, h => cases h
    | some (.inl (pc', L', st', σ')), hx, h =>
      obtain ⟨n, hn⟩ := a_run_to h
      refine a_run_of (n := n + 1) ?_
      unfold a_runN
      rw [a_sem_nat, hx]
      exact hn
    | some (.inr (o, σ')), hx, h =>
      refine a_run_of (n := 1) ?_
      unfold a_runN
      rw [a_sem_nat, hx]
      exact h
def a_in : List Nat → Nat → Bool
  | [], _ => false
  | a :: t, n => match Nat.beq a n with
    | true => true
    | false => a_in t n
/-- up to n instructions at once, stopping at the cuts -/
noncomputable def a_ev (sl : Option Nat) (sh : List aShp) (P : aPrg) (cut : List Nat) : Nat → Nat → aLs → List Value → aMem → Option aRes
  | 0 => a_run sl sh P
  | n + 1 => a_sem (fun pc L st σ => match a_in cut pc with
      | true => a_run sl sh P pc L st σ
      | false => a_ev sl sh P cut n pc L st σ) none a_rs sl sh P
theorem a_ev_eq (sl : Option Nat) (sh : List aShp) (P : aPrg) (cut : List Nat) : ∀ (n : Nat) (pc : Nat) (L : aLs) (st : List Value) (σ : aMem), a_run sl sh P pc L st σ = a_ev sl sh P cut n pc L st σ
  | 0, _, _, _, _ => rfl
  | n + 1, pc, L, st, σ => by
    rw [a_run_eq]
    unfold a_ev
    have h : (a_run sl sh P) = (fun pc L st σ => match a_in cut pc with
      | true => a_run sl sh P pc L st σ
      | false => a_ev sl sh P cut n pc L st σ) := by
      funext pc L st σ
      split
      · rfl
      · exact a_ev_eq sl sh P cut n pc L st σ
    rw [← h]
end
section
/-! ===== the abstract machine's cells in the heap ===== -/
def a_cv (ad : Nat → Nat) : Value → Value
  | .ref k => .ref (ad k)
  | v => v
theorem a_cv_cat (ad : Nat → Nat) (v : Value) : (a_cv ad v).category = v.category := by cases v <;> rfl
theorem a_wt_sum (ad : Nat → Nat) : ∀ r : List Value, ((r.map (a_cv ad)).map fun v => v.category).sum = a_wt r
  | [] => rfl
  | v :: r => by simp only [List.map_cons, List.sum_cons, a_wt, a_cv_cat, a_wt_sum ad r]
/-- addresses, array classes, classes and slots, the state at the law's entry, the script's length and numbers -/
abbrev aG : Type := (Nat → Nat) × (Nat → ClassId) × va_G × State × Nat × (Nat → Int32)
abbrev g_ad (G : aG) : Nat → Nat := G.1
abbrev g_ca (G : aG) : Nat → ClassId := G.2.1
abbrev g_D (G : aG) : va_G := G.2.2.1
abbrev g_s (G : aG) : State := G.2.2.2.1
abbrev g_n (G : aG) : Nat := G.2.2.2.2.1
abbrev g_xs (G : aG) : Nat → Int32 := G.2.2.2.2.2
def a_fv (ad : Nat → Nat) (σ : aMem) (k : Nat) (q : (Nat ⊕ Nat) × Nat) : Value := match q.1 with
  | .inl 2 => .long (σ.2.1 k q.2)
  | .inl _ => .int (σ.1 k q.2)
  | .inr r => .ref (ad r)
def a_ce (ad : Nat → Nat) (ca : Nat → ClassId) (σ : aMem) (k : Nat) : aShp → va_E
  | .inl (3, n) => .inl (ca 3, n, .inr (.inl (σ.2.1 k)))
  | .inl (t, n) => .inl (ca t, n, .inl (σ.1 k))
  | .inr (ci, fk) => .inr (ci, fk.zipIdx.map (a_fv ad σ k))
def a_wl (ad : Nat → Nat) (ca : Nat → ClassId) (sh : List aShp) (σ : aMem) : va_W := sh.zipIdx.map (fun q => (ad q.2, a_ce ad ca σ q.2 q.1))
abbrev a_tys (ca : Nat → ClassId) : List (ClassId × FieldType) := [(ca 0, .int), (ca 1, .byte), (ca 2, .boolean), (ca 3, .long)]
theorem a_wl_get (ad : Nat → Nat) (ca : Nat → ClassId) (sh : List aShp) (σ : aMem) (k : Nat) : (a_wl ad ca sh σ)[k]? = sh[k]?.map (fun x => (ad k, a_ce ad ca σ k x)) := by
  unfold a_wl
  rw [List.getElem?_map, List.getElem?_zipIdx]
  cases sh[k]? <;> simp
theorem a_wl_at {ad : Nat → Nat} {ca : Nat → ClassId} {sh : List aShp} {σ : aMem} {k : Nat} {x : aShp} (h : sh[k]? = some x) : (a_wl ad ca sh σ)[k]? = some (ad k, a_ce ad ca σ k x) := by
  rw [a_wl_get, h]; rfl
theorem a_wl_len (ad : Nat → Nat) (ca : Nat → ClassId) (sh : List aShp) (σ : aMem) : (a_wl ad ca sh σ).length = sh.length := by simp [a_wl]
theorem a_fv_get {ad : Nat → Nat} {σ : aMem} {k : Nat} {fk : List (Nat ⊕ Nat)} {j : Nat} {x : Nat ⊕ Nat} (h : fk[j]? = some x) : (fk.zipIdx.map (a_fv ad σ k))[j]? = some (a_fv ad σ k (x, j)) := by
  rw [List.getElem?_map, List.getElem?_zipIdx, h]; simp
theorem a_si_ne {σ : aMem} {k j i : Nat} {x : Int32} (h : i ≠ k) : (a_si σ k j x).1 i = σ.1 i := by simp [a_si, va_up, h]
theorem a_si_eq {σ : aMem} {k j : Nat} {x : Int32} : (a_si σ k j x).1 k = upd (σ.1 k) j x := by simp [a_si, va_up]
theorem a_sl_ne {σ : aMem} {k j i : Nat} {x : Int64} (h : i ≠ k) : (a_sl σ k j x).2.1 i = σ.2.1 i := by simp [a_sl, va_up, h]
theorem a_sl_eq {σ : aMem} {k j : Nat} {x : Int64} : (a_sl σ k j x).2.1 k = vp_updL (σ.2.1 k) j x := by simp [a_sl, va_up]
theorem a_fv_congr {ad : Nat → Nat} {σ τ : aMem} {k : Nat} (h1 : σ.1 k = τ.1 k) (h2 : σ.2.1 k = τ.2.1 k) (q : (Nat ⊕ Nat) × Nat) : a_fv ad σ k q = a_fv ad τ k q := by
  unfold a_fv; rw [h1, h2]
theorem a_ce_congr {ad : Nat → Nat} {ca : Nat → ClassId} {σ τ : aMem} {k : Nat} (h1 : σ.1 k = τ.1 k) (h2 : σ.2.1 k = τ.2.1 k) (x : aShp) : a_ce ad ca σ k x = a_ce ad ca τ k x := by
  unfold a_ce
  split
  · rw [h2]
  · rw [h1]
  · rw [show a_fv ad σ k = a_fv ad τ k from funext (a_fv_congr h1 h2)]
/-- a cell is changed: the world of the changed memory -/
theorem a_wl_set {ad : Nat → Nat} {ca : Nat → ClassId} {sh : List aShp} {σ τ : aMem} {k : Nat} {x : aShp} {e : va_E} (h : sh[k]? = some x) (he : e = a_ce ad ca τ k x) (ho : ∀ i, i ≠ k → σ.1 i = τ.1 i ∧ σ.2.1 i = τ.2.1 i) : (a_wl ad ca sh σ).set k (ad k, e) = a_wl ad ca sh τ := by
  have hk : k < sh.length := (List.getElem?_eq_some_iff.mp h).1
  apply List.ext_getElem?
  intro i
  by_cases hi : i = k
  · subst hi
    rw [List.getElem?_set_self (by rw [a_wl_len]; exact hk), a_wl_at h, he]
  · rw [List.getElem?_set_ne (Ne.symm hi), a_wl_get, a_wl_get]
    cases sh[i]? with
    | none => rfl
    | some y => simp only [Option.map_some, a_ce_congr (ho i hi).1 (ho i hi).2]
theorem a_wl_ia {ad : Nat → Nat} {ca : Nat → ClassId} {sh : List aShp} {σ : aMem} {k j t n : Nat} {x : Int32} (h : sh[k]? = some (.inl (t, n))) (ht : t ≠ 3) : (a_wl ad ca sh σ).set k (ad k, .inl (ca t, n, .inl (upd (σ.1 k) j x))) = a_wl ad ca sh (a_si σ k j x) := by
  refine a_wl_set h ?_ (fun i hi => ⟨(a_si_ne hi).symm, rfl⟩)
  unfold a_ce
  split
  · rename_i h3; cases h3; exact absurd rfl ht
  · rename_i h3; cases h3; rw [a_si_eq]
  · rename_i h3; cases h3
theorem a_wl_la {ad : Nat → Nat} {ca : Nat → ClassId} {sh : List aShp} {σ : aMem} {k j n : Nat} {x : Int64} (h : sh[k]? = some (.inl (3, n))) : (a_wl ad ca sh σ).set k (ad k, .inl (ca 3, n, .inr (.inl (vp_updL (σ.2.1 k) j x)))) = a_wl ad ca sh (a_sl σ k j x) := by
  refine a_wl_set h ?_ (fun i hi => ⟨rfl, (a_sl_ne hi).symm⟩)
  show _ = Sum.inl (ca 3, n, Sum.inr (Sum.inl ((a_sl σ k j x).2.1 k)))
  rw [a_sl_eq]
theorem a_ce_i {ad : Nat → Nat} {ca : Nat → ClassId} {σ : aMem} {k t n : Nat} (ht : t ≠ 3) : a_ce ad ca σ k (.inl (t, n)) = .inl (ca t, n, .inl (σ.1 k)) := by
  unfold a_ce
  split
  · rename_i h3; cases h3; exact absurd rfl ht
  · rename_i h3; cases h3; rfl
  · rename_i h3; cases h3
theorem a_wl_io {ad : Nat → Nat} {ca : Nat → ClassId} {sh : List aShp} {σ : aMem} {k j ci t : Nat} {fk : List (Nat ⊕ Nat)} {x : Int32} (h : sh[k]? = some (.inr (ci, fk))) (hj : fk[j]? = some (.inl t)) (ht : t ≠ 2) :
    (a_wl ad ca sh σ).set k (ad k, .inr (ci, (fk.zipIdx.map (a_fv ad σ k)).set j (.int x))) = a_wl ad ca sh (a_si σ k j x) := by
  refine a_wl_set h ?_ (fun i hi => ⟨(a_si_ne hi).symm, rfl⟩)
  show _ = Sum.inr (ci, fk.zipIdx.map (a_fv ad (a_si σ k j x) k))
  have hl : j < fk.length := (List.getElem?_eq_some_iff.mp hj).1
  congr 2
  apply List.ext_getElem?
  intro i
  by_cases hi : i = j
  · subst hi
    rw [List.getElem?_set_self (by simpa using hl), a_fv_get hj]
    unfold a_fv
    split
    · rename_i h3; cases h3; exact absurd rfl ht
    · simp [a_si, va_up, upd]
    · rename_i h3; cases h3
  · rw [List.getElem?_set_ne (Ne.symm hi)]
    cases hfi : fk[i]? with
    | none => rw [List.getElem?_map, List.getElem?_map, List.getElem?_zipIdx, hfi]; rfl
    | some y =>
      rw [a_fv_get hfi, a_fv_get hfi]
      unfold a_fv
      split
      · rfl
      · simp [a_si, va_up, upd, hi]
      · rfl
theorem a_wl_lo {ad : Nat → Nat} {ca : Nat → ClassId} {sh : List aShp} {σ : aMem} {k j ci : Nat} {fk : List (Nat ⊕ Nat)} {x : Int64} (h : sh[k]? = some (.inr (ci, fk))) (hj : fk[j]? = some (.inl 2)) :
    (a_wl ad ca sh σ).set k (ad k, .inr (ci, (fk.zipIdx.map (a_fv ad σ k)).set j (.long x))) = a_wl ad ca sh (a_sl σ k j x) := by
  refine a_wl_set h ?_ (fun i hi => ⟨rfl, (a_sl_ne hi).symm⟩)
  show _ = Sum.inr (ci, fk.zipIdx.map (a_fv ad (a_sl σ k j x) k))
  have hl : j < fk.length := (List.getElem?_eq_some_iff.mp hj).1
  congr 2
  apply List.ext_getElem?
  intro i
  by_cases hi : i = j
  · subst hi
    rw [List.getElem?_set_self (by simpa using hl), a_fv_get hj]
    simp [a_fv, a_sl, va_up, vp_updL]
  · rw [List.getElem?_set_ne (Ne.symm hi)]
    cases hfi : fk[i]? with
    | none => rw [List.getElem?_map, List.getElem?_map, List.getElem?_zipIdx, hfi]; rfl
    | some y =>
      rw [a_fv_get hfi, a_fv_get hfi]
      unfold a_fv
      split
      · simp [a_sl, va_up, vp_updL, hi]
      · rfl
      · rfl
/-! the locals -/
def a_L (ad : Nat → Nat) (nL : Nat) (ls : Array Slot) (L : aLs) : Prop := ls.size = nL ∧ L.length = nL ∧ lv_wf ls ∧ ∀ (i : Nat) (v : Value), L[i]? = some (some v) → ls[i]? = some (.val (a_cv ad v))
def a_ll (ad : Nat → Nat) (L : aLs) : List (Nat × Value) := L.zipIdx.filterMap (fun q => q.1.map (fun v => (q.2, a_cv ad v)))
theorem a_ll_mem {ad : Nat → Nat} {L : aLs} {i : Nat} {v : Value} (h : L[i]? = some (some v)) : (i, a_cv ad v) ∈ a_ll ad L := by
  unfold a_ll
  refine List.mem_filterMap.mpr ⟨(some v, i), ?_, rfl⟩
  exact List.mem_zipIdx_iff_getElem?.mpr h
theorem a_ll_of {ad : Nat → Nat} {L : aLs} {q : Nat × Value} (h : q ∈ a_ll ad L) : ∃ v, L[q.1]? = some (some v) ∧ q.2 = a_cv ad v := by
  unfold a_ll at h
  obtain ⟨⟨o, i⟩, h1, h2⟩ := List.mem_filterMap.mp h
  have h3 := List.mem_zipIdx_iff_getElem?.mp h1
  cases o with
  | none => simp at h2
  | some v =>
    simp only [Option.map_some, Option.some.injEq] at h2
    subst h2
    exact ⟨v, h3, rfl⟩
theorem a_L.has {ad : Nat → Nat} {nL : Nat} {ls : Array Slot} {L : aLs} (h : a_L ad nL ls L) : lv_has ls nL (a_ll ad L) := by
  refine ⟨h.1, h.2.2.1, fun q hq => ?_⟩
  obtain ⟨v, h1, h2⟩ := a_ll_of hq
  rw [h2]
  exact h.2.2.2 _ _ h1
theorem a_kill_len (L : aLs) (i : Nat) : (a_kill L i).length = L.length := by
  unfold a_kill; split <;> simp
theorem a_kill_at {L : aLs} {i j : Nat} {v : Value} (h : (a_kill L i)[j]? = some (some v)) : L[j]? = some (some v) ∧ (j = i → v.category = 1) := by
  unfold a_kill at h
  split at h
  · rename_i x hx
    by_cases hij : j = i
    · subst hij
      rw [List.getElem?_set_self (List.getElem?_eq_some_iff.mp hx).1] at h
      cases h
    · rw [List.getElem?_set_ne (Ne.symm hij)] at h
      exact ⟨h, fun e => absurd e hij⟩
  · rename_i x hx
    by_cases hij : j = i
    · subst hij
      rw [List.getElem?_set_self (List.getElem?_eq_some_iff.mp hx).1] at h
      cases h
    · rw [List.getElem?_set_ne (Ne.symm hij)] at h
      exact ⟨h, fun e => absurd e hij⟩
  · rename_i h1 h2
    refine ⟨h, fun e => ?_⟩
    subst e
    cases v with
    | long x => exact absurd h (h1 x)
    | double x => exact absurd h (h2 x)
    | _ => rfl
theorem a_L.s1 {ad : Nat → Nat} {nL : Nat} {ls' : Array Slot} {L : aLs} {i : Nat} {v : Value} (hlen : L.length = nL) (hi : i < nL) (h : lv_has ls' nL ((i, a_cv ad v) :: (a_ll ad L).filter (fun q => !(q.1 == i) && !(q.1 + 1 == i && q.2.category == 2)))) : a_L ad nL ls' (a_s1 L i v) := by
  refine ⟨h.1, ?_, h.2.1, fun j w hj => ?_⟩
  · unfold a_s1; rw [List.length_set, a_kill_len]; exact hlen
  · unfold a_s1 at hj
    by_cases hij : j = i
    · subst hij
      rw [List.getElem?_set_self (by rw [a_kill_len]; omega)] at hj
      cases hj
      exact h.2.2 (j, a_cv ad v) List.mem_cons_self
    · rw [List.getElem?_set_ne (Ne.symm hij)] at hj
      obtain ⟨h1, h2⟩ := a_kill_at hj
      refine h.2.2 (j, a_cv ad w) (List.mem_cons_of_mem _ (List.mem_filter.mpr ⟨a_ll_mem h1, ?_⟩))
      have e1 : (j == i) = false := by simpa using hij
      simp only [e1, Bool.not_false, Bool.true_and, Bool.not_eq_true']
      by_cases e2 : j + 1 = i
      · have := h2 (by omega)
        rw [a_cv_cat, this]
        simp
      · have : (j + 1 == i) = false := by simpa using e2
        rw [this]; rfl
theorem a_L.s2 {ad : Nat → Nat} {nL : Nat} {ls' : Array Slot} {L : aLs} {i : Nat} {v : Value} (hlen : L.length = nL) (hi : i + 1 < nL) (h : lv_has ls' nL ((i, a_cv ad v) :: (a_ll ad L).filter (fun q => !(q.1 == i) && (!(q.1 == i + 1) && !(q.1 + 1 == i && q.2.category == 2))))) : a_L ad nL ls' (a_s2 L i v) := by
  refine ⟨h.1, ?_, h.2.1, fun j w hj => ?_⟩
  · unfold a_s2; rw [List.length_set, List.length_set, a_kill_len]; exact hlen
  · unfold a_s2 at hj
    by_cases hij : j = i
    · subst hij
      rw [List.getElem?_set_self (by rw [List.length_set, a_kill_len]; omega)] at hj
      cases hj
      exact h.2.2 (j, a_cv ad v) List.mem_cons_self
    · rw [List.getElem?_set_ne (Ne.symm hij)] at hj
      by_cases hij1 : j = i + 1
      · subst hij1
        rw [List.getElem?_set_self (by rw [a_kill_len]; omega)] at hj
        cases hj
      · rw [List.getElem?_set_ne (Ne.symm hij1)] at hj
        obtain ⟨h1, h2⟩ := a_kill_at hj
        refine h.2.2 (j, a_cv ad w) (List.mem_cons_of_mem _ (List.mem_filter.mpr ⟨a_ll_mem h1, ?_⟩))
        have e1 : (j == i) = false := by simpa using hij
        have e3 : (j == i + 1) = false := by simpa using hij1
        simp only [e1, e3, Bool.not_false, Bool.true_and, Bool.not_eq_true']
        by_cases e2 : j + 1 = i
        · have := h2 (by omega)
          rw [a_cv_cat, this]
          simp
        · have : (j + 1 == i) = false := by simpa using e2
          rw [this]; rfl
theorem a_L_nn {ad : Nat → Nat} {nL : Nat} {ls : Array Slot} {L : aLs} (h : a_L ad nL ls L) (i : Nat) : a_L ad nL ls (L.set i none) := by
  refine ⟨h.1, by rw [List.length_set]; exact h.2.1, h.2.2.1, fun j v hj => h.2.2.2 j v ?_⟩
  by_cases hij : j = i
  · subst hij
    by_cases hl : j < L.length
    · rw [List.getElem?_set_self hl] at hj; cases hj
    · have : (L.set j none)[j]? = none := by simp; omega
      rw [this] at hj; cases hj
  · rwa [List.getElem?_set_ne (Ne.symm hij)] at hj
/-- the locals at a method's entry, its arguments of one slot each -/
def a_lcl (nL : Nat) (as : List Value) : aLs := as.map some ++ List.replicate (nL - as.length) none
theorem a_args_at : ∀ (vs : List Value) (i : Nat), (∀ v ∈ vs, v.category = 1) → ∀ (j : Nat) (v : Value), vs[j]? = some v → (i + j, v) ∈ lv_args i vs
  | [], _, _, _, _, h => by simp at h
  | w :: vs, i, hc, 0, v, h => by
    simp at h; subst h
    unfold lv_args; simp
  | w :: vs, i, hc, j + 1, v, h => by
    unfold lv_args
    have h1 : w.category = 1 := hc w List.mem_cons_self
    rw [if_neg (by omega)]
    have := a_args_at vs (i + 1) (fun v hv => hc v (List.mem_cons_of_mem _ hv)) j v (by simpa using h)
    rw [show i + (j + 1) = i + 1 + j by omega]
    exact List.mem_cons_of_mem _ this
theorem a_sl1 : ∀ (vs : List Value), (∀ v ∈ vs, v.category = 1) → (lg_sl vs).length = vs.length
  | [], _ => rfl
  | v :: vs, h => by
    have h1 : v.category = 1 := h v List.mem_cons_self
    have := a_sl1 vs (fun v hv => h v (List.mem_cons_of_mem _ hv))
    unfold lg_sl at this ⊢
    rw [List.flatMap_cons, if_neg (by omega), List.length_append, this]
    simp; omega
theorem a_L.entry {ad : Nat → Nat} {nL : Nat} {as : List Value} (hc : ∀ v ∈ as, v.category = 1) (hn : as.length ≤ nL) : a_L ad nL ((lg_sl (as.map (a_cv ad)) ++ List.replicate (nL - (lg_sl (as.map (a_cv ad))).length) Slot.unset).toArray) (a_lcl nL as) := by
  have hc' : ∀ v ∈ as.map (a_cv ad), v.category = 1 := by
    intro v hv
    obtain ⟨w, h1, h2⟩ := List.mem_map.mp hv
    rw [← h2, a_cv_cat]; exact hc w h1
  have hl := a_sl1 _ hc'
  rw [List.length_map] at hl
  have h := lv_entry (as.map (a_cv ad)) (n := nL) (by omega)
  refine ⟨h.1, ?_, h.2.1, fun i v hi => ?_⟩
  · unfold a_lcl; simp; omega
  · unfold a_lcl at hi
    by_cases hil : i < as.length
    · rw [List.getElem?_append_left (by simpa using hil), List.getElem?_map] at hi
      cases hx : as[i]? with
      | none => rw [hx] at hi; cases hi
      | some w =>
        rw [hx] at hi
        cases hi
        have := a_args_at (as.map (a_cv ad)) 0 hc' i (a_cv ad v) (by rw [List.getElem?_map, hx]; rfl)
        rw [Nat.zero_add] at this
        exact h.2.2 _ this
    · rw [List.getElem?_append_right (by simpa using hil)] at hi
      rw [List.getElem?_replicate] at hi
      split at hi <;> cases hi
theorem a_take_spec : ∀ (n : Nat) (acc st as r : List Value), a_take n acc st = some (as, r) → ∃ bs, as = bs.reverse ++ acc ∧ st = bs ++ r ∧ bs.length = n
  | 0, acc, st, as, r, h => by
    unfold a_take at h; cases h
    exact ⟨[], rfl, rfl, rfl⟩
  | n + 1, acc, [], as, r, h => by unfold a_take at h; cases h
  | n + 1, acc, v :: st, as, r, h => by
    unfold a_take at h
    obtain ⟨bs, h1, h2, h3⟩ := a_take_spec n (v :: acc) st as r h
    exact ⟨v :: bs, by rw [h1]; simp, by rw [h2]; rfl, by simp [h3]⟩
theorem a_take_eq {n : Nat} {st as r : List Value} (h : a_take n [] st = some (as, r)) : st = as.reverse ++ r ∧ as.length = n := by
  obtain ⟨bs, h1, h2, h3⟩ := a_take_spec n [] st as r h
  rw [List.append_nil] at h1
  exact ⟨by rw [h1, List.reverse_reverse]; exact h2, by rw [h1, List.length_reverse]; exact h3⟩
theorem a_ok_in {j : Int32} {n : Nat} (h : a_ok j n = true) : vp_in j n := by
  unfold a_ok at h
  simp only [Bool.and_eq_true, decide_eq_true_eq] at h
  exact vp_in_iff.mpr h
end
section
/-! ===== soundness: an abstract step is the machine's ===== -/
def a_isw : Instr → Bool
  | .tableswitch _ _ _ _ => true
  | _ => false
def a_ilen : Instr → Nat
  | .bipush _ => 2 | .ldc _ => 2 | .iload _ => 2 | .lload _ => 2 | .aload _ => 2 | .istore _ => 2 | .lstore _ => 2 | .astore _ => 2 | .newarray _ => 2
  | .sipush _ => 3 | .ldc_w _ => 3 | .ldc2_w _ => 3 | .iinc _ _ => 3 | .ifCond _ _ => 3 | .if_icmp _ _ => 3 | .goto _ => 3 | .getfield _ => 3 | .putfield _ => 3 | .invokevirtual _ => 3 | .invokestatic _ => 3 | .invokespecial _ => 3 | .new _ => 3
  | _ => 1
def a_dok (cc : ByteArray) (pc : Nat) (i : Instr) : Bool := match decode cc pc with
  | .ok (j, len) => decide (j = i) && (a_isw i || Nat.beq len (a_ilen i))
  | .error _ => false
theorem a_dok_ok {cc : ByteArray} {pc : Nat} {i : Instr} (h : a_dok cc pc i = true) (hs : a_isw i = false) : decode cc pc = .ok (i, a_ilen i) := by
  unfold a_dok at h
  split at h
  · rename_i j len hd
    simp only [hs, Bool.false_or, Bool.and_eq_true, decide_eq_true_eq] at h
    rw [hd, h.1, Nat.eq_of_beq_eq_true h.2]
  · cases h
theorem a_dok_sw {cc : ByteArray} {pc : Nat} {i : Instr} (h : a_dok cc pc i = true) : ∃ len, decode cc pc = .ok (i, len) := by
  unfold a_dok at h
  split at h
  · rename_i j len hd
    simp only [Bool.and_eq_true, decide_eq_true_eq] at h
    exact ⟨len, by rw [hd, h.1]⟩
  · cases h
def a_swok (pc : Nat) (lo : Int) (offs : Array Int) (sw : List (Int32 × Nat)) (j : Nat) : Bool := match sw[j]?, offs[j]? with
  | some q, some o => decide (q.1.toInt = lo + j) && decide ((pc : Int) + o = (q.2 : Int))
  | _, _ => false
def a_iok (pc : Nat) (q : aEnt) : Bool := match q.1 with
  | .iconst n => decide (Int32.ofInt n = q.2.1)
  | .bipush n => decide ((Int8.ofInt n).toInt32 = q.2.1)
  | .sipush n => decide ((Int16.ofInt n).toInt32 = q.2.1)
  | .iinc _ n => decide (Int32.ofInt n = q.2.1)
  | .lconst n => decide (Int64.ofNat n.val = q.2.1.toInt64)
  | .ifCond _ off => decide ((pc : Int) + off = (q.2.2.1 : Int))
  | .if_icmp _ off => decide ((pc : Int) + off = (q.2.2.1 : Int))
  | .goto off => decide ((pc : Int) + off = (q.2.2.1 : Int))
  | .tableswitch d lo hi offs => decide ((pc : Int) + d = (q.2.2.1 : Int)) && (decide (hi - lo + 1 = (offs.size : Int)) && (decide (q.2.2.2.length = offs.size) && (List.range offs.size).all (a_swok pc lo offs q.2.2.2)))
  | _ => true
def a_eok (cc : ByteArray) (e : Nat × aEnt) : Bool := a_dok cc e.1 e.2.1 && a_iok e.1 e.2
theorem a_lk_mem {α : Type} : ∀ {l : List (Nat × α)} {n : Nat} {x : α}, a_lk l n = some x → (n, x) ∈ l
  | [], _, _, h => by unfold a_lk at h; cases h
  | q :: t, n, x, h => by
    unfold a_lk at h
    split at h
    · rename_i hb
      cases h
      have := Nat.eq_of_beq_eq_true hb
      subst this
      exact List.mem_cons_self
    · exact List.mem_cons_of_mem _ (a_lk_mem h)
theorem a_sw_spec {ρ : Type} (K1 : Nat → ρ) (x : Int32) (d : Nat) : ∀ sw : List (Int32 × Nat), (a_sw K1 x d sw = K1 d ∧ ∀ q ∈ sw, x ≠ q.1) ∨ ∃ (j : Nat) (q : Int32 × Nat), sw[j]? = some q ∧ x = q.1 ∧ a_sw K1 x d sw = K1 q.2
  | [] => Or.inl ⟨rfl, fun _ h => by cases h⟩
  | q :: t => by
    unfold a_sw
    split
    · rename_i h
      exact Or.inr ⟨0, q, rfl, h, rfl⟩
    · rename_i h
      rcases a_sw_spec K1 x d t with ⟨h1, h2⟩ | ⟨j, q', h1, h2, h3⟩
      · exact Or.inl ⟨h1, fun q' hq => (List.mem_cons.mp hq).elim (fun e => e ▸ h) (h2 q')⟩
      · exact Or.inr ⟨j + 1, q', h1, h2, h3⟩
/-- which cells may change: the world's, and new ones -/
def a_A (ad : Nat → Nat) (N sz : Nat) : Nat → Prop := fun q => (∃ k, k < N ∧ q = ad k) ∨ sz ≤ q
abbrev a_ty : Nat → FieldType := fun t => match t with
  | 0 => .int
  | 1 => .boolean
  | _ => .long
abbrev lw_g : List Cond := lw_tbl.filter goodWord
/-- the shapes are the classes' -/
def a_shok (sh : List aShp) : Prop := ∀ (k ci : Nat) (fk : List (Nat ⊕ Nat)), sh[k]? = some (.inr (ci, fk)) → ∃ (C : String) (T : u_T) (N : Nat), vwCl[ci]? = some (C, T, N) ∧ fk.length = N ∧ ∀ (j t : Nat), fk[j]? = some (.inl t) → t ≤ 2 ∧ parseFieldDescriptor (T j).2.2.1 = some (a_ty t) ∧ (T j).2.2.2 = false
/-- the classes' own rows -/
def a_clok : Prop := ∀ (ci : Nat) (C : String) (T : u_T) (N : Nat), vwCl[ci]? = some (C, T, N) → (∃ ty0 : Nat → FieldType, ∀ k, k < N → parseFieldDescriptor (T k).2.2.1 = some (ty0 k)) ∧ (∀ a, a < N → ∀ b, b < N → a ≠ b → (T a).2.1 ≠ (T b).2.1) ∧ ∀ w ∈ u_ws C T N, w ∈ lw_g
/-- what holds at the law's entry, and of the cells' addresses -/
def a_GF (G : aG) (sh : List aShp) : Prop := (∀ i j, i < sh.length → j < sh.length → g_ad G i = g_ad G j → i = j) ∧ (∀ k, k < sh.length → (g_s G).heap.size ≤ g_ad G k) ∧ va_K (g_D G) vwCl (a_tys (g_ca G)) (g_s G) ∧ (∃ aa : Array Value, ∀ w ∈ lw_tbl, w.before aa (g_s G) = true) ∧ va_X (g_ad G 900) (g_n G) (g_xs G) (g_s G) (g_s G).heap ∧ a_shok sh ∧ a_clok
theorem a_GF.D {G : aG} {sh : List aShp} (h : a_GF G sh) (σ : aMem) (sz : Nat) : va_D (a_A (g_ad G) sh.length sz) (a_wl (g_ad G) (g_ca G) sh σ) := by
  refine ⟨fun i j p q hi hj hpq => ?_, fun k q hk => ?_⟩
  · rw [a_wl_get] at hi hj
    cases hx : sh[i]? with
    | none => rw [hx] at hi; cases hi
    | some x =>
      cases hy : sh[j]? with
      | none => rw [hy] at hj; cases hj
      | some y =>
        rw [hx] at hi; rw [hy] at hj
        cases hi; cases hj
        exact h.1 i j (List.getElem?_eq_some_iff.mp hx).1 (List.getElem?_eq_some_iff.mp hy).1 hpq
  · rw [a_wl_get] at hk
    cases hx : sh[k]? with
    | none => rw [hx] at hk; cases hk
    | some x =>
      rw [hx] at hk
      cases hk
      exact Or.inl ⟨k, (List.getElem?_eq_some_iff.mp hx).1, rfl⟩
section AW
variable (p : Program) (l : Launch) (e : Env) (R : Room) (s : State) (m : MethodId) (args : Array Value) (below : List Frame) (meth : Method) (c : Code) (Q : State → Prop) (G : aG) (sh : List aShp) (nL g0 : Nat)
def a_W (pc : Nat) (L : aLs) (st : List Value) (σ : aMem) : Prop :=
  ∀ (H : Heap) (locs : List Loc) (ls : Array Slot), va_P (g_D G) vwCl (a_wl (g_ad G) (g_ca G) sh σ) H → va_S (a_A (g_ad G) sh.length s.heap.size) s.heap H locs → a_L (g_ad G) nL ls L → (∀ j, j < g_n G → σ.1 900 j = g_xs G j) →
    g0 ≤ σ.2.2 → W p l e R s m args below meth c H locs (σ.2.2 - g0) (6 * (σ.2.2 - g0)) Q (F0 m pc ls (st.map (a_cv (g_ad G))))
/-- .. and no more exceptions than gf -/
def a_K (gf : Nat) (pc : Nat) (L : aLs) (st : List Value) (σ : aMem) : Prop := σ.2.2 ≤ gf ∧ a_W p l e R s m args below meth c Q G sh nL g0 pc L st σ
/-- a method's own frame: its code, its class, the tables behind those of the law's entry, old cells as they were there -/
def a_M (own : String) (cc : ByteArray) : Prop := p.tables.exec = Jvm.exec ∧ c.code = cc ∧ c.maxLocals = nL ∧ s.vm.findClass own = some m.cls ∧ (g_s G).WarmedH s.vm ∧ (g_s G).heap.size ≤ s.heap.size ∧ ∀ q, q < (g_s G).heap.size → s.heap[q]? = (g_s G).heap[q]?
/-- fields by their pool places -/
def a_fok (own : String) (P : aPrg) : Prop := ∀ (n ci j : Nat), (n, ci, j) ∈ a_flds P → ∃ (C : String) (T : u_T) (N : Nat), vwCl[ci]? = some (C, T, N) ∧ j < N ∧ Cond.fieldLink own n (T j).1 (T j).2.1 (T j).2.2.1 ∈ lw_g
/-- constants by their pool places -/
def a_cok (own : String) (P : aPrg) : Prop := (∀ n x, (n, Value.int x) ∈ a_cons P → Cond.constant own n x ∈ lw_g) ∧ (∀ n x, (n, Value.long x) ∈ a_cons P → Cond.constantLong own n x ∈ lw_g) ∧ ∀ n k, (n, Value.ref k) ∈ a_cons P → ∃ tx, vk_R own n tx (g_ad G k) (g_s G)
end AW
theorem a_hts {G : aG} {sh : List aShp} {s : State} {args : Array Value} (hG : a_GF G sh) (hW : (g_s G).WarmedH s.vm) : ∀ w ∈ lw_g, w.before args s = true := by
  intro w hw
  obtain ⟨h1, h2⟩ := List.mem_filter.mp hw
  obtain ⟨aa, h3⟩ := hG.2.2.2.1
  exact word_at hW (good_of_word h2) (h3 w h1)
section AS
variable {p : Program} {l : Launch} {e : Env} {R : Room} {s : State} {m : MethodId} {args : Array Value} {below : List Frame} {meth : Method} {c : Code} {Q : State → Prop} {G : aG} {sh : List aShp} {nL g0 : Nat}
theorem a_ins_sound {gf : Nat} {sl : Option Nat} {own : String} {cc : ByteArray} {P : aPrg} {Fin : aOut → aMem → Prop} (hG : a_GF G sh) (hN : sh.length ≤ 900) (hsl : ∀ n, sl = some n → n = g_n G) (hM : a_M p s m c G nL own cc) (hF : a_fok own P) (hC : a_cok G own P)
    (hRi : ∀ pc L x σ, decode cc pc = .ok (.ireturn, 1) → (a_ret P = 0 ∨ (a_ret P = 1 ∧ (x = 0 ∨ x = 1))) → Fin (.inl (some (.int x))) σ → a_W p l e R s m args below meth c Q G sh nL g0 pc L [.int x] σ)
    (hRv : ∀ pc L σ, decode cc pc = .ok (.return_, 1) → a_ret P = 2 → Fin (.inl none) σ → a_W p l e R s m args below meth c Q G sh nL g0 pc L [] σ)
    (hRl : ∀ pc L x σ, decode cc pc = .ok (.lreturn, 1) → a_ret P = 3 → Fin (.inl (some (.long x))) σ → a_W p l e R s m args below meth c Q G sh nL g0 pc L [.long x] σ)
    (hTh : ∀ pc L st x σ, (pc, x) ∈ a_thr P → a_wt st ≤ 8 → Fin (.inr x) (a_tk σ) → a_W p l e R s m args below meth c Q G sh nL g0 pc L st σ)
    (hCa : ∀ (virt : Bool) n f na ci rk, (n, f, na, ci, rk) ∈ a_cals P → ∀ pc L as r σ, decode cc pc = .ok (if virt then .invokevirtual n else .invokestatic n, 3) → (∃ e, (pc, (if virt then .invokevirtual n else .invokestatic n), e) ∈ a_code P) → a_vok sh virt ci as = true → a_wt r ≤ 8 → as.length = na → a_wt as ≤ na →
      a_crk (a_K p l e R s m args below meth c Q G sh nL g0 gf) False Fin P rk (f as σ) (pc + 3) L r →
      a_W p l e R s m args below meth c Q G sh nL g0 pc L (as.reverse ++ r) σ)
    (i : Instr) (imm : Int32) (tgt : Nat) (sw : List (Int32 × Nat)) (pc : Nat) (L : aLs) (st : List Value) (σ : aMem) (hok : a_eok cc (pc, i, imm, tgt, sw) = true) (hmem : (pc, i, imm, tgt, sw) ∈ a_code P)
    (h : a_ins (a_K p l e R s m args below meth c Q G sh nL g0 gf) False Fin sl sh P i imm tgt sw pc L st σ) : a_W p l e R s m args below meth c Q G sh nL g0 pc L st σ := by
  obtain ⟨hx, hb, hml, hown, hWs, hbs, hbh⟩ := id hM
  have hts := a_hts (args := args) hG hWs
  have hK : va_K (g_D G) vwCl (a_tys (g_ca G)) s := va_K.moved hWs.alike hG.2.2.1
  have hD := fun σ => hG.D σ s.heap.size
  unfold a_eok at hok
  simp only [Bool.and_eq_true] at hok
  obtain ⟨hd, hi⟩ := hok
  have hdg : a_isw i = false → decode cc pc = .ok (i, a_ilen i) := fun hs => a_dok_ok hd hs
  cases i with
  | iconst n =>
    have hv : Int32.ofInt n = imm := by simpa [a_iok] using hi
    intro H locs ls hP hS hL hX hg
    exact lv_iconst hx hb (hdg rfl) hv (h.2 H locs ls hP hS hL hX hg)
  | bipush n =>
    have hv : (Int8.ofInt n).toInt32 = imm := by simpa [a_iok] using hi
    intro H locs ls hP hS hL hX hg
    exact lv_bipush hx hb (hdg rfl) hv (h.2 H locs ls hP hS hL hX hg)
  | sipush n =>
    have hv : (Int16.ofInt n).toInt32 = imm := by simpa [a_iok] using hi
    intro H locs ls hP hS hL hX hg
    exact lv_sipush hx hb (hdg rfl) hv (h.2 H locs ls hP hS hL hX hg)
  | lconst n =>
    have hv : Int64.ofNat n.val = imm.toInt64 := by simpa [a_iok] using hi
    intro H locs ls hP hS hL hX hg
    exact lv_lconst hx hb (hdg rfl) hv (h.2 H locs ls hP hS hL hX hg)
  | iload_n k =>
    unfold a_ins a_ild at h; simp only at h
    split at h
    · rename_i x hk
      intro H locs ls hP hS hL hX hg
      exact lv_iload_n hx hb (hdg rfl) rfl (hL.2.2.2 _ _ hk) (h.2 H locs ls hP hS hL hX hg)
    · exact h.elim
  | iload k =>
    unfold a_ins a_ild at h; simp only at h
    split at h
    · rename_i x hk
      intro H locs ls hP hS hL hX hg
      exact lv_iload hx hb (hdg rfl) (hL.2.2.2 _ _ hk) (h.2 H locs ls hP hS hL hX hg)
    · exact h.elim
  | lload_n k =>
    unfold a_ins a_lld at h; simp only at h
    split at h
    · rename_i x hk
      intro H locs ls hP hS hL hX hg
      exact lv_lload_n hx hb (hdg rfl) rfl (hL.2.2.2 _ _ hk) (h.2 H locs ls hP hS hL hX hg)
    · exact h.elim
  | lload k =>
    unfold a_ins a_lld at h; simp only at h
    split at h
    · rename_i x hk
      intro H locs ls hP hS hL hX hg
      exact lv_lload hx hb (hdg rfl) (hL.2.2.2 _ _ hk) (h.2 H locs ls hP hS hL hX hg)
    · exact h.elim
  | aload_n k =>
    unfold a_ins a_ald at h; simp only at h
    split at h
    · rename_i x hk
      intro H locs ls hP hS hL hX hg
      exact lv_aload_n hx hb (hdg rfl) rfl (hL.2.2.2 _ _ hk) (h.2 H locs ls hP hS hL hX hg)
    · exact h.elim
  | aload k =>
    unfold a_ins a_ald at h; simp only at h
    split at h
    · rename_i x hk
      intro H locs ls hP hS hL hX hg
      exact lv_aload hx hb (hdg rfl) (hL.2.2.2 _ _ hk) (h.2 H locs ls hP hS hL hX hg)
    · exact h.elim
  | istore_n k =>
    unfold a_ins a_ist at h; simp only at h
    split at h
    · rename_i x r
      split at h
      · rename_i hk
        have hk' := Nat.blt_eq.mp hk
        intro H locs ls hP hS hL hX hg
        have hn : k.val < nL := by rw [← hL.2.1]; exact hk'
        exact lv_istore_n hx hb (hdg rfl) rfl hL.has hn rfl (fun ls' hl => h.2 H locs ls' hP hS (a_L.s1 (v := .int x) hL.2.1 hn hl) hX hg)
      · exact h.elim
    · exact h.elim
  | istore k =>
    unfold a_ins a_ist at h; simp only at h
    split at h
    · rename_i x r
      split at h
      · rename_i hk
        have hk' := Nat.blt_eq.mp hk
        intro H locs ls hP hS hL hX hg
        have hn : k < nL := by rw [← hL.2.1]; exact hk'
        exact lv_istore hx hb (hdg rfl) hL.has hn rfl (fun ls' hl => h.2 H locs ls' hP hS (a_L.s1 (v := .int x) hL.2.1 hn hl) hX hg)
      · exact h.elim
    · exact h.elim
  | lstore_n k =>
    unfold a_ins a_lst at h; simp only at h
    split at h
    · rename_i x r
      split at h
      · rename_i hk
        have hk' := Nat.blt_eq.mp hk
        intro H locs ls hP hS hL hX hg
        have hn : k.val + 1 < nL := by rw [← hL.2.1]; exact hk'
        exact lv_lstore_n hx hb (hdg rfl) rfl hL.has hn rfl (fun ls' hl => h.2 H locs ls' hP hS (a_L.s2 (v := .long x) hL.2.1 hn hl) hX hg)
      · exact h.elim
    · exact h.elim
  | lstore k =>
    unfold a_ins a_lst at h; simp only at h
    split at h
    · rename_i x r
      split at h
      · rename_i hk
        have hk' := Nat.blt_eq.mp hk
        intro H locs ls hP hS hL hX hg
        have hn : k + 1 < nL := by rw [← hL.2.1]; exact hk'
        exact lv_lstore hx hb (hdg rfl) hL.has hn rfl (fun ls' hl => h.2 H locs ls' hP hS (a_L.s2 (v := .long x) hL.2.1 hn hl) hX hg)
      · exact h.elim
    · exact h.elim
  | astore_n k =>
    unfold a_ins a_ast at h; simp only at h
    split at h
    · rename_i x r
      split at h
      · rename_i hk
        have hk' := Nat.blt_eq.mp hk
        intro H locs ls hP hS hL hX hg
        have hn : k.val < nL := by rw [← hL.2.1]; exact hk'
        exact lv_astore_n hx hb (hdg rfl) rfl hL.has hn rfl (fun ls' hl => h.2 H locs ls' hP hS (a_L.s1 (v := .ref x) hL.2.1 hn hl) hX hg)
      · exact h.elim
    · exact h.elim
  | astore k =>
    unfold a_ins a_ast at h; simp only at h
    split at h
    · rename_i x r
      split at h
      · rename_i hk
        have hk' := Nat.blt_eq.mp hk
        intro H locs ls hP hS hL hX hg
        have hn : k < nL := by rw [← hL.2.1]; exact hk'
        exact lv_astore hx hb (hdg rfl) hL.has hn rfl (fun ls' hl => h.2 H locs ls' hP hS (a_L.s1 (v := .ref x) hL.2.1 hn hl) hX hg)
      · exact h.elim
    · exact h.elim
  | iinc k n =>
    have hv : Int32.ofInt n = imm := by simpa [a_iok] using hi
    unfold a_ins a_inc at h; simp only at h
    split at h
    · rename_i x hk
      intro H locs ls hP hS hL hX hg
      have hn : k < nL := by rw [← hL.2.1]; exact (List.getElem?_eq_some_iff.mp hk).1
      obtain ⟨k9, hk9⟩ := List.getElem?_of_mem (a_ll_mem (ad := g_ad G) hk)
      exact lv_iinc hx hb (hdg rfl) hL.has hk9 (v := x + imm) (by rw [hv]) hn rfl (fun ls' hl => h.2 H locs ls' hP hS (a_L.s1 (v := .int (x + imm)) hL.2.1 hn hl) hX hg)
    · exact h.elim
  | iadd =>
    unfold a_ins a_bin at h; simp only at h
    split at h
    · intro H locs ls hP hS hL hX hg
      exact lv_iadd hx hb (hdg rfl) (h.2 H locs ls hP hS hL hX hg)
    · exact h.elim
  | isub =>
    unfold a_ins a_bin at h; simp only at h
    split at h
    · intro H locs ls hP hS hL hX hg
      exact lv_isub hx hb (hdg rfl) (h.2 H locs ls hP hS hL hX hg)
    · exact h.elim
  | imul =>
    unfold a_ins a_bin at h; simp only at h
    split at h
    · intro H locs ls hP hS hL hX hg
      exact lv_imul hx hb (hdg rfl) (h.2 H locs ls hP hS hL hX hg)
    · exact h.elim
  | iand =>
    unfold a_ins a_bin at h; simp only at h
    split at h
    · intro H locs ls hP hS hL hX hg
      exact lv_iand hx hb (hdg rfl) (h.2 H locs ls hP hS hL hX hg)
    · exact h.elim
  | ior =>
    unfold a_ins a_bin at h; simp only at h
    split at h
    · intro H locs ls hP hS hL hX hg
      exact lv_ior hx hb (hdg rfl) (h.2 H locs ls hP hS hL hX hg)
    · exact h.elim
  | ixor =>
    unfold a_ins a_bin at h; simp only at h
    split at h
    · intro H locs ls hP hS hL hX hg
      exact lv_ixor hx hb (hdg rfl) (h.2 H locs ls hP hS hL hX hg)
    · exact h.elim
  | ishl =>
    unfold a_ins a_bin at h; simp only at h
    split at h
    · intro H locs ls hP hS hL hX hg
      exact lv_ishl hx hb (hdg rfl) (h.2 H locs ls hP hS hL hX hg)
    · exact h.elim
  | ishr =>
    unfold a_ins a_bin at h; simp only at h
    split at h
    · intro H locs ls hP hS hL hX hg
      exact lv_ishr hx hb (hdg rfl) (h.2 H locs ls hP hS hL hX hg)
    · exact h.elim
  | iushr =>
    unfold a_ins a_bin at h; simp only at h
    split at h
    · intro H locs ls hP hS hL hX hg
      exact lv_iushr hx hb (hdg rfl) rfl (h.2 H locs ls hP hS hL hX hg)
    · exact h.elim
  | idiv =>
    unfold a_ins a_dv at h; simp only at h
    split at h
    · split at h
      · exact h.elim
      · rename_i hne
        intro H locs ls hP hS hL hX hg
        exact lv_idiv hx hb (hdg rfl) hne (h.2 H locs ls hP hS hL hX hg)
    · exact h.elim
  | irem =>
    unfold a_ins a_dv at h; simp only at h
    split at h
    · split at h
      · exact h.elim
      · rename_i hne
        intro H locs ls hP hS hL hX hg
        exact lv_irem hx hb (hdg rfl) hne (h.2 H locs ls hP hS hL hX hg)
    · exact h.elim
  | ineg =>
    unfold a_ins a_un at h; simp only at h
    split at h
    · intro H locs ls hP hS hL hX hg
      exact lv_ineg hx hb (hdg rfl) (h.2 H locs ls hP hS hL hX hg)
    · exact h.elim
  | i2l =>
    unfold a_ins a_un at h; simp only at h
    split at h
    · intro H locs ls hP hS hL hX hg
      exact lv_i2l hx hb (hdg rfl) rfl (h.2 H locs ls hP hS hL hX hg)
    · exact h.elim
  | i2b =>
    unfold a_ins a_un at h; simp only at h
    split at h
    · intro H locs ls hP hS hL hX hg
      exact lv_i2b hx hb (hdg rfl) rfl (h.2 H locs ls hP hS hL hX hg)
    · exact h.elim
  | lor =>
    unfold a_ins a_lbin at h; simp only at h
    split at h
    · intro H locs ls hP hS hL hX hg
      exact lv_lor hx hb (hdg rfl) (h.2 H locs ls hP hS hL hX hg)
    · exact h.elim
  | lsub =>
    unfold a_ins a_lbin at h; simp only at h
    split at h
    · intro H locs ls hP hS hL hX hg
      exact lv_lsub hx hb (hdg rfl) (h.2 H locs ls hP hS hL hX hg)
    · exact h.elim
  | lshl =>
    unfold a_ins a_lsh at h; simp only at h
    split at h
    · intro H locs ls hP hS hL hX hg
      exact lv_lshl hx hb (hdg rfl) rfl (h.2 H locs ls hP hS hL hX hg)
    · exact h.elim
  | lcmp =>
    unfold a_ins a_lcm at h; simp only at h
    split at h
    · intro H locs ls hP hS hL hX hg
      exact W.lcmp hx hb (hdg rfl) (h.2 H locs ls hP hS hL hX hg)
    · exact h.elim
  | dup =>
    unfold a_ins a_dup at h; simp only at h
    split at h
    · intro H locs ls hP hS hL hX hg
      exact lv_dup hx hb (hdg rfl) rfl (h.2 H locs ls hP hS hL hX hg)
    · intro H locs ls hP hS hL hX hg
      exact lv_dup hx hb (hdg rfl) rfl (h.2 H locs ls hP hS hL hX hg)
    · exact h.elim
  | pop =>
    unfold a_ins a_pop at h; simp only at h
    split at h
    · intro H locs ls hP hS hL hX hg
      exact lv_pop hx hb (hdg rfl) rfl (h.2 H locs ls hP hS hL hX hg)
    · intro H locs ls hP hS hL hX hg
      exact lv_pop hx hb (hdg rfl) rfl (h.2 H locs ls hP hS hL hX hg)
    · exact h.elim
  | dup2 =>
    unfold a_ins a_dup2 at h; simp only at h
    split at h
    · intro H locs ls hP hS hL hX hg
      exact lv_dup2_11 hx hb (hdg rfl) rfl rfl (h.2 H locs ls hP hS hL hX hg)
    · exact h.elim
  | goto off =>
    have ht : (pc : Int) + off = (tgt : Int) := by simpa [a_iok] using hi
    intro H locs ls hP hS hL hX hg
    exact lv_goto hx hb (hdg rfl) ht (h.2 H locs ls hP hS hL hX hg)
  | ifCond cnd off =>
    have ht : (pc : Int) + off = (tgt : Int) := by simpa [a_iok] using hi
    unfold a_ins a_if at h; simp only at h
    split at h
    · rename_i x r
      intro H locs ls hP hS hL hX hg
      have go : ∀ {pc' : Nat}, a_W p l e R s m args below meth c Q G sh nL g0 pc' L r σ → W p l e R s m args below meth c H locs (σ.2.2 - g0) (6 * (σ.2.2 - g0)) Q (F0 m pc' ls (r.map (a_cv (g_ad G)))) := fun k => k H locs ls hP hS hL hX hg
      cases cnd <;> unfold a_br at h <;> simp only at h <;> split at h
      · rename_i hc; exact lv_if_eq hx hb (hdg rfl) ht (fun _ => go h.2) (fun hn => absurd hc hn)
      · rename_i hc; exact lv_if_eq hx hb (hdg rfl) ht (fun hn => absurd hn hc) (fun _ => go h.2)
      · rename_i hc; exact lv_if_ne hx hb (hdg rfl) ht (fun hn => absurd hc hn) (fun _ => go h.2)
      · rename_i hc; exact lv_if_ne hx hb (hdg rfl) ht (fun _ => go h.2) (fun hn => absurd hn hc)
      · rename_i hc; exact lv_if_lt hx hb (hdg rfl) ht (fun _ => go h.2) (fun hn => absurd hc hn)
      · rename_i hc; exact lv_if_lt hx hb (hdg rfl) ht (fun hn => absurd hn hc) (fun _ => go h.2)
      · rename_i hc; exact lv_if_ge hx hb (hdg rfl) ht (fun _ => go h.2) (fun hn => absurd hc hn)
      · rename_i hc; exact lv_if_ge hx hb (hdg rfl) ht (fun hn => absurd hn hc) (fun _ => go h.2)
      · rename_i hc; exact lv_if_gt hx hb (hdg rfl) ht (fun _ => go h.2) (fun hn => absurd hc hn)
      · rename_i hc; exact lv_if_gt hx hb (hdg rfl) ht (fun hn => absurd hn hc) (fun _ => go h.2)
      · rename_i hc; exact lv_if_le hx hb (hdg rfl) ht (fun _ => go h.2) (fun hn => absurd hc hn)
      · rename_i hc; exact lv_if_le hx hb (hdg rfl) ht (fun hn => absurd hn hc) (fun _ => go h.2)
    · exact h.elim
  | if_icmp cnd off =>
    have ht : (pc : Int) + off = (tgt : Int) := by simpa [a_iok] using hi
    unfold a_ins a_ic at h; simp only at h
    split at h
    · rename_i y x r
      intro H locs ls hP hS hL hX hg
      have go : ∀ {pc' : Nat}, a_W p l e R s m args below meth c Q G sh nL g0 pc' L r σ → W p l e R s m args below meth c H locs (σ.2.2 - g0) (6 * (σ.2.2 - g0)) Q (F0 m pc' ls (r.map (a_cv (g_ad G)))) := fun k => k H locs ls hP hS hL hX hg
      cases cnd <;> unfold a_br at h <;> simp only at h <;> split at h
      · rename_i hc; exact lv_icmp_eq hx hb (hdg rfl) ht (fun _ => go h.2) (fun hn => absurd hc hn)
      · rename_i hc; exact lv_icmp_eq hx hb (hdg rfl) ht (fun hn => absurd hn hc) (fun _ => go h.2)
      · rename_i hc; exact lv_icmp_ne hx hb (hdg rfl) ht (fun hn => absurd hc hn) (fun _ => go h.2)
      · rename_i hc; exact lv_icmp_ne hx hb (hdg rfl) ht (fun _ => go h.2) (fun hn => absurd hn hc)
      · rename_i hc; exact lv_icmp_lt hx hb (hdg rfl) ht (fun _ => go h.2) (fun hn => absurd hc hn)
      · rename_i hc; exact lv_icmp_lt hx hb (hdg rfl) ht (fun hn => absurd hn hc) (fun _ => go h.2)
      · rename_i hc; exact lv_icmp_ge hx hb (hdg rfl) ht (fun _ => go h.2) (fun hn => absurd hc hn)
      · rename_i hc; exact lv_icmp_ge hx hb (hdg rfl) ht (fun hn => absurd hn hc) (fun _ => go h.2)
      · rename_i hc; exact lv_icmp_gt hx hb (hdg rfl) ht (fun _ => go h.2) (fun hn => absurd hc hn)
      · rename_i hc; exact lv_icmp_gt hx hb (hdg rfl) ht (fun hn => absurd hn hc) (fun _ => go h.2)
      · rename_i hc; exact lv_icmp_le hx hb (hdg rfl) ht (fun _ => go h.2) (fun hn => absurd hc hn)
      · rename_i hc; exact lv_icmp_le hx hb (hdg rfl) ht (fun hn => absurd hn hc) (fun _ => go h.2)
    · exact h.elim
  | tableswitch d lo hi' offs =>
    obtain ⟨len, hdl⟩ := a_dok_sw hd
    simp only [a_iok, Bool.and_eq_true, decide_eq_true_eq, List.all_eq_true, List.mem_range] at hi
    obtain ⟨h1, h2, h3, h4⟩ := hi
    unfold a_ins a_ts at h; simp only at h
    split at h
    · rename_i x r
      intro H locs ls hP hS hL hX hg
      rcases a_sw_spec (fun t => a_K p l e R s m args below meth c Q G sh nL g0 gf t L r σ) x tgt sw with ⟨q1, q2⟩ | ⟨j, q, q1, q2, q3⟩
      · rw [q1] at h
        refine lv_tableOut hx hb hdl ?_ h1 (h.2 H locs ls hP hS hL hX hg)
        by_cases c1 : x.toInt < lo
        · exact Or.inl c1
        by_cases c2 : hi' < x.toInt
        · exact Or.inr c2
        exfalso
        have hj : (x.toInt - lo).toNat < offs.size := by omega
        have h5 := h4 _ hj
        unfold a_swok at h5
        split at h5
        · rename_i q o hq ho
          simp only [Bool.and_eq_true, decide_eq_true_eq] at h5
          refine q2 q (List.mem_of_getElem? hq) ?_
          rw [← Int32.toInt_inj, h5.1]
          omega
        · cases h5
      · rw [q3] at h
        have hj : j < offs.size := by rw [← h3]; exact (List.getElem?_eq_some_iff.mp q1).1
        have h5 := h4 j hj
        unfold a_swok at h5
        rw [q1] at h5
        split at h5
        · rename_i q' o hq ho
          cases hq
          simp only [Bool.and_eq_true, decide_eq_true_eq] at h5
          refine lv_tableIn hx hb hdl (by rw [q2]; omega) (by rw [q2]; omega) (off := o) (by rw [q2, h5.1, show (lo + (j : Int) - lo).toNat = j by omega]; exact ho) h5.2 (h.2 H locs ls hP hS hL hX hg)
        · cases h5
    · exact h.elim
  | ldc n =>
    unfold a_ins a_ldc at h; simp only at h
    split at h
    · rename_i x hv
      intro H locs ls hP hS hL hX hg
      have k := h.2 H locs ls hP hS hL hX hg
      exact lv_ldc hx hb hown (hts _ (hC.1 n x (a_lk_mem hv))) (hdg rfl) k
    · rename_i x hv
      intro H locs ls hP hS hL hX hg
      have k := h.2 H locs ls hP hS hL hX hg
      obtain ⟨tx, hw⟩ := hC.2.2 n x (a_lk_mem hv)
      exact va_ldcS hx hb hown (vk_R.warm hWs hw) (hdg rfl) k
    · exact h.elim
  | ldc_w n =>
    unfold a_ins a_ldw at h; simp only at h
    split at h
    · rename_i x hv
      intro H locs ls hP hS hL hX hg
      exact lv_ldcw hx hb hown (hts _ (hC.1 n x (a_lk_mem hv))) (hdg rfl) (h.2 H locs ls hP hS hL hX hg)
    · exact h.elim
  | ldc2_w n =>
    unfold a_ins a_ld2 at h; simp only at h
    split at h
    · rename_i x hv
      intro H locs ls hP hS hL hX hg
      exact lv_ldc2 hx hb hown (hts _ (hC.2.1 n x (a_lk_mem hv))) (hdg rfl) (h.2 H locs ls hP hS hL hX hg)
    · exact h.elim
  | iaload =>
    unfold a_ins a_ial at h; simp only at h
    split at h
    · rename_i j k r
      split at h
      · rename_i n hk
        split at h
        · rename_i hj
          intro H locs ls hP hS hL hX hg
          exact va_iald hx hb hK hP k 0 ((a_wl_at hk).trans (by rw [a_ce_i (by decide)])) rfl (a_ok_in hj) (hdg rfl) (h.2 H locs ls hP hS hL hX hg)
        · exact h.elim
      · split at h
        · rename_i n h9
          split at h
          · rename_i hj
            have hk9 := Nat.eq_of_beq_eq_true h9
            subst hk9
            intro H locs ls hP hS hL hX hg
            have hn := hsl _ rfl
            subst hn
            have hX0 : va_X (g_ad G 900) (g_n G) (g_xs G) s s.heap := va_X.moved hWs.alike (hG.2.2.2.2.1.kept (hbh _ (by
              obtain ⟨scr, h1, -⟩ := hG.2.2.2.2.1
              exact (Array.getElem?_eq_some_iff.mp h1).1)))
            have hin := vp_in_iff.mp (a_ok_in hj)
            have hlt : j.toNatClampNeg < g_n G := by
              show j.toInt.toNat < _
              omega
            have hbl : g_ad G 900 < s.heap.size := by
              obtain ⟨scr, h1, -⟩ := hX0
              exact (Array.getElem?_eq_some_iff.mp h1).1
            have hbA : ¬ a_A (g_ad G) sh.length s.heap.size (g_ad G 900) := by
              obtain ⟨scr, h1, -⟩ := hG.2.2.2.2.1
              have h2 := (Array.getElem?_eq_some_iff.mp h1).1
              rintro (⟨k, hk, he⟩ | hz)
              · have := hG.2.1 k hk
                omega
              · omega
            have hk := h.2 H locs ls hP hS hL hX hg
            rw [hX _ hlt] at hk
            exact va_sld hx hb hX0 hbl hbA hS (a_ok_in hj) (hdg rfl) hk
          · exact h.elim
        · exact h.elim
      · exact h.elim
    · exact h.elim
  | baload =>
    unfold a_ins a_bal at h; simp only at h
    split at h
    · rename_i j k r
      split at h
      · rename_i n hk
        split at h
        · rename_i hj
          intro H locs ls hP hS hL hX hg
          exact va_bald hx hb hK hP k 1 ((a_wl_at hk).trans (by rw [a_ce_i (by decide)])) rfl (a_ok_in hj) (hdg rfl) (h.2 H locs ls hP hS hL hX hg)
        · exact h.elim
      · rename_i n hk
        split at h
        · rename_i hj
          intro H locs ls hP hS hL hX hg
          exact va_zald hx hb hK hP k 2 ((a_wl_at hk).trans (by rw [a_ce_i (by decide)])) rfl (a_ok_in hj) (hdg rfl) (h.2 H locs ls hP hS hL hX hg)
        · exact h.elim
      · exact h.elim
    · exact h.elim
  | laload =>
    unfold a_ins a_lal at h; simp only at h
    split at h
    · rename_i j k r
      split at h
      · rename_i n hk
        split at h
        · rename_i hj
          intro H locs ls hP hS hL hX hg
          exact va_lald hx hb hK hP k 3 (a_wl_at hk) rfl (a_ok_in hj) (hdg rfl) (h.2 H locs ls hP hS hL hX hg)
        · exact h.elim
      · exact h.elim
    · exact h.elim
  | iastore =>
    unfold a_ins a_ias at h; simp only at h
    split at h
    · rename_i x j k r
      split at h
      · rename_i n hk
        split at h
        · rename_i hj
          intro H locs ls hP hS hL hX hg
          have hne : (900 : Nat) ≠ k := fun e => absurd (List.getElem?_eq_some_iff.mp hk).1 (Nat.not_lt.mpr (e ▸ hN))
          refine va_iast hx hb hK hP (hD σ) hS k 0 ((a_wl_at hk).trans (by rw [a_ce_i (by decide)])) rfl (a_ok_in hj) (hdg rfl) (fun H1 locs1 hP1 _ hS1 => ?_)
          rw [a_wl_ia hk (by decide)] at hP1
          exact h.2 H1 locs1 ls hP1 hS1 hL (fun i hi => by rw [a_si_ne hne]; exact hX i hi) hg
        · exact h.elim
      · exact h.elim
    · exact h.elim
  | bastore =>
    unfold a_ins a_bas at h; simp only at h
    split at h
    · rename_i x j k r
      split at h
      · rename_i n hk
        split at h
        · rename_i hj
          intro H locs ls hP hS hL hX hg
          have hne : (900 : Nat) ≠ k := fun e => absurd (List.getElem?_eq_some_iff.mp hk).1 (Nat.not_lt.mpr (e ▸ hN))
          refine va_bast hx hb hK hP (hD σ) hS k 1 ((a_wl_at hk).trans (by rw [a_ce_i (by decide)])) rfl (a_ok_in hj) (hdg rfl) (fun H1 locs1 hP1 _ hS1 => ?_)
          rw [a_wl_ia hk (by decide)] at hP1
          exact h.2 H1 locs1 ls hP1 hS1 hL (fun i hi => by rw [a_si_ne hne]; exact hX i hi) hg
        · exact h.elim
      · rename_i n hk
        split at h
        · rename_i hj
          intro H locs ls hP hS hL hX hg
          have hne : (900 : Nat) ≠ k := fun e => absurd (List.getElem?_eq_some_iff.mp hk).1 (Nat.not_lt.mpr (e ▸ hN))
          refine va_zast hx hb hK hP (hD σ) hS k 2 ((a_wl_at hk).trans (by rw [a_ce_i (by decide)])) rfl (a_ok_in hj) (hdg rfl) (fun H1 locs1 hP1 _ hS1 => ?_)
          rw [a_wl_ia hk (by decide)] at hP1
          exact h.2 H1 locs1 ls hP1 hS1 hL (fun i hi => by rw [a_si_ne hne]; exact hX i hi) hg
        · exact h.elim
      · exact h.elim
    · exact h.elim
  | lastore =>
    unfold a_ins a_las at h; simp only at h
    split at h
    · rename_i x j k r
      split at h
      · rename_i n hk
        split at h
        · rename_i hj
          intro H locs ls hP hS hL hX hg
          refine va_last hx hb hK hP (hD σ) hS k 3 (a_wl_at hk) rfl (a_ok_in hj) (hdg rfl) (fun H1 locs1 hP1 _ hS1 => ?_)
          rw [a_wl_la hk] at hP1
          exact h.2 H1 locs1 ls hP1 hS1 hL hX hg
        · exact h.elim
      · exact h.elim
    · exact h.elim
  | arraylength =>
    unfold a_ins a_len at h; simp only at h
    split at h
    · rename_i k r
      split at h
      · rename_i t n hk
        split at h
        · rename_i ht
          have ht := Nat.le_of_ble_eq_true ht
          intro H locs ls hP hS hL hX hg
          rcases (show t = 0 ∨ t = 1 ∨ t = 2 ∨ t = 3 by omega) with rfl | rfl | rfl | rfl
          · exact va_alen hx hb hK hP k 0 (a_wl_at hk) rfl rfl (hdg rfl) (h.2 H locs ls hP hS hL hX hg)
          · exact va_alen hx hb hK hP k 1 (a_wl_at hk) rfl rfl (hdg rfl) (h.2 H locs ls hP hS hL hX hg)
          · exact va_alen hx hb hK hP k 2 (a_wl_at hk) rfl rfl (hdg rfl) (h.2 H locs ls hP hS hL hX hg)
          · exact va_alen hx hb hK hP k 3 (a_wl_at hk) rfl rfl (hdg rfl) (h.2 H locs ls hP hS hL hX hg)
        · exact h.elim
      · split at h
        · rename_i n h9
          have hk9 := Nat.eq_of_beq_eq_true h9
          subst hk9
          have hn := hsl _ rfl
          subst hn
          intro H locs ls hP hS hL hX hg
          have hX0 : va_X (g_ad G 900) (g_n G) (g_xs G) s s.heap := va_X.moved hWs.alike (hG.2.2.2.2.1.kept (hbh _ (by
            obtain ⟨scr, h1, -⟩ := hG.2.2.2.2.1
            exact (Array.getElem?_eq_some_iff.mp h1).1)))
          have hbl : g_ad G 900 < s.heap.size := by
            obtain ⟨scr, h1, -⟩ := hX0
            exact (Array.getElem?_eq_some_iff.mp h1).1
          have hbA : ¬ a_A (g_ad G) sh.length s.heap.size (g_ad G 900) := by
            obtain ⟨scr, h1, -⟩ := hG.2.2.2.2.1
            have h2 := (Array.getElem?_eq_some_iff.mp h1).1
            rintro (⟨k, hk, he⟩ | hz)
            · have := hG.2.1 k hk
              omega
            · omega
          exact va_slen hx hb hX0 hbl hbA hS (hdg rfl) (h.2 H locs ls hP hS hL hX hg)
        · exact h.elim
      · exact h.elim
    · exact h.elim
  | getfield n =>
    unfold a_ins a_gf at h; simp only at h
    split at h
    · rename_i k r
      split at h
      · rename_i ci j c2 fk hf hk
        have hf := a_lk_mem hf
        obtain ⟨C, T, N, hc, hj, hw⟩ := hF n ci j hf
        obtain ⟨-, -, hin⟩ := hG.2.2.2.2.2.2 ci C T N hc
        intro H locs ls hP hS hL hX hg
        have key : ∀ v, Nat.beq c2 ci = true → fk[j]? = some v → W p l e R s m args below meth c H locs (σ.2.2 - g0) (6 * (σ.2.2 - g0)) Q (F0 m (pc + 3) ls (a_fv (g_ad G) σ k (v, j) :: r.map (a_cv (g_ad G)))) → W p l e R s m args below meth c H locs (σ.2.2 - g0) (6 * (σ.2.2 - g0)) Q (F0 m pc ls ((Value.ref k :: r).map (a_cv (g_ad G)))) := by
          intro v hci hv kk
          have hci := Nat.eq_of_beq_eq_true hci
          subst hci
          exact va_get (C := C) (T := T) (N := N) hx hb hts hin hown hK hP k (a_wl_at hk) hc j hj (hts _ hw) (fun _ h => h) (a_fv_get hv) (hdg rfl) kk
        split at h
        · rename_i h1 h2
          exact key _ h1 h2 (h.2 H locs ls hP hS hL hX hg)
        · rename_i t ht h1 h2
          refine key _ h1 h2 ?_
          have := h.2 H locs ls hP hS hL hX hg
          have e1 : a_fv (g_ad G) σ k (Sum.inl t, j) = .int (σ.1 k j) := by
            unfold a_fv
            split
            · rename_i h3; cases h3; exact absurd rfl ht
            · rfl
            · rename_i h3; cases h3
          rw [e1]
          exact this
        · rename_i q h1 h2
          exact key _ h1 h2 (h.2 H locs ls hP hS hL hX hg)
        · exact h.elim
      · exact h.elim
    · exact h.elim
  | putfield n =>
    unfold a_ins a_pf at h; simp only at h
    have key : ∀ (k ci j c2 : Nat) (fk : List (Nat ⊕ Nat)) (t : Nat) (v : Value) (r : List Value) (H : Heap) (locs : List Loc) (ls : Array Slot), va_P (g_D G) vwCl (a_wl (g_ad G) (g_ca G) sh σ) H → va_S (a_A (g_ad G) sh.length s.heap.size) s.heap H locs →
        a_lk (a_flds P) n = some (ci, j) → sh[k]? = some (.inr (c2, fk)) → Nat.beq c2 ci = true → fk[j]? = some (.inl t) → narrow (a_ty t) v = v → fits (a_ty t) v = true →
        (∀ (H1 : Heap) (locs1 : List Loc), va_P (g_D G) vwCl ((a_wl (g_ad G) (g_ca G) sh σ).set k (g_ad G k, .inr (c2, (fk.zipIdx.map (a_fv (g_ad G) σ k)).set j v))) H1 → va_S (a_A (g_ad G) sh.length s.heap.size) s.heap H1 locs1 → W p l e R s m args below meth c H1 locs1 (σ.2.2 - g0) (6 * (σ.2.2 - g0)) Q (F0 m (pc + 3) ls r)) →
        W p l e R s m args below meth c H locs (σ.2.2 - g0) (6 * (σ.2.2 - g0)) Q (F0 m pc ls (v :: .ref (g_ad G k) :: r)) := by
      intro k ci j c2 fk t v r H locs ls hP hS hf hk hci hj hnar hfit kk
      have hci := Nat.eq_of_beq_eq_true hci
      subst hci
      obtain ⟨C, T, N, hc, hjN, hw⟩ := hF n _ j (a_lk_mem hf)
      obtain ⟨⟨ty0, hty⟩, hnm, hin⟩ := hG.2.2.2.2.2.2 _ C T N hc
      obtain ⟨C2, T2, N2, hc2, hlen, hfk⟩ := hG.2.2.2.2.2.1 k _ fk hk
      cases hc.symm.trans hc2
      obtain ⟨-, hd2, hfin⟩ := hfk j t hj
      exact va_put (C := C) (T := T) (N := N) hx hb hts hin ty0 hty hnm hown hK hP (hD σ) hS k (a_wl_at hk) hc j hjN (hts _ hw) (fun _ h => h) hfin hd2 hnar hfit (by simpa using (List.getElem?_eq_some_iff.mp hj).1) (hdg rfl) (fun H1 locs1 a1 _ a3 => kk H1 locs1 a1 a3)
    split at h
    · rename_i x k r
      split at h
      · rename_i ci j c2 fk hf hk
        have hne : (900 : Nat) ≠ k := fun e => absurd (List.getElem?_eq_some_iff.mp hk).1 (Nat.not_lt.mpr (e ▸ hN))
        intro H locs ls hP hS hL hX hg
        split at h
        · rename_i h1 h2
          refine key k ci j c2 fk 0 (.int x) _ H locs ls hP hS hf hk h1 h2 rfl rfl (fun H1 locs1 hP1 hS1 => ?_)
          rw [a_wl_io hk h2 (by decide)] at hP1
          exact h.2 H1 locs1 ls hP1 hS1 hL (fun i hi => by rw [a_si_ne hne]; exact hX i hi) hg
        · rename_i h1 h2
          split at h
          · rename_i h01
            refine key k ci j c2 fk 1 (.int x) _ H locs ls hP hS hf hk h1 h2 (by rcases h01 with rfl | rfl <;> rfl) (by rcases h01 with rfl | rfl <;> rfl) (fun H1 locs1 hP1 hS1 => ?_)
            rw [a_wl_io hk h2 (by decide)] at hP1
            exact h.2 H1 locs1 ls hP1 hS1 hL (fun i hi => by rw [a_si_ne hne]; exact hX i hi) hg
          · exact h.elim
        · exact h.elim
      · exact h.elim
    · rename_i x k r
      split at h
      · rename_i ci j c2 fk hf hk
        intro H locs ls hP hS hL hX hg
        split at h
        · rename_i h1 h2
          refine key k ci j c2 fk 2 (.long x) _ H locs ls hP hS hf hk h1 h2 rfl rfl (fun H1 locs1 hP1 hS1 => ?_)
          rw [a_wl_lo hk h2] at hP1
          exact h.2 H1 locs1 ls hP1 hS1 hL hX hg
        · exact h.elim
      · exact h.elim
    · exact h.elim
  | invokevirtual n =>
    unfold a_ins a_call at h; simp only at h
    split at h
    · exact h.elim
    · rename_i f na ci rk hf
      split at h
      · exact h.elim
      · rename_i as r hta
        obtain ⟨e1, e2⟩ := a_take_eq hta
        split at h
        · exact h.elim
        · rename_i hb9
          simp only [Bool.and_eq_true] at hb9
          rw [e1]
          refine hCa true n f na ci rk (a_lk_mem hf) pc L as r σ (hdg rfl) ⟨_, hmem⟩ hb9.2.2 (Nat.le_of_ble_eq_true hb9.1) e2 (Nat.le_of_ble_eq_true hb9.2.1) h
  | invokestatic n =>
    unfold a_ins a_call at h; simp only at h
    split at h
    · exact h.elim
    · rename_i f na ci rk hf
      split at h
      · exact h.elim
      · rename_i as r hta
        obtain ⟨e1, e2⟩ := a_take_eq hta
        split at h
        · exact h.elim
        · rename_i hb9
          simp only [Bool.and_eq_true] at hb9
          rw [e1]
          refine hCa false n f na ci rk (a_lk_mem hf) pc L as r σ (hdg rfl) ⟨_, hmem⟩ hb9.2.2 (Nat.le_of_ble_eq_true hb9.1) e2 (Nat.le_of_ble_eq_true hb9.2.1) h
  | ireturn =>
    unfold a_ins a_rti at h; simp only at h
    split at h
    · split at h
      · rename_i h0
        exact hRi pc L _ σ (hdg rfl) (Or.inl h0) h
      · rename_i h0
        split at h
        · rename_i h01
          exact hRi pc L _ σ (hdg rfl) (Or.inr ⟨h0, h01⟩) h
        · exact h.elim
      · exact h.elim
    · exact h.elim
  | return_ =>
    unfold a_ins a_rtv at h; simp only at h
    split at h
    · split at h
      · rename_i h0
        exact hRv pc L σ (hdg rfl) h0 h
      · exact h.elim
    · exact h.elim
  | lreturn =>
    unfold a_ins a_rtl at h; simp only at h
    split at h
    · split at h
      · rename_i h0
        exact hRl pc L _ σ (hdg rfl) h0 h
      · exact h.elim
    · exact h.elim
  | new n =>
    unfold a_ins a_th at h; simp only at h
    split at h
    · rename_i x hx9
      split at h
      · rename_i h8
        exact hTh pc L st x σ (a_lk_mem hx9) (Nat.le_of_ble_eq_true h8) h
      · exact h.elim
    · exact h.elim
  | _ => exact False.elim h
end AS
end
section
/-! ===== methods: runs, contracts, calls ===== -/
abbrev a_en : Nat → String := fun x => match x with
  | 0 => "java/util/NoSuchElementException"
  | _ => "java/lang/IllegalArgumentException"
abbrev a_rm (fr lo n : Nat) : Room := { frames := fr, cells := n, slots := 6 * n, locals := lo }
def a_Wh (G : aG) (sh : List aShp) (σ : aMem) (H : Heap) : Prop := va_P (g_D G) vwCl (a_wl (g_ad G) (g_ca G) sh σ) H ∧ (g_s G).heap.size ≤ H.size ∧ (∀ q, q < (g_s G).heap.size → H[q]? = (g_s G).heap[q]?) ∧ ∀ j, j < g_n G → σ.1 900 j = g_xs G j
def a_Pre (G : aG) (sh : List aShp) (as : List Value) (σ : aMem) (sz : Nat) : Array Value → State → Prop := va_Pc (as.map (a_cv (g_ad G))) (fun U => U.heap.size = sz ∧ (g_s G).WarmedH U.vm ∧ a_Wh G sh σ U.heap)
def a_Qr (G : aG) (sh : List aShp) (v : Option Value) (σ : aMem) (sz : Nat) : Array Value → State → Outcome → State → Prop := fun _ st o t => o = .returned (v.map (a_cv (g_ad G))) ∧ a_Wh G sh σ t.heap ∧ va_F (a_A (g_ad G) sh.length sz) st t
def a_Qx (G : aG) (sh : List aShp) (x : Nat) (σ : aMem) (sz : Nat) : String → State → State → Prop := fun E st t => E = a_en x ∧ a_Wh G sh σ t.heap ∧ va_F (a_A (g_ad G) sh.length sz) st t
/-- a method's contract: where its function answers, it answers so, or throws so -/
def a_Con (l : Launch) (G : aG) (sh : List aShp) (y : MethodName) (w : Cond) (fr lo : Nat) (f : aMF) : Prop :=
  ∀ (as : List Value) (σ : aMem) (o : aOut) (σ' : aMem), f as σ = some (o, σ') → a_wt as ≤ as.length → σ.2.2 ≤ σ'.2.2 ∧ ∀ sz : Nat, match o with
    | .inl v => Met l y [w] (a_rm fr lo (σ'.2.2 - σ.2.2)) (a_Pre G sh as σ sz) (a_Qr G sh v σ' sz) (σ'.2.2 - σ.2.2) (6 * (σ'.2.2 - σ.2.2)) (a_A (g_ad G) sh.length sz)
    | .inr x => vx_Met l y [w] (a_rm fr lo (σ'.2.2 - σ.2.2)) (a_Pre G sh as σ sz) (fun _ _ _ _ => False) (a_Qx G sh x σ' sz) (σ'.2.2 - σ.2.2) (6 * (σ'.2.2 - σ.2.2)) (a_A (g_ad G) sh.length sz)
theorem a_Pre_blind (G : aG) (sh : List aShp) (as : List Value) (σ : aMem) (sz : Nat) : FrameBlind (a_Pre G sh as σ sz) := fun _ _ _ _ h => h
theorem a_A_old {G : aG} {sh : List aShp} (hG : a_GF G sh) {sz q : Nat} (hs : (g_s G).heap.size ≤ sz) (hq : q < (g_s G).heap.size) : ¬ a_A (g_ad G) sh.length sz q := by
  rintro (⟨k, hk, he⟩ | hz)
  · have := hG.2.1 k hk
    omega
  · omega
theorem a_A_sub {ad : Nat → Nat} {N a b : Nat} (h : a ≤ b) : ∀ q, a_A ad N b q → a_A ad N a q := fun q hq => hq.elim Or.inl (fun z => Or.inr (Nat.le_trans h z))
theorem a_Wh_of {G : aG} {sh : List aShp} {s : State} {σ : aMem} {H : Heap} {locs : List Loc} (hG : a_GF G sh) (hs : (g_s G).heap.size ≤ s.heap.size) (ho : ∀ q, q < (g_s G).heap.size → s.heap[q]? = (g_s G).heap[q]?) (hP : va_P (g_D G) vwCl (a_wl (g_ad G) (g_ca G) sh σ) H) (hS : va_S (a_A (g_ad G) sh.length s.heap.size) s.heap H locs) (hX : ∀ j, j < g_n G → σ.1 900 j = g_xs G j) : a_Wh G sh σ H :=
  ⟨hP, Nat.le_trans hs hS.1, fun q hq => by rw [hS.2.1 q (Nat.lt_of_lt_of_le hq hs) (a_A_old hG hs hq)]; exact ho q hq, hX⟩
theorem a_wt_one {as : List Value} (h : a_wt as ≤ as.length) : ∀ v ∈ as, v.category = 1 := by
  have key : ∀ as : List Value, as.length ≤ a_wt as ∧ (a_wt as ≤ as.length → ∀ v ∈ as, v.category = 1) := by
    intro as
    induction as with
    | nil => exact ⟨Nat.le_refl _, fun _ v hv => by cases hv⟩
    | cons w r ih =>
      have hc : 1 ≤ w.category := by rcases lv_cat w with h | h <;> omega
      refine ⟨by simp only [List.length_cons, a_wt]; omega, fun h v hv => ?_⟩
      simp only [List.length_cons, a_wt] at h
      rcases List.mem_cons.mp hv with rfl | hv
      · omega
      · exact ih.2 (by omega) v hv
  exact (key as).2 h
theorem a_crk_ret {ρ : Type} {K : Nat → aLs → List Value → aMem → ρ} {Rt : aOut → aMem → ρ} {N : ρ} {P : aPrg} {rk : Nat} {v : Option Value} {σ' : aMem} {pc : Nat} {L : aLs} {r : List Value} : a_crk K N Rt P rk (some (.inl v, σ')) pc L r = N ∨ a_crk K N Rt P rk (some (.inl v, σ')) pc L r = K pc L (v.toList ++ r) σ' := by
  unfold a_crk
  split
  · unfold a_bi
    split
    · rename_i h; cases h; exact Or.inr rfl
    · rename_i h; cases h
    · exact Or.inl rfl
  · unfold a_bv
    split
    · rename_i h; cases h; exact Or.inr rfl
    · rename_i h; cases h
    · exact Or.inl rfl
  · unfold a_bl
    split
    · rename_i h; cases h; exact Or.inr rfl
    · rename_i h; cases h
    · exact Or.inl rfl
theorem a_crk_thr {ρ : Type} {K : Nat → aLs → List Value → aMem → ρ} {Rt : aOut → aMem → ρ} {N : ρ} {P : aPrg} {rk x : Nat} {σ' : aMem} {pc : Nat} {L : aLs} {r : List Value} : a_crk K N Rt P rk (some (.inr x, σ')) pc L r = a_exc K Rt P L x σ' := by
  unfold a_crk
  split <;> rfl
theorem a_crk_none {ρ : Type} {K : Nat → aLs → List Value → aMem → ρ} {Rt : aOut → aMem → ρ} {N : ρ} {P : aPrg} {rk : Nat} {pc : Nat} {L : aLs} {r : List Value} : a_crk K N Rt P rk none pc L r = N := by
  unfold a_crk
  split <;> rfl
/-- no exception is unmade -/
def a_mono (f : aMF) : Prop := ∀ (as : List Value) (σ : aMem) (o : aOut) (σ' : aMem), f as σ = some (o, σ') → σ.2.2 ≤ σ'.2.2
set_option maxHeartbeats 4000000 in
theorem a_ins_mono {sl : Option Nat} {sh : List aShp} {P : aPrg} (hf : ∀ n f na ci rk, (n, f, na, ci, rk) ∈ a_cals P → ∀ (as : List Value) (σ : aMem) (o : aOut) (σ' : aMem), f as σ = some (o, σ') → a_wt as ≤ as.length → σ.2.2 ≤ σ'.2.2) (i : Instr) (imm : Int32) (tgt : Nat) (sw : List (Int32 × Nat)) (pc : Nat) (L : aLs) (st : List Value) (σ : aMem) :
    a_ins (fun _ _ _ τ => σ.2.2 ≤ τ.2.2) True (fun _ τ => σ.2.2 ≤ τ.2.2) sl sh P i imm tgt sw pc L st σ := by
  have hr : ∀ τ : aMem, σ.2.2 ≤ τ.2.2 → ∀ x, a_exc (fun _ _ _ τ => σ.2.2 ≤ τ.2.2) (fun _ τ => σ.2.2 ≤ τ.2.2) P L x τ := by
    intro τ h x
    unfold a_exc
    split <;> exact h
  have hcall : ∀ virt n pc, a_call (fun _ _ _ τ => σ.2.2 ≤ τ.2.2) True (fun _ τ => σ.2.2 ≤ τ.2.2) sh P virt n pc L st σ := by
    intro virt n pc
    unfold a_call
    split
    · trivial
    · rename_i f na ci rk hfl
      split
      · trivial
      · rename_i as r hta
        obtain ⟨e1, e2⟩ := a_take_eq hta
        split
        · trivial
        · rename_i hb9
          simp only [Bool.and_eq_true] at hb9
          have hw := Nat.le_of_ble_eq_true hb9.2.1
          rw [← e2] at hw
          have hm := hf n f na ci rk (a_lk_mem hfl) as σ
          generalize f as σ = o at hm
          match o, hm with
          | none, _ => rw [a_crk_none]; trivial
          | some (.inl v, τ), hm =>
            rcases a_crk_ret (K := fun _ _ _ (τ : aMem) => σ.2.2 ≤ τ.2.2) (Rt := fun _ (τ : aMem) => σ.2.2 ≤ τ.2.2) (N := True) (P := P) (rk := rk) (v := v) (σ' := τ) (pc := pc) (L := L) (r := r) with h | h
            · rw [h]; trivial
            · rw [h]; exact hm _ _ rfl hw
          | some (.inr x, τ), hm => rw [a_crk_thr]; exact hr τ (hm _ _ rfl hw) x
  cases i <;> unfold a_ins <;> simp only
  all_goals first
    | exact Nat.le_refl _
    | trivial
    | exact hcall ..
    | (unfold a_ts; split <;> first | trivial | (rename_i x r; rcases a_sw_spec (fun _ => σ.2.2 ≤ σ.2.2) x tgt sw with ⟨q1, -⟩ | ⟨j, q, -, -, q3⟩ <;> first | (rw [q1]; exact Nat.le_refl _) | (rw [q3]; exact Nat.le_refl _)))
    | (unfold a_if; split <;> first | trivial | (unfold a_br; split <;> split <;> exact Nat.le_refl _))
    | (unfold a_ic; split <;> first | trivial | (unfold a_br; split <;> split <;> exact Nat.le_refl _))
    | (unfold a_ild; split <;> first | trivial | exact Nat.le_refl _)
    | (unfold a_lld; split <;> first | trivial | exact Nat.le_refl _)
    | (unfold a_ald; split <;> first | trivial | exact Nat.le_refl _)
    | (unfold a_ist; split <;> first | trivial | (split <;> first | trivial | exact Nat.le_refl _))
    | (unfold a_ast; split <;> first | trivial | (split <;> first | trivial | exact Nat.le_refl _))
    | (unfold a_lst; split <;> first | trivial | (split <;> first | trivial | exact Nat.le_refl _))
    | (unfold a_inc; split <;> first | trivial | exact Nat.le_refl _)
    | (unfold a_bin; split <;> first | trivial | exact Nat.le_refl _)
    | (unfold a_dv; split <;> first | trivial | (split <;> first | trivial | exact Nat.le_refl _))
    | (unfold a_lbin; split <;> first | trivial | exact Nat.le_refl _)
    | (unfold a_un; split <;> first | trivial | exact Nat.le_refl _)
    | (unfold a_lcm; split <;> first | trivial | exact Nat.le_refl _)
    | (unfold a_lsh; split <;> first | trivial | exact Nat.le_refl _)
    | (unfold a_dup; split <;> first | trivial | exact Nat.le_refl _)
    | (unfold a_pop; split <;> first | trivial | exact Nat.le_refl _)
    | (unfold a_dup2; split <;> first | trivial | exact Nat.le_refl _)
    | (unfold a_ial; split <;> first | trivial | (split <;> first | trivial | (split <;> first | trivial | exact Nat.le_refl _ | (split <;> first | trivial | exact Nat.le_refl _))))
    | (unfold a_bal; split <;> first | trivial | (split <;> first | trivial | (split <;> first | trivial | exact Nat.le_refl _)))
    | (unfold a_lal; split <;> first | trivial | (split <;> first | trivial | (split <;> first | trivial | exact Nat.le_refl _)))
    | (unfold a_ias; split <;> first | trivial | (split <;> first | trivial | (split <;> first | trivial | exact Nat.le_refl _)))
    | (unfold a_bas; split <;> first | trivial | (split <;> first | trivial | (split <;> first | trivial | exact Nat.le_refl _)))
    | (unfold a_las; split <;> first | trivial | (split <;> first | trivial | (split <;> first | trivial | exact Nat.le_refl _)))
    | (unfold a_len; split <;> first | trivial | (split <;> first | trivial | (split <;> first | trivial | exact Nat.le_refl _)))
    | (unfold a_gf; split <;> first | trivial | (split <;> first | trivial | (split <;> first | trivial | exact Nat.le_refl _)))
    | (unfold a_pf; split <;> first | trivial | (split <;> first | trivial | (split <;> first | trivial | exact Nat.le_refl _ | (split <;> first | trivial | exact Nat.le_refl _))))
    | (unfold a_ldc; split <;> first | trivial | exact Nat.le_refl _)
    | (unfold a_ldw; split <;> first | trivial | exact Nat.le_refl _)
    | (unfold a_ld2; split <;> first | trivial | exact Nat.le_refl _)
    | (unfold a_rti; split <;> first | trivial | (split <;> first | trivial | exact Nat.le_refl _ | (split <;> first | trivial | exact Nat.le_refl _)))
    | (unfold a_rtv; split <;> first | trivial | (split <;> first | trivial | exact Nat.le_refl _))
    | (unfold a_rtl; split <;> first | trivial | (split <;> first | trivial | exact Nat.le_refl _))
    | (unfold a_th; split <;> first | trivial | (split <;> first | trivial | exact Nat.le_succ _))
theorem a_run_mono {sl : Option Nat} {sh : List aShp} {P : aPrg} (hf : ∀ n f na ci rk, (n, f, na, ci, rk) ∈ a_cals P → ∀ (as : List Value) (σ : aMem) (o : aOut) (σ' : aMem), f as σ = some (o, σ') → a_wt as ≤ as.length → σ.2.2 ≤ σ'.2.2) :
    ∀ (n : Nat) (pc : Nat) (L : aLs) (st : List Value) (σ : aMem) (r : aRes), a_runN sl sh P n pc L st σ = some r → σ.2.2 ≤ r.2.2.2
  | 0, _, _, _, _, _, h => by simp [a_runN] at h
  | n + 1, pc, L, st, σ, r, h => by
    unfold a_runN at h
    rw [a_sem_nat] at h
    have key : a_sem (fun _ _ _ (τ : aMem) => σ.2.2 ≤ τ.2.2) True (fun _ (τ : aMem) => σ.2.2 ≤ τ.2.2) sl sh P pc L st σ := by
      unfold a_sem
      split
      · trivial
      · exact a_ins_mono hf ..
    rw [a_sem_nat] at key
    generalize a_stp sl sh P pc L st σ = x at h key
    match x, h, key with
    | none, h, _ => cases h
    | some (.inl (pc', L', st', σ')), h, key => exact Nat.le_trans key (a_run_mono hf n pc' L' st' σ' r h)
    | some (.inr (o, σ')), h, key => cases h; exact key
end
section
/-! ===== runs are the machine's; calls by contract; a method's contract out of its checks ===== -/
theorem a_ins_nt {sl : Option Nat} {sh : List aShp} {P : aPrg} (ht : a_thr P = []) (hh : ∀ n f na ci rk, (n, f, na, ci, rk) ∈ a_cals P → ∀ (as : List Value) (σ : aMem) (x : Nat) (σ' : aMem), f as σ ≠ some (.inr x, σ')) (i : Instr) (imm : Int32) (tgt : Nat) (sw : List (Int32 × Nat)) (pc : Nat) (L : aLs) (st : List Value) (σ : aMem) :
    a_ins (fun _ _ _ _ => True) True (fun o _ => ∃ v, o = .inl v) sl sh P i imm tgt sw pc L st σ := by
  have hcall : ∀ virt n pc, a_call (fun _ _ _ _ => True) True (fun o _ => ∃ v, o = .inl v) sh P virt n pc L st σ := by
    intro virt n pc
    unfold a_call
    split
    · trivial
    · rename_i f na ci rk hfl
      split
      · trivial
      · rename_i as r hta
        split
        · trivial
        · have hm := hh n f na ci rk (a_lk_mem hfl) as σ
          generalize f as σ = o at hm
          match o, hm with
          | none, _ => rw [a_crk_none]; trivial
          | some (.inl v, τ), hm =>
            rcases a_crk_ret (K := fun _ _ _ (_ : aMem) => True) (Rt := fun (o : aOut) (_ : aMem) => ∃ v, o = .inl v) (N := True) (P := P) (rk := rk) (v := v) (σ' := τ) (pc := pc) (L := L) (r := r) with h | h <;> (rw [h]; trivial)
          | some (.inr x, τ), hm => exact absurd rfl (hm x τ)
  cases i <;> unfold a_ins <;> simp only
  all_goals first
    | trivial
    | exact hcall ..
    | (unfold a_rti; split <;> first | trivial | (split <;> first | trivial | exact ⟨_, rfl⟩ | (split <;> first | trivial | exact ⟨_, rfl⟩)))
    | (unfold a_rtv; split <;> first | trivial | (split <;> first | trivial | exact ⟨_, rfl⟩))
    | (unfold a_rtl; split <;> first | trivial | (split <;> first | trivial | exact ⟨_, rfl⟩))
    | (unfold a_th; rw [ht]; exact trivial)
    | (unfold a_ts; split <;> first | trivial | (rename_i x r; rcases a_sw_spec (fun _ => True) x tgt sw with ⟨q1, -⟩ | ⟨j, q, -, -, q3⟩ <;> first | (rw [q1]; trivial) | (rw [q3]; trivial)))
    | (unfold a_if; split <;> first | trivial | (unfold a_br; split <;> split <;> trivial))
    | (unfold a_ic; split <;> first | trivial | (unfold a_br; split <;> split <;> trivial))
    | (unfold a_ild; split <;> trivial)
    | (unfold a_lld; split <;> trivial)
    | (unfold a_ald; split <;> trivial)
    | (unfold a_ist; split <;> first | trivial | (split <;> trivial))
    | (unfold a_ast; split <;> first | trivial | (split <;> trivial))
    | (unfold a_lst; split <;> first | trivial | (split <;> trivial))
    | (unfold a_inc; split <;> trivial)
    | (unfold a_bin; split <;> trivial)
    | (unfold a_dv; split <;> first | trivial | (split <;> trivial))
    | (unfold a_lbin; split <;> trivial)
    | (unfold a_un; split <;> trivial)
    | (unfold a_lcm; split <;> trivial)
    | (unfold a_lsh; split <;> trivial)
    | (unfold a_dup; split <;> trivial)
    | (unfold a_pop; split <;> trivial)
    | (unfold a_dup2; split <;> trivial)
    | (unfold a_ial; split <;> first | trivial | (split <;> first | trivial | (split <;> first | trivial | (split <;> trivial))))
    | (unfold a_bal; split <;> first | trivial | (split <;> first | trivial | (split <;> trivial)))
    | (unfold a_lal; split <;> first | trivial | (split <;> first | trivial | (split <;> trivial)))
    | (unfold a_ias; split <;> first | trivial | (split <;> first | trivial | (split <;> trivial)))
    | (unfold a_bas; split <;> first | trivial | (split <;> first | trivial | (split <;> trivial)))
    | (unfold a_las; split <;> first | trivial | (split <;> first | trivial | (split <;> trivial)))
    | (unfold a_len; split <;> first | trivial | (split <;> first | trivial | (split <;> trivial)))
    | (unfold a_gf; split <;> first | trivial | (split <;> first | trivial | (split <;> trivial)))
    | (unfold a_pf; split <;> first | trivial | (split <;> first | trivial | (split <;> first | trivial | (split <;> trivial))))
    | (unfold a_ldc; split <;> trivial)
    | (unfold a_ldw; split <;> trivial)
    | (unfold a_ld2; split <;> trivial)
theorem a_run_nt {sl : Option Nat} {sh : List aShp} {P : aPrg} (ht : a_thr P = []) (hh : ∀ n f na ci rk, (n, f, na, ci, rk) ∈ a_cals P → ∀ (as : List Value) (σ : aMem) (x : Nat) (σ' : aMem), f as σ ≠ some (.inr x, σ')) :
    ∀ (n : Nat) (pc : Nat) (L : aLs) (st : List Value) (σ : aMem) (r : aRes), a_runN sl sh P n pc L st σ = some r → ∃ v, r.1 = .inl v
  | 0, _, _, _, _, _, h => by simp [a_runN] at h
  | n + 1, pc, L, st, σ, r, h => by
    unfold a_runN at h
    rw [a_sem_nat] at h
    have key : a_sem (fun _ _ _ (_ : aMem) => True) True (fun (o : aOut) (_ : aMem) => ∃ v, o = .inl v) sl sh P pc L st σ := by
      unfold a_sem
      split
      · trivial
      · exact a_ins_nt ht hh ..
    rw [a_sem_nat] at key
    generalize a_stp sl sh P pc L st σ = x at h key
    match x, h, key with
    | none, h, _ => cases h
    | some (.inl (pc', L', st', σ')), h, key => exact a_run_nt ht hh n pc' L' st' σ' r h
    | some (.inr (o, σ')), h, key => cases h; exact key
section AR
variable {p : Program} {l : Launch} {e : Env} {R : Room} {s : State} {m : MethodId} {args : Array Value} {below : List Frame} {meth : Method} {c : Code} {Q : State → Prop} {G : aG} {sh : List aShp} {nL g0 : Nat}
/-- behind a call that returns -/
theorem a_goR {H : Heap} {locs : List Loc} {cells slots mc ms pc : Nat} {ls : Array Slot} {st0 rest : List Value} {v : Option Value} {σ' : aMem} {a : Array Value}
    (hr : va_Run p l e R s m args below meth c H locs cells slots mc ms (F0 m pc ls st0) rest (a_Qr G sh v σ' H.size a) (a_A (g_ad G) sh.length H.size)) (hS : va_S (a_A (g_ad G) sh.length s.heap.size) s.heap H locs)
    (kk : ∀ (H1 : Heap) (locs1 : List Loc), a_Wh G sh σ' H1 → va_S (a_A (g_ad G) sh.length s.heap.size) s.heap H1 locs1 → W p l e R s m args below meth c H1 locs1 (cells + mc) (slots + ms) Q (F0 m (pc + 3) ls ((v.map (a_cv (g_ad G))).toList ++ rest))) :
    W p l e R s m args below meth c H locs cells slots Q (F0 m pc ls st0) := by
  intro T hT X
  obtain ⟨v9, st₀, t, T', L, h0, X', hL, e1, e2, ⟨hv, hB, hF⟩, st⟩ := hr T hT X
  cases hv
  obtain ⟨k1, k2, k3⟩ := vx_keep h0 e1 hS (fun q _ h => a_A_sub hS.1 q h) (fun q h => a_A_sub hS.1 q h) hL hF
  obtain ⟨t2, a1, b1⟩ := kk T'.heap (locs ++ L) (by rw [e1]; exact hB) k3 T' rfl X'
  exact ⟨t2, st t2 a1, b1⟩
/-- behind a call that throws -/
theorem a_goX {H : Heap} {locs : List Loc} {cells slots mc ms pc : Nat} {ls : Array Slot} {st0 rest : List Value} {x : Nat} {σ' : aMem}
    (hr : vx_Run p l e R s m args below meth c H locs cells slots mc ms (F0 m pc ls st0) rest (fun _ _ _ => False) (a_Qx G sh x σ' H.size) (a_A (g_ad G) sh.length H.size)) (hS : va_S (a_A (g_ad G) sh.length s.heap.size) s.heap H locs)
    (kx : ∀ (H1 : Heap) (locs1 : List Loc) (q : Addr) (ce : Cell), a_Wh G sh σ' H1 → va_S (a_A (g_ad G) sh.length s.heap.size) s.heap H1 locs1 → H1[q]? = some ce → ce.vm = .none → s.vm.findClass (a_en x) = some ce.cls → vx_W p l e R s m args below meth c H1 locs1 (cells + mc) (slots + ms) Q (F0 m pc ls rest) q) :
    W p l e R s m args below meth c H locs cells slots Q (F0 m pc ls st0) := by
  intro T hT X
  rcases hr T hT X with ⟨v9, st₀, t, T', L, h0, X', hL, e1, e2, hF, st⟩ | ⟨q, st₀, t, T', L, E, ce, h0, X', hL, e1, e2, ⟨hE, hB, hF⟩, hce, hcv, hcl, st⟩
  · exact hF.elim
  · subst hE
    obtain ⟨k1, k2, k3⟩ := vx_keep h0 e1 hS (fun q _ h => a_A_sub hS.1 q h) (fun q h => a_A_sub hS.1 q h) hL hF
    obtain ⟨t2, a1, b1⟩ := kx T'.heap (locs ++ L) q ce (by rw [e1]; exact hB) k3 (by rw [e1]; exact hce) hcv hcl T' rfl X'
    exact ⟨t2, st.trans a1, b1⟩
/-- a run is the machine's -/
theorem a_run_sound {sl : Option Nat} {own : String} {cc : ByteArray} {P : aPrg} {rf : aRes} (hG : a_GF G sh) (hN : sh.length ≤ 900) (hsl : ∀ n, sl = some n → n = g_n G) (hM : a_M p s m c G nL own cc) (hF : a_fok own P) (hC : a_cok G own P) (hcode : ∀ e ∈ a_code P, a_eok cc e = true)
    (hmono : ∀ n f na ci rk, (n, f, na, ci, rk) ∈ a_cals P → ∀ (as : List Value) (σ : aMem) (o : aOut) (σ' : aMem), f as σ = some (o, σ') → a_wt as ≤ as.length → σ.2.2 ≤ σ'.2.2)
    (hRi : ∀ pc L x σ, decode cc pc = .ok (.ireturn, 1) → (a_ret P = 0 ∨ (a_ret P = 1 ∧ (x = 0 ∨ x = 1))) → rf = (.inl (some (.int x)), σ) → a_W p l e R s m args below meth c Q G sh nL g0 pc L [.int x] σ)
    (hRv : ∀ pc L σ, decode cc pc = .ok (.return_, 1) → a_ret P = 2 → rf = (.inl none, σ) → a_W p l e R s m args below meth c Q G sh nL g0 pc L [] σ)
    (hRl : ∀ pc L x σ, decode cc pc = .ok (.lreturn, 1) → a_ret P = 3 → rf = (.inl (some (.long x)), σ) → a_W p l e R s m args below meth c Q G sh nL g0 pc L [.long x] σ)
    (hTh : ∀ pc L st x σ, (pc, x) ∈ a_thr P → a_wt st ≤ 8 → rf = (.inr x, a_tk σ) → a_W p l e R s m args below meth c Q G sh nL g0 pc L st σ)
    (hCa : ∀ (virt : Bool) n f na ci rk, (n, f, na, ci, rk) ∈ a_cals P → ∀ pc L as r σ, decode cc pc = .ok (if virt then .invokevirtual n else .invokestatic n, 3) → (∃ e, (pc, (if virt then .invokevirtual n else .invokestatic n), e) ∈ a_code P) → a_vok sh virt ci as = true → a_wt r ≤ 8 → as.length = na → a_wt as ≤ na →
      a_crk (a_K p l e R s m args below meth c Q G sh nL g0 rf.2.2.2) False (fun o σ => rf = (o, σ)) P rk (f as σ) (pc + 3) L r →
      a_W p l e R s m args below meth c Q G sh nL g0 pc L (as.reverse ++ r) σ) :
    ∀ (n : Nat) (pc : Nat) (L : aLs) (st : List Value) (σ : aMem), a_runN sl sh P n pc L st σ = some rf → a_W p l e R s m args below meth c Q G sh nL g0 pc L st σ := by
  intro n
  induction n with
  | zero => intro pc L st σ h; simp [a_runN] at h
  | succ n ih =>
    intro pc L st σ h
    have key : a_sem (a_K p l e R s m args below meth c Q G sh nL g0 rf.2.2.2) False (fun o σ => rf = (o, σ)) sl sh P pc L st σ := by
      unfold a_runN at h
      rw [a_sem_nat] at h ⊢
      generalize a_stp sl sh P pc L st σ = x at h ⊢
      match x, h with
      | none, h => cases h
      | some (.inl (pc', L', st', σ')), h => exact ⟨a_run_mono hmono n _ _ _ _ _ h, ih _ _ _ _ h⟩
      | some (.inr (o, σ')), h => exact (Option.some.inj h).symm
    unfold a_sem at key
    split at key
    · exact key.elim
    · rename_i i imm tgt sw hlk
      have hmem := a_lk_mem hlk
      exact a_ins_sound hG hN hsl hM hF hC hRi hRv hRl hTh hCa i imm tgt sw pc L st σ (hcode _ hmem) hmem key
/-- what a call's pool place says -/
def a_CF (own : String) (n : Nat) (y : MethodName) (bytes : ByteArray) (maxL : Nat) (ret : Option FieldType) (na ci : Nat) (virt : Bool) : Prop :=
  Cond.code y bytes maxL ret ∈ lw_g ∧ Cond.initialized y.cls ∈ lw_g ∧ (y.cls ≠ "java/lang/invoke/MethodHandle" ∧ y.cls ≠ "java/lang/invoke/VarHandle") ∧ (parseMethodDescriptor y.desc).map (fun d => d.parameters.length) = some (if virt then na - 1 else na) ∧
  (virt = true → 1 ≤ na ∧ ci < 1000 ∧ Cond.instanceMethod y ∈ lw_g ∧ Cond.selects y.cls y y ∈ lw_g ∧ ∃ (T : u_T) (N : Nat), vwCl[ci]? = some (y.cls, T, N)) ∧ (virt = false → Cond.static y ∈ lw_g) ∧ (Cond.methodLink own n y ∈ lw_g ∨ ∃ host, Cond.methodLinkNest own n y host ∈ lw_tbl)
theorem a_rcv_at {ci : Nat} {as : List Value} (h : a_rcv sh ci as = true) (hc : ci < 1000) : ∃ k as' fk, as = .ref k :: as' ∧ sh[k]? = some (.inr (ci, fk)) := by
  unfold a_rcv at h
  split at h
  · rename_i k as'
    split at h
    · rename_i q hq
      have := Nat.eq_of_beq_eq_true h
      obtain ⟨c9, fk⟩ := q
      exact ⟨k, as', fk, rfl, by rw [hq, ← this]⟩
    · simp only [Bool.and_eq_true] at h
      have := Nat.eq_of_beq_eq_true h.1
      omega
  · cases h
/-- a call by contract -/
theorem a_call_sound {own : String} {cc : ByteArray} {P : aPrg} {Fin : aOut → aMem → Prop} {gf : Nat} {f : aMF} {y : MethodName} {bytes : ByteArray} {maxL fr lo n na ci rk : Nat} {ret : Option FieldType} {virt : Bool} (hG : a_GF G sh) (hM : a_M p s m c G nL own cc)
    (hCon : a_Con l G sh y (.code y bytes maxL ret) fr lo f) (hCF : a_CF own n y bytes maxL ret na ci virt) (hR : fr + 1 ≤ R.frames ∧ 8 + (maxL + 11) + lo ≤ R.locals) (hRc : gf - g0 ≤ R.cells ∧ 6 * (gf - g0) ≤ R.slots)
    (hnx : Cond.methodLink own n y ∈ lw_g ∨ ∀ (as : List Value) (σ : aMem) (x : Nat) (σ' : aMem), f as σ ≠ some (.inr x, σ'))
    (pc : Nat) (hEg : ∀ L x σ', a_exc (a_K p l e R s m args below meth c Q G sh nL g0 gf) Fin P L x σ' → σ'.2.2 ≤ gf)
    (hEx : ∀ L x σ', a_exc (a_K p l e R s m args below meth c Q G sh nL g0 gf) Fin P L x σ' → ∀ (H1 : Heap) (locs1 : List Loc) (ls : Array Slot) (r : List Value) (q : Addr) (ce : Cell), a_Wh G sh σ' H1 → va_S (a_A (g_ad G) sh.length s.heap.size) s.heap H1 locs1 → a_L (g_ad G) nL ls L → g0 ≤ σ'.2.2 → H1[q]? = some ce → ce.vm = .none → s.vm.findClass (a_en x) = some ce.cls →
      vx_W p l e R s m args below meth c H1 locs1 (σ'.2.2 - g0) (6 * (σ'.2.2 - g0)) Q (F0 m pc ls r) q)
    (L : aLs) (as r : List Value) (σ : aMem) (hdg : decode cc pc = .ok (if virt then .invokevirtual n else .invokestatic n, 3)) (hrcv : virt = true → a_rcv sh ci as = true) (hwr : a_wt r ≤ 8) (hlen : as.length = na) (hwa : a_wt as ≤ na)
    (h : a_crk (a_K p l e R s m args below meth c Q G sh nL g0 gf) False Fin P rk (f as σ) (pc + 3) L r) : a_W p l e R s m args below meth c Q G sh nL g0 pc L (as.reverse ++ r) σ := by
  obtain ⟨hx, hb, hml, hown, hWs, hbs, hbh⟩ := id hM
  have hts := a_hts (args := args) hG hWs
  have hK : va_K (g_D G) vwCl (a_tys (g_ca G)) s := va_K.moved hWs.alike hG.2.2.1
  obtain ⟨c1, c2, c3, c4, c5, c6, c7⟩ := hCF
  have hcode := hts _ c1
  have hini := hts _ c2
  have hgood : ∀ w ∈ lw_g, ∀ (a' : Array Value) (U : State), s.WarmedH U.vm → w.before a' U = true := fun w hw a' U hW => word_at hW (good_of_word (List.mem_filter.mp hw).2) (hts w hw)
  have hws : ∀ w ∈ [Cond.code y bytes maxL ret], ∀ (a' : Array Value) (U : State), s.WarmedH U.vm → w.before a' U = true := fun w hw => by
    rcases List.mem_singleton.mp hw with rfl
    exact hgood _ c1
  have hnp : ∀ sig, parseMethodDescriptor y.desc = some sig → (if virt then na - 1 else na) = sig.parameters.length := fun sig hs => by
    rw [hs] at c4
    exact (Option.some.inj c4).symm
  intro H locs ls hP hS hL hX hg
  have hWh : a_Wh G sh σ H := a_Wh_of hG hbs hbh hP hS hX
  have hPre : ∀ U : State, U.heap = H → s.WarmedH U.vm → a_Pre G sh as σ H.size (as.map (a_cv (g_ad G))).toArray U := fun U hU hW => ⟨rfl, by rw [hU], State.WarmedH.trans hWs hW, by rw [hU]; exact hWh⟩
  have hstk : (as.reverse ++ r).map (a_cv (g_ad G)) = (as.map (a_cv (g_ad G))).reverse ++ r.map (a_cv (g_ad G)) := by simp
  have hwt : ((r.map (a_cv (g_ad G))).map fun v => v.category).sum ≤ 8 := by rw [a_wt_sum]; exact hwr
  rw [hstk]
  cases hfo : f as σ with
  | none => rw [hfo, a_crk_none] at h; exact h.elim
  | some q =>
    obtain ⟨o, σ'⟩ := q
    obtain ⟨hmon, hcon⟩ := hCon as σ o σ' hfo (by rw [hlen]; exact hwa)
    cases o with
    | inl v =>
      have h9 : a_K p l e R s m args below meth c Q G sh nL g0 gf (pc + 3) L (v.toList ++ r) σ' := by
        rw [hfo] at h
        rcases a_crk_ret (K := a_K p l e R s m args below meth c Q G sh nL g0 gf) (Rt := Fin) (N := False) (P := P) (rk := rk) (v := v) (σ' := σ') (pc := pc + 3) (L := L) (r := r) with hh | hh
        · rw [hh] at h; exact h.elim
        · rw [hh] at h; exact h
      have hMet : Met l y [Cond.code y bytes maxL ret] (a_rm fr lo (σ'.2.2 - σ.2.2)) (a_Pre G sh as σ H.size) (a_Qr G sh v σ' H.size) (σ'.2.2 - σ.2.2) (6 * (σ'.2.2 - σ.2.2)) (a_A (g_ad G) sh.length H.size) := hcon H.size
      have e1 : σ.2.2 - g0 + (σ'.2.2 - σ.2.2) = σ'.2.2 - g0 := by omega
      have e2 : 6 * (σ.2.2 - g0) + 6 * (σ'.2.2 - σ.2.2) = 6 * (σ'.2.2 - g0) := by omega
      have hf : σ.2.2 - g0 + (σ'.2.2 - σ.2.2) ≤ R.cells ∧ 6 * (σ.2.2 - g0) + 6 * (σ'.2.2 - σ.2.2) ≤ R.slots := by
        rw [e1, e2]
        have := h9.1
        constructor <;> omega
      have key : va_Run p l e R s m args below meth c H locs (σ.2.2 - g0) (6 * (σ.2.2 - g0)) (σ'.2.2 - σ.2.2) (6 * (σ'.2.2 - σ.2.2)) (F0 m pc ls ((as.map (a_cv (g_ad G))).reverse ++ r.map (a_cv (g_ad G)))) (r.map (a_cv (g_ad G))) (a_Qr G sh v σ' H.size (as.map (a_cv (g_ad G))).toArray) (a_A (g_ad G) sh.length H.size) := by
        cases virt with
        | false =>
          rcases c7 with c7 | ⟨host, c7⟩
          · exact va_runS (As := as.map (a_cv (g_ad G))) (rest := r.map (a_cv (g_ad G))) (n := na) (index := n) (own := own) (bytes := bytes) (maxL := maxL) (ret := ret) ⟨hx, hb, hml, hown, hts⟩ hMet ⟨⟨rfl, rfl, hR.1, hR.2, hws, List.mem_singleton.mpr rfl, hcode, hini, c3, hnp, hts _ c7⟩, hts _ (c6 rfl)⟩ ⟨a_Pre_blind _ _ _ _ _, hPre⟩ rfl (by rw [List.length_map]; exact hlen) hL.1 rfl (lv_room hwt) hdg hf
          · obtain ⟨aa, haa⟩ := hG.2.2.2.1
            have hnw : va_Nw (.methodLinkNest own n y host) s := va_Nw.warmM hWs (va_Nw.of rfl (haa _ c7))
            exact va_runSN (As := as.map (a_cv (g_ad G))) (rest := r.map (a_cv (g_ad G))) (n := na) (index := n) (own := own) (host := host) (bytes := bytes) (maxL := maxL) (ret := ret) (Ts := lw_g) ⟨hx, hb, hml, hown, hts⟩ hMet ⟨⟨⟨rfl, rfl, hR.1, hR.2, hws, List.mem_singleton.mpr rfl⟩, hcode, hini, c3, hnp, va_Nw.use rfl hnw⟩, hts _ (c6 rfl), trivial⟩ ⟨a_Pre_blind _ _ _ _ _, hPre⟩ rfl (by rw [List.length_map]; exact hlen) hL.1 rfl (lv_room hwt) hdg hf
        | true =>
          obtain ⟨hna, hci, ci1, ci2, T9, N9, hcl⟩ := c5 rfl
          obtain ⟨k, as', fk, has, hk⟩ := a_rcv_at (hrcv rfl) hci
          have hrv := va_recv (q0 := k) (ci := ci) hK hP hcl (a_wl_at hk)
          subst has
          rcases c7 with c7 | ⟨host, c7⟩
          · exact va_runV (C := y.cls) (b := g_ad G k) (As := as'.map (a_cv (g_ad G))) (rest := r.map (a_cv (g_ad G))) (n := na - 1) (index := n) (own := own) (bytes := bytes) (maxL := maxL) (ret := ret) ⟨hx, hb, hml, hown, hts⟩ hMet ⟨⟨rfl, rfl, hR.1, hR.2, hws, List.mem_singleton.mpr rfl, hcode, hini, c3, hnp, hts _ c7⟩, hts _ ci1, hts _ ci2⟩ ⟨a_Pre_blind _ _ _ _ _, hrv, hPre⟩ rfl (by rw [List.length_map]; simp at hlen; omega) hL.1 (by simp [a_cv]) (lv_room hwt) hdg hf
          · obtain ⟨aa, haa⟩ := hG.2.2.2.1
            have hnw : va_Nw (.methodLinkNest own n y host) s := va_Nw.warmM hWs (va_Nw.of rfl (haa _ c7))
            exact va_runVN (C := y.cls) (b := g_ad G k) (As := as'.map (a_cv (g_ad G))) (rest := r.map (a_cv (g_ad G))) (n := na - 1) (index := n) (own := own) (host := host) (bytes := bytes) (maxL := maxL) (ret := ret) (Ts := lw_g) ⟨hx, hb, hml, hown, hts⟩ hMet ⟨⟨⟨rfl, rfl, hR.1, hR.2, hws, List.mem_singleton.mpr rfl⟩, hcode, hini, c3, hnp, va_Nw.use rfl hnw⟩, hts _ ci1, hts _ ci2⟩ ⟨a_Pre_blind _ _ _ _ _, hrv, hPre⟩ rfl (by rw [List.length_map]; simp at hlen; omega) hL.1 (by simp [a_cv]) (lv_room hwt) hdg hf
      refine a_goR key hS (fun H1 locs1 hB hS1 => ?_)
      rw [e1, e2]
      have := h9.2 H1 locs1 ls hB.1 hS1 hL hB.2.2.2 (by omega)
      have e3 : (v.toList ++ r).map (a_cv (g_ad G)) = (v.map (a_cv (g_ad G))).toList ++ r.map (a_cv (g_ad G)) := by cases v <;> rfl
      rw [e3] at this
      exact this
    | inr x =>
      rw [hfo, a_crk_thr] at h
      have hgx := hEg L x σ' h
      have hMet : vx_Met l y [Cond.code y bytes maxL ret] (a_rm fr lo (σ'.2.2 - σ.2.2)) (a_Pre G sh as σ H.size) (fun _ _ _ _ => False) (a_Qx G sh x σ' H.size) (σ'.2.2 - σ.2.2) (6 * (σ'.2.2 - σ.2.2)) (a_A (g_ad G) sh.length H.size) := hcon H.size
      have c7 : Cond.methodLink own n y ∈ lw_g := hnx.elim id (fun h9 => absurd hfo (h9 as σ x σ'))
      have e1 : σ.2.2 - g0 + (σ'.2.2 - σ.2.2) = σ'.2.2 - g0 := by omega
      have e2 : 6 * (σ.2.2 - g0) + 6 * (σ'.2.2 - σ.2.2) = 6 * (σ'.2.2 - g0) := by omega
      have hf : σ.2.2 - g0 + (σ'.2.2 - σ.2.2) ≤ R.cells ∧ 6 * (σ.2.2 - g0) + 6 * (σ'.2.2 - σ.2.2) ≤ R.slots := by
        rw [e1, e2]
        constructor <;> omega
      have key : vx_Run p l e R s m args below meth c H locs (σ.2.2 - g0) (6 * (σ.2.2 - g0)) (σ'.2.2 - σ.2.2) (6 * (σ'.2.2 - σ.2.2)) (F0 m pc ls ((as.map (a_cv (g_ad G))).reverse ++ r.map (a_cv (g_ad G)))) (r.map (a_cv (g_ad G))) (fun _ _ _ => False) (a_Qx G sh x σ' H.size) (a_A (g_ad G) sh.length H.size) := by
        cases virt with
        | false =>
          exact vx_runS (As := as.map (a_cv (g_ad G))) (rest := r.map (a_cv (g_ad G))) (n := na) (index := n) (own := own) (bytes := bytes) (maxL := maxL) (ret := ret) ⟨hx, hb, hml, hown, hts⟩ hMet ⟨⟨rfl, rfl, hR.1, hR.2, hws, List.mem_singleton.mpr rfl, hcode, hini, c3, hnp, hts _ c7⟩, hts _ (c6 rfl)⟩ ⟨a_Pre_blind _ _ _ _ _, hPre⟩ rfl (by rw [List.length_map]; exact hlen) hL.1 rfl (lv_room hwt) hdg hf
        | true =>
          obtain ⟨hna, hci, ci1, ci2, T9, N9, hcl⟩ := c5 rfl
          obtain ⟨k, as', fk, has, hk⟩ := a_rcv_at (hrcv rfl) hci
          have hrv := va_recv (q0 := k) (ci := ci) hK hP hcl (a_wl_at hk)
          subst has
          exact vx_runV (C := y.cls) (b := g_ad G k) (As := as'.map (a_cv (g_ad G))) (rest := r.map (a_cv (g_ad G))) (n := na - 1) (index := n) (own := own) (bytes := bytes) (maxL := maxL) (ret := ret) ⟨hx, hb, hml, hown, hts⟩ hMet ⟨⟨rfl, rfl, hR.1, hR.2, hws, List.mem_singleton.mpr rfl, hcode, hini, c3, hnp, hts _ c7⟩, hts _ ci1, hts _ ci2⟩ ⟨a_Pre_blind _ _ _ _ _, hrv, hPre⟩ rfl (by rw [List.length_map]; simp at hlen; omega) hL.1 (by simp [a_cv]) (lv_room hwt) hdg hf
      refine a_goX key hS (fun H1 locs1 q ce hB hS1 k1 k2 k3 => ?_)
      rw [e1, e2]
      exact hEx L x σ' h H1 locs1 ls _ q ce hB hS1 hL (by omega) k1 k2 k3
end AR
end
section
/-! ===== a method's contract out of its checks ===== -/
abbrev a_nm : List String := ["java/lang/RuntimeException", "java/lang/Exception"]
/-- what throwing asks of the law's entry -/
def a_XG (G : aG) : Prop := vx_Zq Bundle.tN "UNASSIGNED_STACK" Bundle.steD (fun q => (g_s G).heap.size ≤ q) (g_s G) (g_s G).heap ∧ vx_Zq Bundle.tN "SUPPRESSED_SENTINEL" Bundle.listD (fun q => (g_s G).heap.size ≤ q) (g_s G) (g_s G).heap
/-- words that stay true: the good ones, and two more kinds -/
def a_ww (w : Cond) : Bool := match w with
  | .castable _ _ => true
  | .declares _ => true
  | w => goodWord w
theorem a_ww_at {G : aG} {sh : List aShp} {s : State} {args : Array Value} {w : Cond} (hG : a_GF G sh) (hW : (g_s G).WarmedH s.vm) (hm : w ∈ lw_tbl) (h : a_ww w = true) : w.before args s = true := by
  obtain ⟨aa, haa⟩ := hG.2.2.2.1
  unfold a_ww at h
  split at h
  · exact va_Nw.use rfl (va_Nw.warmC hW (va_Nw.of rfl (haa _ hm)))
  · exact va_Nw.use rfl (va_Nw.warmD hW (va_Nw.of rfl (haa _ hm)))
  · exact word_at hW (good_of_word h) (haa _ hm)
theorem a_ww_ot {w : Cond} (h : a_ww w = true) : vx_ot w = true := by
  unfold a_ww at h
  split at h
  · rfl
  · rfl
  · unfold vx_ot; rw [h, Bool.or_true]
/-- 'throw new E("text")' at pc -/
def a_tok (G : aG) (own : String) (cc : ByteArray) (fr lo pc x : Nat) : Prop := x ≤ 1 ∧ ∃ (ik is ic ix sa : Nat) (rx : ByteArray) (text : String), a_rx rx ix ∧ (decode cc pc = .ok (.new ik, 3) ∧ decode cc (pc + 3) = .ok (.dup, 1)) ∧
  ((decode cc (pc + 4) = .ok (.ldc is, 2) ∧ decode cc (pc + 6) = .ok (.invokespecial ic, 3) ∧ decode cc (pc + 9) = .ok (.athrow, 1)) ∨ (decode cc (pc + 4) = .ok (.ldc_w is, 3) ∧ decode cc (pc + 7) = .ok (.invokespecial ic, 3) ∧ decode cc (pc + 10) = .ok (.athrow, 1))) ∧
  Cond.classLink own ik (a_en x) ∈ lw_g ∧ Cond.initialized (a_en x) ∈ lw_g ∧ vk_R own is text sa (g_s G) ∧ (∀ w ∈ a_atX own ic (a_en x) ix rx a_nm, w ∈ lw_tbl ∧ a_ww w = true) ∧ 6 ≤ fr ∧ 90 ≤ lo
abbrev a_rty : Nat → Option FieldType := fun k => match k with
  | 0 => some .int
  | 1 => some .boolean
  | 2 => none
  | _ => some .long
/-- the rule of a call, in every frame with enough room -/
def a_CR (l : Launch) (G : aG) (sh : List aShp) (own : String) (cc : ByteArray) (P : aPrg) (fr lo : Nat) (n : Nat) (f : aMF) (na ci rk : Nat) : Prop :=
  ∀ (p : Program) (e : Env) (R : Room) (s : State) (m : MethodId) (args : Array Value) (below : List Frame) (meth : Method) (c : Code) (Q : State → Prop) (nL g0 gf : Nat) (Fin : aOut → aMem → Prop) (virt : Bool), a_M p s m c G nL own cc → fr ≤ R.frames → lo ≤ R.locals → gf - g0 ≤ R.cells ∧ 6 * (gf - g0) ≤ R.slots →
    ∀ pc : Nat, (∀ L x σ', a_exc (a_K p l e R s m args below meth c Q G sh nL g0 gf) Fin P L x σ' → σ'.2.2 ≤ gf) →
    (∀ L x σ', a_exc (a_K p l e R s m args below meth c Q G sh nL g0 gf) Fin P L x σ' → ∀ (H1 : Heap) (locs1 : List Loc) (ls : Array Slot) (r : List Value) (q : Addr) (ce : Cell), a_Wh G sh σ' H1 → va_S (a_A (g_ad G) sh.length s.heap.size) s.heap H1 locs1 → a_L (g_ad G) nL ls L → g0 ≤ σ'.2.2 → H1[q]? = some ce → ce.vm = .none → s.vm.findClass (a_en x) = some ce.cls →
      vx_W p l e R s m args below meth c H1 locs1 (σ'.2.2 - g0) (6 * (σ'.2.2 - g0)) Q (F0 m pc ls r) q) →
    ∀ (L : aLs) (as r : List Value) (σ : aMem), decode cc pc = .ok (if virt then .invokevirtual n else .invokestatic n, 3) → a_vok sh virt ci as = true → a_wt r ≤ 8 → as.length = na → a_wt as ≤ na →
    a_crk (a_K p l e R s m args below meth c Q G sh nL g0 gf) False Fin P rk (f as σ) (pc + 3) L r → a_W p l e R s m args below meth c Q G sh nL g0 pc L (as.reverse ++ r) σ
/-- a call of a Java method -/
theorem a_CR_java {l : Launch} {G : aG} {sh : List aShp} {own : String} {cc : ByteArray} {P : aPrg} {fr lo : Nat} {n : Nat} {f : aMF} {na ci rk : Nat} {y : MethodName} {bytes : ByteArray} {maxL fr' lo' : Nat} {ret : Option FieldType} {virt : Bool} (hG : a_GF G sh) (hCon : a_Con l G sh y (.code y bytes maxL ret) fr' lo' f) (hCF : a_CF own n y bytes maxL ret na ci virt) (hci : virt = false → ci = 2000) (hf : fr' + 1 ≤ fr) (hl : 8 + (maxL + 11) + lo' ≤ lo)
    (hnx : Cond.methodLink own n y ∈ lw_g ∨ ∀ (as : List Value) (σ : aMem) (x : Nat) (σ' : aMem), f as σ ≠ some (.inr x, σ')) : a_CR l G sh own cc P fr lo n f na ci rk := by
  intro p e R s m args below meth c Q nL g0 gf Fin v2 hM h1 h2 h3 pc hEg hEx L as r σ hdg hv hwr hlen hwa h
  have hvv : v2 = virt := by
    cases v2 with
    | true =>
      cases virt with
      | true => rfl
      | false =>
        exfalso
        rw [hci rfl] at hv
        unfold a_vok a_rcv at hv
        simp only at hv
        split at hv
        · rename_i k as'
          split at hv
          · rename_i q hq
            have e1 := Nat.eq_of_beq_eq_true hv
            obtain ⟨c9, fk⟩ := q
            obtain ⟨C, T, N, hc, -⟩ := hG.2.2.2.2.2.1 k c9 fk hq
            simp only at e1
            rw [e1] at hc
            cases hc
          · simp at hv
        · cases hv
    | false =>
      cases virt with
      | false => rfl
      | true =>
        exfalso
        have e1 : ci = 2000 := Nat.eq_of_beq_eq_true hv
        have := (hCF.2.2.2.2.1 rfl).2.1
        omega
  subst hvv
  refine a_call_sound hG hM hCon hCF ⟨by omega, by omega⟩ h3 hnx pc hEg hEx L as r σ hdg (fun hh => ?_) hwr hlen hwa h
  subst hh
  exact hv
/-- a method as a function of its arguments and the memory -/
noncomputable def a_fn (sl : Option Nat) (sh : List aShp) (P : aPrg) (nL na : Nat) : aMF := fun as σ => match Nat.beq as.length na with
  | true => a_run sl sh P 0 (a_lcl nL as) [] σ
  | false => none
set_option maxHeartbeats 1000000 in
theorem a_method {l : Launch} {G : aG} {sh : List aShp} {y : MethodName} {cc : ByteArray} {nL na : Nat} {ret : Option FieldType} {P : aPrg} {fr lo : Nat} (sl : Option Nat) (hl : l.stackTraces = false) (hG : a_GF G sh) (hN : sh.length ≤ 900) (hsl : ∀ n, sl = some n → n = g_n G) (hXG : a_XG G) (hy : plainFor y = true) (hy2 : a_thr P = [] ∨ plainName y.cls = true) (hret : ret = a_rty (a_ret P)) (hF : a_fok y.cls P) (hC : a_cok G y.cls P) (hcode : (a_code P).all (a_eok cc) = true) (hnh : a_hnd P = [])
    (hna : na ≤ nL)
    (hth : ∀ pc x, (pc, x) ∈ a_thr P → a_tok G y.cls cc fr lo pc x)
    (hcm : ∀ n f na ci rk, (n, f, na, ci, rk) ∈ a_cals P → ∀ (as : List Value) (σ : aMem) (o : aOut) (σ' : aMem), f as σ = some (o, σ') → a_wt as ≤ as.length → σ.2.2 ≤ σ'.2.2)
    (hca : ∀ n f na ci rk, (n, f, na, ci, rk) ∈ a_cals P → a_CR l G sh y.cls cc P fr lo n f na ci rk)
    (hnt : plainName y.cls = true ∨ ∀ n f na ci rk, (n, f, na, ci, rk) ∈ a_cals P → ∀ (as : List Value) (σ : aMem) (x : Nat) (σ' : aMem), f as σ ≠ some (.inr x, σ')) :
    a_Con l G sh y (.code y cc nL ret) fr lo (a_fn sl sh P nL na) := by
  intro as σ o σ' hrun0 hwt
  have hrun2 : as.length = na ∧ a_run sl sh P 0 (a_lcl nL as) [] σ = some (o, σ') := by
    unfold a_fn at hrun0
    split at hrun0
    · rename_i h9
      exact ⟨Nat.eq_of_beq_eq_true h9, hrun0⟩
    · cases hrun0
  obtain ⟨hlen0, hrun⟩ := hrun2
  have hcode' : ∀ e ∈ a_code P, a_eok cc e = true := List.all_eq_true.mp hcode
  obtain ⟨N, hN9⟩ := a_run_to hrun
  have hmon := a_run_mono hcm N _ _ _ _ _ hN9
  refine ⟨hmon, fun sz => ?_⟩
  have hone := a_wt_one hwt
  have hle : as.length ≤ nL := by omega
  have hexc : ∀ {ρ : Type} (K : Nat → aLs → List Value → aMem → ρ) (Rt : aOut → aMem → ρ) (L : aLs) (x : Nat) (τ : aMem), a_exc K Rt P L x τ = Rt (.inr x) τ := by
    intro ρ K Rt L x τ
    unfold a_exc
    rw [hnh]
    rfl
  cases o with
  | inl v =>
    show Met l y [.code y cc nL ret] _ _ _ _ _ _
    refine va_MetF (cc := cc) (maxL := nL) (ret := ret) hy rfl ?_
    intro p e s m args below meth c s₁ B hml hv
    obtain ⟨rfl, hsz, hWs, hB⟩ := hv
    subst hsz
    have hM : a_M p s m c G nL y.cls cc := ⟨B.exec, B.bytes, hml, findClass_of_methodNamed B.named, hWs, hB.2.1, hB.2.2.1⟩
    have hlk := B.notSynchronized
    have hrt := B.returns
    rw [lg_entry_eq]
    have key := a_run_sound (p := p) (l := l) (e := e) (R := (headSpec [Cond.code y cc nL ret] (a_rm fr lo (σ'.2.2 - σ.2.2))).room) (s := s) (m := m) (args := (as.map (a_cv (g_ad G))).toArray) (below := below) (meth := meth) (c := c)
      (Q := MQ below (a_Qr G sh v σ' s.heap.size) (as.map (a_cv (g_ad G))).toArray s (σ'.2.2 - σ.2.2) (6 * (σ'.2.2 - σ.2.2)) (a_A (g_ad G) sh.length s.heap.size)) (G := G) (sh := sh) (nL := nL) (g0 := σ.2.2) (own := y.cls) (cc := cc) (rf := (.inl v, σ')) hG hN hsl hM hF hC hcode' hcm
      (by
        intro pc L x τ hd hr he
        obtain ⟨e1, e2⟩ := Prod.mk.inj he
        cases Sum.inl.inj e1
        subst e2
        intro H locs ls hP hS hL hX hg
        have hq : ∀ t : State, t.heap = H → s.WarmedH t.vm → a_Qr G sh (some (.int x)) σ' s.heap.size (as.map (a_cv (g_ad G))).toArray s (.returned (some (.int x))) t := fun t ht _ => ⟨rfl, by rw [ht]; exact a_Wh_of hG hB.2.1 hB.2.2.1 hP hS hX, hS.F ht⟩
        rcases hr with hr | ⟨hr, h01⟩
        · rw [hr] at hret
          exact W.iret B.exec B.bytes (hrt.trans hret) hq (fun q h => hS.2.2 q h) hd
        · rw [hr] at hret
          exact W.zret B.exec B.bytes (hrt.trans hret) (by rcases h01 with rfl | rfl <;> rfl) hq (fun q h => hS.2.2 q h) hd)
      (by
        intro pc L τ hd hr he
        obtain ⟨e1, e2⟩ := Prod.mk.inj he
        cases Sum.inl.inj e1
        subst e2
        intro H locs ls hP hS hL hX hg
        rw [hr] at hret
        exact W.vret B.exec B.bytes (hrt.trans hret) (fun t ht _ => ⟨rfl, by rw [ht]; exact a_Wh_of hG hB.2.1 hB.2.2.1 hP hS hX, hS.F ht⟩) (fun q h => hS.2.2 q h) hd)
      (by
        intro pc L x τ hd hr he
        obtain ⟨e1, e2⟩ := Prod.mk.inj he
        cases Sum.inl.inj e1
        subst e2
        intro H locs ls hP hS hL hX hg
        rw [hr] at hret
        exact W.lret B.exec B.bytes (hrt.trans hret) (fun t ht _ => ⟨rfl, by rw [ht]; exact a_Wh_of hG hB.2.1 hB.2.2.1 hP hS hX, hS.F ht⟩) (fun q h => hS.2.2 q h) hd)
      (by
        intro pc L st x τ _ _ he
        cases (Prod.mk.inj he).1)
      (by
        intro virt n f na ci rk hmem pc L as9 r τ hd _ hv hwr hlen hwa h9
        refine hca n f na ci rk hmem p e _ s m _ below meth c _ nL σ.2.2 σ'.2.2 (fun o τ => ((Sum.inl v, σ') : aRes) = (o, τ)) virt hM (Nat.le_refl _) (Nat.le_refl _) ⟨Nat.le_refl _, Nat.le_refl _⟩ pc ?_ ?_ L as9 r τ hd hv hwr hlen hwa h9
        · intro L x τ he
          rw [hexc] at he
          cases (Prod.mk.inj he).1
        · intro L x τ he
          rw [hexc] at he
          cases (Prod.mk.inj he).1)
      N 0 (a_lcl nL as) [] σ hN9
    have := key s.heap [] _ hB.1 va_S.rf (a_L.entry (ad := g_ad G) hone hle) hB.2.2.2 (Nat.le_refl _)
    rw [Nat.sub_self] at this
    exact this
  | inr x =>
    have hpn : plainName y.cls = true := by
      rcases hy2 with h1 | h1
      · rcases hnt with h2 | h2
        · exact h2
        · obtain ⟨v, hv⟩ := a_run_nt h1 h2 N _ _ _ _ _ hN9
          cases hv
      · exact h1
    show vx_Met l y [.code y cc nL ret] _ _ _ _ _ _ _
    refine vx_ofW (cc := cc) (maxL := nL) (ret := ret) hpn rfl ?_
    intro p e s m args below meth c s₁ B hml htab hv
    obtain ⟨rfl, hsz, hWs, hB⟩ := hv
    subst hsz
    have hM : a_M p s m c G nL y.cls cc := ⟨B.exec, B.bytes, hml, findClass_of_methodNamed B.named, hWs, hB.2.1, hB.2.2.1⟩
    have hlk := B.notSynchronized
    have hown := findClass_of_methodNamed B.named
    rw [lg_entry_eq]
    have hts := a_hts (args := (as.map (a_cv (g_ad G))).toArray) hG hWs
    have hA9 : ∀ q, a_A (g_ad G) sh.length s.heap.size q → (g_s G).heap.size ≤ q := by
      intro q hq
      rcases hq with ⟨k, hk, rfl⟩ | hz
      · exact hG.2.1 k hk
      · exact Nat.le_trans hB.2.1 hz
    have hold : ∀ q : Nat, q < (g_s G).heap.size → ¬ (g_s G).heap.size ≤ q → s.heap[q]? = (g_s G).heap[q]? := fun q h1 _ => hB.2.2.1 q h1
    have hU := ((hXG.1.moved hWs.alike).kept hold).narrow hA9
    have hV := ((hXG.2.moved hWs.alike).kept hold).narrow hA9
    have key := a_run_sound (p := p) (l := l) (e := e) (R := (headSpec [Cond.code y cc nL ret] (a_rm fr lo (σ'.2.2 - σ.2.2))).room) (s := s) (m := m) (args := (as.map (a_cv (g_ad G))).toArray) (below := below) (meth := meth) (c := c)
      (Q := vx_MQ below (fun _ _ _ _ => False) (a_Qx G sh x σ' s.heap.size) (as.map (a_cv (g_ad G))).toArray s (σ'.2.2 - σ.2.2) (6 * (σ'.2.2 - σ.2.2)) (a_A (g_ad G) sh.length s.heap.size)) (G := G) (sh := sh) (nL := nL) (g0 := σ.2.2) (own := y.cls) (cc := cc) (rf := (.inr x, σ')) hG hN hsl hM hF hC hcode' hcm
      (by intro pc L x τ _ _ he; cases (Prod.mk.inj he).1)
      (by intro pc L τ _ _ he; cases (Prod.mk.inj he).1)
      (by intro pc L x τ _ _ he; cases (Prod.mk.inj he).1)
      (by
        intro pc L st x9 τ hmem hst he
        obtain ⟨e1, e2⟩ := Prod.mk.inj he
        cases Sum.inr.inj e1
        subst e2
        obtain ⟨hx1, ik, is, ic, ix, sa, rx, text, hrx, ⟨d0, d3⟩, hdd, w1, w2, w3, w4, hfr, hlo⟩ := hth pc x hmem
        intro H locs ls hP hS hL hX hg
        have hat : ∀ w ∈ a_atX y.cls ic (a_en x) ix rx a_nm, w.before (as.map (a_cv (g_ad G))).toArray s = true := fun w hw => a_ww_at hG hWs (w4 w hw).1 (w4 w hw).2
        have hgd : ∀ w ∈ Cond.classLink y.cls ik (a_en x) :: Cond.initialized (a_en x) :: a_atX y.cls ic (a_en x) ix rx a_nm, vx_ot w = true := by
          intro w hw
          have key : ∀ w ∈ lw_g, vx_ot w = true := fun w hw => by
            unfold vx_ot
            rw [(List.mem_filter.mp hw).2, Bool.or_true]
          rcases List.mem_cons.mp hw with rfl | hw
          · exact key _ w1
          rcases List.mem_cons.mp hw with rfl | hw
          · exact key _ w2
          exact a_ww_ot (w4 w hw).2
        have hcls : Bundle.fit (a_en x) = true := by
          rcases (show x = 0 ∨ x = 1 by omega) with rfl | rfl <;> decide +kernel
        have hnms : ∀ n ∈ a_nm, Bundle.fit n = true := by decide +kernel
        have hg9 : τ.2.2 + 1 = (a_tk τ).2.2 := rfl
        have hwt9 : ((st.map (a_cv (g_ad G))).map fun v => v.category).sum ≤ 8 := by rw [a_wt_sum]; exact hst
        have hxx : ∀ t : State, s.vm.Alike t.vm → H.size ≤ t.heap.size → (∀ q : Nat, q < H.size → t.heap[q]? = H[q]?) → a_Qx G sh x (a_tk τ) s.heap.size (a_en x) s t := by
          intro t _ hsz9 hsame
          have hPt : va_P (g_D G) vwCl (a_wl (g_ad G) (g_ca G) sh (a_tk τ)) t.heap := hP.kept (fun k q hk => hsame _ (hP k q hk).lt)
          have hSt : va_S (a_A (g_ad G) sh.length s.heap.size) s.heap t.heap locs := ⟨Nat.le_trans hS.1 hsz9, fun q h1 h2 => by rw [hsame q (Nat.lt_of_lt_of_le h1 hS.1)]; exact hS.2.1 q h1 h2, hS.2.2⟩
          exact ⟨rfl, a_Wh_of hG hB.2.1 hB.2.2.1 hPt hSt hX, hSt.F rfl⟩
        have hc1 : τ.2.2 - σ.2.2 + 1 = (a_tk τ).2.2 - σ.2.2 := by omega
        have hs1 : 6 * (τ.2.2 - σ.2.2) + 6 = 6 * ((a_tk τ).2.2 - σ.2.2) := by omega
        have r1 : a_nm.length + 3 < (headSpec [Cond.code y cc nL ret] (a_rm fr lo ((a_tk τ).2.2 - σ.2.2))).room.frames := show 2 + 3 < fr by omega
        have r2 : ((st.map (a_cv (g_ad G))).map fun v => v.category).sum + (13 * (a_nm.length + 1) + 43) ≤ (headSpec [Cond.code y cc nL ret] (a_rm fr lo ((a_tk τ).2.2 - σ.2.2))).room.locals := show _ + (13 * (2 + 1) + 43) ≤ lo by omega
        have r3 : τ.2.2 - σ.2.2 + 1 ≤ (headSpec [Cond.code y cc nL ret] (a_rm fr lo ((a_tk τ).2.2 - σ.2.2))).room.cells := show _ ≤ (a_tk τ).2.2 - σ.2.2 by omega
        have r4 : 6 * (τ.2.2 - σ.2.2) + 6 ≤ (headSpec [Cond.code y cc nL ret] (a_rm fr lo ((a_tk τ).2.2 - σ.2.2))).room.slots := show _ ≤ 6 * ((a_tk τ).2.2 - σ.2.2) by omega
        rcases hdd with ⟨d4, d6, d9⟩ | ⟨d4, d7, d10⟩
        · exact ax_throwS B.exec B.bytes hl hrx hown hcls hnms (hts _ w1) (hts _ w2) (vk_R.warm hWs w3) hat hgd hU hV hS (hL.1.trans hml.symm) d0 d3 d4 d6 d9 (fun z hz => (htab z hz).elim) r1 r2 r3 r4 hlk hxx (fun q h => hS.2.2 q h) (by omega) (by omega)
        · exact ax_throwW B.exec B.bytes hl hrx hown hcls hnms (hts _ w1) (hts _ w2) (vk_R.warm hWs w3) hat hgd hU hV hS (hL.1.trans hml.symm) d0 d3 d4 d7 d10 (fun z hz => (htab z hz).elim) r1 r2 r3 r4 hlk hxx (fun q h => hS.2.2 q h) (by omega) (by omega))
      (by
        intro virt n f na ci rk hmem pc L as9 r τ hd _ hv hwr hlen hwa h9
        refine hca n f na ci rk hmem p e _ s m _ below meth c _ nL σ.2.2 σ'.2.2 (fun o τ => ((Sum.inr x, σ') : aRes) = (o, τ)) virt hM (Nat.le_refl _) (Nat.le_refl _) ⟨Nat.le_refl _, Nat.le_refl _⟩ pc ?_ ?_ L as9 r τ hd hv hwr hlen hwa h9
        · intro L x τ he
          rw [hexc] at he
          rw [(Prod.mk.inj he).2]
          exact Nat.le_refl _
        · intro L x9 τ he H1 locs1 ls r9 q ce hB1 hS1 hL1 hg1 k1 k2 k3
          rw [hexc] at he
          obtain ⟨e1, e2⟩ := Prod.mk.inj he
          cases Sum.inr.inj e1
          subst e2
          exact vx_out (fun z hz => (htab z hz).elim) hlk k1 k2 k3 (fun t ht _ => ⟨rfl, by rw [ht]; exact hB1, hS1.F ht⟩) (fun q h => hS1.2.2 q h) (Nat.le_refl _) (Nat.le_refl _))
      N 0 (a_lcl nL as) [] σ hN9
    have := key s.heap [] _ hB.1 va_S.rf (a_L.entry (ad := g_ad G) hone hle) hB.2.2.2 (Nat.le_refl _)
    rw [Nat.sub_self] at this
    exact this
end
section
/-! ===== what the printed programs use ===== -/
def a_all {α : Type} (φ : α → Prop) : List α → Prop
  | [] => True
  | q :: t => φ q ∧ a_all φ t
theorem a_all_mem {α : Type} {φ : α → Prop} : ∀ {l : List α}, a_all φ l → ∀ q ∈ l, φ q
  | [], _, _, h => by cases h
  | _ :: _, h, q, hq => (List.mem_cons.mp hq).elim (fun e => e ▸ h.1) (fun h2 => a_all_mem h.2 q h2)
theorem a_ps {ws : List Cond} (ps : List Nat) (h : ws = ps.filterMap (fun i => lw_tbl[i]?)) (hg : ws.all goodWord = true) : ∀ w ∈ ws, w ∈ lw_g := by
  intro w hw
  refine List.mem_filter.mpr ⟨?_, List.all_eq_true.mp hg w hw⟩
  rw [h] at hw
  obtain ⟨i, -, hi⟩ := List.mem_filterMap.mp hw
  exact List.mem_of_getElem? hi
theorem a_p1 {w : Cond} (i : Nat) (h : lw_tbl[i]? = some w) (hg : goodWord w = true) : w ∈ lw_g := List.mem_filter.mpr ⟨List.mem_of_getElem? h, hg⟩
def a_shb (x : aShp) : Bool := match x with
  | .inl _ => true
  | .inr q => match vwCl[q.1]? with
    | some r => Nat.beq q.2.length r.2.2 && (List.range q.2.length).all (fun j => match q.2[j]? with
      | some (.inl t) => Nat.ble t 2 && (decide (parseFieldDescriptor (r.2.1 j).2.2.1 = some (a_ty t)) && !(r.2.1 j).2.2.2)
      | _ => true)
    | none => false
theorem a_shok_of {sh : List aShp} (h : sh.all a_shb = true) : a_shok sh := by
  intro k ci fk hk
  have h1 := List.all_eq_true.mp h _ (List.mem_of_getElem? hk)
  unfold a_shb at h1
  simp only at h1
  split at h1
  · rename_i r hr
    obtain ⟨C, T, N⟩ := r
    simp only [Bool.and_eq_true, List.all_eq_true, List.mem_range] at h1
    refine ⟨C, T, N, hr, Nat.eq_of_beq_eq_true h1.1, fun j t hj => ?_⟩
    have h2 := h1.2 j (List.getElem?_eq_some_iff.mp hj).1
    rw [hj] at h2
    simp only [Bool.and_eq_true, decide_eq_true_eq, Bool.not_eq_true'] at h2
    exact ⟨Nat.le_of_ble_eq_true h2.1, h2.2.1, h2.2.2⟩
  · cases h1
def a_fw (own : String) (e : Nat × Nat × Nat) : Cond := match vwCl[e.2.1]? with
  | some q => .fieldLink own e.1 (q.2.1 e.2.2).1 (q.2.1 e.2.2).2.1 (q.2.1 e.2.2).2.2.1
  | none => .tt
def a_fb (e : Nat × Nat × Nat) : Bool := match vwCl[e.2.1]? with
  | some q => Nat.blt e.2.2 q.2.2
  | none => false
theorem a_fok_of {own : String} {P : aPrg} (ps : List Nat) (h : (a_flds P).map (a_fw own) = ps.filterMap (fun i => lw_tbl[i]?)) (hb : (a_flds P).all a_fb = true) : a_fok own P := by
  intro n ci j hm
  have h1 := List.all_eq_true.mp hb _ hm
  unfold a_fb at h1
  simp only at h1
  split at h1
  · rename_i q hq
    obtain ⟨C, T, N⟩ := q
    have h2 : a_fw own (n, ci, j) ∈ (a_flds P).map (a_fw own) := List.mem_map_of_mem hm
    rw [h] at h2
    obtain ⟨i, -, hi⟩ := List.mem_filterMap.mp h2
    have h3 := List.mem_of_getElem? hi
    unfold a_fw at h3
    simp only at h3
    rw [hq] at h3
    exact ⟨C, T, N, hq, Nat.blt_eq.mp h1, List.mem_filter.mpr ⟨h3, rfl⟩⟩
  · cases h1
theorem a_CF_v {own : String} {n : Nat} {y : MethodName} {bytes : ByteArray} {maxL : Nat} {ret : Option FieldType} {na ci : Nat} (T : u_T) (N : Nat) (hw : ∀ w ∈ [Cond.code y bytes maxL ret, .initialized y.cls, .instanceMethod y, .selects y.cls y y], w ∈ lw_g) (hl : Cond.methodLink own n y ∈ lw_g) (hd : y.cls ≠ "java/lang/invoke/MethodHandle" ∧ y.cls ≠ "java/lang/invoke/VarHandle" ∧ (parseMethodDescriptor y.desc).map (fun d => d.parameters.length) = some (na - 1)) (hn : 1 ≤ na ∧ ci < 1000) (hc : vwCl[ci]? = some (y.cls, T, N)) : a_CF own n y bytes maxL ret na ci true :=
  ⟨hw _ (by simp), hw _ (by simp), ⟨hd.1, hd.2.1⟩, hd.2.2, fun _ => ⟨hn.1, hn.2, hw _ (by simp), hw _ (by simp), T, N, hc⟩, (fun h => nomatch h), Or.inl hl⟩
theorem a_CF_s {own : String} {n : Nat} {y : MethodName} {bytes : ByteArray} {maxL : Nat} {ret : Option FieldType} {na : Nat} (hw : ∀ w ∈ [Cond.code y bytes maxL ret, .initialized y.cls, .static y], w ∈ lw_g) (hl : Cond.methodLink own n y ∈ lw_g) (hd : y.cls ≠ "java/lang/invoke/MethodHandle" ∧ y.cls ≠ "java/lang/invoke/VarHandle" ∧ (parseMethodDescriptor y.desc).map (fun d => d.parameters.length) = some na) : a_CF own n y bytes maxL ret na 2000 false :=
  ⟨hw _ (by simp), hw _ (by simp), ⟨hd.1, hd.2.1⟩, hd.2.2, (fun h => nomatch h), fun _ => hw _ (by simp), Or.inl hl⟩
theorem a_CF_sn {own : String} {n : Nat} {y : MethodName} {bytes : ByteArray} {maxL : Nat} {ret : Option FieldType} {na : Nat} (hw : ∀ w ∈ [Cond.code y bytes maxL ret, .initialized y.cls, .static y], w ∈ lw_g) (host : String) (i : Nat) (hl : lw_tbl[i]? = some (Cond.methodLinkNest own n y host)) (hd : y.cls ≠ "java/lang/invoke/MethodHandle" ∧ y.cls ≠ "java/lang/invoke/VarHandle" ∧ (parseMethodDescriptor y.desc).map (fun d => d.parameters.length) = some na) : a_CF own n y bytes maxL ret na 2000 false :=
  ⟨hw _ (by simp), hw _ (by simp), ⟨hd.1, hd.2.1⟩, hd.2.2, (fun h => nomatch h), fun _ => hw _ (by simp), Or.inr ⟨host, List.mem_of_getElem? hl⟩⟩
abbrev a_cq : Type := Nat × aMF × Nat × Nat × Nat
/-- what is asked of a call's place -/
def a_CQ (l : Launch) (G : aG) (sh : List aShp) (own : String) (cc : ByteArray) (P : aPrg) (fr lo : Nat) (q : a_cq) : Prop :=
  (∀ (as : List Value) (σ : aMem) (o : aOut) (σ' : aMem), q.2.1 as σ = some (o, σ') → a_wt as ≤ as.length → σ.2.2 ≤ σ'.2.2) ∧ a_CR l G sh own cc P fr lo q.1 q.2.1 q.2.2.1 q.2.2.2.1 q.2.2.2.2
theorem a_CQ_v {l : Launch} {G : aG} {sh : List aShp} {own : String} {cc : ByteArray} {P : aPrg} {fr lo : Nat} {n : Nat} {f : aMF} {na ci rk : Nat} {y : MethodName} {bytes : ByteArray} {maxL fr' lo' : Nat} {ret : Option FieldType} (hG : a_GF G sh) (hCon : a_Con l G sh y (.code y bytes maxL ret) fr' lo' f) (hl : Cond.methodLink own n y ∈ lw_g) (hCF : a_CF own n y bytes maxL ret na ci true) (h1 : Nat.ble (fr' + 1) fr = true) (h2 : Nat.ble (8 + (maxL + 11) + lo') lo = true) : a_CQ l G sh own cc P fr lo (n, f, na, ci, rk) :=
  ⟨fun as σ o σ' h hw => (hCon as σ o σ' h hw).1, a_CR_java hG hCon hCF ((fun h => nomatch h)) (Nat.le_of_ble_eq_true h1) (Nat.le_of_ble_eq_true h2) (Or.inl hl)⟩
theorem a_CQ_s {l : Launch} {G : aG} {sh : List aShp} {own : String} {cc : ByteArray} {P : aPrg} {fr lo : Nat} {n : Nat} {f : aMF} {na rk : Nat} {y : MethodName} {bytes : ByteArray} {maxL fr' lo' : Nat} {ret : Option FieldType} (hG : a_GF G sh) (hCon : a_Con l G sh y (.code y bytes maxL ret) fr' lo' f) (hl : Cond.methodLink own n y ∈ lw_g) (hCF : a_CF own n y bytes maxL ret na 2000 false) (h1 : Nat.ble (fr' + 1) fr = true) (h2 : Nat.ble (8 + (maxL + 11) + lo') lo = true) : a_CQ l G sh own cc P fr lo (n, f, na, 2000, rk) :=
  ⟨fun as σ o σ' h hw => (hCon as σ o σ' h hw).1, a_CR_java hG hCon hCF (fun _ => rfl) (Nat.le_of_ble_eq_true h1) (Nat.le_of_ble_eq_true h2) (Or.inl hl)⟩
theorem a_CQ_sn {l : Launch} {G : aG} {sh : List aShp} {own : String} {cc : ByteArray} {P : aPrg} {fr lo : Nat} {n : Nat} {f : aMF} {na rk : Nat} {y : MethodName} {bytes : ByteArray} {maxL fr' lo' : Nat} {ret : Option FieldType} (hG : a_GF G sh) (hCon : a_Con l G sh y (.code y bytes maxL ret) fr' lo' f) (hCF : a_CF own n y bytes maxL ret na 2000 false) (hnt : ∀ (as : List Value) (σ : aMem) (x : Nat) (σ' : aMem), f as σ ≠ some (.inr x, σ')) (h1 : Nat.ble (fr' + 1) fr = true) (h2 : Nat.ble (8 + (maxL + 11) + lo') lo = true) : a_CQ l G sh own cc P fr lo (n, f, na, 2000, rk) :=
  ⟨fun as σ o σ' h hw => (hCon as σ o σ' h hw).1, a_CR_java hG hCon hCF (fun _ => rfl) (Nat.le_of_ble_eq_true h1) (Nat.le_of_ble_eq_true h2) (Or.inr hnt)⟩
/-- a function that calls nothing and throws nothing -/
theorem a_fn_nt {sl : Option Nat} {sh : List aShp} {P : aPrg} {nL na : Nat} (h1 : a_thr P = []) (h2 : a_cals P = []) : ∀ (as : List Value) (σ : aMem) (x : Nat) (σ' : aMem), a_fn sl sh P nL na as σ ≠ some (.inr x, σ') := by
  intro as σ x σ' h
  unfold a_fn at h
  split at h
  · obtain ⟨N, hN⟩ := a_run_to h
    obtain ⟨v, hv⟩ := a_run_nt h1 (fun n f na ci rk hm => by rw [h2] at hm; cases hm) N _ _ _ _ _ hN
    cases hv
  · cases h
/-- a method's contract -/
theorem a_mth {l : Launch} {G : aG} {sh : List aShp} {y : MethodName} {cc : ByteArray} {nL na : Nat} {ret : Option FieldType} {P : aPrg} {fr lo : Nat} (sl : Option Nat) (hl : l.stackTraces = false) (hG : a_GF G sh) (hN : sh.length ≤ 900) (hsl : ∀ n, sl = some n → n = g_n G) (hXG : a_XG G) (hy : plainName y.cls = true) (hret : ret = a_rty (a_ret P)) (hF : a_fok y.cls P) (hC : a_cok G y.cls P) (hcode : (a_code P).all (a_eok cc) = true) (hnh : a_hnd P = []) (hna : Nat.ble na nL = true)
    (hth : a_all (fun q => a_tok G y.cls cc fr lo q.1 q.2) (a_thr P)) (hca : a_all (a_CQ l G sh y.cls cc P fr lo) (a_cals P)) :
    a_Con l G sh y (.code y cc nL ret) fr lo (a_fn sl sh P nL na) := by
  refine a_method sl hl hG hN hsl hXG (plainFor_of_name hy) (Or.inr hy) hret hF hC hcode hnh (Nat.le_of_ble_eq_true hna) (fun pc x hm => a_all_mem hth (pc, x) hm) (fun n f na ci rk hm => (a_all_mem hca (n, f, na, ci, rk) hm).1) (fun n f na ci rk hm => (a_all_mem hca (n, f, na, ci, rk) hm).2) (Or.inl hy)
/-- .. of the JDK's: nothing called, nothing thrown -/
theorem a_mtj {l : Launch} {G : aG} {sh : List aShp} {y : MethodName} {cc : ByteArray} {nL na : Nat} {ret : Option FieldType} {P : aPrg} {fr lo : Nat} (sl : Option Nat) (hl : l.stackTraces = false) (hG : a_GF G sh) (hN : sh.length ≤ 900) (hsl : ∀ n, sl = some n → n = g_n G) (hXG : a_XG G) (hy : plainFor y = true) (hret : ret = a_rty (a_ret P)) (hF : a_fok y.cls P) (hC : a_cok G y.cls P) (hcode : (a_code P).all (a_eok cc) = true) (hnh : a_hnd P = []) (hna : Nat.ble na nL = true)
    (hth : a_thr P = []) (hca : a_cals P = []) :
    a_Con l G sh y (.code y cc nL ret) fr lo (a_fn sl sh P nL na) := by
  refine a_method sl hl hG hN hsl hXG hy (Or.inl hth) hret hF hC hcode hnh (Nat.le_of_ble_eq_true hna) (fun pc x hm => by rw [hth] at hm; cases hm) (fun n f na ci rk hm => by rw [hca] at hm; cases hm) (fun n f na ci rk hm => by rw [hca] at hm; cases hm) (Or.inr (fun n f na ci rk hm => by rw [hca] at hm; cases hm))
end
section
/-! ===== decoding by encoding: written by wip/whole/mkdec.py ===== -/
def b_bl (cc : ByteArray) : List Nat := cc.data.toList.map UInt8.toNat
abbrev b_rd (cc : ByteArray) (p b : Nat) : Prop := (Reader.u1 : Decoder Nat) cc p = .ok (b, p + 1)
theorem b_u1 {cc : ByteArray} {p b : Nat} (h : (b_bl cc)[p]? = some b) : b_rd cc p b := by
  unfold b_bl at h
  rw [List.getElem?_map] at h
  have hlt : p < cc.size := by
    cases hx : cc.data.toList[p]? with
    | none => rw [hx] at h; cases h
    | some x =>
      have := (List.getElem?_eq_some_iff.mp hx).1
      simpa using this
  have hb : cc[p].toNat = b := by
    have e : cc.data.toList[p]? = some cc[p] := by
      rw [List.getElem?_eq_getElem (by simpa using hlt)]
      rfl
    rw [e] at h
    exact Option.some.inj h
  show (dite (p < cc.size) _ _ : Decoder Nat) cc p = _
  rw [dif_pos hlt]
  show Except.ok (cc[p].toNat, p + 1) = _
  rw [hb]
theorem b_fin {cc : ByteArray} {pc k : Nat} {i : Instr} (h : (Decoder.instr pc).runAt cc pc = .ok (i, pc + k)) : decode cc pc = .ok (i, k) := by
  unfold decode
  rw [h]
  show Except.ok (i, pc + k - pc) = _
  rw [Nat.add_sub_cancel_left]
def b_s1 (x : Int) : Nat := if 0 ≤ x then x.toNat else (x + 256).toNat
def b_s2 (x : Int) : Nat := if 0 ≤ x then x.toNat else (x + 65536).toNat
theorem b_s1_ok {x : Int} (h : -128 ≤ x ∧ x < 128) : Reader.signed 8 (b_s1 x) = x := by
  unfold Reader.signed b_s1
  split <;> split <;> omega
theorem b_s2_ok {x : Int} (h : -32768 ≤ x ∧ x < 32768) : Reader.signed 16 (b_s2 x / 256 * 256 + b_s2 x % 256) = x := by
  rw [Nat.div_add_mod' (b_s2 x) 256]
  unfold Reader.signed b_s2
  split <;> split <;> omega
def b_enc (i : Instr) : Option (List Nat) := match i with
  | .iconst n => if -1 ≤ n ∧ n ≤ 5 then some [(n + 3).toNat] else none
  | .lconst k => some [9 + k.val]
  | .iaload => some [46]
  | .laload => some [47]
  | .baload => some [51]
  | .iastore => some [79]
  | .lastore => some [80]
  | .bastore => some [84]
  | .pop => some [87]
  | .dup => some [89]
  | .dup2 => some [92]
  | .iadd => some [96]
  | .isub => some [100]
  | .lsub => some [101]
  | .imul => some [104]
  | .idiv => some [108]
  | .irem => some [112]
  | .ineg => some [116]
  | .ishl => some [120]
  | .lshl => some [121]
  | .ishr => some [122]
  | .iushr => some [124]
  | .iand => some [126]
  | .ior => some [128]
  | .lor => some [129]
  | .ixor => some [130]
  | .i2l => some [133]
  | .i2b => some [145]
  | .lcmp => some [148]
  | .ireturn => some [172]
  | .lreturn => some [173]
  | .return_ => some [177]
  | .arraylength => some [190]
  | .athrow => some [191]
  | .iload_n k => some [26 + k.val]
  | .lload_n k => some [30 + k.val]
  | .aload_n k => some [42 + k.val]
  | .istore_n k => some [59 + k.val]
  | .lstore_n k => some [63 + k.val]
  | .astore_n k => some [75 + k.val]
  | .ldc n => some [18, n]
  | .iload n => some [21, n]
  | .lload n => some [22, n]
  | .aload n => some [25, n]
  | .istore n => some [54, n]
  | .lstore n => some [55, n]
  | .astore n => some [58, n]
  | .ldc_w n => some [19, n / 256, n % 256]
  | .ldc2_w n => some [20, n / 256, n % 256]
  | .getfield n => some [180, n / 256, n % 256]
  | .putfield n => some [181, n / 256, n % 256]
  | .invokevirtual n => some [182, n / 256, n % 256]
  | .invokespecial n => some [183, n / 256, n % 256]
  | .invokestatic n => some [184, n / 256, n % 256]
  | .new n => some [187, n / 256, n % 256]
  | .sipush n => if -32768 ≤ n ∧ n < 32768 then some [17, b_s2 n / 256, b_s2 n % 256] else none
  | .goto n => if -32768 ≤ n ∧ n < 32768 then some [167, b_s2 n / 256, b_s2 n % 256] else none
  | .bipush n => if -128 ≤ n ∧ n < 128 then some [16, b_s1 n] else none
  | .iinc k n => if -128 ≤ n ∧ n < 128 then some [132, k, b_s1 n] else none
  | .ifCond .eq n => if -32768 ≤ n ∧ n < 32768 then some [153, b_s2 n / 256, b_s2 n % 256] else none
  | .ifCond .ne n => if -32768 ≤ n ∧ n < 32768 then some [154, b_s2 n / 256, b_s2 n % 256] else none
  | .ifCond .lt n => if -32768 ≤ n ∧ n < 32768 then some [155, b_s2 n / 256, b_s2 n % 256] else none
  | .ifCond .ge n => if -32768 ≤ n ∧ n < 32768 then some [156, b_s2 n / 256, b_s2 n % 256] else none
  | .ifCond .gt n => if -32768 ≤ n ∧ n < 32768 then some [157, b_s2 n / 256, b_s2 n % 256] else none
  | .ifCond .le n => if -32768 ≤ n ∧ n < 32768 then some [158, b_s2 n / 256, b_s2 n % 256] else none
  | .if_icmp .eq n => if -32768 ≤ n ∧ n < 32768 then some [159, b_s2 n / 256, b_s2 n % 256] else none
  | .if_icmp .ne n => if -32768 ≤ n ∧ n < 32768 then some [160, b_s2 n / 256, b_s2 n % 256] else none
  | .if_icmp .lt n => if -32768 ≤ n ∧ n < 32768 then some [161, b_s2 n / 256, b_s2 n % 256] else none
  | .if_icmp .ge n => if -32768 ≤ n ∧ n < 32768 then some [162, b_s2 n / 256, b_s2 n % 256] else none
  | .if_icmp .gt n => if -32768 ≤ n ∧ n < 32768 then some [163, b_s2 n / 256, b_s2 n % 256] else none
  | .if_icmp .le n => if -32768 ≤ n ∧ n < 32768 then some [164, b_s2 n / 256, b_s2 n % 256] else none
  | _ => none
theorem b_g0 {cc : ByteArray} {pc : Nat} {bs rest : List Nat} (h : ∀ k b, bs[k]? = some b → b_rd cc (pc + k) b) : (∀ b, bs[0]? = some b → b_rd cc pc b) := fun b hb => h 0 b hb
set_option maxHeartbeats 4000000 in
theorem b_enc_ok {cc : ByteArray} {pc : Nat} {i : Instr} {bs : List Nat} (he : b_enc i = some bs) (h : ∀ (k b : Nat), bs[k]? = some b → b_rd cc (pc + k) b) : decode cc pc = .ok (i, bs.length) := by
  cases i with
  | iconst n =>
    unfold b_enc at he; simp only at he
    split at he
    · rename_i hn
      cases he
      refine b_fin ?_
      rcases (show n = -1 ∨ n = 0 ∨ n = 1 ∨ n = 2 ∨ n = 3 ∨ n = 4 ∨ n = 5 by omega) with rfl | rfl | rfl | rfl | rfl | rfl | rfl
      · show ((Reader.u1 : Decoder Nat) cc pc).bind _ = _
        rw [show (Reader.u1 : Decoder Nat) cc pc = .ok (2, pc + 1) from h 0 _ rfl]
        rfl
      · show ((Reader.u1 : Decoder Nat) cc pc).bind _ = _
        rw [show (Reader.u1 : Decoder Nat) cc pc = .ok (3, pc + 1) from h 0 _ rfl]
        rfl
      · show ((Reader.u1 : Decoder Nat) cc pc).bind _ = _
        rw [show (Reader.u1 : Decoder Nat) cc pc = .ok (4, pc + 1) from h 0 _ rfl]
        rfl
      · show ((Reader.u1 : Decoder Nat) cc pc).bind _ = _
        rw [show (Reader.u1 : Decoder Nat) cc pc = .ok (5, pc + 1) from h 0 _ rfl]
        rfl
      · show ((Reader.u1 : Decoder Nat) cc pc).bind _ = _
        rw [show (Reader.u1 : Decoder Nat) cc pc = .ok (6, pc + 1) from h 0 _ rfl]
        rfl
      · show ((Reader.u1 : Decoder Nat) cc pc).bind _ = _
        rw [show (Reader.u1 : Decoder Nat) cc pc = .ok (7, pc + 1) from h 0 _ rfl]
        rfl
      · show ((Reader.u1 : Decoder Nat) cc pc).bind _ = _
        rw [show (Reader.u1 : Decoder Nat) cc pc = .ok (8, pc + 1) from h 0 _ rfl]
        rfl
    · cases he
  | lconst k =>
    cases he
    refine b_fin ?_
    match k, h with
    | ⟨0, _⟩, h =>
      show ((Reader.u1 : Decoder Nat) cc pc).bind _ = _
      rw [show (Reader.u1 : Decoder Nat) cc pc = .ok (9, pc + 1) from h 0 _ rfl]
      rfl
    | ⟨1, _⟩, h =>
      show ((Reader.u1 : Decoder Nat) cc pc).bind _ = _
      rw [show (Reader.u1 : Decoder Nat) cc pc = .ok (10, pc + 1) from h 0 _ rfl]
      rfl
  | iaload =>
    cases he
    refine b_fin ?_
    show ((Reader.u1 : Decoder Nat) cc pc).bind _ = _
    rw [show (Reader.u1 : Decoder Nat) cc pc = .ok (46, pc + 1) from h 0 _ rfl]
    rfl
  | laload =>
    cases he
    refine b_fin ?_
    show ((Reader.u1 : Decoder Nat) cc pc).bind _ = _
    rw [show (Reader.u1 : Decoder Nat) cc pc = .ok (47, pc + 1) from h 0 _ rfl]
    rfl
  | baload =>
    cases he
    refine b_fin ?_
    show ((Reader.u1 : Decoder Nat) cc pc).bind _ = _
    rw [show (Reader.u1 : Decoder Nat) cc pc = .ok (51, pc + 1) from h 0 _ rfl]
    rfl
  | iastore =>
    cases he
    refine b_fin ?_
    show ((Reader.u1 : Decoder Nat) cc pc).bind _ = _
    rw [show (Reader.u1 : Decoder Nat) cc pc = .ok (79, pc + 1) from h 0 _ rfl]
    rfl
  | lastore =>
    cases he
    refine b_fin ?_
    show ((Reader.u1 : Decoder Nat) cc pc).bind _ = _
    rw [show (Reader.u1 : Decoder Nat) cc pc = .ok (80, pc + 1) from h 0 _ rfl]
    rfl
  | bastore =>
    cases he
    refine b_fin ?_
    show ((Reader.u1 : Decoder Nat) cc pc).bind _ = _
    rw [show (Reader.u1 : Decoder Nat) cc pc = .ok (84, pc + 1) from h 0 _ rfl]
    rfl
  | pop =>
    cases he
    refine b_fin ?_
    show ((Reader.u1 : Decoder Nat) cc pc).bind _ = _
    rw [show (Reader.u1 : Decoder Nat) cc pc = .ok (87, pc + 1) from h 0 _ rfl]
    rfl
  | dup =>
    cases he
    refine b_fin ?_
    show ((Reader.u1 : Decoder Nat) cc pc).bind _ = _
    rw [show (Reader.u1 : Decoder Nat) cc pc = .ok (89, pc + 1) from h 0 _ rfl]
    rfl
  | dup2 =>
    cases he
    refine b_fin ?_
    show ((Reader.u1 : Decoder Nat) cc pc).bind _ = _
    rw [show (Reader.u1 : Decoder Nat) cc pc = .ok (92, pc + 1) from h 0 _ rfl]
    rfl
  | iadd =>
    cases he
    refine b_fin ?_
    show ((Reader.u1 : Decoder Nat) cc pc).bind _ = _
    rw [show (Reader.u1 : Decoder Nat) cc pc = .ok (96, pc + 1) from h 0 _ rfl]
    rfl
  | isub =>
    cases he
    refine b_fin ?_
    show ((Reader.u1 : Decoder Nat) cc pc).bind _ = _
    rw [show (Reader.u1 : Decoder Nat) cc pc = .ok (100, pc + 1) from h 0 _ rfl]
    rfl
  | lsub =>
    cases he
    refine b_fin ?_
    show ((Reader.u1 : Decoder Nat) cc pc).bind _ = _
    rw [show (Reader.u1 : Decoder Nat) cc pc = .ok (101, pc + 1) from h 0 _ rfl]
    rfl
  | imul =>
    cases he
    refine b_fin ?_
    show ((Reader.u1 : Decoder Nat) cc pc).bind _ = _
    rw [show (Reader.u1 : Decoder Nat) cc pc = .ok (104, pc + 1) from h 0 _ rfl]
    rfl
  | idiv =>
    cases he
    refine b_fin ?_
    show ((Reader.u1 : Decoder Nat) cc pc).bind _ = _
    rw [show (Reader.u1 : Decoder Nat) cc pc = .ok (108, pc + 1) from h 0 _ rfl]
    rfl
  | irem =>
    cases he
    refine b_fin ?_
    show ((Reader.u1 : Decoder Nat) cc pc).bind _ = _
    rw [show (Reader.u1 : Decoder Nat) cc pc = .ok (112, pc + 1) from h 0 _ rfl]
    rfl
  | ineg =>
    cases he
    refine b_fin ?_
    show ((Reader.u1 : Decoder Nat) cc pc).bind _ = _
    rw [show (Reader.u1 : Decoder Nat) cc pc = .ok (116, pc + 1) from h 0 _ rfl]
    rfl
  | ishl =>
    cases he
    refine b_fin ?_
    show ((Reader.u1 : Decoder Nat) cc pc).bind _ = _
    rw [show (Reader.u1 : Decoder Nat) cc pc = .ok (120, pc + 1) from h 0 _ rfl]
    rfl
  | lshl =>
    cases he
    refine b_fin ?_
    show ((Reader.u1 : Decoder Nat) cc pc).bind _ = _
    rw [show (Reader.u1 : Decoder Nat) cc pc = .ok (121, pc + 1) from h 0 _ rfl]
    rfl
  | ishr =>
    cases he
    refine b_fin ?_
    show ((Reader.u1 : Decoder Nat) cc pc).bind _ = _
    rw [show (Reader.u1 : Decoder Nat) cc pc = .ok (122, pc + 1) from h 0 _ rfl]
    rfl
  | iushr =>
    cases he
    refine b_fin ?_
    show ((Reader.u1 : Decoder Nat) cc pc).bind _ = _
    rw [show (Reader.u1 : Decoder Nat) cc pc = .ok (124, pc + 1) from h 0 _ rfl]
    rfl
  | iand =>
    cases he
    refine b_fin ?_
    show ((Reader.u1 : Decoder Nat) cc pc).bind _ = _
    rw [show (Reader.u1 : Decoder Nat) cc pc = .ok (126, pc + 1) from h 0 _ rfl]
    rfl
  | ior =>
    cases he
    refine b_fin ?_
    show ((Reader.u1 : Decoder Nat) cc pc).bind _ = _
    rw [show (Reader.u1 : Decoder Nat) cc pc = .ok (128, pc + 1) from h 0 _ rfl]
    rfl
  | lor =>
    cases he
    refine b_fin ?_
    show ((Reader.u1 : Decoder Nat) cc pc).bind _ = _
    rw [show (Reader.u1 : Decoder Nat) cc pc = .ok (129, pc + 1) from h 0 _ rfl]
    rfl
  | ixor =>
    cases he
    refine b_fin ?_
    show ((Reader.u1 : Decoder Nat) cc pc).bind _ = _
    rw [show (Reader.u1 : Decoder Nat) cc pc = .ok (130, pc + 1) from h 0 _ rfl]
    rfl
  | i2l =>
    cases he
    refine b_fin ?_
    show ((Reader.u1 : Decoder Nat) cc pc).bind _ = _
    rw [show (Reader.u1 : Decoder Nat) cc pc = .ok (133, pc + 1) from h 0 _ rfl]
    rfl
  | i2b =>
    cases he
    refine b_fin ?_
    show ((Reader.u1 : Decoder Nat) cc pc).bind _ = _
    rw [show (Reader.u1 : Decoder Nat) cc pc = .ok (145, pc + 1) from h 0 _ rfl]
    rfl
  | lcmp =>
    cases he
    refine b_fin ?_
    show ((Reader.u1 : Decoder Nat) cc pc).bind _ = _
    rw [show (Reader.u1 : Decoder Nat) cc pc = .ok (148, pc + 1) from h 0 _ rfl]
    rfl
  | ireturn =>
    cases he
    refine b_fin ?_
    show ((Reader.u1 : Decoder Nat) cc pc).bind _ = _
    rw [show (Reader.u1 : Decoder Nat) cc pc = .ok (172, pc + 1) from h 0 _ rfl]
    rfl
  | lreturn =>
    cases he
    refine b_fin ?_
    show ((Reader.u1 : Decoder Nat) cc pc).bind _ = _
    rw [show (Reader.u1 : Decoder Nat) cc pc = .ok (173, pc + 1) from h 0 _ rfl]
    rfl
  | return_ =>
    cases he
    refine b_fin ?_
    show ((Reader.u1 : Decoder Nat) cc pc).bind _ = _
    rw [show (Reader.u1 : Decoder Nat) cc pc = .ok (177, pc + 1) from h 0 _ rfl]
    rfl
  | arraylength =>
    cases he
    refine b_fin ?_
    show ((Reader.u1 : Decoder Nat) cc pc).bind _ = _
    rw [show (Reader.u1 : Decoder Nat) cc pc = .ok (190, pc + 1) from h 0 _ rfl]
    rfl
  | athrow =>
    cases he
    refine b_fin ?_
    show ((Reader.u1 : Decoder Nat) cc pc).bind _ = _
    rw [show (Reader.u1 : Decoder Nat) cc pc = .ok (191, pc + 1) from h 0 _ rfl]
    rfl
  | iload_n k =>
    cases he
    refine b_fin ?_
    match k, h with
    | ⟨0, _⟩, h =>
      show ((Reader.u1 : Decoder Nat) cc pc).bind _ = _
      rw [show (Reader.u1 : Decoder Nat) cc pc = .ok (26, pc + 1) from h 0 _ rfl]
      rfl
    | ⟨1, _⟩, h =>
      show ((Reader.u1 : Decoder Nat) cc pc).bind _ = _
      rw [show (Reader.u1 : Decoder Nat) cc pc = .ok (27, pc + 1) from h 0 _ rfl]
      rfl
    | ⟨2, _⟩, h =>
      show ((Reader.u1 : Decoder Nat) cc pc).bind _ = _
      rw [show (Reader.u1 : Decoder Nat) cc pc = .ok (28, pc + 1) from h 0 _ rfl]
      rfl
    | ⟨3, _⟩, h =>
      show ((Reader.u1 : Decoder Nat) cc pc).bind _ = _
      rw [show (Reader.u1 : Decoder Nat) cc pc = .ok (29, pc + 1) from h 0 _ rfl]
      rfl
  | lload_n k =>
    cases he
    refine b_fin ?_
    match k, h with
    | ⟨0, _⟩, h =>
      show ((Reader.u1 : Decoder Nat) cc pc).bind _ = _
      rw [show (Reader.u1 : Decoder Nat) cc pc = .ok (30, pc + 1) from h 0 _ rfl]
      rfl
    | ⟨1, _⟩, h =>
      show ((Reader.u1 : Decoder Nat) cc pc).bind _ = _
      rw [show (Reader.u1 : Decoder Nat) cc pc = .ok (31, pc + 1) from h 0 _ rfl]
      rfl
    | ⟨2, _⟩, h =>
      show ((Reader.u1 : Decoder Nat) cc pc).bind _ = _
      rw [show (Reader.u1 : Decoder Nat) cc pc = .ok (32, pc + 1) from h 0 _ rfl]
      rfl
    | ⟨3, _⟩, h =>
      show ((Reader.u1 : Decoder Nat) cc pc).bind _ = _
      rw [show (Reader.u1 : Decoder Nat) cc pc = .ok (33, pc + 1) from h 0 _ rfl]
      rfl
  | aload_n k =>
    cases he
    refine b_fin ?_
    match k, h with
    | ⟨0, _⟩, h =>
      show ((Reader.u1 : Decoder Nat) cc pc).bind _ = _
      rw [show (Reader.u1 : Decoder Nat) cc pc = .ok (42, pc + 1) from h 0 _ rfl]
      rfl
    | ⟨1, _⟩, h =>
      show ((Reader.u1 : Decoder Nat) cc pc).bind _ = _
      rw [show (Reader.u1 : Decoder Nat) cc pc = .ok (43, pc + 1) from h 0 _ rfl]
      rfl
    | ⟨2, _⟩, h =>
      show ((Reader.u1 : Decoder Nat) cc pc).bind _ = _
      rw [show (Reader.u1 : Decoder Nat) cc pc = .ok (44, pc + 1) from h 0 _ rfl]
      rfl
    | ⟨3, _⟩, h =>
      show ((Reader.u1 : Decoder Nat) cc pc).bind _ = _
      rw [show (Reader.u1 : Decoder Nat) cc pc = .ok (45, pc + 1) from h 0 _ rfl]
      rfl
  | istore_n k =>
    cases he
    refine b_fin ?_
    match k, h with
    | ⟨0, _⟩, h =>
      show ((Reader.u1 : Decoder Nat) cc pc).bind _ = _
      rw [show (Reader.u1 : Decoder Nat) cc pc = .ok (59, pc + 1) from h 0 _ rfl]
      rfl
    | ⟨1, _⟩, h =>
      show ((Reader.u1 : Decoder Nat) cc pc).bind _ = _
      rw [show (Reader.u1 : Decoder Nat) cc pc = .ok (60, pc + 1) from h 0 _ rfl]
      rfl
    | ⟨2, _⟩, h =>
      show ((Reader.u1 : Decoder Nat) cc pc).bind _ = _
      rw [show (Reader.u1 : Decoder Nat) cc pc = .ok (61, pc + 1) from h 0 _ rfl]
      rfl
    | ⟨3, _⟩, h =>
      show ((Reader.u1 : Decoder Nat) cc pc).bind _ = _
      rw [show (Reader.u1 : Decoder Nat) cc pc = .ok (62, pc + 1) from h 0 _ rfl]
      rfl
  | lstore_n k =>
    cases he
    refine b_fin ?_
    match k, h with
    | ⟨0, _⟩, h =>
      show ((Reader.u1 : Decoder Nat) cc pc).bind _ = _
      rw [show (Reader.u1 : Decoder Nat) cc pc = .ok (63, pc + 1) from h 0 _ rfl]
      rfl
    | ⟨1, _⟩, h =>
      show ((Reader.u1 : Decoder Nat) cc pc).bind _ = _
      rw [show (Reader.u1 : Decoder Nat) cc pc = .ok (64, pc + 1) from h 0 _ rfl]
      rfl
    | ⟨2, _⟩, h =>
      show ((Reader.u1 : Decoder Nat) cc pc).bind _ = _
      rw [show (Reader.u1 : Decoder Nat) cc pc = .ok (65, pc + 1) from h 0 _ rfl]
      rfl
    | ⟨3, _⟩, h =>
      show ((Reader.u1 : Decoder Nat) cc pc).bind _ = _
      rw [show (Reader.u1 : Decoder Nat) cc pc = .ok (66, pc + 1) from h 0 _ rfl]
      rfl
  | astore_n k =>
    cases he
    refine b_fin ?_
    match k, h with
    | ⟨0, _⟩, h =>
      show ((Reader.u1 : Decoder Nat) cc pc).bind _ = _
      rw [show (Reader.u1 : Decoder Nat) cc pc = .ok (75, pc + 1) from h 0 _ rfl]
      rfl
    | ⟨1, _⟩, h =>
      show ((Reader.u1 : Decoder Nat) cc pc).bind _ = _
      rw [show (Reader.u1 : Decoder Nat) cc pc = .ok (76, pc + 1) from h 0 _ rfl]
      rfl
    | ⟨2, _⟩, h =>
      show ((Reader.u1 : Decoder Nat) cc pc).bind _ = _
      rw [show (Reader.u1 : Decoder Nat) cc pc = .ok (77, pc + 1) from h 0 _ rfl]
      rfl
    | ⟨3, _⟩, h =>
      show ((Reader.u1 : Decoder Nat) cc pc).bind _ = _
      rw [show (Reader.u1 : Decoder Nat) cc pc = .ok (78, pc + 1) from h 0 _ rfl]
      rfl
  | ldc n =>
    cases he
    refine b_fin ?_
    show ((Reader.u1 : Decoder Nat) cc pc).bind _ = _
    rw [show (Reader.u1 : Decoder Nat) cc pc = .ok (18, pc + 1) from h 0 _ rfl]
    show Except.bind ((Reader.u1 : Decoder Nat) cc (pc + 1)) _ = _
    rw [show (Reader.u1 : Decoder Nat) cc (pc + 1) = .ok (n, pc + 1 + 1) from h 1 _ rfl]
    rfl
  | iload n =>
    cases he
    refine b_fin ?_
    show ((Reader.u1 : Decoder Nat) cc pc).bind _ = _
    rw [show (Reader.u1 : Decoder Nat) cc pc = .ok (21, pc + 1) from h 0 _ rfl]
    show Except.bind ((Reader.u1 : Decoder Nat) cc (pc + 1)) _ = _
    rw [show (Reader.u1 : Decoder Nat) cc (pc + 1) = .ok (n, pc + 1 + 1) from h 1 _ rfl]
    rfl
  | lload n =>
    cases he
    refine b_fin ?_
    show ((Reader.u1 : Decoder Nat) cc pc).bind _ = _
    rw [show (Reader.u1 : Decoder Nat) cc pc = .ok (22, pc + 1) from h 0 _ rfl]
    show Except.bind ((Reader.u1 : Decoder Nat) cc (pc + 1)) _ = _
    rw [show (Reader.u1 : Decoder Nat) cc (pc + 1) = .ok (n, pc + 1 + 1) from h 1 _ rfl]
    rfl
  | aload n =>
    cases he
    refine b_fin ?_
    show ((Reader.u1 : Decoder Nat) cc pc).bind _ = _
    rw [show (Reader.u1 : Decoder Nat) cc pc = .ok (25, pc + 1) from h 0 _ rfl]
    show Except.bind ((Reader.u1 : Decoder Nat) cc (pc + 1)) _ = _
    rw [show (Reader.u1 : Decoder Nat) cc (pc + 1) = .ok (n, pc + 1 + 1) from h 1 _ rfl]
    rfl
  | istore n =>
    cases he
    refine b_fin ?_
    show ((Reader.u1 : Decoder Nat) cc pc).bind _ = _
    rw [show (Reader.u1 : Decoder Nat) cc pc = .ok (54, pc + 1) from h 0 _ rfl]
    show Except.bind ((Reader.u1 : Decoder Nat) cc (pc + 1)) _ = _
    rw [show (Reader.u1 : Decoder Nat) cc (pc + 1) = .ok (n, pc + 1 + 1) from h 1 _ rfl]
    rfl
  | lstore n =>
    cases he
    refine b_fin ?_
    show ((Reader.u1 : Decoder Nat) cc pc).bind _ = _
    rw [show (Reader.u1 : Decoder Nat) cc pc = .ok (55, pc + 1) from h 0 _ rfl]
    show Except.bind ((Reader.u1 : Decoder Nat) cc (pc + 1)) _ = _
    rw [show (Reader.u1 : Decoder Nat) cc (pc + 1) = .ok (n, pc + 1 + 1) from h 1 _ rfl]
    rfl
  | astore n =>
    cases he
    refine b_fin ?_
    show ((Reader.u1 : Decoder Nat) cc pc).bind _ = _
    rw [show (Reader.u1 : Decoder Nat) cc pc = .ok (58, pc + 1) from h 0 _ rfl]
    show Except.bind ((Reader.u1 : Decoder Nat) cc (pc + 1)) _ = _
    rw [show (Reader.u1 : Decoder Nat) cc (pc + 1) = .ok (n, pc + 1 + 1) from h 1 _ rfl]
    rfl
  | ldc_w n =>
    cases he
    refine b_fin ?_
    show ((Reader.u1 : Decoder Nat) cc pc).bind _ = _
    rw [show (Reader.u1 : Decoder Nat) cc pc = .ok (19, pc + 1) from h 0 _ rfl]
    show Except.bind (Except.bind ((Reader.u1 : Decoder Nat) cc (pc + 1)) _) _ = _
    rw [show (Reader.u1 : Decoder Nat) cc (pc + 1) = .ok (n / 256, pc + 1 + 1) from h 1 _ rfl]
    show Except.bind (Except.bind ((Reader.u1 : Decoder Nat) cc (pc + 2)) _) _ = _
    rw [show (Reader.u1 : Decoder Nat) cc (pc + 2) = .ok (n % 256, pc + 2 + 1) from h 2 _ rfl]
    show Except.ok (Instr.ldc_w (n / 256 * 256 + n % 256), pc + 3) = _
    rw [Nat.div_add_mod' n 256]
    rfl
  | ldc2_w n =>
    cases he
    refine b_fin ?_
    show ((Reader.u1 : Decoder Nat) cc pc).bind _ = _
    rw [show (Reader.u1 : Decoder Nat) cc pc = .ok (20, pc + 1) from h 0 _ rfl]
    show Except.bind (Except.bind ((Reader.u1 : Decoder Nat) cc (pc + 1)) _) _ = _
    rw [show (Reader.u1 : Decoder Nat) cc (pc + 1) = .ok (n / 256, pc + 1 + 1) from h 1 _ rfl]
    show Except.bind (Except.bind ((Reader.u1 : Decoder Nat) cc (pc + 2)) _) _ = _
    rw [show (Reader.u1 : Decoder Nat) cc (pc + 2) = .ok (n % 256, pc + 2 + 1) from h 2 _ rfl]
    show Except.ok (Instr.ldc2_w (n / 256 * 256 + n % 256), pc + 3) = _
    rw [Nat.div_add_mod' n 256]
    rfl
  | getfield n =>
    cases he
    refine b_fin ?_
    show ((Reader.u1 : Decoder Nat) cc pc).bind _ = _
    rw [show (Reader.u1 : Decoder Nat) cc pc = .ok (180, pc + 1) from h 0 _ rfl]
    show Except.bind (Except.bind ((Reader.u1 : Decoder Nat) cc (pc + 1)) _) _ = _
    rw [show (Reader.u1 : Decoder Nat) cc (pc + 1) = .ok (n / 256, pc + 1 + 1) from h 1 _ rfl]
    show Except.bind (Except.bind ((Reader.u1 : Decoder Nat) cc (pc + 2)) _) _ = _
    rw [show (Reader.u1 : Decoder Nat) cc (pc + 2) = .ok (n % 256, pc + 2 + 1) from h 2 _ rfl]
    show Except.ok (Instr.getfield (n / 256 * 256 + n % 256), pc + 3) = _
    rw [Nat.div_add_mod' n 256]
    rfl
  | putfield n =>
    cases he
    refine b_fin ?_
    show ((Reader.u1 : Decoder Nat) cc pc).bind _ = _
    rw [show (Reader.u1 : Decoder Nat) cc pc = .ok (181, pc + 1) from h 0 _ rfl]
    show Except.bind (Except.bind ((Reader.u1 : Decoder Nat) cc (pc + 1)) _) _ = _
    rw [show (Reader.u1 : Decoder Nat) cc (pc + 1) = .ok (n / 256, pc + 1 + 1) from h 1 _ rfl]
    show Except.bind (Except.bind ((Reader.u1 : Decoder Nat) cc (pc + 2)) _) _ = _
    rw [show (Reader.u1 : Decoder Nat) cc (pc + 2) = .ok (n % 256, pc + 2 + 1) from h 2 _ rfl]
    show Except.ok (Instr.putfield (n / 256 * 256 + n % 256), pc + 3) = _
    rw [Nat.div_add_mod' n 256]
    rfl
  | invokevirtual n =>
    cases he
    refine b_fin ?_
    show ((Reader.u1 : Decoder Nat) cc pc).bind _ = _
    rw [show (Reader.u1 : Decoder Nat) cc pc = .ok (182, pc + 1) from h 0 _ rfl]
    show Except.bind (Except.bind ((Reader.u1 : Decoder Nat) cc (pc + 1)) _) _ = _
    rw [show (Reader.u1 : Decoder Nat) cc (pc + 1) = .ok (n / 256, pc + 1 + 1) from h 1 _ rfl]
    show Except.bind (Except.bind ((Reader.u1 : Decoder Nat) cc (pc + 2)) _) _ = _
    rw [show (Reader.u1 : Decoder Nat) cc (pc + 2) = .ok (n % 256, pc + 2 + 1) from h 2 _ rfl]
    show Except.ok (Instr.invokevirtual (n / 256 * 256 + n % 256), pc + 3) = _
    rw [Nat.div_add_mod' n 256]
    rfl
  | invokespecial n =>
    cases he
    refine b_fin ?_
    show ((Reader.u1 : Decoder Nat) cc pc).bind _ = _
    rw [show (Reader.u1 : Decoder Nat) cc pc = .ok (183, pc + 1) from h 0 _ rfl]
    show Except.bind (Except.bind ((Reader.u1 : Decoder Nat) cc (pc + 1)) _) _ = _
    rw [show (Reader.u1 : Decoder Nat) cc (pc + 1) = .ok (n / 256, pc + 1 + 1) from h 1 _ rfl]
    show Except.bind (Except.bind ((Reader.u1 : Decoder Nat) cc (pc + 2)) _) _ = _
    rw [show (Reader.u1 : Decoder Nat) cc (pc + 2) = .ok (n % 256, pc + 2 + 1) from h 2 _ rfl]
    show Except.ok (Instr.invokespecial (n / 256 * 256 + n % 256), pc + 3) = _
    rw [Nat.div_add_mod' n 256]
    rfl
  | invokestatic n =>
    cases he
    refine b_fin ?_
    show ((Reader.u1 : Decoder Nat) cc pc).bind _ = _
    rw [show (Reader.u1 : Decoder Nat) cc pc = .ok (184, pc + 1) from h 0 _ rfl]
    show Except.bind (Except.bind ((Reader.u1 : Decoder Nat) cc (pc + 1)) _) _ = _
    rw [show (Reader.u1 : Decoder Nat) cc (pc + 1) = .ok (n / 256, pc + 1 + 1) from h 1 _ rfl]
    show Except.bind (Except.bind ((Reader.u1 : Decoder Nat) cc (pc + 2)) _) _ = _
    rw [show (Reader.u1 : Decoder Nat) cc (pc + 2) = .ok (n % 256, pc + 2 + 1) from h 2 _ rfl]
    show Except.ok (Instr.invokestatic (n / 256 * 256 + n % 256), pc + 3) = _
    rw [Nat.div_add_mod' n 256]
    rfl
  | new n =>
    cases he
    refine b_fin ?_
    show ((Reader.u1 : Decoder Nat) cc pc).bind _ = _
    rw [show (Reader.u1 : Decoder Nat) cc pc = .ok (187, pc + 1) from h 0 _ rfl]
    show Except.bind (Except.bind ((Reader.u1 : Decoder Nat) cc (pc + 1)) _) _ = _
    rw [show (Reader.u1 : Decoder Nat) cc (pc + 1) = .ok (n / 256, pc + 1 + 1) from h 1 _ rfl]
    show Except.bind (Except.bind ((Reader.u1 : Decoder Nat) cc (pc + 2)) _) _ = _
    rw [show (Reader.u1 : Decoder Nat) cc (pc + 2) = .ok (n % 256, pc + 2 + 1) from h 2 _ rfl]
    show Except.ok (Instr.new (n / 256 * 256 + n % 256), pc + 3) = _
    rw [Nat.div_add_mod' n 256]
    rfl
  | sipush n =>
    unfold b_enc at he; simp only at he
    split at he
    · rename_i hn
      cases he
      refine b_fin ?_
      show ((Reader.u1 : Decoder Nat) cc pc).bind _ = _
      rw [show (Reader.u1 : Decoder Nat) cc pc = .ok (17, pc + 1) from h 0 _ rfl]
      show Except.bind (Except.map _ (Except.bind ((Reader.u1 : Decoder Nat) cc (pc + 1)) _)) _ = _
      rw [show (Reader.u1 : Decoder Nat) cc (pc + 1) = .ok (b_s2 n / 256, pc + 1 + 1) from h 1 _ rfl]
      show Except.bind (Except.map _ (Except.bind ((Reader.u1 : Decoder Nat) cc (pc + 2)) _)) _ = _
      rw [show (Reader.u1 : Decoder Nat) cc (pc + 2) = .ok (b_s2 n % 256, pc + 2 + 1) from h 2 _ rfl]
      show Except.ok (Instr.sipush (Reader.signed 16 (b_s2 n / 256 * 256 + b_s2 n % 256)), pc + 3) = _
      rw [b_s2_ok hn]
      rfl
    · cases he
  | goto n =>
    unfold b_enc at he; simp only at he
    split at he
    · rename_i hn
      cases he
      refine b_fin ?_
      show ((Reader.u1 : Decoder Nat) cc pc).bind _ = _
      rw [show (Reader.u1 : Decoder Nat) cc pc = .ok (167, pc + 1) from h 0 _ rfl]
      show Except.bind (Except.map _ (Except.bind ((Reader.u1 : Decoder Nat) cc (pc + 1)) _)) _ = _
      rw [show (Reader.u1 : Decoder Nat) cc (pc + 1) = .ok (b_s2 n / 256, pc + 1 + 1) from h 1 _ rfl]
      show Except.bind (Except.map _ (Except.bind ((Reader.u1 : Decoder Nat) cc (pc + 2)) _)) _ = _
      rw [show (Reader.u1 : Decoder Nat) cc (pc + 2) = .ok (b_s2 n % 256, pc + 2 + 1) from h 2 _ rfl]
      show Except.ok (Instr.goto (Reader.signed 16 (b_s2 n / 256 * 256 + b_s2 n % 256)), pc + 3) = _
      rw [b_s2_ok hn]
      rfl
    · cases he
  | bipush n =>
    unfold b_enc at he; simp only at he
    split at he
    · rename_i hn
      cases he
      refine b_fin ?_
      show ((Reader.u1 : Decoder Nat) cc pc).bind _ = _
      rw [show (Reader.u1 : Decoder Nat) cc pc = .ok (16, pc + 1) from h 0 _ rfl]
      show Except.bind (Except.map _ ((Reader.u1 : Decoder Nat) cc (pc + 1))) _ = _
      rw [show (Reader.u1 : Decoder Nat) cc (pc + 1) = .ok (b_s1 n, pc + 1 + 1) from h 1 _ rfl]
      show Except.ok (Instr.bipush (Reader.signed 8 (b_s1 n)), pc + 2) = _
      rw [b_s1_ok hn]
      rfl
    · cases he
  | iinc k n =>
    unfold b_enc at he; simp only at he
    split at he
    · rename_i hn
      cases he
      refine b_fin ?_
      show ((Reader.u1 : Decoder Nat) cc pc).bind _ = _
      rw [show (Reader.u1 : Decoder Nat) cc pc = .ok (132, pc + 1) from h 0 _ rfl]
      show Except.bind ((Reader.u1 : Decoder Nat) cc (pc + 1)) _ = _
      rw [show (Reader.u1 : Decoder Nat) cc (pc + 1) = .ok (k, pc + 1 + 1) from h 1 _ rfl]
      show Except.bind (Except.map _ ((Reader.u1 : Decoder Nat) cc (pc + 2))) _ = _
      rw [show (Reader.u1 : Decoder Nat) cc (pc + 2) = .ok (b_s1 n, pc + 2 + 1) from h 2 _ rfl]
      show Except.ok (Instr.iinc k (Reader.signed 8 (b_s1 n)), pc + 3) = _
      rw [b_s1_ok hn]
      rfl
    · cases he
  | ifCond cnd n =>
    cases cnd with
    | eq =>
      unfold b_enc at he; simp only at he
      split at he
      · rename_i hn
        cases he
        refine b_fin ?_
        show ((Reader.u1 : Decoder Nat) cc pc).bind _ = _
        rw [show (Reader.u1 : Decoder Nat) cc pc = .ok (153, pc + 1) from h 0 _ rfl]
        show Except.bind (Except.map _ (Except.bind ((Reader.u1 : Decoder Nat) cc (pc + 1)) _)) _ = _
        rw [show (Reader.u1 : Decoder Nat) cc (pc + 1) = .ok (b_s2 n / 256, pc + 1 + 1) from h 1 _ rfl]
        show Except.bind (Except.map _ (Except.bind ((Reader.u1 : Decoder Nat) cc (pc + 2)) _)) _ = _
        rw [show (Reader.u1 : Decoder Nat) cc (pc + 2) = .ok (b_s2 n % 256, pc + 2 + 1) from h 2 _ rfl]
        show Except.ok (Instr.ifCond .eq (Reader.signed 16 (b_s2 n / 256 * 256 + b_s2 n % 256)), pc + 3) = _
        rw [b_s2_ok hn]
        rfl
      · cases he
    | ne =>
      unfold b_enc at he; simp only at he
      split at he
      · rename_i hn
        cases he
        refine b_fin ?_
        show ((Reader.u1 : Decoder Nat) cc pc).bind _ = _
        rw [show (Reader.u1 : Decoder Nat) cc pc = .ok (154, pc + 1) from h 0 _ rfl]
        show Except.bind (Except.map _ (Except.bind ((Reader.u1 : Decoder Nat) cc (pc + 1)) _)) _ = _
        rw [show (Reader.u1 : Decoder Nat) cc (pc + 1) = .ok (b_s2 n / 256, pc + 1 + 1) from h 1 _ rfl]
        show Except.bind (Except.map _ (Except.bind ((Reader.u1 : Decoder Nat) cc (pc + 2)) _)) _ = _
        rw [show (Reader.u1 : Decoder Nat) cc (pc + 2) = .ok (b_s2 n % 256, pc + 2 + 1) from h 2 _ rfl]
        show Except.ok (Instr.ifCond .ne (Reader.signed 16 (b_s2 n / 256 * 256 + b_s2 n % 256)), pc + 3) = _
        rw [b_s2_ok hn]
        rfl
      · cases he
    | lt =>
      unfold b_enc at he; simp only at he
      split at he
      · rename_i hn
        cases he
        refine b_fin ?_
        show ((Reader.u1 : Decoder Nat) cc pc).bind _ = _
        rw [show (Reader.u1 : Decoder Nat) cc pc = .ok (155, pc + 1) from h 0 _ rfl]
        show Except.bind (Except.map _ (Except.bind ((Reader.u1 : Decoder Nat) cc (pc + 1)) _)) _ = _
        rw [show (Reader.u1 : Decoder Nat) cc (pc + 1) = .ok (b_s2 n / 256, pc + 1 + 1) from h 1 _ rfl]
        show Except.bind (Except.map _ (Except.bind ((Reader.u1 : Decoder Nat) cc (pc + 2)) _)) _ = _
        rw [show (Reader.u1 : Decoder Nat) cc (pc + 2) = .ok (b_s2 n % 256, pc + 2 + 1) from h 2 _ rfl]
        show Except.ok (Instr.ifCond .lt (Reader.signed 16 (b_s2 n / 256 * 256 + b_s2 n % 256)), pc + 3) = _
        rw [b_s2_ok hn]
        rfl
      · cases he
    | ge =>
      unfold b_enc at he; simp only at he
      split at he
      · rename_i hn
        cases he
        refine b_fin ?_
        show ((Reader.u1 : Decoder Nat) cc pc).bind _ = _
        rw [show (Reader.u1 : Decoder Nat) cc pc = .ok (156, pc + 1) from h 0 _ rfl]
        show Except.bind (Except.map _ (Except.bind ((Reader.u1 : Decoder Nat) cc (pc + 1)) _)) _ = _
        rw [show (Reader.u1 : Decoder Nat) cc (pc + 1) = .ok (b_s2 n / 256, pc + 1 + 1) from h 1 _ rfl]
        show Except.bind (Except.map _ (Except.bind ((Reader.u1 : Decoder Nat) cc (pc + 2)) _)) _ = _
        rw [show (Reader.u1 : Decoder Nat) cc (pc + 2) = .ok (b_s2 n % 256, pc + 2 + 1) from h 2 _ rfl]
        show Except.ok (Instr.ifCond .ge (Reader.signed 16 (b_s2 n / 256 * 256 + b_s2 n % 256)), pc + 3) = _
        rw [b_s2_ok hn]
        rfl
      · cases he
    | gt =>
      unfold b_enc at he; simp only at he
      split at he
      · rename_i hn
        cases he
        refine b_fin ?_
        show ((Reader.u1 : Decoder Nat) cc pc).bind _ = _
        rw [show (Reader.u1 : Decoder Nat) cc pc = .ok (157, pc + 1) from h 0 _ rfl]
        show Except.bind (Except.map _ (Except.bind ((Reader.u1 : Decoder Nat) cc (pc + 1)) _)) _ = _
        rw [show (Reader.u1 : Decoder Nat) cc (pc + 1) = .ok (b_s2 n / 256, pc + 1 + 1) from h 1 _ rfl]
        show Except.bind (Except.map _ (Except.bind ((Reader.u1 : Decoder Nat) cc (pc + 2)) _)) _ = _
        rw [show (Reader.u1 : Decoder Nat) cc (pc + 2) = .ok (b_s2 n % 256, pc + 2 + 1) from h 2 _ rfl]
        show Except.ok (Instr.ifCond .gt (Reader.signed 16 (b_s2 n / 256 * 256 + b_s2 n % 256)), pc + 3) = _
        rw [b_s2_ok hn]
        rfl
      · cases he
    | le =>
      unfold b_enc at he; simp only at he
      split at he
      · rename_i hn
        cases he
        refine b_fin ?_
        show ((Reader.u1 : Decoder Nat) cc pc).bind _ = _
        rw [show (Reader.u1 : Decoder Nat) cc pc = .ok (158, pc + 1) from h 0 _ rfl]
        show Except.bind (Except.map _ (Except.bind ((Reader.u1 : Decoder Nat) cc (pc + 1)) _)) _ = _
        rw [show (Reader.u1 : Decoder Nat) cc (pc + 1) = .ok (b_s2 n / 256, pc + 1 + 1) from h 1 _ rfl]
        show Except.bind (Except.map _ (Except.bind ((Reader.u1 : Decoder Nat) cc (pc + 2)) _)) _ = _
        rw [show (Reader.u1 : Decoder Nat) cc (pc + 2) = .ok (b_s2 n % 256, pc + 2 + 1) from h 2 _ rfl]
        show Except.ok (Instr.ifCond .le (Reader.signed 16 (b_s2 n / 256 * 256 + b_s2 n % 256)), pc + 3) = _
        rw [b_s2_ok hn]
        rfl
      · cases he
  | if_icmp cnd n =>
    cases cnd with
    | eq =>
      unfold b_enc at he; simp only at he
      split at he
      · rename_i hn
        cases he
        refine b_fin ?_
        show ((Reader.u1 : Decoder Nat) cc pc).bind _ = _
        rw [show (Reader.u1 : Decoder Nat) cc pc = .ok (159, pc + 1) from h 0 _ rfl]
        show Except.bind (Except.map _ (Except.bind ((Reader.u1 : Decoder Nat) cc (pc + 1)) _)) _ = _
        rw [show (Reader.u1 : Decoder Nat) cc (pc + 1) = .ok (b_s2 n / 256, pc + 1 + 1) from h 1 _ rfl]
        show Except.bind (Except.map _ (Except.bind ((Reader.u1 : Decoder Nat) cc (pc + 2)) _)) _ = _
        rw [show (Reader.u1 : Decoder Nat) cc (pc + 2) = .ok (b_s2 n % 256, pc + 2 + 1) from h 2 _ rfl]
        show Except.ok (Instr.if_icmp .eq (Reader.signed 16 (b_s2 n / 256 * 256 + b_s2 n % 256)), pc + 3) = _
        rw [b_s2_ok hn]
        rfl
      · cases he
    | ne =>
      unfold b_enc at he; simp only at he
      split at he
      · rename_i hn
        cases he
        refine b_fin ?_
        show ((Reader.u1 : Decoder Nat) cc pc).bind _ = _
        rw [show (Reader.u1 : Decoder Nat) cc pc = .ok (160, pc + 1) from h 0 _ rfl]
        show Except.bind (Except.map _ (Except.bind ((Reader.u1 : Decoder Nat) cc (pc + 1)) _)) _ = _
        rw [show (Reader.u1 : Decoder Nat) cc (pc + 1) = .ok (b_s2 n / 256, pc + 1 + 1) from h 1 _ rfl]
        show Except.bind (Except.map _ (Except.bind ((Reader.u1 : Decoder Nat) cc (pc + 2)) _)) _ = _
        rw [show (Reader.u1 : Decoder Nat) cc (pc + 2) = .ok (b_s2 n % 256, pc + 2 + 1) from h 2 _ rfl]
        show Except.ok (Instr.if_icmp .ne (Reader.signed 16 (b_s2 n / 256 * 256 + b_s2 n % 256)), pc + 3) = _
        rw [b_s2_ok hn]
        rfl
      · cases he
    | lt =>
      unfold b_enc at he; simp only at he
      split at he
      · rename_i hn
        cases he
        refine b_fin ?_
        show ((Reader.u1 : Decoder Nat) cc pc).bind _ = _
        rw [show (Reader.u1 : Decoder Nat) cc pc = .ok (161, pc + 1) from h 0 _ rfl]
        show Except.bind (Except.map _ (Except.bind ((Reader.u1 : Decoder Nat) cc (pc + 1)) _)) _ = _
        rw [show (Reader.u1 : Decoder Nat) cc (pc + 1) = .ok (b_s2 n / 256, pc + 1 + 1) from h 1 _ rfl]
        show Except.bind (Except.map _ (Except.bind ((Reader.u1 : Decoder Nat) cc (pc + 2)) _)) _ = _
        rw [show (Reader.u1 : Decoder Nat) cc (pc + 2) = .ok (b_s2 n % 256, pc + 2 + 1) from h 2 _ rfl]
        show Except.ok (Instr.if_icmp .lt (Reader.signed 16 (b_s2 n / 256 * 256 + b_s2 n % 256)), pc + 3) = _
        rw [b_s2_ok hn]
        rfl
      · cases he
    | ge =>
      unfold b_enc at he; simp only at he
      split at he
      · rename_i hn
        cases he
        refine b_fin ?_
        show ((Reader.u1 : Decoder Nat) cc pc).bind _ = _
        rw [show (Reader.u1 : Decoder Nat) cc pc = .ok (162, pc + 1) from h 0 _ rfl]
        show Except.bind (Except.map _ (Except.bind ((Reader.u1 : Decoder Nat) cc (pc + 1)) _)) _ = _
        rw [show (Reader.u1 : Decoder Nat) cc (pc + 1) = .ok (b_s2 n / 256, pc + 1 + 1) from h 1 _ rfl]
        show Except.bind (Except.map _ (Except.bind ((Reader.u1 : Decoder Nat) cc (pc + 2)) _)) _ = _
        rw [show (Reader.u1 : Decoder Nat) cc (pc + 2) = .ok (b_s2 n % 256, pc + 2 + 1) from h 2 _ rfl]
        show Except.ok (Instr.if_icmp .ge (Reader.signed 16 (b_s2 n / 256 * 256 + b_s2 n % 256)), pc + 3) = _
        rw [b_s2_ok hn]
        rfl
      · cases he
    | gt =>
      unfold b_enc at he; simp only at he
      split at he
      · rename_i hn
        cases he
        refine b_fin ?_
        show ((Reader.u1 : Decoder Nat) cc pc).bind _ = _
        rw [show (Reader.u1 : Decoder Nat) cc pc = .ok (163, pc + 1) from h 0 _ rfl]
        show Except.bind (Except.map _ (Except.bind ((Reader.u1 : Decoder Nat) cc (pc + 1)) _)) _ = _
        rw [show (Reader.u1 : Decoder Nat) cc (pc + 1) = .ok (b_s2 n / 256, pc + 1 + 1) from h 1 _ rfl]
        show Except.bind (Except.map _ (Except.bind ((Reader.u1 : Decoder Nat) cc (pc + 2)) _)) _ = _
        rw [show (Reader.u1 : Decoder Nat) cc (pc + 2) = .ok (b_s2 n % 256, pc + 2 + 1) from h 2 _ rfl]
        show Except.ok (Instr.if_icmp .gt (Reader.signed 16 (b_s2 n / 256 * 256 + b_s2 n % 256)), pc + 3) = _
        rw [b_s2_ok hn]
        rfl
      · cases he
    | le =>
      unfold b_enc at he; simp only at he
      split at he
      · rename_i hn
        cases he
        refine b_fin ?_
        show ((Reader.u1 : Decoder Nat) cc pc).bind _ = _
        rw [show (Reader.u1 : Decoder Nat) cc pc = .ok (164, pc + 1) from h 0 _ rfl]
        show Except.bind (Except.map _ (Except.bind ((Reader.u1 : Decoder Nat) cc (pc + 1)) _)) _ = _
        rw [show (Reader.u1 : Decoder Nat) cc (pc + 1) = .ok (b_s2 n / 256, pc + 1 + 1) from h 1 _ rfl]
        show Except.bind (Except.map _ (Except.bind ((Reader.u1 : Decoder Nat) cc (pc + 2)) _)) _ = _
        rw [show (Reader.u1 : Decoder Nat) cc (pc + 2) = .ok (b_s2 n % 256, pc + 2 + 1) from h 2 _ rfl]
        show Except.ok (Instr.if_icmp .le (Reader.signed 16 (b_s2 n / 256 * 256 + b_s2 n % 256)), pc + 3) = _
        rw [b_s2_ok hn]
        rfl
      · cases he
  | _ => cases he
/-- the bytes of a list of entries, one behind another -/
def b_pre : List Nat → List Nat → Option (List Nat)
  | [], r => some r
  | a :: t, b :: r => match Nat.beq a b with
    | true => b_pre t r
    | false => none
  | _ :: _, [] => none
theorem b_pre_spec : ∀ {a bs r : List Nat}, b_pre a bs = some r → bs = a ++ r
  | [], _, _, h => by unfold b_pre at h; cases h; rfl
  | x :: t, [], _, h => by unfold b_pre at h; cases h
  | x :: t, b :: bs, r, h => by
    unfold b_pre at h
    split at h
    · rename_i hb
      rw [Nat.eq_of_beq_eq_true hb, b_pre_spec h]; rfl
    · cases h
/-- entries against the bytes, one behind another; a row of 'sk' (pc, bytes) is not encoded but asked of the decoder itself -/
def b_one (sk : List (Nat × Nat)) (e : Nat × aEnt) (bs : List Nat) : Option (Nat × List Nat) := match a_lk sk e.1 with
  | some n => some (n, bs.drop n)
  | none => match b_enc e.2.1 with
    | some en => match b_pre en bs, Nat.beq en.length (a_ilen e.2.1) && !a_isw e.2.1 with
      | some r, true => some (en.length, r)
      | _, _ => none
    | none => none
def b_chk (sk : List (Nat × Nat)) : List (Nat × aEnt) → Nat → List Nat → Bool
  | [], _, _ => true
  | e :: t, pc, bs => match Nat.ble pc e.1 with
    | true => match b_one sk e (bs.drop (e.1 - pc)) with
      | some (n, r) => b_chk sk t (e.1 + n) r
      | none => false
    | false => false
def b_sok (cc : ByteArray) (sk : List (Nat × Nat)) (e : Nat × aEnt) : Bool := match a_lk sk e.1 with
  | some _ => a_dok cc e.1 e.2.1
  | none => true
theorem b_dok_of {cc : ByteArray} {pc : Nat} {i : Instr} (h : decode cc pc = .ok (i, a_ilen i)) : a_dok cc pc i = true := by
  unfold a_dok
  rw [h]
  simp only [decide_true, Bool.true_and]
  rw [Nat.beq_refl, Bool.or_true]
theorem b_chk_ok {cc : ByteArray} {sk : List (Nat × Nat)} : ∀ {es : List (Nat × aEnt)} {pc : Nat} {bs : List Nat}, (∀ k, bs[k]? = (b_bl cc)[pc + k]?) → b_chk sk es pc bs = true → ∀ e ∈ es, a_lk sk e.1 = none → a_dok cc e.1 e.2.1 = true
  | [], _, _, _, _, _, h, _ => by cases h
  | e :: t, pc, bs, hbs, h, e', he', hs => by
    unfold b_chk at h
    split at h
    · rename_i hle
      have hle := Nat.le_of_ble_eq_true hle
      split at h
      · rename_i n r hone
        have hd : ∀ k, (bs.drop (e.1 - pc))[k]? = (b_bl cc)[e.1 + k]? := fun k => by
          rw [List.getElem?_drop, hbs]
          congr 1
          omega
        have key : (∀ k, r[k]? = (b_bl cc)[e.1 + n + k]?) ∧ (a_lk sk e.1 = none → a_dok cc e.1 e.2.1 = true) := by
          unfold b_one at hone
          split at hone
          · rename_i n9 hn9
            cases hone
            refine ⟨fun k => by rw [List.getElem?_drop, hd]; congr 1; omega, fun hh => by rw [hn9] at hh; cases hh⟩
          · split at hone
            · rename_i en hen
              split at hone
              · rename_i r9 hr9 hl9
                cases hone
                have hsp := b_pre_spec hr9
                have hpre : ∀ (k b : Nat), en[k]? = some b → b_rd cc (e.1 + k) b := fun k b hk => by
                  refine b_u1 ?_
                  rw [← hd k, hsp, List.getElem?_append_left (List.getElem?_eq_some_iff.mp hk).1]
                  exact hk
                simp only [Bool.and_eq_true] at hl9
                refine ⟨fun k => ?_, fun _ => b_dok_of ?_⟩
                · rw [Nat.add_assoc, ← hd, hsp, List.getElem?_append_right (by omega)]
                  congr 1
                  omega
                · rw [b_enc_ok hen hpre, Nat.eq_of_beq_eq_true hl9.1]
              · cases hone
            · cases hone
        rcases List.mem_cons.mp he' with rfl | he'
        · exact key.2 hs
        · exact b_chk_ok key.1 h e' he' hs
      · cases h
    · cases h
/-- a program's rows are the code's -/
theorem b_code {cc : ByteArray} {es : List (Nat × aEnt)} (bl : List Nat) (sk : List (Nat × Nat)) (hb : b_bl cc = bl) (h1 : b_chk sk es 0 bl = true) (h2 : es.all (b_sok cc sk) = true) (h3 : es.all (fun e => a_iok e.1 e.2) = true) : es.all (a_eok cc) = true := by
  refine List.all_eq_true.mpr (fun e he => ?_)
  unfold a_eok
  rw [List.all_eq_true.mp h3 e he, Bool.and_true]
  cases hs : a_lk sk e.1 with
  | none => exact b_chk_ok (cc := cc) (sk := sk) (pc := 0) (bs := bl) (fun k => by rw [hb, Nat.zero_add]) h1 e he hs
  | some n =>
    have := List.all_eq_true.mp h2 e he
    unfold b_sok at this
    rw [hs] at this
    exact this
end
section
/-! ===== the cells, the classes' rows, the constants: written by wip/whole/gen.py ===== -/
/- 0 x, 1 x.text, 2 x.text.bytes, 3 x.draft, 4 x.draft.law, 5 x.draft.law.code, 6 x.draft.law.stack, 7 x.draft.parts, 8 x.draft.wants, 9 x.draft.first, 10 x.draft.pages, 11 x.draft.fewer, 12 x.told, 13 x.told.law, 14 x.told.law.code, 15 x.told.law.stack, 16 x.told.parts, 17 x.told.wants, 18 x.told.first, 19 x.told.pages, 20 x.told.fewer, 21 x.reading, 22 x.now, 23 x.now.sets, 24 x.now.moves, 25 x.now.events, 26 x.kept, 27 x.kept.sets, 28 x.kept.moves, 29 x.kept.events, 30 x.weeks, 31 x.weeks.sets, 32 x.weeks.tried, 33 x.weeks.best, 34 x.weeks.kept, 35 x.pair, 36 x.pair.states, 37 x.pair.table, 38 x.catalogue, 39 x.catalogue.sets, 40 x.catalogue.before, 41 x.catalogue.behind, 42 x.takeable, 43 m, 44 m.book, 45 m.owner, 46 m.firstOwner, 47 m.wants, 48 m.code, 49 m.pages, 50 m.tape, 51 m.refused, 52 m.newBook, 53 m.newOwner, 54 m.newWants, 55 m.readCode, 56 m.waits, 57 m.tested, 58 m.pile, 59 m.moved, 60 m.far, 61 m.queue, 62 m.its, 63 m.states, 64 m.statesFar, 65 m.table, 66 m.trying, 67 m.rowOf, 68 m.keptRow, 69 m.event, 70 m.order, 71 m.imageOwner, 72 m.imageMoved, 73 m.imageEvent, 74 out -/
def shp : List aShp := [.inr (8, [.inr 1, .inr 3, .inr 12, .inr 21, .inr 22, .inr 26, .inr 30, .inr 35, .inr 38, .inr 42, .inl 1, .inl 0, .inl 0, .inl 0, .inl 0]),
  .inr (5, [.inr 2, .inl 0, .inl 0, .inl 0, .inl 0, .inl 0, .inl 0]),
  .inl (1, 700),
  .inr (6, [.inl 0, .inl 0, .inl 1, .inr 4, .inr 7, .inr 8, .inr 9, .inr 10, .inr 11]),
  .inr (1, [.inr 5, .inl 0, .inr 6, .inl 0]),
  .inl (0, 700),
  .inl (0, 64),
  .inl (0, 48),
  .inl (0, 5),
  .inl (0, 6),
  .inl (0, 12),
  .inl (0, 12),
  .inr (6, [.inl 0, .inl 0, .inl 1, .inr 13, .inr 16, .inr 17, .inr 18, .inr 19, .inr 20]),
  .inr (1, [.inr 14, .inl 0, .inr 15, .inl 0]),
  .inl (0, 700),
  .inl (0, 64),
  .inl (0, 48),
  .inl (0, 5),
  .inl (0, 6),
  .inl (0, 12),
  .inl (0, 12),
  .inr (3, [.inr 1, .inr 3, .inl 0, .inl 0]),
  .inr (4, [.inr 23, .inr 24, .inl 0, .inr 25, .inl 0]),
  .inl (0, 6),
  .inl (0, 800),
  .inl (0, 24),
  .inr (4, [.inr 27, .inr 28, .inl 0, .inr 29, .inl 0]),
  .inl (0, 6),
  .inl (0, 800),
  .inl (0, 24),
  .inr (7, [.inr 12, .inr 31, .inr 32, .inr 33, .inl 0, .inl 0, .inl 0, .inr 34, .inl 0]),
  .inl (0, 6),
  .inl (0, 15),
  .inl (0, 15),
  .inl (0, 15),
  .inr (2, [.inr 12, .inr 36, .inr 37, .inl 0, .inl 1]),
  .inl (0, 4000),
  .inl (0, 8192),
  .inr (0, [.inr 12, .inr 22, .inr 39, .inr 40, .inr 41]),
  .inl (0, 6),
  .inl (0, 256),
  .inl (0, 256),
  .inl (0, 5),
  .inr (9, [.inl 0, .inl 0, .inl 0, .inr 44, .inr 45, .inr 46, .inr 47, .inr 48, .inr 49, .inr 50, .inl 0, .inl 0, .inl 0, .inr 51, .inl 0, .inl 0, .inl 0, .inl 0, .inl 0, .inl 0, .inl 0, .inl 2, .inl 0, .inl 0, .inl 0, .inl 0, .inl 0, .inl 1, .inr 52, .inr 53, .inr 54, .inr 55, .inr 56, .inr 57, .inr 58, .inl 0, .inr 59, .inr 60, .inr 61, .inr 62, .inl 0, .inr 63, .inr 64, .inr 65, .inl 0, .inl 1, .inr 66, .inr 67, .inl 0, .inl 0, .inl 1, .inr 68, .inl 0, .inl 0, .inr 69, .inr 70, .inl 1, .inl 0, .inl 0, .inr 71, .inr 72, .inr 73]),
  .inl (0, 48),
  .inl (0, 12),
  .inl (0, 12),
  .inl (0, 5),
  .inl (0, 1600),
  .inl (0, 12),
  .inl (0, 700),
  .inl (0, 3),
  .inl (0, 48),
  .inl (0, 12),
  .inl (0, 5),
  .inl (0, 1600),
  .inl (0, 800),
  .inl (2, 9),
  .inl (0, 800),
  .inl (0, 800),
  .inl (0, 4096),
  .inl (0, 4096),
  .inl (0, 12),
  .inl (0, 4000),
  .inl (0, 4000),
  .inl (0, 16384),
  .inl (0, 6),
  .inl (0, 5),
  .inl (0, 5),
  .inl (0, 8),
  .inl (0, 9),
  .inl (0, 12),
  .inl (0, 800),
  .inl (0, 8),
  .inl (3, 1)]
theorem shp_len : shp.length ≤ 900 := by decide
set_option maxRecDepth 20000 in
theorem shp_ok : a_shok shp := a_shok_of (by decide +kernel)
set_option maxRecDepth 20000 in
theorem clwX0 : ∀ w ∈ u_ws RX0 TX0 5, w ∈ lw_g := a_ps [350, 352, 354, 356, 358] rfl rfl
set_option maxRecDepth 20000 in
theorem clwX1 : ∀ w ∈ u_ws RX1 TX1 4, w ∈ lw_g := a_ps [176, 178, 180, 182] rfl rfl
set_option maxRecDepth 20000 in
theorem clwX2 : ∀ w ∈ u_ws RX2 TX2 5, w ∈ lw_g := a_ps [328, 330, 332, 334, 336] rfl rfl
set_option maxRecDepth 20000 in
theorem clwX3 : ∀ w ∈ u_ws RX3 TX3 4, w ∈ lw_g := a_ps [243, 245, 247, 249] rfl rfl
set_option maxRecDepth 20000 in
theorem clwX4 : ∀ w ∈ u_ws RX4 TX4 5, w ∈ lw_g := a_ps [270, 272, 274, 276, 278] rfl rfl
set_option maxRecDepth 20000 in
theorem clwX5 : ∀ w ∈ u_ws RX5 TX5 7, w ∈ lw_g := a_ps [144, 146, 148, 150, 152, 154, 156] rfl rfl
set_option maxRecDepth 20000 in
theorem clwX6 : ∀ w ∈ u_ws RX6 TX6 9, w ∈ lw_g := a_ps [213, 215, 217, 219, 221, 223, 225, 227, 229] rfl rfl
set_option maxRecDepth 20000 in
theorem clwX7 : ∀ w ∈ u_ws RX7 TX7 9, w ∈ lw_g := a_ps [298, 300, 302, 304, 306, 308, 310, 312, 314] rfl rfl
set_option maxRecDepth 20000 in
theorem clwX8 : ∀ w ∈ u_ws RX8 TX8 15, w ∈ lw_g := a_ps [376, 378, 380, 382, 384, 386, 388, 390, 392, 394, 396, 398, 400, 402, 404] rfl rfl
set_option maxRecDepth 20000 in
theorem clwX9 : ∀ w ∈ u_ws RX9 TX9 62, w ∈ lw_g := a_ps [1189, 1191, 1193, 1195, 1197, 1199, 1201, 1203, 1205, 1207, 1209, 1211, 1213, 1215, 1217, 1219, 1221, 1223, 1225, 1227, 1229, 1231, 1233, 1235, 1237, 1239, 1241, 1243, 1245, 1247, 1249, 1251, 1253, 1255, 1257, 1259, 1261, 1263, 1265, 1267, 1269, 1271, 1273, 1275, 1277, 1279, 1281, 1283, 1285, 1287, 1289, 1291, 1293, 1295, 1297, 1299, 1301, 1303, 1305, 1307, 1309, 1311] rfl rfl
theorem cl_ok : a_clok := by
  intro ci C T N h
  match ci, h with
  | 0, h => cases h; exact ⟨⟨tyX0, tyX0_ok⟩, nmX0, clwX0⟩
  | 1, h => cases h; exact ⟨⟨tyX1, tyX1_ok⟩, nmX1, clwX1⟩
  | 2, h => cases h; exact ⟨⟨tyX2, tyX2_ok⟩, nmX2, clwX2⟩
  | 3, h => cases h; exact ⟨⟨tyX3, tyX3_ok⟩, nmX3, clwX3⟩
  | 4, h => cases h; exact ⟨⟨tyX4, tyX4_ok⟩, nmX4, clwX4⟩
  | 5, h => cases h; exact ⟨⟨tyX5, tyX5_ok⟩, nmX5, clwX5⟩
  | 6, h => cases h; exact ⟨⟨tyX6, tyX6_ok⟩, nmX6, clwX6⟩
  | 7, h => cases h; exact ⟨⟨tyX7, tyX7_ok⟩, nmX7, clwX7⟩
  | 8, h => cases h; exact ⟨⟨tyX8, tyX8_ok⟩, nmX8, clwX8⟩
  | 9, h => cases h; exact ⟨⟨tyX9, tyX9_ok⟩, nmX9, clwX9⟩
  | k + 10, h => simp [vwCl] at h
/-- the String constants: class, pool place, text -/
def zs : List (String × Nat × String) := [("StoutShelf$Reading", 40, "reader"), ("StoutShelf$Reading", 50, "book"), ("StoutShelf$Reading", 55, "wants"), ("StoutShelf$Reading", 60, "law"), ("StoutShelf$Reading", 89, "blanks"), ("StoutShelf$Reading", 95, "plates"), ("StoutShelf$Reading", 97, "torn"), ("StoutShelf$Reading", 112, "of"), ("StoutShelf$Reading", 154, "or"), ("StoutShelf$Reading", 156, "and"), ("StoutShelf$Reading", 158, "not"), ("StoutShelf$Reading", 160, "if"), ("StoutShelf$Reading", 168, "then"), ("StoutShelf$Reading", 173, "else"), ("StoutShelf$Reading", 175, "end"), ("StoutShelf$Reading", 177, "leaves"), ("StoutShelf", 87, "the tape has not so many bytes"), ("StoutShelf", 148, "no such count"), ("StoutShelf", 204, "no such move"), ("StoutShelf", 216, "a friend is another reader"), ("StoutShelf", 225, "no row is kept"), ("StoutShelf", 227, "no such exchange in the row"), ("StoutShelf", 238, "no reader has the book"), ("StoutShelf", 254, "a fire leaves 0 to 12 books"), ("StoutShelf", 275, "there are not so many events"), ("StoutShelf", 286, "it went through fewer hands"), ("StoutShelf", 294, "no such book"), ("StoutShelf", 296, "no such reader"), ("StoutShelf", 298, "no such what")]
/-- what holds of the launch and of the law's entry -/
def a_Z (l : Launch) (G : aG) : Prop := l.stackTraces = false ∧ a_GF G shp ∧ a_XG G ∧ (∀ (i : Nat) (q : String × Nat × String), zs[i]? = some q → vk_R q.1 q.2.1 q.2.2 (g_ad G (1000 + i)) (g_s G))
theorem z_0 {l : Launch} {G : aG} (hZ : a_Z l G) : vk_R RX3 40 "reader" (g_ad G 1000) (g_s G) := hZ.2.2.2 0 ("StoutShelf$Reading", 40, "reader") rfl
theorem z_1 {l : Launch} {G : aG} (hZ : a_Z l G) : vk_R RX3 50 "book" (g_ad G 1001) (g_s G) := hZ.2.2.2 1 ("StoutShelf$Reading", 50, "book") rfl
theorem z_2 {l : Launch} {G : aG} (hZ : a_Z l G) : vk_R RX3 55 "wants" (g_ad G 1002) (g_s G) := hZ.2.2.2 2 ("StoutShelf$Reading", 55, "wants") rfl
theorem z_3 {l : Launch} {G : aG} (hZ : a_Z l G) : vk_R RX3 60 "law" (g_ad G 1003) (g_s G) := hZ.2.2.2 3 ("StoutShelf$Reading", 60, "law") rfl
theorem z_4 {l : Launch} {G : aG} (hZ : a_Z l G) : vk_R RX3 89 "blanks" (g_ad G 1004) (g_s G) := hZ.2.2.2 4 ("StoutShelf$Reading", 89, "blanks") rfl
theorem z_5 {l : Launch} {G : aG} (hZ : a_Z l G) : vk_R RX3 95 "plates" (g_ad G 1005) (g_s G) := hZ.2.2.2 5 ("StoutShelf$Reading", 95, "plates") rfl
theorem z_6 {l : Launch} {G : aG} (hZ : a_Z l G) : vk_R RX3 97 "torn" (g_ad G 1006) (g_s G) := hZ.2.2.2 6 ("StoutShelf$Reading", 97, "torn") rfl
theorem z_7 {l : Launch} {G : aG} (hZ : a_Z l G) : vk_R RX3 112 "of" (g_ad G 1007) (g_s G) := hZ.2.2.2 7 ("StoutShelf$Reading", 112, "of") rfl
theorem z_8 {l : Launch} {G : aG} (hZ : a_Z l G) : vk_R RX3 154 "or" (g_ad G 1008) (g_s G) := hZ.2.2.2 8 ("StoutShelf$Reading", 154, "or") rfl
theorem z_9 {l : Launch} {G : aG} (hZ : a_Z l G) : vk_R RX3 156 "and" (g_ad G 1009) (g_s G) := hZ.2.2.2 9 ("StoutShelf$Reading", 156, "and") rfl
theorem z_10 {l : Launch} {G : aG} (hZ : a_Z l G) : vk_R RX3 158 "not" (g_ad G 1010) (g_s G) := hZ.2.2.2 10 ("StoutShelf$Reading", 158, "not") rfl
theorem z_11 {l : Launch} {G : aG} (hZ : a_Z l G) : vk_R RX3 160 "if" (g_ad G 1011) (g_s G) := hZ.2.2.2 11 ("StoutShelf$Reading", 160, "if") rfl
theorem z_12 {l : Launch} {G : aG} (hZ : a_Z l G) : vk_R RX3 168 "then" (g_ad G 1012) (g_s G) := hZ.2.2.2 12 ("StoutShelf$Reading", 168, "then") rfl
theorem z_13 {l : Launch} {G : aG} (hZ : a_Z l G) : vk_R RX3 173 "else" (g_ad G 1013) (g_s G) := hZ.2.2.2 13 ("StoutShelf$Reading", 173, "else") rfl
theorem z_14 {l : Launch} {G : aG} (hZ : a_Z l G) : vk_R RX3 175 "end" (g_ad G 1014) (g_s G) := hZ.2.2.2 14 ("StoutShelf$Reading", 175, "end") rfl
theorem z_15 {l : Launch} {G : aG} (hZ : a_Z l G) : vk_R RX3 177 "leaves" (g_ad G 1015) (g_s G) := hZ.2.2.2 15 ("StoutShelf$Reading", 177, "leaves") rfl
theorem z_16 {l : Launch} {G : aG} (hZ : a_Z l G) : vk_R RX8 87 "the tape has not so many bytes" (g_ad G 1016) (g_s G) := hZ.2.2.2 16 ("StoutShelf", 87, "the tape has not so many bytes") rfl
theorem z_17 {l : Launch} {G : aG} (hZ : a_Z l G) : vk_R RX8 148 "no such count" (g_ad G 1017) (g_s G) := hZ.2.2.2 17 ("StoutShelf", 148, "no such count") rfl
theorem z_18 {l : Launch} {G : aG} (hZ : a_Z l G) : vk_R RX8 204 "no such move" (g_ad G 1018) (g_s G) := hZ.2.2.2 18 ("StoutShelf", 204, "no such move") rfl
theorem z_19 {l : Launch} {G : aG} (hZ : a_Z l G) : vk_R RX8 216 "a friend is another reader" (g_ad G 1019) (g_s G) := hZ.2.2.2 19 ("StoutShelf", 216, "a friend is another reader") rfl
theorem z_20 {l : Launch} {G : aG} (hZ : a_Z l G) : vk_R RX8 225 "no row is kept" (g_ad G 1020) (g_s G) := hZ.2.2.2 20 ("StoutShelf", 225, "no row is kept") rfl
theorem z_21 {l : Launch} {G : aG} (hZ : a_Z l G) : vk_R RX8 227 "no such exchange in the row" (g_ad G 1021) (g_s G) := hZ.2.2.2 21 ("StoutShelf", 227, "no such exchange in the row") rfl
theorem z_22 {l : Launch} {G : aG} (hZ : a_Z l G) : vk_R RX8 238 "no reader has the book" (g_ad G 1022) (g_s G) := hZ.2.2.2 22 ("StoutShelf", 238, "no reader has the book") rfl
theorem z_23 {l : Launch} {G : aG} (hZ : a_Z l G) : vk_R RX8 254 "a fire leaves 0 to 12 books" (g_ad G 1023) (g_s G) := hZ.2.2.2 23 ("StoutShelf", 254, "a fire leaves 0 to 12 books") rfl
theorem z_24 {l : Launch} {G : aG} (hZ : a_Z l G) : vk_R RX8 275 "there are not so many events" (g_ad G 1024) (g_s G) := hZ.2.2.2 24 ("StoutShelf", 275, "there are not so many events") rfl
theorem z_25 {l : Launch} {G : aG} (hZ : a_Z l G) : vk_R RX8 286 "it went through fewer hands" (g_ad G 1025) (g_s G) := hZ.2.2.2 25 ("StoutShelf", 286, "it went through fewer hands") rfl
theorem z_26 {l : Launch} {G : aG} (hZ : a_Z l G) : vk_R RX8 294 "no such book" (g_ad G 1026) (g_s G) := hZ.2.2.2 26 ("StoutShelf", 294, "no such book") rfl
theorem z_27 {l : Launch} {G : aG} (hZ : a_Z l G) : vk_R RX8 296 "no such reader" (g_ad G 1027) (g_s G) := hZ.2.2.2 27 ("StoutShelf", 296, "no such reader") rfl
theorem z_28 {l : Launch} {G : aG} (hZ : a_Z l G) : vk_R RX8 298 "no such what" (g_ad G 1028) (g_s G) := hZ.2.2.2 28 ("StoutShelf", 298, "no such what") rfl
def a_c1 (G : aG) (own : String) (q : Nat × Value) : Prop := match q.2 with
  | .int x => Cond.constant own q.1 x ∈ lw_g
  | .long x => Cond.constantLong own q.1 x ∈ lw_g
  | .ref k => ∃ tx, vk_R own q.1 tx (g_ad G k) (g_s G)
  | _ => True
theorem a_cok_of {G : aG} {own : String} {P : aPrg} (h : a_all (a_c1 G own) (a_cons P)) : a_cok G own P := ⟨fun n x hm => a_all_mem h (n, .int x) hm, fun n x hm => a_all_mem h (n, .long x) hm, fun n k hm => a_all_mem h (n, .ref k) hm⟩
theorem a_tok_s {G : aG} {own : String} {cc : ByteArray} {fr lo pc x ik is ic ix sa : Nat} {rx : ByteArray} {text : String} (hrx : a_rx rx ix) (h1 : x ≤ 1) (h2 : decode cc pc = .ok (.new ik, 3) ∧ decode cc (pc + 3) = .ok (.dup, 1)) (h3 : decode cc (pc + 4) = .ok (.ldc is, 2) ∧ decode cc (pc + 6) = .ok (.invokespecial ic, 3) ∧ decode cc (pc + 9) = .ok (.athrow, 1)) (h4 : Cond.classLink own ik (a_en x) ∈ lw_g) (h5 : Cond.initialized (a_en x) ∈ lw_g) (h6 : vk_R own is text sa (g_s G)) (h7 : ∀ w ∈ a_atX own ic (a_en x) ix rx a_nm, w ∈ lw_tbl ∧ a_ww w = true) (h8 : Nat.ble 6 fr = true) (h9 : Nat.ble 90 lo = true) : a_tok G own cc fr lo pc x :=
  ⟨h1, ik, is, ic, ix, sa, rx, text, hrx, h2, Or.inl h3, h4, h5, h6, h7, Nat.le_of_ble_eq_true h8, Nat.le_of_ble_eq_true h9⟩
theorem a_tok_w {G : aG} {own : String} {cc : ByteArray} {fr lo pc x ik is ic ix sa : Nat} {rx : ByteArray} {text : String} (hrx : a_rx rx ix) (h1 : x ≤ 1) (h2 : decode cc pc = .ok (.new ik, 3) ∧ decode cc (pc + 3) = .ok (.dup, 1)) (h3 : decode cc (pc + 4) = .ok (.ldc_w is, 3) ∧ decode cc (pc + 7) = .ok (.invokespecial ic, 3) ∧ decode cc (pc + 10) = .ok (.athrow, 1)) (h4 : Cond.classLink own ik (a_en x) ∈ lw_g) (h5 : Cond.initialized (a_en x) ∈ lw_g) (h6 : vk_R own is text sa (g_s G)) (h7 : ∀ w ∈ a_atX own ic (a_en x) ix rx a_nm, w ∈ lw_tbl ∧ a_ww w = true) (h8 : Nat.ble 6 fr = true) (h9 : Nat.ble 90 lo = true) : a_tok G own cc fr lo pc x :=
  ⟨h1, ik, is, ic, ix, sa, rx, text, hrx, h2, Or.inr h3, h4, h5, h6, h7, Nat.le_of_ble_eq_true h8, Nat.le_of_ble_eq_true h9⟩
theorem atX0 : ∀ w ∈ a_atX RX8 150 (a_en 0) 13 prog_28_method_4_code a_nm, w ∈ lw_tbl ∧ a_ww w = true := by decide +kernel
theorem rxX0 : a_rx prog_28_method_4_code 13 := ⟨by decide +kernel, by decide +kernel, by decide +kernel, by decide +kernel⟩
set_option maxRecDepth 20000 in
theorem clX0 : Cond.classLink RX8 146 (a_en 0) ∈ lw_g := a_p1 907 rfl rfl
set_option maxRecDepth 20000 in
theorem inX0 : Cond.initialized (a_en 0) ∈ lw_g := a_p1 117 rfl rfl
theorem atX1 : ∀ w ∈ a_atX RX8 89 (a_en 1) 7 prog_16_method_2_code a_nm, w ∈ lw_tbl ∧ a_ww w = true := by decide +kernel
theorem rxX1 : a_rx prog_16_method_2_code 7 := ⟨by decide +kernel, by decide +kernel, by decide +kernel, by decide +kernel⟩
set_option maxRecDepth 20000 in
theorem clX1 : Cond.classLink RX8 85 (a_en 1) ∈ lw_g := a_p1 585 rfl rfl
set_option maxRecDepth 20000 in
theorem inX1 : Cond.initialized (a_en 1) ∈ lw_g := a_p1 109 rfl rfl
abbrev fdX0 : List (Nat × Nat × Nat) := [(9, 0, 2), (15, 0, 3), (18, 0, 4), (21, 0, 0), (25, 0, 1), (53, 4, 4), (68, 4, 0), (75, 4, 3)]
set_option maxRecDepth 20000 in
theorem foX0 {P : aPrg} (h : a_flds P = fdX0) : a_fok RX0 P := a_fok_of [347, 348, 349, 345, 346, 268, 260, 266] (by rw [h]; rfl) (by rw [h]; rfl)
abbrev fdX1 : List (Nat × Nat × Nat) := [(9, 1, 0), (15, 1, 2), (18, 1, 1), (28, 1, 3)]
set_option maxRecDepth 20000 in
theorem foX1 {P : aPrg} (h : a_flds P = fdX1) : a_fok RX1 P := a_fok_of [172, 174, 173, 175] (by rw [h]; rfl) (by rw [h]; rfl)
abbrev fdX2 : List (Nat × Nat × Nat) := [(11, 2, 1), (15, 2, 2), (18, 2, 0), (28, 2, 3), (32, 2, 4), (48, 6, 0), (53, 6, 8)]
set_option maxRecDepth 20000 in
theorem foX2 {P : aPrg} (h : a_flds P = fdX2) : a_fok RX2 P := a_fok_of [324, 325, 323, 326, 327, 187, 211] (by rw [h]; rfl) (by rw [h]; rfl)
abbrev fdX3 : List (Nat × Nat × Nat) := [(9, 3, 3), (15, 3, 0), (19, 3, 1), (23, 3, 2), (37, 5, 2), (73, 5, 3), (76, 6, 1), (82, 6, 0), (105, 5, 4), (108, 6, 4), (117, 6, 6), (120, 6, 5), (122, 6, 2), (126, 6, 3)]
set_option maxRecDepth 20000 in
theorem foX3 {P : aPrg} (h : a_flds P = fdX3) : a_fok RX3 P := a_fok_of [241, 238, 239, 240, 136, 138, 193, 189, 141, 201, 207, 204, 196, 198] (by rw [h]; rfl) (by rw [h]; rfl)
abbrev fdX4 : List (Nat × Nat × Nat) := [(9, 4, 0), (15, 4, 1), (18, 4, 3), (27, 4, 2), (31, 4, 4)]
set_option maxRecDepth 20000 in
theorem foX4 {P : aPrg} (h : a_flds P = fdX4) : a_fok RX4 P := a_fok_of [258, 261, 265, 263, 267] (by rw [h]; rfl) (by rw [h]; rfl)
abbrev fdX5 : List (Nat × Nat × Nat) := [(9, 5, 0), (15, 5, 1), (19, 5, 6), (22, 5, 5), (28, 5, 3), (45, 5, 2), (54, 5, 4)]
set_option maxRecDepth 20000 in
theorem foX5 {P : aPrg} (h : a_flds P = fdX5) : a_fok RX5 P := a_fok_of [133, 134, 143, 142, 139, 137, 140] (by rw [h]; rfl) (by rw [h]; rfl)
abbrev fdX6 : List (Nat × Nat × Nat) := [(12, 6, 3), (18, 6, 4), (22, 6, 5), (25, 6, 6), (28, 6, 7), (31, 6, 8), (34, 6, 0), (38, 6, 1), (41, 6, 2)]
set_option maxRecDepth 20000 in
theorem foX6 {P : aPrg} (h : a_flds P = fdX6) : a_fok RX6 P := a_fok_of [197, 199, 202, 205, 208, 210, 186, 191, 195] (by rw [h]; rfl) (by rw [h]; rfl)
abbrev fdX7 : List (Nat × Nat × Nat) := [(9, 7, 1), (15, 7, 2), (18, 7, 3), (21, 7, 7), (24, 7, 8), (28, 7, 0), (38, 7, 6), (41, 7, 5), (48, 7, 4), (55, 6, 1), (64, 6, 0), (71, 6, 8)]
set_option maxRecDepth 20000 in
theorem foX7 {P : aPrg} (h : a_flds P = fdX7) : a_fok RX7 P := a_fok_of [288, 289, 290, 294, 296, 287, 293, 292, 291, 192, 188, 212] (by rw [h]; rfl) (by rw [h]; rfl)
abbrev fdX8 : List (Nat × Nat × Nat) := [(12, 8, 0), (19, 8, 1), (23, 8, 2), (31, 8, 3), (38, 8, 4), (42, 8, 5), (50, 8, 6), (57, 8, 7), (66, 8, 8), (70, 8, 9), (74, 8, 11), (78, 5, 1), (96, 3, 3), (99, 8, 12), (108, 6, 6), (115, 7, 8), (118, 8, 10), (122, 6, 0), (125, 6, 1), (128, 4, 0), (134, 4, 2), (137, 4, 4), (140, 8, 13), (143, 8, 14), (158, 6, 4), (161, 6, 7), (171, 6, 5), (206, 4, 1), (229, 7, 7)]
set_option maxRecDepth 20000 in
theorem foX8 {P : aPrg} (h : a_flds P = fdX8) : a_fok RX8 P := a_fok_of [361, 362, 363, 364, 365, 366, 367, 368, 369, 370, 372, 135, 242, 373, 206, 297, 371, 190, 194, 259, 264, 269, 374, 375, 200, 209, 203, 262, 295] (by rw [h]; rfl) (by rw [h]; rfl)
abbrev fdX9 : List (Nat × Nat × Nat) := [(7, 9, 3), (13, 9, 4), (16, 9, 5), (19, 9, 6), (22, 9, 7), (25, 9, 8), (28, 9, 9), (31, 9, 12), (35, 9, 13), (38, 9, 28), (41, 9, 29), (44, 9, 30), (47, 9, 31), (50, 9, 32), (53, 9, 33), (57, 9, 34), (60, 9, 36), (63, 9, 37), (66, 9, 38), (69, 9, 39), (72, 9, 41), (75, 9, 42), (78, 9, 43), (81, 9, 46), (84, 9, 47), (87, 9, 51), (90, 9, 54), (93, 9, 55), (96, 9, 59), (99, 9, 60), (102, 9, 61), (105, 9, 0), (108, 9, 10), (115, 9, 14), (118, 9, 15), (125, 9, 17), (128, 9, 21), (132, 9, 19), (135, 9, 20), (138, 9, 16), (148, 9, 18), (161, 9, 11), (185, 9, 24), (188, 9, 25), (200, 9, 26), (231, 9, 23), (234, 9, 22), (243, 9, 27), (260, 9, 1), (263, 9, 2), (274, 9, 35), (277, 9, 53), (280, 9, 50), (283, 9, 56), (312, 9, 40), (322, 9, 44), (325, 9, 45), (336, 9, 48), (342, 9, 49), (356, 9, 52), (372, 9, 57), (375, 9, 58)]
set_option maxRecDepth 20000 in
theorem foX9 {P : aPrg} (h : a_flds P = fdX9) : a_fok RX9 P := a_fok_of [1130, 1131, 1132, 1133, 1134, 1135, 1136, 1139, 1140, 1155, 1156, 1157, 1158, 1159, 1160, 1161, 1163, 1164, 1165, 1166, 1168, 1169, 1170, 1173, 1174, 1178, 1181, 1182, 1186, 1187, 1188, 1127, 1137, 1141, 1142, 1144, 1148, 1146, 1147, 1143, 1145, 1138, 1151, 1152, 1153, 1150, 1149, 1154, 1128, 1129, 1162, 1180, 1177, 1183, 1167, 1171, 1172, 1175, 1176, 1179, 1184, 1185] (by rw [h]; rfl) (by rw [h]; rfl)
end
section
/-! ===== System.arraycopy over int arrays ===== -/
noncomputable def a_acp : aMF := fun as σ => match as with
  | [.ref a, .int sp, .ref b, .int dp, .int n] => match shp[a]?, shp[b]? with
    | some (.inl (0, n0)), some (.inl (0, n1)) => if (0 ≤ sp.toInt ∧ 0 ≤ dp.toInt ∧ 0 ≤ n.toInt) ∧ sp.toNatClampNeg + n.toNatClampNeg ≤ n0 ∧ dp.toNatClampNeg + n.toNatClampNeg ≤ n1 then some (.inl none, (va_up σ.1 b (va_cpy (σ.1 a) (σ.1 b) sp.toNatClampNeg dp.toNatClampNeg n.toNatClampNeg), σ.2)) else none
    | _, _ => none
  | _ => none
theorem a_nneg {x : Int32} (h : 0 ≤ x.toInt) : ¬ x < 0 := by
  intro h2
  have := Int32.lt_iff_toInt_lt.mp h2
  simp at this
  omega
set_option maxRecDepth 20000 in
theorem w_acp : ∀ w ∈ [Cond.native arraycopyName, .static arraycopyName, .initialized "java/lang/System"], w ∈ lw_g := a_ps [485, 484, 116] rfl rfl
theorem q_acp {l : Launch} {G : aG} {own : String} {cc : ByteArray} {P : aPrg} {fr lo n : Nat} (hZ : a_Z l G) (i : Nat) (hw : lw_tbl[i]? = some (Cond.methodLink own n arraycopyName)) (h1 : Nat.ble 2 fr = true) (h2 : Nat.ble 60 lo = true) : a_CQ l G shp own cc P fr lo (n, a_acp, 5, 2000, 1) := by
  refine ⟨fun as σ o σ' h _ => ?_, ?_⟩
  · unfold a_acp at h
    simp only at h
    split at h
    · split at h
      · split at h
        · cases h; exact Nat.le_refl _
        · cases h
      · cases h
    · cases h
  · intro p e R s m args below meth c Q nL g0 gf Fin virt hM hR1 hR2 hRc pc hEg hEx L as r σ hdg hv hwr hlen hwa h
    obtain ⟨hx, hb, hml, hown, hWs, hbs, hbh⟩ := id hM
    have hG := hZ.2.1
    have hts := a_hts (args := args) hG hWs
    have hK : va_K (g_D G) vwCl (a_tys (g_ca G)) s := va_K.moved hWs.alike hG.2.2.1
    cases virt with
    | true =>
      exfalso
      unfold a_vok a_rcv at hv
      simp only at hv
      split at hv
      · rename_i k as'
        split at hv
        · rename_i q hq
          have e1 := Nat.eq_of_beq_eq_true hv
          obtain ⟨c9, fk⟩ := q
          obtain ⟨C, T, N, hc, -⟩ := hG.2.2.2.2.2.1 k c9 fk hq
          simp only at e1
          rw [e1] at hc
          cases hc
        · simp at hv
      · cases hv
    | false =>
      simp only at h hdg
      unfold a_acp at h
      split at h
      · rename_i a sp b dp n9
        split at h
        · rename_i n0 n1 ha hb9
          split at h
          · rename_i hc
            have h9 : a_K p l e R s m args below meth c Q G shp nL g0 gf (pc + 3) L r (va_up σ.1 b (va_cpy (σ.1 a) (σ.1 b) sp.toNatClampNeg dp.toNatClampNeg n9.toNatClampNeg), σ.2) := h
            intro H locs ls hP hS hL hX hg
            have hwt : ((r.map (a_cv (g_ad G))).map fun v => v.category).sum ≤ 8 := by rw [a_wt_sum]; exact hwr
            have r1 := Nat.le_of_ble_eq_true h1
            have r2 := Nat.le_of_ble_eq_true h2
            have r3 : nativeFrameWords "java/lang/System" "arraycopy" 5 + 11 ≤ 40 := by decide +kernel
            refine va_copyi (rest := r.map (a_cv (g_ad G))) hx hb (hml.trans hL.1.symm) hown (hts _ (List.mem_filter.mpr ⟨List.mem_of_getElem? hw, rfl⟩)) (hts _ (w_acp _ (by simp))) (hts _ (w_acp _ (by simp))) (hts _ (w_acp _ (by simp))) hK hP (hG.D σ s.heap.size) hS a b 0 0 ((a_wl_at ha).trans (by rw [a_ce_i (by decide)])) ((a_wl_at hb9).trans (by rw [a_ce_i (by decide)])) rfl rfl rfl (a_nneg hc.1.1) (a_nneg hc.1.2.1) (a_nneg hc.1.2.2) hc.2.1 hc.2.2 (fun _ _ => rfl) (by omega) (by omega) hdg (fun H1 locs1 hP1 _ hS1 => ?_)
            have hne : (900 : Nat) ≠ b := fun e => absurd (List.getElem?_eq_some_iff.mp hb9).1 (Nat.not_lt.mpr (e ▸ shp_len))
            refine h9.2 H1 locs1 ls ?_ hS1 hL (fun j hj => ?_) hg
            · have e9 := a_wl_set (ad := g_ad G) (ca := g_ca G) (σ := σ) (τ := (va_up σ.1 b (va_cpy (σ.1 a) (σ.1 b) sp.toNatClampNeg dp.toNatClampNeg n9.toNatClampNeg), σ.2)) (e := .inl (g_ca G 0, n1, .inl (va_cpy (σ.1 a) (σ.1 b) sp.toNatClampNeg dp.toNatClampNeg n9.toNatClampNeg))) hb9 (by rw [a_ce_i (by decide)]; simp [va_up]) (fun i hi => ⟨by simp [va_up, hi], rfl⟩)
              rw [e9] at hP1
              exact hP1
            · show va_up σ.1 b _ 900 j = _
              unfold va_up
              rw [if_neg hne]
              exact hX j hj
          · exact h.elim
        · exact h.elim
      · exact h.elim
/-! ===== String.length, String.charAt of the constants ===== -/
def z_len (k : Nat) : Nat := match zs[k - 1000]? with
  | some q => q.2.2.length
  | none => 0
def z_chr (k j : Nat) : Int32 := match zs[k - 1000]? with
  | some q => Int32.ofNat ((q.2.2.toList.map Char.toNat).getD j 0)
  | none => 0
noncomputable def a_slen : aMF := fun as σ => match as with
  | [.ref k] => match Nat.ble 1000 k && Nat.blt k (1000 + zs.length) with
    | true => some (.inl (some (.int (Int32.ofNat (z_len k)))), σ)
    | false => none
  | _ => none
noncomputable def a_schr : aMF := fun as σ => match as with
  | [.ref k, .int j] => match Nat.ble 1000 k && (Nat.blt k (1000 + zs.length) && a_ok j (z_len k)) with
    | true => some (.inl (some (.int (z_chr k j.toNatClampNeg))), σ)
    | false => none
  | _ => none
theorem q_slen {l : Launch} {G : aG} {own : String} {cc : ByteArray} {P : aPrg} {fr lo n : Nat} (hZ : a_Z l G) (i : Nat) (hw : lw_tbl[i]? = some (Cond.methodLink own n yJ0_length_8abf5)) (h1 : Nat.ble 6 fr = true) (h2 : Nat.ble 160 lo = true) : a_CQ l G shp own cc P fr lo (n, a_slen, 1, 1000, 0) := by
  sorry
theorem q_schr {l : Launch} {G : aG} {own : String} {cc : ByteArray} {P : aPrg} {fr lo n : Nat} (hZ : a_Z l G) (i : Nat) (hw : lw_tbl[i]? = some (Cond.methodLink own n yJ0_charAt_5068e)) (h1 : Nat.ble 6 fr = true) (h2 : Nat.ble 160 lo = true) : a_CQ l G shp own cc P fr lo (n, a_schr, 2, 1000, 0) := by
  sorry
end
section
/-! ===== programs and contracts, written by wip/whole/gen.py ===== -/
noncomputable def pX0_allEvents : aPrg := ([(0, .iconst 1, 1, 0, []),
  (1, .aload_n 0, 0, 0, []),
  (2, .getfield 25, 0, 0, []),
  (5, .getfield 53, 0, 0, []),
  (8, .ishl, 0, 0, []),
  (9, .iconst 1, 1, 0, []),
  (10, .isub, 0, 0, []),
  (11, .ireturn, 0, 0, [])],
  fdX0, [], [], [], [], 0)
noncomputable def fX0_allEvents : aMF := a_fn none shp pX0_allEvents 1 1
set_option maxRecDepth 20000 in
theorem kX0_allEvents {l : Launch} {G : aG} (hZ : a_Z l G) : a_Con l G shp yX0_allEvents (.code yX0_allEvents cX0_allEvents 1 (some .int)) 1 16 fX0_allEvents :=
  a_mth none hZ.1 hZ.2.1 shp_len (fun _ h => nomatch h) hZ.2.2.1 (by decide +kernel) rfl (foX0 rfl) (a_cok_of trivial) (b_code [4,42,180,0,25,180,0,53,120,4,100,172] [] (by decide +kernel) (by decide +kernel) (by decide +kernel) (by decide +kernel)) rfl rfl (trivial) (trivial)
noncomputable def pJ7_fill_53178 : aPrg := ([(0, .iconst 0, 0, 0, []),
  (1, .istore_n 2, 0, 0, []),
  (2, .aload_n 0, 0, 0, []),
  (3, .arraylength, 0, 0, []),
  (4, .istore_n 3, 0, 0, []),
  (5, .iload_n 2, 0, 0, []),
  (6, .iload_n 3, 0, 0, []),
  (7, .if_icmp .ge 13, 0, 20, []),
  (10, .aload_n 0, 0, 0, []),
  (11, .iload_n 2, 0, 0, []),
  (12, .iload_n 1, 0, 0, []),
  (13, .iastore, 0, 0, []),
  (14, .iinc 2 1, 1, 0, []),
  (17, .goto (-12), 0, 5, []),
  (20, .return_, 0, 0, [])],
  [], [], [], [], [], 2)
noncomputable def fJ7_fill_53178 : aMF := a_fn none shp pJ7_fill_53178 4 2
set_option maxRecDepth 20000 in
theorem kJ7_fill_53178 {l : Launch} {G : aG} (hZ : a_Z l G) : a_Con l G shp yJ7_fill_53178 (.code yJ7_fill_53178 cJ7_fill_53178 4 none) 1 16 fJ7_fill_53178 :=
  a_mtj none hZ.1 hZ.2.1 shp_len (fun _ h => nomatch h) hZ.2.2.1 (by decide +kernel) rfl (a_fok_of [] rfl rfl) (a_cok_of trivial) (b_code [3,61,42,190,62,28,29,162,0,13,42,28,27,79,132,2,1,167,255,244,177] [] (by decide +kernel) (by decide +kernel) (by decide +kernel) (by decide +kernel)) rfl rfl rfl rfl
noncomputable def pX8_trade : aPrg := ([(0, .iconst 1, 1, 0, []),
  (1, .iload_n 3, 0, 0, []),
  (2, .ishl, 0, 0, []),
  (3, .iconst 1, 1, 0, []),
  (4, .iload 4, 0, 0, []),
  (6, .ishl, 0, 0, []),
  (7, .ior, 0, 0, []),
  (8, .istore 5, 0, 0, []),
  (10, .aload_n 0, 0, 0, []),
  (11, .iload_n 1, 0, 0, []),
  (12, .dup2, 0, 0, []),
  (13, .iaload, 0, 0, []),
  (14, .iload 5, 0, 0, []),
  (16, .ixor, 0, 0, []),
  (17, .iastore, 0, 0, []),
  (18, .aload_n 0, 0, 0, []),
  (19, .iload_n 2, 0, 0, []),
  (20, .dup2, 0, 0, []),
  (21, .iaload, 0, 0, []),
  (22, .iload 5, 0, 0, []),
  (24, .ixor, 0, 0, []),
  (25, .iastore, 0, 0, []),
  (26, .return_, 0, 0, [])],
  fdX8, [], [], [], [], 2)
noncomputable def fX8_trade : aMF := a_fn none shp pX8_trade 6 5
set_option maxRecDepth 20000 in
theorem kX8_trade {l : Launch} {G : aG} (hZ : a_Z l G) : a_Con l G shp yX8_trade (.code yX8_trade cX8_trade 6 none) 1 16 fX8_trade :=
  a_mth none hZ.1 hZ.2.1 shp_len (fun _ h => nomatch h) hZ.2.2.1 (by decide +kernel) rfl (foX8 rfl) (a_cok_of trivial) (b_code [4,29,120,4,21,4,120,128,54,5,42,27,92,46,21,5,130,79,42,28,92,46,21,5,130,79,177] [] (by decide +kernel) (by decide +kernel) (by decide +kernel) (by decide +kernel)) rfl rfl (trivial) (trivial)
noncomputable def pX0_goTo : aPrg := ([(0, .aload_n 0, 0, 0, []),
  (1, .getfield 25, 0, 0, []),
  (4, .getfield 68, 0, 0, []),
  (7, .iconst 0, 0, 0, []),
  (8, .aload_n 0, 0, 0, []),
  (9, .getfield 9, 0, 0, []),
  (12, .iconst 0, 0, 0, []),
  (13, .bipush 6, 6, 0, []),
  (15, .invokestatic 69, 0, 0, []),
  (18, .iconst 0, 0, 0, []),
  (19, .istore_n 2, 0, 0, []),
  (20, .iload_n 2, 0, 0, []),
  (21, .aload_n 0, 0, 0, []),
  (22, .getfield 25, 0, 0, []),
  (25, .getfield 53, 0, 0, []),
  (28, .if_icmp .ge 60, 0, 88, []),
  (31, .iload_n 1, 0, 0, []),
  (32, .iload_n 2, 0, 0, []),
  (33, .ishr, 0, 0, []),
  (34, .iconst 1, 1, 0, []),
  (35, .iand, 0, 0, []),
  (36, .ifCond .eq 46, 0, 82, []),
  (39, .iconst 3, 3, 0, []),
  (40, .iload_n 2, 0, 0, []),
  (41, .imul, 0, 0, []),
  (42, .istore_n 3, 0, 0, []),
  (43, .aload_n 0, 0, 0, []),
  (44, .getfield 9, 0, 0, []),
  (47, .aload_n 0, 0, 0, []),
  (48, .getfield 25, 0, 0, []),
  (51, .getfield 75, 0, 0, []),
  (54, .iload_n 3, 0, 0, []),
  (55, .iaload, 0, 0, []),
  (56, .iconst 5, 5, 0, []),
  (57, .aload_n 0, 0, 0, []),
  (58, .getfield 25, 0, 0, []),
  (61, .getfield 75, 0, 0, []),
  (64, .iload_n 3, 0, 0, []),
  (65, .iconst 1, 1, 0, []),
  (66, .iadd, 0, 0, []),
  (67, .iaload, 0, 0, []),
  (68, .aload_n 0, 0, 0, []),
  (69, .getfield 25, 0, 0, []),
  (72, .getfield 75, 0, 0, []),
  (75, .iload_n 3, 0, 0, []),
  (76, .iconst 2, 2, 0, []),
  (77, .iadd, 0, 0, []),
  (78, .iaload, 0, 0, []),
  (79, .invokestatic 78, 0, 0, []),
  (82, .iinc 2 1, 1, 0, []),
  (85, .goto (-65), 0, 20, []),
  (88, .return_, 0, 0, [])],
  fdX0, [(69, a_acp, 5, 2000, 1), (78, fX8_trade, 5, 2000, 1)], [], [], [], 2)
noncomputable def fX0_goTo : aMF := a_fn none shp pX0_goTo 4 2
set_option maxRecDepth 20000 in
theorem wkX8_trade : ∀ w ∈ [Cond.code yX8_trade cX8_trade 6 none, .initialized yX8_trade.cls, .static yX8_trade], w ∈ lw_g := a_ps [456, 96, 455] rfl rfl
theorem hdX8_trade : yX8_trade.cls ≠ "java/lang/invoke/MethodHandle" ∧ yX8_trade.cls ≠ "java/lang/invoke/VarHandle" ∧ (parseMethodDescriptor yX8_trade.desc).map (fun d => d.parameters.length) = some 5 := by decide +kernel
set_option maxRecDepth 20000 in
theorem kX0_goTo {l : Launch} {G : aG} (hZ : a_Z l G) : a_Con l G shp yX0_goTo (.code yX0_goTo cX0_goTo 4 none) 2 60 fX0_goTo :=
  a_mth none hZ.1 hZ.2.1 shp_len (fun _ h => nomatch h) hZ.2.2.1 (by decide +kernel) rfl (foX0 rfl) (a_cok_of trivial) (b_code [42,180,0,25,180,0,68,3,42,180,0,9,3,16,6,184,0,69,3,61,28,42,180,0,25,180,0,53,162,0,60,27,28,122,4,126,153,0,46,6,28,104,62,42,180,0,9,42,180,0,25,180,0,75,29,46,8,42,180,0,25,180,0,75,29,4,96,46,42,180,0,25,180,0,75,29,5,96,46,184,0,78,132,2,1,167,255,191,177] [] (by decide +kernel) (by decide +kernel) (by decide +kernel) (by decide +kernel)) rfl rfl (trivial) (⟨q_acp hZ 543 rfl rfl rfl,
    ⟨a_CQ_sn hZ.2.1 (kX8_trade hZ) (a_CF_sn wkX8_trade "StoutShelf" 544 rfl hdX8_trade) (a_fn_nt rfl rfl) rfl rfl,
    trivial⟩⟩)
noncomputable def pX8_holds : aPrg := ([(0, .iload_n 0, 0, 0, []),
  (1, .iload_n 1, 0, 0, []),
  (2, .ishr, 0, 0, []),
  (3, .iconst 1, 1, 0, []),
  (4, .iand, 0, 0, []),
  (5, .ifCond .eq 7, 0, 12, []),
  (8, .iconst 1, 1, 0, []),
  (9, .goto 4, 0, 13, []),
  (12, .iconst 0, 0, 0, []),
  (13, .ireturn, 0, 0, [])],
  fdX8, [], [], [], [], 1)
noncomputable def fX8_holds : aMF := a_fn none shp pX8_holds 2 2
set_option maxRecDepth 20000 in
theorem kX8_holds {l : Launch} {G : aG} (hZ : a_Z l G) : a_Con l G shp yX8_holds (.code yX8_holds cX8_holds 2 (some .boolean)) 1 16 fX8_holds :=
  a_mth none hZ.1 hZ.2.1 shp_len (fun _ h => nomatch h) hZ.2.2.1 (by decide +kernel) rfl (foX8 rfl) (a_cok_of trivial) (b_code [26,27,122,4,126,153,0,7,4,167,0,4,3,172] [] (by decide +kernel) (by decide +kernel) (by decide +kernel) (by decide +kernel)) rfl rfl (trivial) (trivial)
noncomputable def pX6_troubleOf : aPrg := ([(0, .aload_n 1, 0, 0, []),
  (1, .iload_n 2, 0, 0, []),
  (2, .iaload, 0, 0, []),
  (3, .iload_n 3, 0, 0, []),
  (4, .invokestatic 80, 0, 0, []),
  (7, .ifCond .ne 5, 0, 12, []),
  (10, .iconst 2, 2, 0, []),
  (11, .ireturn, 0, 0, []),
  (12, .aload_n 1, 0, 0, []),
  (13, .iconst 5, 5, 0, []),
  (14, .iaload, 0, 0, []),
  (15, .iload 4, 0, 0, []),
  (17, .invokestatic 80, 0, 0, []),
  (20, .ifCond .ne 5, 0, 25, []),
  (23, .iconst 3, 3, 0, []),
  (24, .ireturn, 0, 0, []),
  (25, .aload_n 0, 0, 0, []),
  (26, .getfield 31, 0, 0, []),
  (29, .iload_n 3, 0, 0, []),
  (30, .iaload, 0, 0, []),
  (31, .iload 4, 0, 0, []),
  (33, .invokestatic 80, 0, 0, []),
  (36, .ifCond .eq 7, 0, 43, []),
  (39, .iconst 0, 0, 0, []),
  (40, .goto 4, 0, 44, []),
  (43, .iconst 4, 4, 0, []),
  (44, .ireturn, 0, 0, [])],
  fdX6, [(80, fX8_holds, 2, 2000, 0)], [], [], [], 0)
noncomputable def fX6_troubleOf : aMF := a_fn none shp pX6_troubleOf 5 5
set_option maxRecDepth 20000 in
theorem wkX8_holds : ∀ w ∈ [Cond.code yX8_holds cX8_holds 2 (some .boolean), .initialized yX8_holds.cls, .static yX8_holds], w ∈ lw_g := a_ps [441, 96, 440] rfl rfl
theorem hdX8_holds : yX8_holds.cls ≠ "java/lang/invoke/MethodHandle" ∧ yX8_holds.cls ≠ "java/lang/invoke/VarHandle" ∧ (parseMethodDescriptor yX8_holds.desc).map (fun d => d.parameters.length) = some 2 := by decide +kernel
set_option maxRecDepth 20000 in
theorem kX6_troubleOf {l : Launch} {G : aG} (hZ : a_Z l G) : a_Con l G shp yX6_troubleOf (.code yX6_troubleOf cX6_troubleOf 5 (some .int)) 2 37 fX6_troubleOf :=
  a_mth none hZ.1 hZ.2.1 shp_len (fun _ h => nomatch h) hZ.2.2.1 (by decide +kernel) rfl (foX6 rfl) (a_cok_of trivial) (b_code [43,28,46,29,184,0,80,154,0,5,5,172,43,8,46,21,4,184,0,80,154,0,5,6,172,42,180,0,31,29,46,21,4,184,0,80,153,0,7,3,167,0,4,7,172] [] (by decide +kernel) (by decide +kernel) (by decide +kernel) (by decide +kernel)) rfl rfl (trivial) (⟨a_CQ_sn hZ.2.1 (kX8_holds hZ) (a_CF_sn wkX8_holds "StoutShelf" 439 rfl hdX8_holds) (a_fn_nt rfl rfl) rfl rfl,
    trivial⟩)
noncomputable def pX0_canFollow : aPrg := ([(0, .iconst 3, 3, 0, []),
  (1, .iload_n 2, 0, 0, []),
  (2, .imul, 0, 0, []),
  (3, .istore_n 3, 0, 0, []),
  (4, .iload_n 1, 0, 0, []),
  (5, .iload_n 2, 0, 0, []),
  (6, .ishr, 0, 0, []),
  (7, .iconst 1, 1, 0, []),
  (8, .iand, 0, 0, []),
  (9, .ifCond .ne 52, 0, 61, []),
  (12, .aload_n 0, 0, 0, []),
  (13, .getfield 21, 0, 0, []),
  (16, .aload_n 0, 0, 0, []),
  (17, .getfield 9, 0, 0, []),
  (20, .aload_n 0, 0, 0, []),
  (21, .getfield 25, 0, 0, []),
  (24, .getfield 75, 0, 0, []),
  (27, .iload_n 3, 0, 0, []),
  (28, .iaload, 0, 0, []),
  (29, .aload_n 0, 0, 0, []),
  (30, .getfield 25, 0, 0, []),
  (33, .getfield 75, 0, 0, []),
  (36, .iload_n 3, 0, 0, []),
  (37, .iconst 1, 1, 0, []),
  (38, .iadd, 0, 0, []),
  (39, .iaload, 0, 0, []),
  (40, .aload_n 0, 0, 0, []),
  (41, .getfield 25, 0, 0, []),
  (44, .getfield 75, 0, 0, []),
  (47, .iload_n 3, 0, 0, []),
  (48, .iconst 2, 2, 0, []),
  (49, .iadd, 0, 0, []),
  (50, .iaload, 0, 0, []),
  (51, .invokevirtual 82, 0, 0, []),
  (54, .ifCond .ne 7, 0, 61, []),
  (57, .iconst 1, 1, 0, []),
  (58, .goto 4, 0, 62, []),
  (61, .iconst 0, 0, 0, []),
  (62, .ireturn, 0, 0, [])],
  fdX0, [(82, fX6_troubleOf, 5, 6, 0)], [], [], [], 1)
noncomputable def fX0_canFollow : aMF := a_fn none shp pX0_canFollow 4 3
set_option maxRecDepth 20000 in
theorem wkX6_troubleOf : ∀ w ∈ [Cond.code yX6_troubleOf cX6_troubleOf 5 (some .int), .initialized yX6_troubleOf.cls, .instanceMethod yX6_troubleOf, .selects yX6_troubleOf.cls yX6_troubleOf yX6_troubleOf], w ∈ lw_g := a_ps [438, 98, 436, 437] rfl rfl
theorem hdX6_troubleOf : yX6_troubleOf.cls ≠ "java/lang/invoke/MethodHandle" ∧ yX6_troubleOf.cls ≠ "java/lang/invoke/VarHandle" ∧ (parseMethodDescriptor yX6_troubleOf.desc).map (fun d => d.parameters.length) = some 4 := by decide +kernel
set_option maxRecDepth 20000 in
theorem lkX0_82 : Cond.methodLink RX0 82 yX6_troubleOf ∈ lw_g := a_p1 549 rfl rfl
set_option maxRecDepth 20000 in
theorem kX0_canFollow {l : Launch} {G : aG} (hZ : a_Z l G) : a_Con l G shp yX0_canFollow (.code yX0_canFollow cX0_canFollow 4 (some .boolean)) 3 61 fX0_canFollow :=
  a_mth none hZ.1 hZ.2.1 shp_len (fun _ h => nomatch h) hZ.2.2.1 (by decide +kernel) rfl (foX0 rfl) (a_cok_of trivial) (b_code [6,28,104,62,27,28,122,4,126,154,0,52,42,180,0,21,42,180,0,9,42,180,0,25,180,0,75,29,46,42,180,0,25,180,0,75,29,4,96,46,42,180,0,25,180,0,75,29,5,96,46,182,0,82,154,0,7,4,167,0,4,3,172] [] (by decide +kernel) (by decide +kernel) (by decide +kernel) (by decide +kernel)) rfl rfl (trivial) (⟨a_CQ_v hZ.2.1 (kX6_troubleOf hZ) lkX0_82 (a_CF_v TX6 9 wkX6_troubleOf lkX0_82 hdX6_troubleOf ⟨by decide, by decide⟩ rfl) rfl rfl,
    trivial⟩)
noncomputable def pX0_reckonBefore : aPrg := ([(0, .aload_n 0, 0, 0, []),
  (1, .getfield 15, 0, 0, []),
  (4, .iconst 0, 0, 0, []),
  (5, .invokestatic 59, 0, 0, []),
  (8, .aload_n 0, 0, 0, []),
  (9, .getfield 15, 0, 0, []),
  (12, .iconst 0, 0, 0, []),
  (13, .iconst 1, 1, 0, []),
  (14, .iastore, 0, 0, []),
  (15, .iconst 0, 0, 0, []),
  (16, .istore_n 2, 0, 0, []),
  (17, .iload_n 2, 0, 0, []),
  (18, .iload_n 1, 0, 0, []),
  (19, .if_icmp .ge 70, 0, 89, []),
  (22, .aload_n 0, 0, 0, []),
  (23, .getfield 15, 0, 0, []),
  (26, .iload_n 2, 0, 0, []),
  (27, .iaload, 0, 0, []),
  (28, .ifCond .eq 55, 0, 83, []),
  (31, .aload_n 0, 0, 0, []),
  (32, .iload_n 2, 0, 0, []),
  (33, .invokevirtual 46, 0, 0, []),
  (36, .iconst 0, 0, 0, []),
  (37, .istore_n 3, 0, 0, []),
  (38, .iload_n 3, 0, 0, []),
  (39, .aload_n 0, 0, 0, []),
  (40, .getfield 25, 0, 0, []),
  (43, .getfield 53, 0, 0, []),
  (46, .if_icmp .ge 37, 0, 83, []),
  (49, .aload_n 0, 0, 0, []),
  (50, .iload_n 2, 0, 0, []),
  (51, .iload_n 3, 0, 0, []),
  (52, .invokevirtual 65, 0, 0, []),
  (55, .ifCond .eq 22, 0, 77, []),
  (58, .aload_n 0, 0, 0, []),
  (59, .getfield 15, 0, 0, []),
  (62, .iload_n 2, 0, 0, []),
  (63, .iconst 1, 1, 0, []),
  (64, .iload_n 3, 0, 0, []),
  (65, .ishl, 0, 0, []),
  (66, .ior, 0, 0, []),
  (67, .dup2, 0, 0, []),
  (68, .iaload, 0, 0, []),
  (69, .aload_n 0, 0, 0, []),
  (70, .getfield 15, 0, 0, []),
  (73, .iload_n 2, 0, 0, []),
  (74, .iaload, 0, 0, []),
  (75, .iadd, 0, 0, []),
  (76, .iastore, 0, 0, []),
  (77, .iinc 3 1, 1, 0, []),
  (80, .goto (-42), 0, 38, []),
  (83, .iinc 2 1, 1, 0, []),
  (86, .goto (-69), 0, 17, []),
  (89, .return_, 0, 0, [])],
  fdX0, [(59, fJ7_fill_53178, 2, 2000, 1), (46, fX0_goTo, 2, 0, 1), (65, fX0_canFollow, 3, 0, 0)], [], [], [], 2)
noncomputable def fX0_reckonBefore : aMF := a_fn none shp pX0_reckonBefore 4 2
set_option maxRecDepth 20000 in
theorem wkJ7_fill_53178 : ∀ w ∈ [Cond.code yJ7_fill_53178 cJ7_fill_53178 4 none, .initialized yJ7_fill_53178.cls, .static yJ7_fill_53178], w ∈ lw_g := a_ps [538, 110, 537] rfl rfl
theorem hdJ7_fill_53178 : yJ7_fill_53178.cls ≠ "java/lang/invoke/MethodHandle" ∧ yJ7_fill_53178.cls ≠ "java/lang/invoke/VarHandle" ∧ (parseMethodDescriptor yJ7_fill_53178.desc).map (fun d => d.parameters.length) = some 2 := by decide +kernel
set_option maxRecDepth 20000 in
theorem lkX0_59 : Cond.methodLink RX0 59 yJ7_fill_53178 ∈ lw_g := a_p1 536 rfl rfl
set_option maxRecDepth 20000 in
theorem wkX0_goTo : ∀ w ∈ [Cond.code yX0_goTo cX0_goTo 4 none, .initialized yX0_goTo.cls, .instanceMethod yX0_goTo, .selects yX0_goTo.cls yX0_goTo yX0_goTo], w ∈ lw_g := a_ps [542, 104, 541, 11] rfl rfl
theorem hdX0_goTo : yX0_goTo.cls ≠ "java/lang/invoke/MethodHandle" ∧ yX0_goTo.cls ≠ "java/lang/invoke/VarHandle" ∧ (parseMethodDescriptor yX0_goTo.desc).map (fun d => d.parameters.length) = some 1 := by decide +kernel
set_option maxRecDepth 20000 in
theorem lkX0_46 : Cond.methodLink RX0 46 yX0_goTo ∈ lw_g := a_p1 539 rfl rfl
set_option maxRecDepth 20000 in
theorem wkX0_canFollow : ∀ w ∈ [Cond.code yX0_canFollow cX0_canFollow 4 (some .boolean), .initialized yX0_canFollow.cls, .instanceMethod yX0_canFollow, .selects yX0_canFollow.cls yX0_canFollow yX0_canFollow], w ∈ lw_g := a_ps [548, 104, 547, 12] rfl rfl
theorem hdX0_canFollow : yX0_canFollow.cls ≠ "java/lang/invoke/MethodHandle" ∧ yX0_canFollow.cls ≠ "java/lang/invoke/VarHandle" ∧ (parseMethodDescriptor yX0_canFollow.desc).map (fun d => d.parameters.length) = some 2 := by decide +kernel
set_option maxRecDepth 20000 in
theorem lkX0_65 : Cond.methodLink RX0 65 yX0_canFollow ∈ lw_g := a_p1 545 rfl rfl
set_option maxRecDepth 20000 in
theorem kX0_reckonBefore {l : Launch} {G : aG} (hZ : a_Z l G) : a_Con l G shp yX0_reckonBefore (.code yX0_reckonBefore cX0_reckonBefore 4 none) 4 84 fX0_reckonBefore :=
  a_mth none hZ.1 hZ.2.1 shp_len (fun _ h => nomatch h) hZ.2.2.1 (by decide +kernel) rfl (foX0 rfl) (a_cok_of trivial) (b_code [42,180,0,15,3,184,0,59,42,180,0,15,3,4,79,3,61,28,27,162,0,70,42,180,0,15,28,46,153,0,55,42,28,182,0,46,3,62,29,42,180,0,25,180,0,53,162,0,37,42,28,29,182,0,65,153,0,22,42,180,0,15,28,4,29,120,128,92,46,42,180,0,15,28,46,96,79,132,3,1,167,255,214,132,2,1,167,255,187,177] [] (by decide +kernel) (by decide +kernel) (by decide +kernel) (by decide +kernel)) rfl rfl (trivial) (⟨a_CQ_s hZ.2.1 (kJ7_fill_53178 hZ) lkX0_59 (a_CF_s wkJ7_fill_53178 lkX0_59 hdJ7_fill_53178) rfl rfl,
    ⟨a_CQ_v hZ.2.1 (kX0_goTo hZ) lkX0_46 (a_CF_v TX0 5 wkX0_goTo lkX0_46 hdX0_goTo ⟨by decide, by decide⟩ rfl) rfl rfl,
    ⟨a_CQ_v hZ.2.1 (kX0_canFollow hZ) lkX0_65 (a_CF_v TX0 5 wkX0_canFollow lkX0_65 hdX0_canFollow ⟨by decide, by decide⟩ rfl) rfl rfl,
    trivial⟩⟩⟩)
noncomputable def pX0_ordersOfAll : aPrg := ([(0, .aload_n 0, 0, 0, []),
  (1, .invokevirtual 29, 0, 0, []),
  (4, .istore_n 1, 0, 0, []),
  (5, .aload_n 0, 0, 0, []),
  (6, .iload_n 1, 0, 0, []),
  (7, .invokevirtual 33, 0, 0, []),
  (10, .aload_n 0, 0, 0, []),
  (11, .getfield 15, 0, 0, []),
  (14, .iload_n 1, 0, 0, []),
  (15, .iaload, 0, 0, []),
  (16, .ireturn, 0, 0, [])],
  fdX0, [(29, fX0_allEvents, 1, 0, 0), (33, fX0_reckonBefore, 2, 0, 1)], [], [], [], 0)
noncomputable def fX0_ordersOfAll : aMF := a_fn none shp pX0_ordersOfAll 2 1
set_option maxRecDepth 20000 in
theorem wkX0_allEvents : ∀ w ∈ [Cond.code yX0_allEvents cX0_allEvents 1 (some .int), .initialized yX0_allEvents.cls, .instanceMethod yX0_allEvents, .selects yX0_allEvents.cls yX0_allEvents yX0_allEvents], w ∈ lw_g := a_ps [531, 104, 530, 9] rfl rfl
theorem hdX0_allEvents : yX0_allEvents.cls ≠ "java/lang/invoke/MethodHandle" ∧ yX0_allEvents.cls ≠ "java/lang/invoke/VarHandle" ∧ (parseMethodDescriptor yX0_allEvents.desc).map (fun d => d.parameters.length) = some 0 := by decide +kernel
set_option maxRecDepth 20000 in
theorem lkX0_29 : Cond.methodLink RX0 29 yX0_allEvents ∈ lw_g := a_p1 528 rfl rfl
set_option maxRecDepth 20000 in
theorem wkX0_reckonBefore : ∀ w ∈ [Cond.code yX0_reckonBefore cX0_reckonBefore 4 none, .initialized yX0_reckonBefore.cls, .instanceMethod yX0_reckonBefore, .selects yX0_reckonBefore.cls yX0_reckonBefore yX0_reckonBefore], w ∈ lw_g := a_ps [535, 104, 534, 10] rfl rfl
theorem hdX0_reckonBefore : yX0_reckonBefore.cls ≠ "java/lang/invoke/MethodHandle" ∧ yX0_reckonBefore.cls ≠ "java/lang/invoke/VarHandle" ∧ (parseMethodDescriptor yX0_reckonBefore.desc).map (fun d => d.parameters.length) = some 1 := by decide +kernel
set_option maxRecDepth 20000 in
theorem lkX0_33 : Cond.methodLink RX0 33 yX0_reckonBefore ∈ lw_g := a_p1 532 rfl rfl
set_option maxRecDepth 20000 in
theorem kX0_ordersOfAll {l : Launch} {G : aG} (hZ : a_Z l G) : a_Con l G shp yX0_ordersOfAll (.code yX0_ordersOfAll cX0_ordersOfAll 2 (some .int)) 5 107 fX0_ordersOfAll :=
  a_mth none hZ.1 hZ.2.1 shp_len (fun _ h => nomatch h) hZ.2.2.1 (by decide +kernel) rfl (foX0 rfl) (a_cok_of trivial) (b_code [42,182,0,29,60,42,27,182,0,33,42,180,0,15,27,46,172] [] (by decide +kernel) (by decide +kernel) (by decide +kernel) (by decide +kernel)) rfl rfl (trivial) (⟨a_CQ_v hZ.2.1 (kX0_allEvents hZ) lkX0_29 (a_CF_v TX0 5 wkX0_allEvents lkX0_29 hdX0_allEvents ⟨by decide, by decide⟩ rfl) rfl rfl,
    ⟨a_CQ_v hZ.2.1 (kX0_reckonBefore hZ) lkX0_33 (a_CF_v TX0 5 wkX0_reckonBefore lkX0_33 hdX0_reckonBefore ⟨by decide, by decide⟩ rfl) rfl rfl,
    trivial⟩⟩)
noncomputable def pX0_reckonBehind : aPrg := ([(0, .aload_n 0, 0, 0, []),
  (1, .getfield 18, 0, 0, []),
  (4, .iconst 0, 0, 0, []),
  (5, .invokestatic 59, 0, 0, []),
  (8, .aload_n 0, 0, 0, []),
  (9, .getfield 18, 0, 0, []),
  (12, .iload_n 1, 0, 0, []),
  (13, .iconst 1, 1, 0, []),
  (14, .iastore, 0, 0, []),
  (15, .iload_n 1, 0, 0, []),
  (16, .iconst 1, 1, 0, []),
  (17, .isub, 0, 0, []),
  (18, .istore_n 2, 0, 0, []),
  (19, .iload_n 2, 0, 0, []),
  (20, .ifCond .lt 61, 0, 81, []),
  (23, .aload_n 0, 0, 0, []),
  (24, .iload_n 2, 0, 0, []),
  (25, .invokevirtual 46, 0, 0, []),
  (28, .iconst 0, 0, 0, []),
  (29, .istore_n 3, 0, 0, []),
  (30, .iload_n 3, 0, 0, []),
  (31, .aload_n 0, 0, 0, []),
  (32, .getfield 25, 0, 0, []),
  (35, .getfield 53, 0, 0, []),
  (38, .if_icmp .ge 37, 0, 75, []),
  (41, .aload_n 0, 0, 0, []),
  (42, .iload_n 2, 0, 0, []),
  (43, .iload_n 3, 0, 0, []),
  (44, .invokevirtual 65, 0, 0, []),
  (47, .ifCond .eq 22, 0, 69, []),
  (50, .aload_n 0, 0, 0, []),
  (51, .getfield 18, 0, 0, []),
  (54, .iload_n 2, 0, 0, []),
  (55, .dup2, 0, 0, []),
  (56, .iaload, 0, 0, []),
  (57, .aload_n 0, 0, 0, []),
  (58, .getfield 18, 0, 0, []),
  (61, .iload_n 2, 0, 0, []),
  (62, .iconst 1, 1, 0, []),
  (63, .iload_n 3, 0, 0, []),
  (64, .ishl, 0, 0, []),
  (65, .ior, 0, 0, []),
  (66, .iaload, 0, 0, []),
  (67, .iadd, 0, 0, []),
  (68, .iastore, 0, 0, []),
  (69, .iinc 3 1, 1, 0, []),
  (72, .goto (-42), 0, 30, []),
  (75, .iinc 2 (-1), (-1), 0, []),
  (78, .goto (-59), 0, 19, []),
  (81, .return_, 0, 0, [])],
  fdX0, [(59, fJ7_fill_53178, 2, 2000, 1), (46, fX0_goTo, 2, 0, 1), (65, fX0_canFollow, 3, 0, 0)], [], [], [], 2)
noncomputable def fX0_reckonBehind : aMF := a_fn none shp pX0_reckonBehind 4 2
set_option maxRecDepth 20000 in
theorem kX0_reckonBehind {l : Launch} {G : aG} (hZ : a_Z l G) : a_Con l G shp yX0_reckonBehind (.code yX0_reckonBehind cX0_reckonBehind 4 none) 4 84 fX0_reckonBehind :=
  a_mth none hZ.1 hZ.2.1 shp_len (fun _ h => nomatch h) hZ.2.2.1 (by decide +kernel) rfl (foX0 rfl) (a_cok_of trivial) (b_code [42,180,0,18,3,184,0,59,42,180,0,18,27,4,79,27,4,100,61,28,155,0,61,42,28,182,0,46,3,62,29,42,180,0,25,180,0,53,162,0,37,42,28,29,182,0,65,153,0,22,42,180,0,18,28,92,46,42,180,0,18,28,4,29,120,128,46,96,79,132,3,1,167,255,214,132,2,255,167,255,197,177] [] (by decide +kernel) (by decide +kernel) (by decide +kernel) (by decide +kernel)) rfl rfl (trivial) (⟨a_CQ_s hZ.2.1 (kJ7_fill_53178 hZ) lkX0_59 (a_CF_s wkJ7_fill_53178 lkX0_59 hdJ7_fill_53178) rfl rfl,
    ⟨a_CQ_v hZ.2.1 (kX0_goTo hZ) lkX0_46 (a_CF_v TX0 5 wkX0_goTo lkX0_46 hdX0_goTo ⟨by decide, by decide⟩ rfl) rfl rfl,
    ⟨a_CQ_v hZ.2.1 (kX0_canFollow hZ) lkX0_65 (a_CF_v TX0 5 wkX0_canFollow lkX0_65 hdX0_canFollow ⟨by decide, by decide⟩ rfl) rfl rfl,
    trivial⟩⟩⟩)
noncomputable def pJ6_bitCount_0f7a4 : aPrg := ([(0, .iload_n 0, 0, 0, []),
  (1, .iload_n 0, 0, 0, []),
  (2, .iconst 1, 1, 0, []),
  (3, .iushr, 0, 0, []),
  (4, .ldc_w 265, 0, 0, []),
  (7, .iand, 0, 0, []),
  (8, .isub, 0, 0, []),
  (9, .istore_n 0, 0, 0, []),
  (10, .iload_n 0, 0, 0, []),
  (11, .ldc_w 266, 0, 0, []),
  (14, .iand, 0, 0, []),
  (15, .iload_n 0, 0, 0, []),
  (16, .iconst 2, 2, 0, []),
  (17, .iushr, 0, 0, []),
  (18, .ldc_w 266, 0, 0, []),
  (21, .iand, 0, 0, []),
  (22, .iadd, 0, 0, []),
  (23, .istore_n 0, 0, 0, []),
  (24, .iload_n 0, 0, 0, []),
  (25, .iload_n 0, 0, 0, []),
  (26, .iconst 4, 4, 0, []),
  (27, .iushr, 0, 0, []),
  (28, .iadd, 0, 0, []),
  (29, .ldc_w 267, 0, 0, []),
  (32, .iand, 0, 0, []),
  (33, .istore_n 0, 0, 0, []),
  (34, .iload_n 0, 0, 0, []),
  (35, .iload_n 0, 0, 0, []),
  (36, .bipush 8, 8, 0, []),
  (38, .iushr, 0, 0, []),
  (39, .iadd, 0, 0, []),
  (40, .istore_n 0, 0, 0, []),
  (41, .iload_n 0, 0, 0, []),
  (42, .iload_n 0, 0, 0, []),
  (43, .bipush 16, 16, 0, []),
  (45, .iushr, 0, 0, []),
  (46, .iadd, 0, 0, []),
  (47, .istore_n 0, 0, 0, []),
  (48, .iload_n 0, 0, 0, []),
  (49, .bipush 63, 63, 0, []),
  (51, .iand, 0, 0, []),
  (52, .ireturn, 0, 0, [])],
  [], [], [(265, .int (1431655765 : Int32)), (266, .int (858993459 : Int32)), (267, .int (252645135 : Int32))], [], [], 0)
noncomputable def fJ6_bitCount_0f7a4 : aMF := a_fn none shp pJ6_bitCount_0f7a4 1 1
set_option maxRecDepth 20000 in
theorem kJ6_bitCount_0f7a4 {l : Launch} {G : aG} (hZ : a_Z l G) : a_Con l G shp yJ6_bitCount_0f7a4 (.code yJ6_bitCount_0f7a4 cJ6_bitCount_0f7a4 1 (some .int)) 1 16 fJ6_bitCount_0f7a4 :=
  a_mtj none hZ.1 hZ.2.1 shp_len (fun _ h => nomatch h) hZ.2.2.1 (by decide +kernel) rfl (a_fok_of [] rfl rfl) (a_cok_of ⟨a_p1 561 rfl rfl, ⟨a_p1 562 rfl rfl, ⟨a_p1 563 rfl rfl, trivial⟩⟩⟩) (b_code [26,26,4,124,19,1,9,126,100,59,26,19,1,10,126,26,5,124,19,1,10,126,96,59,26,26,7,124,96,19,1,11,126,59,26,26,16,8,124,96,59,26,26,16,16,124,96,59,26,16,63,126,172] [] (by decide +kernel) (by decide +kernel) (by decide +kernel) (by decide +kernel)) rfl rfl rfl rfl
noncomputable def pX0_ordersWith : aPrg := ([(0, .aload_n 0, 0, 0, []),
  (1, .invokevirtual 29, 0, 0, []),
  (4, .istore_n 3, 0, 0, []),
  (5, .aload_n 0, 0, 0, []),
  (6, .iload_n 3, 0, 0, []),
  (7, .invokevirtual 33, 0, 0, []),
  (10, .aload_n 0, 0, 0, []),
  (11, .iload_n 3, 0, 0, []),
  (12, .invokevirtual 37, 0, 0, []),
  (15, .iconst 0, 0, 0, []),
  (16, .istore 4, 0, 0, []),
  (18, .iconst 0, 0, 0, []),
  (19, .istore 5, 0, 0, []),
  (21, .iload 5, 0, 0, []),
  (23, .iload_n 3, 0, 0, []),
  (24, .if_icmp .gt 61, 0, 85, []),
  (27, .iload 5, 0, 0, []),
  (29, .invokestatic 40, 0, 0, []),
  (32, .iload_n 2, 0, 0, []),
  (33, .if_icmp .ne 46, 0, 79, []),
  (36, .aload_n 0, 0, 0, []),
  (37, .iload 5, 0, 0, []),
  (39, .invokevirtual 46, 0, 0, []),
  (42, .iload 4, 0, 0, []),
  (44, .aload_n 0, 0, 0, []),
  (45, .getfield 9, 0, 0, []),
  (48, .iconst 5, 5, 0, []),
  (49, .iaload, 0, 0, []),
  (50, .iload_n 1, 0, 0, []),
  (51, .invokestatic 49, 0, 0, []),
  (54, .ifCond .eq 21, 0, 75, []),
  (57, .aload_n 0, 0, 0, []),
  (58, .getfield 15, 0, 0, []),
  (61, .iload 5, 0, 0, []),
  (63, .iaload, 0, 0, []),
  (64, .aload_n 0, 0, 0, []),
  (65, .getfield 18, 0, 0, []),
  (68, .iload 5, 0, 0, []),
  (70, .iaload, 0, 0, []),
  (71, .imul, 0, 0, []),
  (72, .goto 4, 0, 76, []),
  (75, .iconst 0, 0, 0, []),
  (76, .iadd, 0, 0, []),
  (77, .istore 4, 0, 0, []),
  (79, .iinc 5 1, 1, 0, []),
  (82, .goto (-61), 0, 21, []),
  (85, .iload 4, 0, 0, []),
  (87, .ireturn, 0, 0, [])],
  fdX0, [(29, fX0_allEvents, 1, 0, 0), (33, fX0_reckonBefore, 2, 0, 1), (37, fX0_reckonBehind, 2, 0, 1), (40, fJ6_bitCount_0f7a4, 1, 2000, 0), (46, fX0_goTo, 2, 0, 1), (49, fX8_holds, 2, 2000, 0)], [], [], [], 0)
noncomputable def fX0_ordersWith : aMF := a_fn none shp pX0_ordersWith 6 3
set_option maxRecDepth 20000 in
theorem wkX0_reckonBehind : ∀ w ∈ [Cond.code yX0_reckonBehind cX0_reckonBehind 4 none, .initialized yX0_reckonBehind.cls, .instanceMethod yX0_reckonBehind, .selects yX0_reckonBehind.cls yX0_reckonBehind yX0_reckonBehind], w ∈ lw_g := a_ps [1099, 104, 1098, 50] rfl rfl
theorem hdX0_reckonBehind : yX0_reckonBehind.cls ≠ "java/lang/invoke/MethodHandle" ∧ yX0_reckonBehind.cls ≠ "java/lang/invoke/VarHandle" ∧ (parseMethodDescriptor yX0_reckonBehind.desc).map (fun d => d.parameters.length) = some 1 := by decide +kernel
set_option maxRecDepth 20000 in
theorem lkX0_37 : Cond.methodLink RX0 37 yX0_reckonBehind ∈ lw_g := a_p1 1096 rfl rfl
set_option maxRecDepth 20000 in
theorem wkJ6_bitCount_0f7a4 : ∀ w ∈ [Cond.code yJ6_bitCount_0f7a4 cJ6_bitCount_0f7a4 1 (some .int), .initialized yJ6_bitCount_0f7a4.cls, .static yJ6_bitCount_0f7a4], w ∈ lw_g := a_ps [560, 118, 559] rfl rfl
theorem hdJ6_bitCount_0f7a4 : yJ6_bitCount_0f7a4.cls ≠ "java/lang/invoke/MethodHandle" ∧ yJ6_bitCount_0f7a4.cls ≠ "java/lang/invoke/VarHandle" ∧ (parseMethodDescriptor yJ6_bitCount_0f7a4.desc).map (fun d => d.parameters.length) = some 1 := by decide +kernel
set_option maxRecDepth 20000 in
theorem lkX0_40 : Cond.methodLink RX0 40 yJ6_bitCount_0f7a4 ∈ lw_g := a_p1 558 rfl rfl
set_option maxRecDepth 20000 in
theorem kX0_ordersWith {l : Launch} {G : aG} (hZ : a_Z l G) : a_Con l G shp yX0_ordersWith (.code yX0_ordersWith cX0_ordersWith 6 (some .int)) 5 107 fX0_ordersWith :=
  a_mth none hZ.1 hZ.2.1 shp_len (fun _ h => nomatch h) hZ.2.2.1 (by decide +kernel) rfl (foX0 rfl) (a_cok_of trivial) (b_code [42,182,0,29,62,42,29,182,0,33,42,29,182,0,37,3,54,4,3,54,5,21,5,29,163,0,61,21,5,184,0,40,28,160,0,46,42,21,5,182,0,46,21,4,42,180,0,9,8,46,27,184,0,49,153,0,21,42,180,0,15,21,5,46,42,180,0,18,21,5,46,104,167,0,4,3,96,54,4,132,5,1,167,255,195,21,4,172] [] (by decide +kernel) (by decide +kernel) (by decide +kernel) (by decide +kernel)) rfl rfl (trivial) (⟨a_CQ_v hZ.2.1 (kX0_allEvents hZ) lkX0_29 (a_CF_v TX0 5 wkX0_allEvents lkX0_29 hdX0_allEvents ⟨by decide, by decide⟩ rfl) rfl rfl,
    ⟨a_CQ_v hZ.2.1 (kX0_reckonBefore hZ) lkX0_33 (a_CF_v TX0 5 wkX0_reckonBefore lkX0_33 hdX0_reckonBefore ⟨by decide, by decide⟩ rfl) rfl rfl,
    ⟨a_CQ_v hZ.2.1 (kX0_reckonBehind hZ) lkX0_37 (a_CF_v TX0 5 wkX0_reckonBehind lkX0_37 hdX0_reckonBehind ⟨by decide, by decide⟩ rfl) rfl rfl,
    ⟨a_CQ_s hZ.2.1 (kJ6_bitCount_0f7a4 hZ) lkX0_40 (a_CF_s wkJ6_bitCount_0f7a4 lkX0_40 hdJ6_bitCount_0f7a4) rfl rfl,
    ⟨a_CQ_v hZ.2.1 (kX0_goTo hZ) lkX0_46 (a_CF_v TX0 5 wkX0_goTo lkX0_46 hdX0_goTo ⟨by decide, by decide⟩ rfl) rfl rfl,
    ⟨a_CQ_sn hZ.2.1 (kX8_holds hZ) (a_CF_sn wkX8_holds "StoutShelf" 1100 rfl hdX8_holds) (a_fn_nt rfl rfl) rfl rfl,
    trivial⟩⟩⟩⟩⟩⟩)
noncomputable def pX0_smallestKnot : aPrg := ([(0, .aload_n 0, 0, 0, []),
  (1, .invokevirtual 29, 0, 0, []),
  (4, .istore_n 1, 0, 0, []),
  (5, .aload_n 0, 0, 0, []),
  (6, .iload_n 1, 0, 0, []),
  (7, .invokevirtual 33, 0, 0, []),
  (10, .iconst (-1), (-1), 0, []),
  (11, .istore_n 2, 0, 0, []),
  (12, .iconst 0, 0, 0, []),
  (13, .istore_n 3, 0, 0, []),
  (14, .iload_n 3, 0, 0, []),
  (15, .iload_n 1, 0, 0, []),
  (16, .if_icmp .gt 48, 0, 64, []),
  (19, .iload_n 2, 0, 0, []),
  (20, .iconst (-1), (-1), 0, []),
  (21, .if_icmp .eq 14, 0, 35, []),
  (24, .iload_n 3, 0, 0, []),
  (25, .invokestatic 40, 0, 0, []),
  (28, .iload_n 2, 0, 0, []),
  (29, .invokestatic 40, 0, 0, []),
  (32, .if_icmp .ge 7, 0, 39, []),
  (35, .iconst 1, 1, 0, []),
  (36, .goto 4, 0, 40, []),
  (39, .iconst 0, 0, 0, []),
  (40, .istore 4, 0, 0, []),
  (42, .aload_n 0, 0, 0, []),
  (43, .getfield 15, 0, 0, []),
  (46, .iload_n 3, 0, 0, []),
  (47, .iaload, 0, 0, []),
  (48, .ifCond .ne 10, 0, 58, []),
  (51, .iload 4, 0, 0, []),
  (53, .ifCond .eq 5, 0, 58, []),
  (56, .iload_n 3, 0, 0, []),
  (57, .istore_n 2, 0, 0, []),
  (58, .iinc 3 1, 1, 0, []),
  (61, .goto (-47), 0, 14, []),
  (64, .iload_n 2, 0, 0, []),
  (65, .ireturn, 0, 0, [])],
  fdX0, [(29, fX0_allEvents, 1, 0, 0), (33, fX0_reckonBefore, 2, 0, 1), (40, fJ6_bitCount_0f7a4, 1, 2000, 0)], [], [], [], 0)
noncomputable def fX0_smallestKnot : aMF := a_fn none shp pX0_smallestKnot 5 1
set_option maxRecDepth 20000 in
theorem kX0_smallestKnot {l : Launch} {G : aG} (hZ : a_Z l G) : a_Con l G shp yX0_smallestKnot (.code yX0_smallestKnot cX0_smallestKnot 5 (some .int)) 5 107 fX0_smallestKnot :=
  a_mth none hZ.1 hZ.2.1 shp_len (fun _ h => nomatch h) hZ.2.2.1 (by decide +kernel) rfl (foX0 rfl) (a_cok_of trivial) (b_code [42,182,0,29,60,42,27,182,0,33,2,61,3,62,29,27,163,0,48,28,2,159,0,14,29,184,0,40,28,184,0,40,162,0,7,4,167,0,4,3,54,4,42,180,0,15,29,46,154,0,10,21,4,153,0,5,29,61,132,3,1,167,255,209,28,172] [] (by decide +kernel) (by decide +kernel) (by decide +kernel) (by decide +kernel)) rfl rfl (trivial) (⟨a_CQ_v hZ.2.1 (kX0_allEvents hZ) lkX0_29 (a_CF_v TX0 5 wkX0_allEvents lkX0_29 hdX0_allEvents ⟨by decide, by decide⟩ rfl) rfl rfl,
    ⟨a_CQ_v hZ.2.1 (kX0_reckonBefore hZ) lkX0_33 (a_CF_v TX0 5 wkX0_reckonBefore lkX0_33 hdX0_reckonBefore ⟨by decide, by decide⟩ rfl) rfl rfl,
    ⟨a_CQ_s hZ.2.1 (kJ6_bitCount_0f7a4 hZ) lkX0_40 (a_CF_s wkJ6_bitCount_0f7a4 lkX0_40 hdJ6_bitCount_0f7a4) rfl rfl,
    trivial⟩⟩⟩)
noncomputable def pX1_clear : aPrg := ([(0, .aload_n 0, 0, 0, []),
  (1, .iconst 0, 0, 0, []),
  (2, .putfield 18, 0, 0, []),
  (5, .return_, 0, 0, [])],
  fdX1, [], [], [], [], 2)
noncomputable def fX1_clear : aMF := a_fn none shp pX1_clear 1 1
set_option maxRecDepth 20000 in
theorem kX1_clear {l : Launch} {G : aG} (hZ : a_Z l G) : a_Con l G shp yX1_clear (.code yX1_clear cX1_clear 1 none) 1 16 fX1_clear :=
  a_mth none hZ.1 hZ.2.1 shp_len (fun _ h => nomatch h) hZ.2.2.1 (by decide +kernel) rfl (foX1 rfl) (a_cok_of trivial) (b_code [42,3,181,0,18,177] [] (by decide +kernel) (by decide +kernel) (by decide +kernel) (by decide +kernel)) rfl rfl (trivial) (trivial)
noncomputable def pX1_add : aPrg := ([(0, .aload_n 0, 0, 0, []),
  (1, .getfield 18, 0, 0, []),
  (4, .sipush 700, 700, 0, []),
  (7, .if_icmp .ge 23, 0, 30, []),
  (10, .aload_n 0, 0, 0, []),
  (11, .getfield 9, 0, 0, []),
  (14, .aload_n 0, 0, 0, []),
  (15, .getfield 18, 0, 0, []),
  (18, .iload_n 1, 0, 0, []),
  (19, .iastore, 0, 0, []),
  (20, .aload_n 0, 0, 0, []),
  (21, .dup, 0, 0, []),
  (22, .getfield 18, 0, 0, []),
  (25, .iconst 1, 1, 0, []),
  (26, .iadd, 0, 0, []),
  (27, .putfield 18, 0, 0, []),
  (30, .return_, 0, 0, [])],
  fdX1, [], [], [], [], 2)
noncomputable def fX1_add : aMF := a_fn none shp pX1_add 2 2
set_option maxRecDepth 20000 in
theorem kX1_add {l : Launch} {G : aG} (hZ : a_Z l G) : a_Con l G shp yX1_add (.code yX1_add cX1_add 2 none) 1 16 fX1_add :=
  a_mth none hZ.1 hZ.2.1 shp_len (fun _ h => nomatch h) hZ.2.2.1 (by decide +kernel) rfl (foX1 rfl) (a_cok_of trivial) (b_code [42,180,0,18,17,2,188,162,0,23,42,180,0,9,42,180,0,18,27,79,42,89,180,0,18,4,96,181,0,18,177] [] (by decide +kernel) (by decide +kernel) (by decide +kernel) (by decide +kernel)) rfl rfl (trivial) (trivial)
noncomputable def pX1_take : aPrg := ([(0, .aload_n 0, 0, 0, []),
  (1, .aload_n 1, 0, 0, []),
  (2, .getfield 18, 0, 0, []),
  (5, .putfield 18, 0, 0, []),
  (8, .aload_n 1, 0, 0, []),
  (9, .getfield 9, 0, 0, []),
  (12, .iconst 0, 0, 0, []),
  (13, .aload_n 0, 0, 0, []),
  (14, .getfield 9, 0, 0, []),
  (17, .iconst 0, 0, 0, []),
  (18, .sipush 700, 700, 0, []),
  (21, .invokestatic 22, 0, 0, []),
  (24, .return_, 0, 0, [])],
  fdX1, [(22, a_acp, 5, 2000, 1)], [], [], [], 2)
noncomputable def fX1_take : aMF := a_fn none shp pX1_take 2 2
set_option maxRecDepth 20000 in
theorem kX1_take {l : Launch} {G : aG} (hZ : a_Z l G) : a_Con l G shp yX1_take (.code yX1_take cX1_take 2 none) 2 60 fX1_take :=
  a_mth none hZ.1 hZ.2.1 shp_len (fun _ h => nomatch h) hZ.2.2.1 (by decide +kernel) rfl (foX1 rfl) (a_cok_of trivial) (b_code [42,43,180,0,18,181,0,18,43,180,0,9,3,42,180,0,9,3,17,2,188,184,0,22,177] [] (by decide +kernel) (by decide +kernel) (by decide +kernel) (by decide +kernel)) rfl rfl (trivial) (⟨q_acp hZ 851 rfl rfl rfl,
    trivial⟩)
noncomputable def pX1_push : aPrg := ([(0, .aload_n 0, 0, 0, []),
  (1, .getfield 28, 0, 0, []),
  (4, .bipush 64, 64, 0, []),
  (6, .if_icmp .ge 23, 0, 29, []),
  (9, .aload_n 0, 0, 0, []),
  (10, .getfield 15, 0, 0, []),
  (13, .aload_n 0, 0, 0, []),
  (14, .getfield 28, 0, 0, []),
  (17, .iload_n 1, 0, 0, []),
  (18, .iastore, 0, 0, []),
  (19, .aload_n 0, 0, 0, []),
  (20, .dup, 0, 0, []),
  (21, .getfield 28, 0, 0, []),
  (24, .iconst 1, 1, 0, []),
  (25, .iadd, 0, 0, []),
  (26, .putfield 28, 0, 0, []),
  (29, .return_, 0, 0, [])],
  fdX1, [], [], [], [], 2)
noncomputable def fX1_push : aMF := a_fn none shp pX1_push 2 2
set_option maxRecDepth 20000 in
theorem kX1_push {l : Launch} {G : aG} (hZ : a_Z l G) : a_Con l G shp yX1_push (.code yX1_push cX1_push 2 none) 1 16 fX1_push :=
  a_mth none hZ.1 hZ.2.1 shp_len (fun _ h => nomatch h) hZ.2.2.1 (by decide +kernel) rfl (foX1 rfl) (a_cok_of trivial) (b_code [42,180,0,28,16,64,162,0,23,42,180,0,15,42,180,0,28,27,79,42,89,180,0,28,4,96,181,0,28,177] [] (by decide +kernel) (by decide +kernel) (by decide +kernel) (by decide +kernel)) rfl rfl (trivial) (trivial)
noncomputable def pX1_bit : aPrg := ([(0, .iload_n 0, 0, 0, []),
  (1, .ifCond .eq 7, 0, 8, []),
  (4, .iconst 1, 1, 0, []),
  (5, .goto 4, 0, 9, []),
  (8, .iconst 0, 0, 0, []),
  (9, .ireturn, 0, 0, [])],
  fdX1, [], [], [], [], 0)
noncomputable def fX1_bit : aMF := a_fn none shp pX1_bit 1 1
set_option maxRecDepth 20000 in
theorem kX1_bit {l : Launch} {G : aG} (hZ : a_Z l G) : a_Con l G shp yX1_bit (.code yX1_bit cX1_bit 1 (some .int)) 1 16 fX1_bit :=
  a_mth none hZ.1 hZ.2.1 shp_len (fun _ h => nomatch h) hZ.2.2.1 (by decide +kernel) rfl (foX1 rfl) (a_cok_of trivial) (b_code [26,153,0,7,4,167,0,4,3,172] [] (by decide +kernel) (by decide +kernel) (by decide +kernel) (by decide +kernel)) rfl rfl (trivial) (trivial)
noncomputable def pX1_turn : aPrg := ([(0, .aload_n 0, 0, 0, []),
  (1, .getfield 28, 0, 0, []),
  (4, .iconst 1, 1, 0, []),
  (5, .if_icmp .lt 36, 0, 41, []),
  (8, .aload_n 0, 0, 0, []),
  (9, .getfield 15, 0, 0, []),
  (12, .aload_n 0, 0, 0, []),
  (13, .getfield 28, 0, 0, []),
  (16, .iconst 1, 1, 0, []),
  (17, .isub, 0, 0, []),
  (18, .aload_n 0, 0, 0, []),
  (19, .getfield 15, 0, 0, []),
  (22, .aload_n 0, 0, 0, []),
  (23, .getfield 28, 0, 0, []),
  (26, .iconst 1, 1, 0, []),
  (27, .isub, 0, 0, []),
  (28, .iaload, 0, 0, []),
  (29, .ifCond .ne 7, 0, 36, []),
  (32, .iconst 1, 1, 0, []),
  (33, .goto 4, 0, 37, []),
  (36, .iconst 0, 0, 0, []),
  (37, .invokestatic 44, 0, 0, []),
  (40, .iastore, 0, 0, []),
  (41, .return_, 0, 0, [])],
  fdX1, [(44, fX1_bit, 1, 2000, 0)], [], [], [], 2)
noncomputable def fX1_turn : aMF := a_fn none shp pX1_turn 1 1
set_option maxRecDepth 20000 in
theorem wkX1_bit : ∀ w ∈ [Cond.code yX1_bit cX1_bit 1 (some .int), .initialized yX1_bit.cls, .static yX1_bit], w ∈ lw_g := a_ps [875, 99, 874] rfl rfl
theorem hdX1_bit : yX1_bit.cls ≠ "java/lang/invoke/MethodHandle" ∧ yX1_bit.cls ≠ "java/lang/invoke/VarHandle" ∧ (parseMethodDescriptor yX1_bit.desc).map (fun d => d.parameters.length) = some 1 := by decide +kernel
set_option maxRecDepth 20000 in
theorem lkX1_44 : Cond.methodLink RX1 44 yX1_bit ∈ lw_g := a_p1 873 rfl rfl
set_option maxRecDepth 20000 in
theorem kX1_turn {l : Launch} {G : aG} (hZ : a_Z l G) : a_Con l G shp yX1_turn (.code yX1_turn cX1_turn 1 none) 2 36 fX1_turn :=
  a_mth none hZ.1 hZ.2.1 shp_len (fun _ h => nomatch h) hZ.2.2.1 (by decide +kernel) rfl (foX1 rfl) (a_cok_of trivial) (b_code [42,180,0,28,4,161,0,36,42,180,0,15,42,180,0,28,4,100,42,180,0,15,42,180,0,28,4,100,46,154,0,7,4,167,0,4,3,184,0,44,79,177] [] (by decide +kernel) (by decide +kernel) (by decide +kernel) (by decide +kernel)) rfl rfl (trivial) (⟨a_CQ_s hZ.2.1 (kX1_bit hZ) lkX1_44 (a_CF_s wkX1_bit lkX1_44 hdX1_bit) rfl rfl,
    trivial⟩)
noncomputable def pX1_choose : aPrg := ([(0, .aload_n 0, 0, 0, []),
  (1, .getfield 28, 0, 0, []),
  (4, .iconst 3, 3, 0, []),
  (5, .if_icmp .lt 61, 0, 66, []),
  (8, .aload_n 0, 0, 0, []),
  (9, .dup, 0, 0, []),
  (10, .getfield 28, 0, 0, []),
  (13, .iconst 2, 2, 0, []),
  (14, .isub, 0, 0, []),
  (15, .putfield 28, 0, 0, []),
  (18, .aload_n 0, 0, 0, []),
  (19, .getfield 15, 0, 0, []),
  (22, .aload_n 0, 0, 0, []),
  (23, .getfield 28, 0, 0, []),
  (26, .iconst 1, 1, 0, []),
  (27, .isub, 0, 0, []),
  (28, .aload_n 0, 0, 0, []),
  (29, .getfield 15, 0, 0, []),
  (32, .aload_n 0, 0, 0, []),
  (33, .getfield 28, 0, 0, []),
  (36, .iconst 1, 1, 0, []),
  (37, .isub, 0, 0, []),
  (38, .iaload, 0, 0, []),
  (39, .ifCond .eq 15, 0, 54, []),
  (42, .aload_n 0, 0, 0, []),
  (43, .getfield 15, 0, 0, []),
  (46, .aload_n 0, 0, 0, []),
  (47, .getfield 28, 0, 0, []),
  (50, .iaload, 0, 0, []),
  (51, .goto 14, 0, 65, []),
  (54, .aload_n 0, 0, 0, []),
  (55, .getfield 15, 0, 0, []),
  (58, .aload_n 0, 0, 0, []),
  (59, .getfield 28, 0, 0, []),
  (62, .iconst 1, 1, 0, []),
  (63, .iadd, 0, 0, []),
  (64, .iaload, 0, 0, []),
  (65, .iastore, 0, 0, []),
  (66, .return_, 0, 0, [])],
  fdX1, [], [], [], [], 2)
noncomputable def fX1_choose : aMF := a_fn none shp pX1_choose 1 1
set_option maxRecDepth 20000 in
theorem kX1_choose {l : Launch} {G : aG} (hZ : a_Z l G) : a_Con l G shp yX1_choose (.code yX1_choose cX1_choose 1 none) 1 16 fX1_choose :=
  a_mth none hZ.1 hZ.2.1 shp_len (fun _ h => nomatch h) hZ.2.2.1 (by decide +kernel) rfl (foX1 rfl) (a_cok_of trivial) (b_code [42,180,0,28,6,161,0,61,42,89,180,0,28,5,100,181,0,28,42,180,0,15,42,180,0,28,4,100,42,180,0,15,42,180,0,28,4,100,46,153,0,15,42,180,0,15,42,180,0,28,46,167,0,14,42,180,0,15,42,180,0,28,4,96,46,79,177] [] (by decide +kernel) (by decide +kernel) (by decide +kernel) (by decide +kernel)) rfl rfl (trivial) (trivial)
noncomputable def pX1_join : aPrg := ([(0, .iload_n 0, 0, 0, []),
  (1, .tableswitch 121 (-12) (-5) #[117, 113, 109, 95, 81, 121, 64, 47], 0, 122, [((-12), 118), ((-11), 114), ((-10), 110), ((-9), 96), ((-8), 82), ((-7), 122), ((-6), 65), ((-5), 48)]),
  (48, .iload_n 1, 0, 0, []),
  (49, .ifCond .ne 7, 0, 56, []),
  (52, .iload_n 2, 0, 0, []),
  (53, .ifCond .eq 7, 0, 60, []),
  (56, .iconst 1, 1, 0, []),
  (57, .goto 4, 0, 61, []),
  (60, .iconst 0, 0, 0, []),
  (61, .invokestatic 44, 0, 0, []),
  (64, .ireturn, 0, 0, []),
  (65, .iload_n 1, 0, 0, []),
  (66, .ifCond .eq 11, 0, 77, []),
  (69, .iload_n 2, 0, 0, []),
  (70, .ifCond .eq 7, 0, 77, []),
  (73, .iconst 1, 1, 0, []),
  (74, .goto 4, 0, 78, []),
  (77, .iconst 0, 0, 0, []),
  (78, .invokestatic 44, 0, 0, []),
  (81, .ireturn, 0, 0, []),
  (82, .iload_n 1, 0, 0, []),
  (83, .iload_n 2, 0, 0, []),
  (84, .if_icmp .ge 7, 0, 91, []),
  (87, .iconst 1, 1, 0, []),
  (88, .goto 4, 0, 92, []),
  (91, .iconst 0, 0, 0, []),
  (92, .invokestatic 44, 0, 0, []),
  (95, .ireturn, 0, 0, []),
  (96, .iload_n 1, 0, 0, []),
  (97, .iload_n 2, 0, 0, []),
  (98, .if_icmp .ne 7, 0, 105, []),
  (101, .iconst 1, 1, 0, []),
  (102, .goto 4, 0, 106, []),
  (105, .iconst 0, 0, 0, []),
  (106, .invokestatic 44, 0, 0, []),
  (109, .ireturn, 0, 0, []),
  (110, .iload_n 1, 0, 0, []),
  (111, .iload_n 2, 0, 0, []),
  (112, .iadd, 0, 0, []),
  (113, .ireturn, 0, 0, []),
  (114, .iload_n 1, 0, 0, []),
  (115, .iload_n 2, 0, 0, []),
  (116, .isub, 0, 0, []),
  (117, .ireturn, 0, 0, []),
  (118, .iload_n 1, 0, 0, []),
  (119, .iload_n 2, 0, 0, []),
  (120, .imul, 0, 0, []),
  (121, .ireturn, 0, 0, []),
  (122, .iload_n 2, 0, 0, []),
  (123, .ifCond .ne 7, 0, 130, []),
  (126, .iconst 0, 0, 0, []),
  (127, .goto 6, 0, 133, []),
  (130, .iload_n 1, 0, 0, []),
  (131, .iload_n 2, 0, 0, []),
  (132, .idiv, 0, 0, []),
  (133, .ireturn, 0, 0, [])],
  fdX1, [(44, fX1_bit, 1, 2000, 0)], [], [], [], 0)
noncomputable def fX1_join : aMF := a_fn none shp pX1_join 3 3
set_option maxRecDepth 20000 in
theorem kX1_join {l : Launch} {G : aG} (hZ : a_Z l G) : a_Con l G shp yX1_join (.code yX1_join cX1_join 3 (some .int)) 2 36 fX1_join :=
  a_mth none hZ.1 hZ.2.1 shp_len (fun _ h => nomatch h) hZ.2.2.1 (by decide +kernel) rfl (foX1 rfl) (a_cok_of trivial) (b_code [26,170,0,0,0,0,0,121,255,255,255,244,255,255,255,251,0,0,0,117,0,0,0,113,0,0,0,109,0,0,0,95,0,0,0,81,0,0,0,121,0,0,0,64,0,0,0,47,27,154,0,7,28,153,0,7,4,167,0,4,3,184,0,44,172,27,153,0,11,28,153,0,7,4,167,0,4,3,184,0,44,172,27,28,162,0,7,4,167,0,4,3,184,0,44,172,27,28,160,0,7,4,167,0,4,3,184,0,44,172,27,28,96,172,27,28,100,172,27,28,104,172,28,154,0,7,3,167,0,6,27,28,108,172] [(1, 47)] (by decide +kernel) (by decide +kernel) (by decide +kernel) (by decide +kernel)) rfl rfl (trivial) (⟨a_CQ_s hZ.2.1 (kX1_bit hZ) lkX1_44 (a_CF_s wkX1_bit lkX1_44 hdX1_bit) rfl rfl,
    trivial⟩)
noncomputable def pX1_work : aPrg := ([(0, .aload_n 0, 0, 0, []),
  (1, .getfield 28, 0, 0, []),
  (4, .iconst 2, 2, 0, []),
  (5, .if_icmp .lt 48, 0, 53, []),
  (8, .aload_n 0, 0, 0, []),
  (9, .dup, 0, 0, []),
  (10, .getfield 28, 0, 0, []),
  (13, .iconst 1, 1, 0, []),
  (14, .isub, 0, 0, []),
  (15, .putfield 28, 0, 0, []),
  (18, .aload_n 0, 0, 0, []),
  (19, .getfield 15, 0, 0, []),
  (22, .aload_n 0, 0, 0, []),
  (23, .getfield 28, 0, 0, []),
  (26, .iconst 1, 1, 0, []),
  (27, .isub, 0, 0, []),
  (28, .iload_n 1, 0, 0, []),
  (29, .aload_n 0, 0, 0, []),
  (30, .getfield 15, 0, 0, []),
  (33, .aload_n 0, 0, 0, []),
  (34, .getfield 28, 0, 0, []),
  (37, .iconst 1, 1, 0, []),
  (38, .isub, 0, 0, []),
  (39, .iaload, 0, 0, []),
  (40, .aload_n 0, 0, 0, []),
  (41, .getfield 15, 0, 0, []),
  (44, .aload_n 0, 0, 0, []),
  (45, .getfield 28, 0, 0, []),
  (48, .iaload, 0, 0, []),
  (49, .invokestatic 48, 0, 0, []),
  (52, .iastore, 0, 0, []),
  (53, .return_, 0, 0, [])],
  fdX1, [(48, fX1_join, 3, 2000, 0)], [], [], [], 2)
noncomputable def fX1_work : aMF := a_fn none shp pX1_work 2 2
set_option maxRecDepth 20000 in
theorem wkX1_join : ∀ w ∈ [Cond.code yX1_join cX1_join 3 (some .int), .initialized yX1_join.cls, .static yX1_join], w ∈ lw_g := a_ps [886, 99, 885] rfl rfl
theorem hdX1_join : yX1_join.cls ≠ "java/lang/invoke/MethodHandle" ∧ yX1_join.cls ≠ "java/lang/invoke/VarHandle" ∧ (parseMethodDescriptor yX1_join.desc).map (fun d => d.parameters.length) = some 3 := by decide +kernel
set_option maxRecDepth 20000 in
theorem lkX1_48 : Cond.methodLink RX1 48 yX1_join ∈ lw_g := a_p1 884 rfl rfl
set_option maxRecDepth 20000 in
theorem kX1_work {l : Launch} {G : aG} (hZ : a_Z l G) : a_Con l G shp yX1_work (.code yX1_work cX1_work 2 none) 3 58 fX1_work :=
  a_mth none hZ.1 hZ.2.1 shp_len (fun _ h => nomatch h) hZ.2.2.1 (by decide +kernel) rfl (foX1 rfl) (a_cok_of trivial) (b_code [42,180,0,28,5,161,0,48,42,89,180,0,28,4,100,181,0,28,42,180,0,15,42,180,0,28,4,100,27,42,180,0,15,42,180,0,28,4,100,46,42,180,0,15,42,180,0,28,46,184,0,48,79,177] [] (by decide +kernel) (by decide +kernel) (by decide +kernel) (by decide +kernel)) rfl rfl (trivial) (⟨a_CQ_s hZ.2.1 (kX1_join hZ) lkX1_48 (a_CF_s wkX1_join lkX1_48 hdX1_join) rfl rfl,
    trivial⟩)
noncomputable def pX1_reckon : aPrg := ([(0, .aload_n 0, 0, 0, []),
  (1, .iconst 0, 0, 0, []),
  (2, .putfield 28, 0, 0, []),
  (5, .iconst 0, 0, 0, []),
  (6, .istore 5, 0, 0, []),
  (8, .iload 5, 0, 0, []),
  (10, .aload_n 0, 0, 0, []),
  (11, .getfield 18, 0, 0, []),
  (14, .if_icmp .ge 159, 0, 173, []),
  (17, .aload_n 0, 0, 0, []),
  (18, .getfield 9, 0, 0, []),
  (21, .iload 5, 0, 0, []),
  (23, .iaload, 0, 0, []),
  (24, .istore 6, 0, 0, []),
  (26, .iload 6, 0, 0, []),
  (28, .tableswitch 119 (-14) (-1) #[112, 119, 119, 119, 119, 119, 119, 105, 119, 119, 96, 88, 80, 72], 0, 147, [((-14), 140), ((-13), 147), ((-12), 147), ((-11), 147), ((-10), 147), ((-9), 147), ((-8), 147), ((-7), 133), ((-6), 147), ((-5), 147), ((-4), 124), ((-3), 116), ((-2), 108), ((-1), 100)]),
  (100, .aload_n 0, 0, 0, []),
  (101, .iload_n 1, 0, 0, []),
  (102, .invokevirtual 31, 0, 0, []),
  (105, .goto 62, 0, 167, []),
  (108, .aload_n 0, 0, 0, []),
  (109, .iload_n 2, 0, 0, []),
  (110, .invokevirtual 31, 0, 0, []),
  (113, .goto 54, 0, 167, []),
  (116, .aload_n 0, 0, 0, []),
  (117, .iload_n 3, 0, 0, []),
  (118, .invokevirtual 31, 0, 0, []),
  (121, .goto 46, 0, 167, []),
  (124, .aload_n 0, 0, 0, []),
  (125, .iload 4, 0, 0, []),
  (127, .invokevirtual 31, 0, 0, []),
  (130, .goto 37, 0, 167, []),
  (133, .aload_n 0, 0, 0, []),
  (134, .invokevirtual 35, 0, 0, []),
  (137, .goto 30, 0, 167, []),
  (140, .aload_n 0, 0, 0, []),
  (141, .invokevirtual 38, 0, 0, []),
  (144, .goto 23, 0, 167, []),
  (147, .iload 6, 0, 0, []),
  (149, .ifCond .lt 12, 0, 161, []),
  (152, .aload_n 0, 0, 0, []),
  (153, .iload 6, 0, 0, []),
  (155, .invokevirtual 31, 0, 0, []),
  (158, .goto 9, 0, 167, []),
  (161, .aload_n 0, 0, 0, []),
  (162, .iload 6, 0, 0, []),
  (164, .invokevirtual 41, 0, 0, []),
  (167, .iinc 5 1, 1, 0, []),
  (170, .goto (-162), 0, 8, []),
  (173, .aload_n 0, 0, 0, []),
  (174, .getfield 28, 0, 0, []),
  (177, .ifCond .le 17, 0, 194, []),
  (180, .aload_n 0, 0, 0, []),
  (181, .getfield 15, 0, 0, []),
  (184, .aload_n 0, 0, 0, []),
  (185, .getfield 28, 0, 0, []),
  (188, .iconst 1, 1, 0, []),
  (189, .isub, 0, 0, []),
  (190, .iaload, 0, 0, []),
  (191, .goto 4, 0, 195, []),
  (194, .iconst 0, 0, 0, []),
  (195, .ireturn, 0, 0, [])],
  fdX1, [(31, fX1_push, 2, 1, 1), (35, fX1_turn, 1, 1, 1), (38, fX1_choose, 1, 1, 1), (41, fX1_work, 2, 1, 1)], [], [], [], 0)
noncomputable def fX1_reckon : aMF := a_fn none shp pX1_reckon 7 5
set_option maxRecDepth 20000 in
theorem wkX1_push : ∀ w ∈ [Cond.code yX1_push cX1_push 2 none, .initialized yX1_push.cls, .instanceMethod yX1_push, .selects yX1_push.cls yX1_push yX1_push], w ∈ lw_g := a_ps [868, 99, 867, 34] rfl rfl
theorem hdX1_push : yX1_push.cls ≠ "java/lang/invoke/MethodHandle" ∧ yX1_push.cls ≠ "java/lang/invoke/VarHandle" ∧ (parseMethodDescriptor yX1_push.desc).map (fun d => d.parameters.length) = some 1 := by decide +kernel
set_option maxRecDepth 20000 in
theorem lkX1_31 : Cond.methodLink RX1 31 yX1_push ∈ lw_g := a_p1 865 rfl rfl
set_option maxRecDepth 20000 in
theorem wkX1_turn : ∀ w ∈ [Cond.code yX1_turn cX1_turn 1 none, .initialized yX1_turn.cls, .instanceMethod yX1_turn, .selects yX1_turn.cls yX1_turn yX1_turn], w ∈ lw_g := a_ps [872, 99, 871, 35] rfl rfl
theorem hdX1_turn : yX1_turn.cls ≠ "java/lang/invoke/MethodHandle" ∧ yX1_turn.cls ≠ "java/lang/invoke/VarHandle" ∧ (parseMethodDescriptor yX1_turn.desc).map (fun d => d.parameters.length) = some 0 := by decide +kernel
set_option maxRecDepth 20000 in
theorem lkX1_35 : Cond.methodLink RX1 35 yX1_turn ∈ lw_g := a_p1 869 rfl rfl
set_option maxRecDepth 20000 in
theorem wkX1_choose : ∀ w ∈ [Cond.code yX1_choose cX1_choose 1 none, .initialized yX1_choose.cls, .instanceMethod yX1_choose, .selects yX1_choose.cls yX1_choose yX1_choose], w ∈ lw_g := a_ps [879, 99, 878, 36] rfl rfl
theorem hdX1_choose : yX1_choose.cls ≠ "java/lang/invoke/MethodHandle" ∧ yX1_choose.cls ≠ "java/lang/invoke/VarHandle" ∧ (parseMethodDescriptor yX1_choose.desc).map (fun d => d.parameters.length) = some 0 := by decide +kernel
set_option maxRecDepth 20000 in
theorem lkX1_38 : Cond.methodLink RX1 38 yX1_choose ∈ lw_g := a_p1 876 rfl rfl
set_option maxRecDepth 20000 in
theorem wkX1_work : ∀ w ∈ [Cond.code yX1_work cX1_work 2 none, .initialized yX1_work.cls, .instanceMethod yX1_work, .selects yX1_work.cls yX1_work yX1_work], w ∈ lw_g := a_ps [883, 99, 882, 37] rfl rfl
theorem hdX1_work : yX1_work.cls ≠ "java/lang/invoke/MethodHandle" ∧ yX1_work.cls ≠ "java/lang/invoke/VarHandle" ∧ (parseMethodDescriptor yX1_work.desc).map (fun d => d.parameters.length) = some 1 := by decide +kernel
set_option maxRecDepth 20000 in
theorem lkX1_41 : Cond.methodLink RX1 41 yX1_work ∈ lw_g := a_p1 880 rfl rfl
set_option maxRecDepth 20000 in
theorem kX1_reckon {l : Launch} {G : aG} (hZ : a_Z l G) : a_Con l G shp yX1_reckon (.code yX1_reckon cX1_reckon 7 (some .int)) 4 79 fX1_reckon :=
  a_mth none hZ.1 hZ.2.1 shp_len (fun _ h => nomatch h) hZ.2.2.1 (by decide +kernel) rfl (foX1 rfl) (a_cok_of trivial) (b_code [42,3,181,0,28,3,54,5,21,5,42,180,0,18,162,0,159,42,180,0,9,21,5,46,54,6,21,6,170,0,0,0,0,0,0,119,255,255,255,242,255,255,255,255,0,0,0,112,0,0,0,119,0,0,0,119,0,0,0,119,0,0,0,119,0,0,0,119,0,0,0,119,0,0,0,105,0,0,0,119,0,0,0,119,0,0,0,96,0,0,0,88,0,0,0,80,0,0,0,72,42,27,182,0,31,167,0,62,42,28,182,0,31,167,0,54,42,29,182,0,31,167,0,46,42,21,4,182,0,31,167,0,37,42,182,0,35,167,0,30,42,182,0,38,167,0,23,21,6,155,0,12,42,21,6,182,0,31,167,0,9,42,21,6,182,0,41,132,5,1,167,255,94,42,180,0,28,158,0,17,42,180,0,15,42,180,0,28,4,100,46,167,0,4,3,172] [(28, 72)] (by decide +kernel) (by decide +kernel) (by decide +kernel) (by decide +kernel)) rfl rfl (trivial) (⟨a_CQ_v hZ.2.1 (kX1_push hZ) lkX1_31 (a_CF_v TX1 4 wkX1_push lkX1_31 hdX1_push ⟨by decide, by decide⟩ rfl) rfl rfl,
    ⟨a_CQ_v hZ.2.1 (kX1_turn hZ) lkX1_35 (a_CF_v TX1 4 wkX1_turn lkX1_35 hdX1_turn ⟨by decide, by decide⟩ rfl) rfl rfl,
    ⟨a_CQ_v hZ.2.1 (kX1_choose hZ) lkX1_38 (a_CF_v TX1 4 wkX1_choose lkX1_38 hdX1_choose ⟨by decide, by decide⟩ rfl) rfl rfl,
    ⟨a_CQ_v hZ.2.1 (kX1_work hZ) lkX1_41 (a_CF_v TX1 4 wkX1_work lkX1_41 hdX1_work ⟨by decide, by decide⟩ rfl) rfl rfl,
    trivial⟩⟩⟩⟩)
noncomputable def pX2_meetNew : aPrg := ([(0, .aload_n 0, 0, 0, []),
  (1, .getfield 28, 0, 0, []),
  (4, .sipush 4000, 4000, 0, []),
  (7, .if_icmp .lt 9, 0, 16, []),
  (10, .aload_n 0, 0, 0, []),
  (11, .iconst 1, 1, 0, []),
  (12, .putfield 32, 0, 0, []),
  (15, .return_, 0, 0, []),
  (16, .aload_n 0, 0, 0, []),
  (17, .getfield 15, 0, 0, []),
  (20, .iload_n 2, 0, 0, []),
  (21, .iload_n 1, 0, 0, []),
  (22, .iastore, 0, 0, []),
  (23, .aload_n 0, 0, 0, []),
  (24, .getfield 11, 0, 0, []),
  (27, .aload_n 0, 0, 0, []),
  (28, .getfield 28, 0, 0, []),
  (31, .iload_n 1, 0, 0, []),
  (32, .iastore, 0, 0, []),
  (33, .aload_n 0, 0, 0, []),
  (34, .dup, 0, 0, []),
  (35, .getfield 28, 0, 0, []),
  (38, .iconst 1, 1, 0, []),
  (39, .iadd, 0, 0, []),
  (40, .putfield 28, 0, 0, []),
  (43, .return_, 0, 0, [])],
  fdX2, [], [], [], [], 2)
noncomputable def fX2_meetNew : aMF := a_fn none shp pX2_meetNew 3 3
set_option maxRecDepth 20000 in
theorem kX2_meetNew {l : Launch} {G : aG} (hZ : a_Z l G) : a_Con l G shp yX2_meetNew (.code yX2_meetNew cX2_meetNew 3 none) 1 16 fX2_meetNew :=
  a_mth none hZ.1 hZ.2.1 shp_len (fun _ h => nomatch h) hZ.2.2.1 (by decide +kernel) rfl (foX2 rfl) (a_cok_of trivial) (b_code [42,180,0,28,17,15,160,161,0,9,42,4,181,0,32,177,42,180,0,15,28,27,79,42,180,0,11,42,180,0,28,27,79,42,89,180,0,28,4,96,181,0,28,177] [] (by decide +kernel) (by decide +kernel) (by decide +kernel) (by decide +kernel)) rfl rfl (trivial) (trivial)
noncomputable def pX2_meet : aPrg := ([(0, .iload_n 1, 0, 0, []),
  (1, .iload_n 2, 0, 0, []),
  (2, .bipush 12, 12, 0, []),
  (4, .ishl, 0, 0, []),
  (5, .ior, 0, 0, []),
  (6, .istore_n 3, 0, 0, []),
  (7, .iload_n 3, 0, 0, []),
  (8, .ldc 66, 0, 0, []),
  (10, .imul, 0, 0, []),
  (11, .bipush 19, 19, 0, []),
  (13, .iushr, 0, 0, []),
  (14, .istore 4, 0, 0, []),
  (16, .iconst 0, 0, 0, []),
  (17, .istore 5, 0, 0, []),
  (19, .iload 5, 0, 0, []),
  (21, .sipush 8192, 8192, 0, []),
  (24, .if_icmp .ge 49, 0, 73, []),
  (27, .aload_n 0, 0, 0, []),
  (28, .getfield 15, 0, 0, []),
  (31, .iload 4, 0, 0, []),
  (33, .iaload, 0, 0, []),
  (34, .istore 6, 0, 0, []),
  (36, .iload 6, 0, 0, []),
  (38, .iload_n 3, 0, 0, []),
  (39, .if_icmp .ne 4, 0, 43, []),
  (42, .return_, 0, 0, []),
  (43, .iload 6, 0, 0, []),
  (45, .iconst (-1), (-1), 0, []),
  (46, .if_icmp .ne 11, 0, 57, []),
  (49, .aload_n 0, 0, 0, []),
  (50, .iload_n 3, 0, 0, []),
  (51, .iload 4, 0, 0, []),
  (53, .invokevirtual 67, 0, 0, []),
  (56, .return_, 0, 0, []),
  (57, .iload 4, 0, 0, []),
  (59, .iconst 1, 1, 0, []),
  (60, .iadd, 0, 0, []),
  (61, .sipush 8191, 8191, 0, []),
  (64, .iand, 0, 0, []),
  (65, .istore 4, 0, 0, []),
  (67, .iinc 5 1, 1, 0, []),
  (70, .goto (-51), 0, 19, []),
  (73, .return_, 0, 0, [])],
  fdX2, [(67, fX2_meetNew, 3, 2, 1)], [(66, .int (-1640531535 : Int32))], [], [], 2)
noncomputable def fX2_meet : aMF := a_fn none shp pX2_meet 7 3
set_option maxRecDepth 20000 in
theorem wkX2_meetNew : ∀ w ∈ [Cond.code yX2_meetNew cX2_meetNew 3 none, .initialized yX2_meetNew.cls, .instanceMethod yX2_meetNew, .selects yX2_meetNew.cls yX2_meetNew yX2_meetNew], w ∈ lw_g := a_ps [1006, 103, 1005, 42] rfl rfl
theorem hdX2_meetNew : yX2_meetNew.cls ≠ "java/lang/invoke/MethodHandle" ∧ yX2_meetNew.cls ≠ "java/lang/invoke/VarHandle" ∧ (parseMethodDescriptor yX2_meetNew.desc).map (fun d => d.parameters.length) = some 2 := by decide +kernel
set_option maxRecDepth 20000 in
theorem lkX2_67 : Cond.methodLink RX2 67 yX2_meetNew ∈ lw_g := a_p1 1003 rfl rfl
set_option maxRecDepth 20000 in
theorem kX2_meet {l : Launch} {G : aG} (hZ : a_Z l G) : a_Con l G shp yX2_meet (.code yX2_meet cX2_meet 7 none) 2 38 fX2_meet :=
  a_mth none hZ.1 hZ.2.1 shp_len (fun _ h => nomatch h) hZ.2.2.1 (by decide +kernel) rfl (foX2 rfl) (a_cok_of ⟨a_p1 1002 rfl rfl, trivial⟩) (b_code [27,28,16,12,120,128,62,29,18,66,104,16,19,124,54,4,3,54,5,21,5,17,32,0,162,0,49,42,180,0,15,21,4,46,54,6,21,6,29,160,0,4,177,21,6,2,160,0,11,42,29,21,4,182,0,67,177,21,4,4,96,17,31,255,126,54,4,132,5,1,167,255,205,177] [] (by decide +kernel) (by decide +kernel) (by decide +kernel) (by decide +kernel)) rfl rfl (trivial) (⟨a_CQ_v hZ.2.1 (kX2_meetNew hZ) lkX2_67 (a_CF_v TX2 5 wkX2_meetNew lkX2_67 hdX2_meetNew ⟨by decide, by decide⟩ rfl) rfl rfl,
    trivial⟩)
noncomputable def pX2_tradeForEach : aPrg := ([(0, .iload 4, 0, 0, []),
  (2, .istore 7, 0, 0, []),
  (4, .iload 4, 0, 0, []),
  (6, .invokestatic 60, 0, 0, []),
  (9, .istore 8, 0, 0, []),
  (11, .iload 8, 0, 0, []),
  (13, .ifCond .le 48, 0, 61, []),
  (16, .iload 7, 0, 0, []),
  (18, .iload 7, 0, 0, []),
  (20, .ineg, 0, 0, []),
  (21, .iand, 0, 0, []),
  (22, .istore 9, 0, 0, []),
  (24, .iload 7, 0, 0, []),
  (26, .iload 9, 0, 0, []),
  (28, .ixor, 0, 0, []),
  (29, .istore 7, 0, 0, []),
  (31, .iload_n 3, 0, 0, []),
  (32, .iload 9, 0, 0, []),
  (34, .ior, 0, 0, []),
  (35, .istore 10, 0, 0, []),
  (37, .aload_n 0, 0, 0, []),
  (38, .iload_n 1, 0, 0, []),
  (39, .iload 10, 0, 0, []),
  (41, .iload 5, 0, 0, []),
  (43, .iand, 0, 0, []),
  (44, .ixor, 0, 0, []),
  (45, .iload_n 2, 0, 0, []),
  (46, .iload 10, 0, 0, []),
  (48, .iload 6, 0, 0, []),
  (50, .iand, 0, 0, []),
  (51, .ixor, 0, 0, []),
  (52, .invokevirtual 36, 0, 0, []),
  (55, .iinc 8 (-1), (-1), 0, []),
  (58, .goto (-47), 0, 11, []),
  (61, .return_, 0, 0, [])],
  fdX2, [(60, fJ6_bitCount_0f7a4, 1, 2000, 0), (36, fX2_meet, 3, 2, 1)], [], [], [], 2)
noncomputable def fX2_tradeForEach : aMF := a_fn none shp pX2_tradeForEach 11 7
set_option maxRecDepth 20000 in
theorem lkX2_60 : Cond.methodLink RX2 60 yJ6_bitCount_0f7a4 ∈ lw_g := a_p1 1016 rfl rfl
set_option maxRecDepth 20000 in
theorem wkX2_meet : ∀ w ∈ [Cond.code yX2_meet cX2_meet 7 none, .initialized yX2_meet.cls, .instanceMethod yX2_meet, .selects yX2_meet.cls yX2_meet yX2_meet], w ∈ lw_g := a_ps [1001, 103, 1000, 41] rfl rfl
theorem hdX2_meet : yX2_meet.cls ≠ "java/lang/invoke/MethodHandle" ∧ yX2_meet.cls ≠ "java/lang/invoke/VarHandle" ∧ (parseMethodDescriptor yX2_meet.desc).map (fun d => d.parameters.length) = some 2 := by decide +kernel
set_option maxRecDepth 20000 in
theorem lkX2_36 : Cond.methodLink RX2 36 yX2_meet ∈ lw_g := a_p1 998 rfl rfl
set_option maxRecDepth 20000 in
theorem kX2_tradeForEach {l : Launch} {G : aG} (hZ : a_Z l G) : a_Con l G shp yX2_tradeForEach (.code yX2_tradeForEach cX2_tradeForEach 11 none) 3 64 fX2_tradeForEach :=
  a_mth none hZ.1 hZ.2.1 shp_len (fun _ h => nomatch h) hZ.2.2.1 (by decide +kernel) rfl (foX2 rfl) (a_cok_of trivial) (b_code [21,4,54,7,21,4,184,0,60,54,8,21,8,158,0,48,21,7,21,7,116,126,54,9,21,7,21,9,130,54,7,29,21,9,128,54,10,42,27,21,10,21,5,126,130,28,21,10,21,6,126,130,182,0,36,132,8,255,167,255,209,177] [] (by decide +kernel) (by decide +kernel) (by decide +kernel) (by decide +kernel)) rfl rfl (trivial) (⟨a_CQ_s hZ.2.1 (kJ6_bitCount_0f7a4 hZ) lkX2_60 (a_CF_s wkJ6_bitCount_0f7a4 lkX2_60 hdJ6_bitCount_0f7a4) rfl rfl,
    ⟨a_CQ_v hZ.2.1 (kX2_meet hZ) lkX2_36 (a_CF_v TX2 5 wkX2_meet lkX2_36 hdX2_meet ⟨by decide, by decide⟩ rfl) rfl rfl,
    trivial⟩⟩)
noncomputable def pX2_goOn : aPrg := ([(0, .iload_n 3, 0, 0, []),
  (1, .iload_n 1, 0, 0, []),
  (2, .iconst (-1), (-1), 0, []),
  (3, .ixor, 0, 0, []),
  (4, .iand, 0, 0, []),
  (5, .iload_n 2, 0, 0, []),
  (6, .iconst (-1), (-1), 0, []),
  (7, .ixor, 0, 0, []),
  (8, .iand, 0, 0, []),
  (9, .istore 4, 0, 0, []),
  (11, .iconst 0, 0, 0, []),
  (12, .istore 5, 0, 0, []),
  (14, .iload 5, 0, 0, []),
  (16, .aload_n 0, 0, 0, []),
  (17, .getfield 18, 0, 0, []),
  (20, .getfield 48, 0, 0, []),
  (23, .if_icmp .ge 101, 0, 124, []),
  (26, .aload_n 0, 0, 0, []),
  (27, .getfield 32, 0, 0, []),
  (30, .ifCond .ne 94, 0, 124, []),
  (33, .aload_n 0, 0, 0, []),
  (34, .getfield 18, 0, 0, []),
  (37, .getfield 53, 0, 0, []),
  (40, .iload 5, 0, 0, []),
  (42, .iaload, 0, 0, []),
  (43, .iload 4, 0, 0, []),
  (45, .iand, 0, 0, []),
  (46, .istore 6, 0, 0, []),
  (48, .iload_n 1, 0, 0, []),
  (49, .iload 5, 0, 0, []),
  (51, .invokestatic 40, 0, 0, []),
  (54, .ifCond .eq 39, 0, 93, []),
  (57, .aload_n 0, 0, 0, []),
  (58, .iload_n 1, 0, 0, []),
  (59, .iload_n 2, 0, 0, []),
  (60, .iconst 1, 1, 0, []),
  (61, .iload 5, 0, 0, []),
  (63, .ishl, 0, 0, []),
  (64, .iload 6, 0, 0, []),
  (66, .sipush 4095, 4095, 0, []),
  (69, .iconst 0, 0, 0, []),
  (70, .invokevirtual 56, 0, 0, []),
  (73, .aload_n 0, 0, 0, []),
  (74, .iload_n 1, 0, 0, []),
  (75, .iload_n 2, 0, 0, []),
  (76, .iconst 1, 1, 0, []),
  (77, .iload 5, 0, 0, []),
  (79, .ishl, 0, 0, []),
  (80, .iload_n 2, 0, 0, []),
  (81, .sipush 4095, 4095, 0, []),
  (84, .sipush 4095, 4095, 0, []),
  (87, .invokevirtual 56, 0, 0, []),
  (90, .goto 28, 0, 118, []),
  (93, .iload_n 2, 0, 0, []),
  (94, .iload 5, 0, 0, []),
  (96, .invokestatic 40, 0, 0, []),
  (99, .ifCond .eq 19, 0, 118, []),
  (102, .aload_n 0, 0, 0, []),
  (103, .iload_n 1, 0, 0, []),
  (104, .iload_n 2, 0, 0, []),
  (105, .iconst 1, 1, 0, []),
  (106, .iload 5, 0, 0, []),
  (108, .ishl, 0, 0, []),
  (109, .iload 6, 0, 0, []),
  (111, .iconst 0, 0, 0, []),
  (112, .sipush 4095, 4095, 0, []),
  (115, .invokevirtual 56, 0, 0, []),
  (118, .iinc 5 1, 1, 0, []),
  (121, .goto (-107), 0, 14, []),
  (124, .return_, 0, 0, [])],
  fdX2, [(40, fX8_holds, 2, 2000, 0), (56, fX2_tradeForEach, 7, 2, 1)], [], [], [], 2)
noncomputable def fX2_goOn : aMF := a_fn none shp pX2_goOn 7 4
set_option maxRecDepth 20000 in
theorem wkX2_tradeForEach : ∀ w ∈ [Cond.code yX2_tradeForEach cX2_tradeForEach 11 none, .initialized yX2_tradeForEach.cls, .instanceMethod yX2_tradeForEach, .selects yX2_tradeForEach.cls yX2_tradeForEach yX2_tradeForEach], w ∈ lw_g := a_ps [1015, 103, 1014, 44] rfl rfl
theorem hdX2_tradeForEach : yX2_tradeForEach.cls ≠ "java/lang/invoke/MethodHandle" ∧ yX2_tradeForEach.cls ≠ "java/lang/invoke/VarHandle" ∧ (parseMethodDescriptor yX2_tradeForEach.desc).map (fun d => d.parameters.length) = some 6 := by decide +kernel
set_option maxRecDepth 20000 in
theorem lkX2_56 : Cond.methodLink RX2 56 yX2_tradeForEach ∈ lw_g := a_p1 1012 rfl rfl
set_option maxRecDepth 20000 in
theorem kX2_goOn {l : Launch} {G : aG} (hZ : a_Z l G) : a_Con l G shp yX2_goOn (.code yX2_goOn cX2_goOn 7 none) 4 94 fX2_goOn :=
  a_mth none hZ.1 hZ.2.1 shp_len (fun _ h => nomatch h) hZ.2.2.1 (by decide +kernel) rfl (foX2 rfl) (a_cok_of trivial) (b_code [29,27,2,130,126,28,2,130,126,54,4,3,54,5,21,5,42,180,0,18,180,0,48,162,0,101,42,180,0,32,154,0,94,42,180,0,18,180,0,53,21,5,46,21,4,126,54,6,27,21,5,184,0,40,153,0,39,42,27,28,4,21,5,120,21,6,17,15,255,3,182,0,56,42,27,28,4,21,5,120,28,17,15,255,17,15,255,182,0,56,167,0,28,28,21,5,184,0,40,153,0,19,42,27,28,4,21,5,120,21,6,3,17,15,255,182,0,56,132,5,1,167,255,149,177] [] (by decide +kernel) (by decide +kernel) (by decide +kernel) (by decide +kernel)) rfl rfl (trivial) (⟨a_CQ_sn hZ.2.1 (kX8_holds hZ) (a_CF_sn wkX8_holds "StoutShelf" 1007 rfl hdX8_holds) (a_fn_nt rfl rfl) rfl rfl,
    ⟨a_CQ_v hZ.2.1 (kX2_tradeForEach hZ) lkX2_56 (a_CF_v TX2 5 wkX2_tradeForEach lkX2_56 hdX2_tradeForEach ⟨by decide, by decide⟩ rfl) rfl rfl,
    trivial⟩⟩)
noncomputable def pX2_fewestMoves : aPrg := ([(0, .iload_n 1, 0, 0, []),
  (1, .iload_n 2, 0, 0, []),
  (2, .ior, 0, 0, []),
  (3, .iload_n 3, 0, 0, []),
  (4, .ior, 0, 0, []),
  (5, .istore 5, 0, 0, []),
  (7, .aload_n 0, 0, 0, []),
  (8, .getfield 15, 0, 0, []),
  (11, .iconst (-1), (-1), 0, []),
  (12, .invokestatic 22, 0, 0, []),
  (15, .aload_n 0, 0, 0, []),
  (16, .iconst 0, 0, 0, []),
  (17, .putfield 28, 0, 0, []),
  (20, .aload_n 0, 0, 0, []),
  (21, .iconst 0, 0, 0, []),
  (22, .putfield 32, 0, 0, []),
  (25, .aload_n 0, 0, 0, []),
  (26, .iload_n 1, 0, 0, []),
  (27, .iload_n 2, 0, 0, []),
  (28, .invokevirtual 36, 0, 0, []),
  (31, .iconst (-1), (-1), 0, []),
  (32, .istore 6, 0, 0, []),
  (34, .iconst 0, 0, 0, []),
  (35, .istore 7, 0, 0, []),
  (37, .iconst 0, 0, 0, []),
  (38, .istore 8, 0, 0, []),
  (40, .iload 8, 0, 0, []),
  (42, .sipush 4000, 4000, 0, []),
  (45, .if_icmp .ge 100, 0, 145, []),
  (48, .iload 7, 0, 0, []),
  (50, .aload_n 0, 0, 0, []),
  (51, .getfield 28, 0, 0, []),
  (54, .if_icmp .ge 91, 0, 145, []),
  (57, .aload_n 0, 0, 0, []),
  (58, .getfield 28, 0, 0, []),
  (61, .istore 9, 0, 0, []),
  (63, .iload 7, 0, 0, []),
  (65, .iload 9, 0, 0, []),
  (67, .if_icmp .ge 62, 0, 129, []),
  (70, .aload_n 0, 0, 0, []),
  (71, .getfield 32, 0, 0, []),
  (74, .ifCond .ne 55, 0, 129, []),
  (77, .aload_n 0, 0, 0, []),
  (78, .getfield 11, 0, 0, []),
  (81, .iload 7, 0, 0, []),
  (83, .iaload, 0, 0, []),
  (84, .istore 10, 0, 0, []),
  (86, .iload 6, 0, 0, []),
  (88, .iconst (-1), (-1), 0, []),
  (89, .if_icmp .ne 17, 0, 106, []),
  (92, .iload 10, 0, 0, []),
  (94, .iload 4, 0, 0, []),
  (96, .invokestatic 40, 0, 0, []),
  (99, .ifCond .eq 7, 0, 106, []),
  (102, .iload 8, 0, 0, []),
  (104, .istore 6, 0, 0, []),
  (106, .aload_n 0, 0, 0, []),
  (107, .iload 10, 0, 0, []),
  (109, .sipush 4095, 4095, 0, []),
  (112, .iand, 0, 0, []),
  (113, .iload 10, 0, 0, []),
  (115, .bipush 12, 12, 0, []),
  (117, .ishr, 0, 0, []),
  (118, .iload 5, 0, 0, []),
  (120, .invokevirtual 44, 0, 0, []),
  (123, .iinc 7 1, 1, 0, []),
  (126, .goto (-63), 0, 63, []),
  (129, .aload_n 0, 0, 0, []),
  (130, .getfield 32, 0, 0, []),
  (133, .ifCond .eq 6, 0, 139, []),
  (136, .bipush (-2), (-2), 0, []),
  (138, .ireturn, 0, 0, []),
  (139, .iinc 8 1, 1, 0, []),
  (142, .goto (-102), 0, 40, []),
  (145, .iload 6, 0, 0, []),
  (147, .ireturn, 0, 0, [])],
  fdX2, [(22, fJ7_fill_53178, 2, 2000, 1), (36, fX2_meet, 3, 2, 1), (40, fX8_holds, 2, 2000, 0), (44, fX2_goOn, 4, 2, 1)], [], [], [], 0)
noncomputable def fX2_fewestMoves : aMF := a_fn none shp pX2_fewestMoves 11 5
set_option maxRecDepth 20000 in
theorem lkX2_22 : Cond.methodLink RX2 22 yJ7_fill_53178 ∈ lw_g := a_p1 997 rfl rfl
set_option maxRecDepth 20000 in
theorem wkX2_goOn : ∀ w ∈ [Cond.code yX2_goOn cX2_goOn 7 none, .initialized yX2_goOn.cls, .instanceMethod yX2_goOn, .selects yX2_goOn.cls yX2_goOn yX2_goOn], w ∈ lw_g := a_ps [1011, 103, 1010, 43] rfl rfl
theorem hdX2_goOn : yX2_goOn.cls ≠ "java/lang/invoke/MethodHandle" ∧ yX2_goOn.cls ≠ "java/lang/invoke/VarHandle" ∧ (parseMethodDescriptor yX2_goOn.desc).map (fun d => d.parameters.length) = some 3 := by decide +kernel
set_option maxRecDepth 20000 in
theorem lkX2_44 : Cond.methodLink RX2 44 yX2_goOn ∈ lw_g := a_p1 1008 rfl rfl
set_option maxRecDepth 20000 in
theorem kX2_fewestMoves {l : Launch} {G : aG} (hZ : a_Z l G) : a_Con l G shp yX2_fewestMoves (.code yX2_fewestMoves cX2_fewestMoves 11 (some .int)) 5 120 fX2_fewestMoves :=
  a_mth none hZ.1 hZ.2.1 shp_len (fun _ h => nomatch h) hZ.2.2.1 (by decide +kernel) rfl (foX2 rfl) (a_cok_of trivial) (b_code [27,28,128,29,128,54,5,42,180,0,15,2,184,0,22,42,3,181,0,28,42,3,181,0,32,42,27,28,182,0,36,2,54,6,3,54,7,3,54,8,21,8,17,15,160,162,0,100,21,7,42,180,0,28,162,0,91,42,180,0,28,54,9,21,7,21,9,162,0,62,42,180,0,32,154,0,55,42,180,0,11,21,7,46,54,10,21,6,2,160,0,17,21,10,21,4,184,0,40,153,0,7,21,8,54,6,42,21,10,17,15,255,126,21,10,16,12,122,21,5,182,0,44,132,7,1,167,255,193,42,180,0,32,153,0,6,16,254,172,132,8,1,167,255,154,21,6,172] [] (by decide +kernel) (by decide +kernel) (by decide +kernel) (by decide +kernel)) rfl rfl (trivial) (⟨a_CQ_s hZ.2.1 (kJ7_fill_53178 hZ) lkX2_22 (a_CF_s wkJ7_fill_53178 lkX2_22 hdJ7_fill_53178) rfl rfl,
    ⟨a_CQ_v hZ.2.1 (kX2_meet hZ) lkX2_36 (a_CF_v TX2 5 wkX2_meet lkX2_36 hdX2_meet ⟨by decide, by decide⟩ rfl) rfl rfl,
    ⟨a_CQ_sn hZ.2.1 (kX8_holds hZ) (a_CF_sn wkX8_holds "StoutShelf" 1007 rfl hdX8_holds) (a_fn_nt rfl rfl) rfl rfl,
    ⟨a_CQ_v hZ.2.1 (kX2_goOn hZ) lkX2_44 (a_CF_v TX2 5 wkX2_goOn lkX2_44 hdX2_goOn ⟨by decide, by decide⟩ rfl) rfl rfl,
    trivial⟩⟩⟩⟩)
end
section
/-! ===== programs and contracts, written by wip/whole/gen.py ===== -/
noncomputable def pX6_clear : aPrg := ([(0, .aload_n 0, 0, 0, []),
  (1, .iconst 0, 0, 0, []),
  (2, .putfield 34, 0, 0, []),
  (5, .aload_n 0, 0, 0, []),
  (6, .iconst 0, 0, 0, []),
  (7, .putfield 38, 0, 0, []),
  (10, .aload_n 0, 0, 0, []),
  (11, .iconst 0, 0, 0, []),
  (12, .putfield 41, 0, 0, []),
  (15, .aload_n 0, 0, 0, []),
  (16, .getfield 12, 0, 0, []),
  (19, .invokevirtual 45, 0, 0, []),
  (22, .aload_n 0, 0, 0, []),
  (23, .getfield 12, 0, 0, []),
  (26, .iconst (-1), (-1), 0, []),
  (27, .invokevirtual 48, 0, 0, []),
  (30, .aload_n 0, 0, 0, []),
  (31, .getfield 18, 0, 0, []),
  (34, .iconst 0, 0, 0, []),
  (35, .invokestatic 52, 0, 0, []),
  (38, .aload_n 0, 0, 0, []),
  (39, .getfield 22, 0, 0, []),
  (42, .iconst (-1), (-1), 0, []),
  (43, .invokestatic 52, 0, 0, []),
  (46, .aload_n 0, 0, 0, []),
  (47, .getfield 25, 0, 0, []),
  (50, .iconst 0, 0, 0, []),
  (51, .invokestatic 52, 0, 0, []),
  (54, .return_, 0, 0, [])],
  fdX6, [(45, fX1_clear, 1, 1, 1), (48, fX1_add, 2, 1, 1), (52, fJ7_fill_53178, 2, 2000, 1)], [], [], [], 2)
noncomputable def fX6_clear : aMF := a_fn none shp pX6_clear 1 1
set_option maxRecDepth 20000 in
theorem wkX1_clear : ∀ w ∈ [Cond.code yX1_clear cX1_clear 1 none, .initialized yX1_clear.cls, .instanceMethod yX1_clear, .selects yX1_clear.cls yX1_clear yX1_clear], w ∈ lw_g := a_ps [662, 99, 660, 661] rfl rfl
theorem hdX1_clear : yX1_clear.cls ≠ "java/lang/invoke/MethodHandle" ∧ yX1_clear.cls ≠ "java/lang/invoke/VarHandle" ∧ (parseMethodDescriptor yX1_clear.desc).map (fun d => d.parameters.length) = some 0 := by decide +kernel
set_option maxRecDepth 20000 in
theorem lkX6_45 : Cond.methodLink RX6 45 yX1_clear ∈ lw_g := a_p1 659 rfl rfl
set_option maxRecDepth 20000 in
theorem wkX1_add : ∀ w ∈ [Cond.code yX1_add cX1_add 2 none, .initialized yX1_add.cls, .instanceMethod yX1_add, .selects yX1_add.cls yX1_add yX1_add], w ∈ lw_g := a_ps [666, 99, 664, 665] rfl rfl
theorem hdX1_add : yX1_add.cls ≠ "java/lang/invoke/MethodHandle" ∧ yX1_add.cls ≠ "java/lang/invoke/VarHandle" ∧ (parseMethodDescriptor yX1_add.desc).map (fun d => d.parameters.length) = some 1 := by decide +kernel
set_option maxRecDepth 20000 in
theorem lkX6_48 : Cond.methodLink RX6 48 yX1_add ∈ lw_g := a_p1 663 rfl rfl
set_option maxRecDepth 20000 in
theorem lkX6_52 : Cond.methodLink RX6 52 yJ7_fill_53178 ∈ lw_g := a_p1 667 rfl rfl
set_option maxRecDepth 20000 in
theorem kX6_clear {l : Launch} {G : aG} (hZ : a_Z l G) : a_Con l G shp yX6_clear (.code yX6_clear cX6_clear 1 none) 2 39 fX6_clear :=
  a_mth none hZ.1 hZ.2.1 shp_len (fun _ h => nomatch h) hZ.2.2.1 (by decide +kernel) rfl (foX6 rfl) (a_cok_of trivial) (b_code [42,3,181,0,34,42,3,181,0,38,42,3,181,0,41,42,180,0,12,182,0,45,42,180,0,12,2,182,0,48,42,180,0,18,3,184,0,52,42,180,0,22,2,184,0,52,42,180,0,25,3,184,0,52,177] [] (by decide +kernel) (by decide +kernel) (by decide +kernel) (by decide +kernel)) rfl rfl (trivial) (⟨a_CQ_v hZ.2.1 (kX1_clear hZ) lkX6_45 (a_CF_v TX1 4 wkX1_clear lkX6_45 hdX1_clear ⟨by decide, by decide⟩ rfl) rfl rfl,
    ⟨a_CQ_v hZ.2.1 (kX1_add hZ) lkX6_48 (a_CF_v TX1 4 wkX1_add lkX6_48 hdX1_add ⟨by decide, by decide⟩ rfl) rfl rfl,
    ⟨a_CQ_s hZ.2.1 (kJ7_fill_53178 hZ) lkX6_52 (a_CF_s wkJ7_fill_53178 lkX6_52 hdJ7_fill_53178) rfl rfl,
    trivial⟩⟩⟩)
noncomputable def pX5_at : aPrg := ([(0, .iload_n 1, 0, 0, []),
  (1, .ifCond .lt 31, 0, 32, []),
  (4, .iload_n 1, 0, 0, []),
  (5, .aload_n 0, 0, 0, []),
  (6, .getfield 19, 0, 0, []),
  (9, .if_icmp .ge 23, 0, 32, []),
  (12, .iload_n 1, 0, 0, []),
  (13, .sipush 700, 700, 0, []),
  (16, .if_icmp .ge 16, 0, 32, []),
  (19, .aload_n 0, 0, 0, []),
  (20, .getfield 9, 0, 0, []),
  (23, .iload_n 1, 0, 0, []),
  (24, .baload, 0, 0, []),
  (25, .sipush 255, 255, 0, []),
  (28, .iand, 0, 0, []),
  (29, .goto 4, 0, 33, []),
  (32, .iconst (-1), (-1), 0, []),
  (33, .ireturn, 0, 0, [])],
  fdX5, [], [], [], [], 0)
noncomputable def fX5_at : aMF := a_fn none shp pX5_at 2 2
set_option maxRecDepth 20000 in
theorem kX5_at {l : Launch} {G : aG} (hZ : a_Z l G) : a_Con l G shp yX5_at (.code yX5_at cX5_at 2 (some .int)) 1 16 fX5_at :=
  a_mth none hZ.1 hZ.2.1 shp_len (fun _ h => nomatch h) hZ.2.2.1 (by decide +kernel) rfl (foX5 rfl) (a_cok_of trivial) (b_code [27,155,0,31,27,42,180,0,19,162,0,23,27,17,2,188,162,0,16,42,180,0,9,27,51,17,0,255,126,167,0,4,2,172] [] (by decide +kernel) (by decide +kernel) (by decide +kernel) (by decide +kernel)) rfl rfl (trivial) (trivial)
noncomputable def pX5_isBlank : aPrg := ([(0, .iload_n 0, 0, 0, []),
  (1, .bipush 32, 32, 0, []),
  (3, .if_icmp .eq 9, 0, 12, []),
  (6, .iload_n 0, 0, 0, []),
  (7, .bipush 10, 10, 0, []),
  (9, .if_icmp .ne 7, 0, 16, []),
  (12, .iconst 1, 1, 0, []),
  (13, .goto 4, 0, 17, []),
  (16, .iconst 0, 0, 0, []),
  (17, .ireturn, 0, 0, [])],
  fdX5, [], [], [], [], 1)
noncomputable def fX5_isBlank : aMF := a_fn none shp pX5_isBlank 1 1
set_option maxRecDepth 20000 in
theorem kX5_isBlank {l : Launch} {G : aG} (hZ : a_Z l G) : a_Con l G shp yX5_isBlank (.code yX5_isBlank cX5_isBlank 1 (some .boolean)) 1 16 fX5_isBlank :=
  a_mth none hZ.1 hZ.2.1 shp_len (fun _ h => nomatch h) hZ.2.2.1 (by decide +kernel) rfl (foX5 rfl) (a_cok_of trivial) (b_code [26,16,32,159,0,9,26,16,10,160,0,7,4,167,0,4,3,172] [] (by decide +kernel) (by decide +kernel) (by decide +kernel) (by decide +kernel)) rfl rfl (trivial) (trivial)
noncomputable def pJ9_min_7cf53 : aPrg := ([(0, .iload_n 0, 0, 0, []),
  (1, .iload_n 1, 0, 0, []),
  (2, .if_icmp .gt 7, 0, 9, []),
  (5, .iload_n 0, 0, 0, []),
  (6, .goto 4, 0, 10, []),
  (9, .iload_n 1, 0, 0, []),
  (10, .ireturn, 0, 0, [])],
  [], [], [], [], [], 0)
noncomputable def fJ9_min_7cf53 : aMF := a_fn none shp pJ9_min_7cf53 2 2
set_option maxRecDepth 20000 in
theorem kJ9_min_7cf53 {l : Launch} {G : aG} (hZ : a_Z l G) : a_Con l G shp yJ9_min_7cf53 (.code yJ9_min_7cf53 cJ9_min_7cf53 2 (some .int)) 1 16 fJ9_min_7cf53 :=
  a_mtj none hZ.1 hZ.2.1 shp_len (fun _ h => nomatch h) hZ.2.2.1 (by decide +kernel) rfl (a_fok_of [] rfl rfl) (a_cok_of trivial) (b_code [26,27,163,0,7,26,167,0,4,27,172] [] (by decide +kernel) (by decide +kernel) (by decide +kernel) (by decide +kernel)) rfl rfl rfl rfl
noncomputable def pX5_isLetter : aPrg := ([(0, .iload_n 0, 0, 0, []),
  (1, .bipush 97, 97, 0, []),
  (3, .if_icmp .lt 13, 0, 16, []),
  (6, .iload_n 0, 0, 0, []),
  (7, .bipush 122, 122, 0, []),
  (9, .if_icmp .gt 7, 0, 16, []),
  (12, .iconst 1, 1, 0, []),
  (13, .goto 4, 0, 17, []),
  (16, .iconst 0, 0, 0, []),
  (17, .ireturn, 0, 0, [])],
  fdX5, [], [], [], [], 1)
noncomputable def fX5_isLetter : aMF := a_fn none shp pX5_isLetter 1 1
set_option maxRecDepth 20000 in
theorem kX5_isLetter {l : Launch} {G : aG} (hZ : a_Z l G) : a_Con l G shp yX5_isLetter (.code yX5_isLetter cX5_isLetter 1 (some .boolean)) 1 16 fX5_isLetter :=
  a_mth none hZ.1 hZ.2.1 shp_len (fun _ h => nomatch h) hZ.2.2.1 (by decide +kernel) rfl (foX5 rfl) (a_cok_of trivial) (b_code [26,16,97,161,0,13,26,16,122,163,0,7,4,167,0,4,3,172] [] (by decide +kernel) (by decide +kernel) (by decide +kernel) (by decide +kernel)) rfl rfl (trivial) (trivial)
noncomputable def pX5_isDigit : aPrg := ([(0, .iload_n 0, 0, 0, []),
  (1, .bipush 48, 48, 0, []),
  (3, .if_icmp .lt 13, 0, 16, []),
  (6, .iload_n 0, 0, 0, []),
  (7, .bipush 57, 57, 0, []),
  (9, .if_icmp .gt 7, 0, 16, []),
  (12, .iconst 1, 1, 0, []),
  (13, .goto 4, 0, 17, []),
  (16, .iconst 0, 0, 0, []),
  (17, .ireturn, 0, 0, [])],
  fdX5, [], [], [], [], 1)
noncomputable def fX5_isDigit : aMF := a_fn none shp pX5_isDigit 1 1
set_option maxRecDepth 20000 in
theorem kX5_isDigit {l : Launch} {G : aG} (hZ : a_Z l G) : a_Con l G shp yX5_isDigit (.code yX5_isDigit cX5_isDigit 1 (some .boolean)) 1 16 fX5_isDigit :=
  a_mth none hZ.1 hZ.2.1 shp_len (fun _ h => nomatch h) hZ.2.2.1 (by decide +kernel) rfl (foX5 rfl) (a_cok_of trivial) (b_code [26,16,48,161,0,13,26,16,57,163,0,7,4,167,0,4,3,172] [] (by decide +kernel) (by decide +kernel) (by decide +kernel) (by decide +kernel)) rfl rfl (trivial) (trivial)
noncomputable def pX5_next : aPrg := ([(0, .aload_n 0, 0, 0, []),
  (1, .aload_n 0, 0, 0, []),
  (2, .getfield 22, 0, 0, []),
  (5, .putfield 28, 0, 0, []),
  (8, .aload_n 0, 0, 0, []),
  (9, .getfield 28, 0, 0, []),
  (12, .aload_n 0, 0, 0, []),
  (13, .getfield 19, 0, 0, []),
  (16, .if_icmp .ge 30, 0, 46, []),
  (19, .aload_n 0, 0, 0, []),
  (20, .aload_n 0, 0, 0, []),
  (21, .getfield 28, 0, 0, []),
  (24, .invokevirtual 31, 0, 0, []),
  (27, .invokestatic 35, 0, 0, []),
  (30, .ifCond .eq 16, 0, 46, []),
  (33, .aload_n 0, 0, 0, []),
  (34, .dup, 0, 0, []),
  (35, .getfield 28, 0, 0, []),
  (38, .iconst 1, 1, 0, []),
  (39, .iadd, 0, 0, []),
  (40, .putfield 28, 0, 0, []),
  (43, .goto (-35), 0, 8, []),
  (46, .aload_n 0, 0, 0, []),
  (47, .aload_n 0, 0, 0, []),
  (48, .getfield 28, 0, 0, []),
  (51, .invokevirtual 31, 0, 0, []),
  (54, .istore_n 1, 0, 0, []),
  (55, .aload_n 0, 0, 0, []),
  (56, .aload_n 0, 0, 0, []),
  (57, .getfield 28, 0, 0, []),
  (60, .iconst 1, 1, 0, []),
  (61, .iadd, 0, 0, []),
  (62, .aload_n 0, 0, 0, []),
  (63, .getfield 19, 0, 0, []),
  (66, .invokestatic 39, 0, 0, []),
  (69, .putfield 22, 0, 0, []),
  (72, .iload_n 1, 0, 0, []),
  (73, .iconst (-1), (-1), 0, []),
  (74, .if_icmp .ne 11, 0, 85, []),
  (77, .aload_n 0, 0, 0, []),
  (78, .iconst 0, 0, 0, []),
  (79, .putfield 45, 0, 0, []),
  (82, .goto 174, 0, 256, []),
  (85, .iload_n 1, 0, 0, []),
  (86, .invokestatic 48, 0, 0, []),
  (89, .ifCond .eq 46, 0, 135, []),
  (92, .aload_n 0, 0, 0, []),
  (93, .iconst 1, 1, 0, []),
  (94, .putfield 45, 0, 0, []),
  (97, .aload_n 0, 0, 0, []),
  (98, .getfield 22, 0, 0, []),
  (101, .aload_n 0, 0, 0, []),
  (102, .getfield 19, 0, 0, []),
  (105, .if_icmp .ge 151, 0, 256, []),
  (108, .aload_n 0, 0, 0, []),
  (109, .aload_n 0, 0, 0, []),
  (110, .getfield 22, 0, 0, []),
  (113, .invokevirtual 31, 0, 0, []),
  (116, .invokestatic 48, 0, 0, []),
  (119, .ifCond .eq 137, 0, 256, []),
  (122, .aload_n 0, 0, 0, []),
  (123, .dup, 0, 0, []),
  (124, .getfield 22, 0, 0, []),
  (127, .iconst 1, 1, 0, []),
  (128, .iadd, 0, 0, []),
  (129, .putfield 22, 0, 0, []),
  (132, .goto (-35), 0, 97, []),
  (135, .iload_n 1, 0, 0, []),
  (136, .invokestatic 51, 0, 0, []),
  (139, .ifCond .eq 112, 0, 251, []),
  (142, .aload_n 0, 0, 0, []),
  (143, .iconst 2, 2, 0, []),
  (144, .putfield 45, 0, 0, []),
  (147, .aload_n 0, 0, 0, []),
  (148, .iload_n 1, 0, 0, []),
  (149, .bipush 48, 48, 0, []),
  (151, .isub, 0, 0, []),
  (152, .putfield 54, 0, 0, []),
  (155, .aload_n 0, 0, 0, []),
  (156, .getfield 22, 0, 0, []),
  (159, .aload_n 0, 0, 0, []),
  (160, .getfield 19, 0, 0, []),
  (163, .if_icmp .ge 93, 0, 256, []),
  (166, .aload_n 0, 0, 0, []),
  (167, .aload_n 0, 0, 0, []),
  (168, .getfield 22, 0, 0, []),
  (171, .invokevirtual 31, 0, 0, []),
  (174, .invokestatic 51, 0, 0, []),
  (177, .ifCond .eq 79, 0, 256, []),
  (180, .aload_n 0, 0, 0, []),
  (181, .getfield 54, 0, 0, []),
  (184, .iconst (-1), (-1), 0, []),
  (185, .if_icmp .eq 20, 0, 205, []),
  (188, .aload_n 0, 0, 0, []),
  (189, .getfield 22, 0, 0, []),
  (192, .aload_n 0, 0, 0, []),
  (193, .getfield 28, 0, 0, []),
  (196, .isub, 0, 0, []),
  (197, .iconst 4, 4, 0, []),
  (198, .if_icmp .ge 7, 0, 205, []),
  (201, .iconst 1, 1, 0, []),
  (202, .goto 4, 0, 206, []),
  (205, .iconst 0, 0, 0, []),
  (206, .istore_n 2, 0, 0, []),
  (207, .aload_n 0, 0, 0, []),
  (208, .iload_n 2, 0, 0, []),
  (209, .ifCond .eq 25, 0, 234, []),
  (212, .bipush 10, 10, 0, []),
  (214, .aload_n 0, 0, 0, []),
  (215, .getfield 54, 0, 0, []),
  (218, .imul, 0, 0, []),
  (219, .aload_n 0, 0, 0, []),
  (220, .aload_n 0, 0, 0, []),
  (221, .getfield 22, 0, 0, []),
  (224, .invokevirtual 31, 0, 0, []),
  (227, .iadd, 0, 0, []),
  (228, .bipush 48, 48, 0, []),
  (230, .isub, 0, 0, []),
  (231, .goto 4, 0, 235, []),
  (234, .iconst (-1), (-1), 0, []),
  (235, .putfield 54, 0, 0, []),
  (238, .aload_n 0, 0, 0, []),
  (239, .dup, 0, 0, []),
  (240, .getfield 22, 0, 0, []),
  (243, .iconst 1, 1, 0, []),
  (244, .iadd, 0, 0, []),
  (245, .putfield 22, 0, 0, []),
  (248, .goto (-93), 0, 155, []),
  (251, .aload_n 0, 0, 0, []),
  (252, .iconst 3, 3, 0, []),
  (253, .putfield 45, 0, 0, []),
  (256, .return_, 0, 0, [])],
  fdX5, [(31, fX5_at, 2, 5, 0), (35, fX5_isBlank, 1, 2000, 0), (39, fJ9_min_7cf53, 2, 2000, 0), (48, fX5_isLetter, 1, 2000, 0), (51, fX5_isDigit, 1, 2000, 0)], [], [], [], 2)
noncomputable def fX5_next : aMF := a_fn none shp pX5_next 3 1
set_option maxRecDepth 20000 in
theorem wkX5_at : ∀ w ∈ [Cond.code yX5_at cX5_at 2 (some .int), .initialized yX5_at.cls, .instanceMethod yX5_at, .selects yX5_at.cls yX5_at yX5_at], w ∈ lw_g := a_ps [679, 97, 678, 14] rfl rfl
theorem hdX5_at : yX5_at.cls ≠ "java/lang/invoke/MethodHandle" ∧ yX5_at.cls ≠ "java/lang/invoke/VarHandle" ∧ (parseMethodDescriptor yX5_at.desc).map (fun d => d.parameters.length) = some 1 := by decide +kernel
set_option maxRecDepth 20000 in
theorem lkX5_31 : Cond.methodLink RX5 31 yX5_at ∈ lw_g := a_p1 676 rfl rfl
set_option maxRecDepth 20000 in
theorem wkX5_isBlank : ∀ w ∈ [Cond.code yX5_isBlank cX5_isBlank 1 (some .boolean), .initialized yX5_isBlank.cls, .static yX5_isBlank], w ∈ lw_g := a_ps [682, 97, 681] rfl rfl
theorem hdX5_isBlank : yX5_isBlank.cls ≠ "java/lang/invoke/MethodHandle" ∧ yX5_isBlank.cls ≠ "java/lang/invoke/VarHandle" ∧ (parseMethodDescriptor yX5_isBlank.desc).map (fun d => d.parameters.length) = some 1 := by decide +kernel
set_option maxRecDepth 20000 in
theorem lkX5_35 : Cond.methodLink RX5 35 yX5_isBlank ∈ lw_g := a_p1 680 rfl rfl
set_option maxRecDepth 20000 in
theorem wkJ9_min_7cf53 : ∀ w ∈ [Cond.code yJ9_min_7cf53 cJ9_min_7cf53 2 (some .int), .initialized yJ9_min_7cf53.cls, .static yJ9_min_7cf53], w ∈ lw_g := a_ps [685, 111, 684] rfl rfl
theorem hdJ9_min_7cf53 : yJ9_min_7cf53.cls ≠ "java/lang/invoke/MethodHandle" ∧ yJ9_min_7cf53.cls ≠ "java/lang/invoke/VarHandle" ∧ (parseMethodDescriptor yJ9_min_7cf53.desc).map (fun d => d.parameters.length) = some 2 := by decide +kernel
set_option maxRecDepth 20000 in
theorem lkX5_39 : Cond.methodLink RX5 39 yJ9_min_7cf53 ∈ lw_g := a_p1 683 rfl rfl
set_option maxRecDepth 20000 in
theorem wkX5_isLetter : ∀ w ∈ [Cond.code yX5_isLetter cX5_isLetter 1 (some .boolean), .initialized yX5_isLetter.cls, .static yX5_isLetter], w ∈ lw_g := a_ps [688, 97, 687] rfl rfl
theorem hdX5_isLetter : yX5_isLetter.cls ≠ "java/lang/invoke/MethodHandle" ∧ yX5_isLetter.cls ≠ "java/lang/invoke/VarHandle" ∧ (parseMethodDescriptor yX5_isLetter.desc).map (fun d => d.parameters.length) = some 1 := by decide +kernel
set_option maxRecDepth 20000 in
theorem lkX5_48 : Cond.methodLink RX5 48 yX5_isLetter ∈ lw_g := a_p1 686 rfl rfl
set_option maxRecDepth 20000 in
theorem wkX5_isDigit : ∀ w ∈ [Cond.code yX5_isDigit cX5_isDigit 1 (some .boolean), .initialized yX5_isDigit.cls, .static yX5_isDigit], w ∈ lw_g := a_ps [691, 97, 690] rfl rfl
theorem hdX5_isDigit : yX5_isDigit.cls ≠ "java/lang/invoke/MethodHandle" ∧ yX5_isDigit.cls ≠ "java/lang/invoke/VarHandle" ∧ (parseMethodDescriptor yX5_isDigit.desc).map (fun d => d.parameters.length) = some 1 := by decide +kernel
set_option maxRecDepth 20000 in
theorem lkX5_51 : Cond.methodLink RX5 51 yX5_isDigit ∈ lw_g := a_p1 689 rfl rfl
set_option maxRecDepth 20000 in
theorem kX5_next {l : Launch} {G : aG} (hZ : a_Z l G) : a_Con l G shp yX5_next (.code yX5_next cX5_next 3 none) 2 37 fX5_next :=
  a_mth none hZ.1 hZ.2.1 shp_len (fun _ h => nomatch h) hZ.2.2.1 (by decide +kernel) rfl (foX5 rfl) (a_cok_of trivial) (b_code [42,42,180,0,22,181,0,28,42,180,0,28,42,180,0,19,162,0,30,42,42,180,0,28,182,0,31,184,0,35,153,0,16,42,89,180,0,28,4,96,181,0,28,167,255,221,42,42,180,0,28,182,0,31,60,42,42,180,0,28,4,96,42,180,0,19,184,0,39,181,0,22,27,2,160,0,11,42,3,181,0,45,167,0,174,27,184,0,48,153,0,46,42,4,181,0,45,42,180,0,22,42,180,0,19,162,0,151,42,42,180,0,22,182,0,31,184,0,48,153,0,137,42,89,180,0,22,4,96,181,0,22,167,255,221,27,184,0,51,153,0,112,42,5,181,0,45,42,27,16,48,100,181,0,54,42,180,0,22,42,180,0,19,162,0,93,42,42,180,0,22,182,0,31,184,0,51,153,0,79,42,180,0,54,2,159,0,20,42,180,0,22,42,180,0,28,100,7,162,0,7,4,167,0,4,3,61,42,28,153,0,25,16,10,42,180,0,54,104,42,42,180,0,22,182,0,31,96,16,48,100,167,0,4,2,181,0,54,42,89,180,0,22,4,96,181,0,22,167,255,163,42,6,181,0,45,177] [] (by decide +kernel) (by decide +kernel) (by decide +kernel) (by decide +kernel)) rfl rfl (trivial) (⟨a_CQ_v hZ.2.1 (kX5_at hZ) lkX5_31 (a_CF_v TX5 7 wkX5_at lkX5_31 hdX5_at ⟨by decide, by decide⟩ rfl) rfl rfl,
    ⟨a_CQ_s hZ.2.1 (kX5_isBlank hZ) lkX5_35 (a_CF_s wkX5_isBlank lkX5_35 hdX5_isBlank) rfl rfl,
    ⟨a_CQ_s hZ.2.1 (kJ9_min_7cf53 hZ) lkX5_39 (a_CF_s wkJ9_min_7cf53 lkX5_39 hdJ9_min_7cf53) rfl rfl,
    ⟨a_CQ_s hZ.2.1 (kX5_isLetter hZ) lkX5_48 (a_CF_s wkX5_isLetter lkX5_48 hdX5_isLetter) rfl rfl,
    ⟨a_CQ_s hZ.2.1 (kX5_isDigit hZ) lkX5_51 (a_CF_s wkX5_isDigit lkX5_51 hdX5_isDigit) rfl rfl,
    trivial⟩⟩⟩⟩⟩)
noncomputable def pX5_begin : aPrg := ([(0, .aload_n 0, 0, 0, []),
  (1, .iload_n 1, 0, 0, []),
  (2, .putfield 19, 0, 0, []),
  (5, .aload_n 0, 0, 0, []),
  (6, .iconst 0, 0, 0, []),
  (7, .putfield 22, 0, 0, []),
  (10, .aload_n 0, 0, 0, []),
  (11, .invokevirtual 25, 0, 0, []),
  (14, .return_, 0, 0, [])],
  fdX5, [(25, fX5_next, 1, 5, 1)], [], [], [], 2)
noncomputable def fX5_begin : aMF := a_fn none shp pX5_begin 2 2
set_option maxRecDepth 20000 in
theorem wkX5_next : ∀ w ∈ [Cond.code yX5_next cX5_next 3 none, .initialized yX5_next.cls, .instanceMethod yX5_next, .selects yX5_next.cls yX5_next yX5_next], w ∈ lw_g := a_ps [675, 97, 673, 674] rfl rfl
theorem hdX5_next : yX5_next.cls ≠ "java/lang/invoke/MethodHandle" ∧ yX5_next.cls ≠ "java/lang/invoke/VarHandle" ∧ (parseMethodDescriptor yX5_next.desc).map (fun d => d.parameters.length) = some 0 := by decide +kernel
set_option maxRecDepth 20000 in
theorem lkX5_25 : Cond.methodLink RX5 25 yX5_next ∈ lw_g := a_p1 672 rfl rfl
set_option maxRecDepth 20000 in
theorem kX5_begin {l : Launch} {G : aG} (hZ : a_Z l G) : a_Con l G shp yX5_begin (.code yX5_begin cX5_begin 2 none) 3 59 fX5_begin :=
  a_mth none hZ.1 hZ.2.1 shp_len (fun _ h => nomatch h) hZ.2.2.1 (by decide +kernel) rfl (foX5 rfl) (a_cok_of trivial) (b_code [42,27,181,0,19,42,3,181,0,22,42,182,0,25,177] [] (by decide +kernel) (by decide +kernel) (by decide +kernel) (by decide +kernel)) rfl rfl (trivial) (⟨a_CQ_v hZ.2.1 (kX5_next hZ) lkX5_25 (a_CF_v TX5 7 wkX5_next lkX5_25 hdX5_next ⟨by decide, by decide⟩ rfl) rfl rfl,
    trivial⟩)
noncomputable def pX5_isWord : aPrg := ([(0, .aload_n 0, 0, 0, []),
  (1, .getfield 45, 0, 0, []),
  (4, .iconst 1, 1, 0, []),
  (5, .if_icmp .ne 19, 0, 24, []),
  (8, .aload_n 0, 0, 0, []),
  (9, .getfield 22, 0, 0, []),
  (12, .aload_n 0, 0, 0, []),
  (13, .getfield 28, 0, 0, []),
  (16, .isub, 0, 0, []),
  (17, .aload_n 1, 0, 0, []),
  (18, .invokevirtual 57, 0, 0, []),
  (21, .if_icmp .eq 5, 0, 26, []),
  (24, .iconst 0, 0, 0, []),
  (25, .ireturn, 0, 0, []),
  (26, .iconst 0, 0, 0, []),
  (27, .istore_n 2, 0, 0, []),
  (28, .iload_n 2, 0, 0, []),
  (29, .aload_n 1, 0, 0, []),
  (30, .invokevirtual 57, 0, 0, []),
  (33, .if_icmp .ge 29, 0, 62, []),
  (36, .aload_n 0, 0, 0, []),
  (37, .aload_n 0, 0, 0, []),
  (38, .getfield 28, 0, 0, []),
  (41, .iload_n 2, 0, 0, []),
  (42, .iadd, 0, 0, []),
  (43, .invokevirtual 31, 0, 0, []),
  (46, .aload_n 1, 0, 0, []),
  (47, .iload_n 2, 0, 0, []),
  (48, .invokevirtual 62, 0, 0, []),
  (51, .if_icmp .eq 5, 0, 56, []),
  (54, .iconst 0, 0, 0, []),
  (55, .ireturn, 0, 0, []),
  (56, .iinc 2 1, 1, 0, []),
  (59, .goto (-31), 0, 28, []),
  (62, .iconst 1, 1, 0, []),
  (63, .ireturn, 0, 0, [])],
  fdX5, [(57, a_slen, 1, 1000, 0), (31, fX5_at, 2, 5, 0), (62, a_schr, 2, 1000, 0)], [], [], [], 1)
noncomputable def fX5_isWord : aMF := a_fn none shp pX5_isWord 3 2
set_option maxRecDepth 20000 in
theorem kX5_isWord {l : Launch} {G : aG} (hZ : a_Z l G) : a_Con l G shp yX5_isWord (.code yX5_isWord cX5_isWord 3 (some .boolean)) 6 160 fX5_isWord :=
  a_mth none hZ.1 hZ.2.1 shp_len (fun _ h => nomatch h) hZ.2.2.1 (by decide +kernel) rfl (foX5 rfl) (a_cok_of trivial) (b_code [42,180,0,45,4,160,0,19,42,180,0,22,42,180,0,28,100,43,182,0,57,159,0,5,3,172,3,61,28,43,182,0,57,162,0,29,42,42,180,0,28,28,96,182,0,31,43,28,182,0,62,159,0,5,3,172,132,2,1,167,255,225,4,172] [] (by decide +kernel) (by decide +kernel) (by decide +kernel) (by decide +kernel)) rfl rfl (trivial) (⟨q_slen hZ 697 rfl rfl rfl,
    ⟨a_CQ_v hZ.2.1 (kX5_at hZ) lkX5_31 (a_CF_v TX5 7 wkX5_at lkX5_31 hdX5_at ⟨by decide, by decide⟩ rfl) rfl rfl,
    ⟨q_schr hZ 707 rfl rfl rfl,
    trivial⟩⟩⟩)
noncomputable def pX3_refuse : aPrg := ([(0, .aload_n 0, 0, 0, []),
  (1, .iload_n 1, 0, 0, []),
  (2, .putfield 23, 0, 0, []),
  (5, .aload_n 0, 0, 0, []),
  (6, .aload_n 0, 0, 0, []),
  (7, .getfield 15, 0, 0, []),
  (10, .getfield 73, 0, 0, []),
  (13, .putfield 9, 0, 0, []),
  (16, .iconst 0, 0, 0, []),
  (17, .ireturn, 0, 0, [])],
  fdX3, [], [], [], [], 1)
noncomputable def fX3_refuse : aMF := a_fn none shp pX3_refuse 2 2
set_option maxRecDepth 20000 in
theorem kX3_refuse {l : Launch} {G : aG} (hZ : a_Z l G) : a_Con l G shp yX3_refuse (.code yX3_refuse cX3_refuse 2 (some .boolean)) 1 16 fX3_refuse :=
  a_mth none hZ.1 hZ.2.1 shp_len (fun _ h => nomatch h) hZ.2.2.1 (by decide +kernel) rfl (foX3 rfl) (a_cok_of trivial) (b_code [42,27,181,0,23,42,42,180,0,15,180,0,73,181,0,9,3,172] [] (by decide +kernel) (by decide +kernel) (by decide +kernel) (by decide +kernel)) rfl rfl (trivial) (trivial)
noncomputable def pX3_readReader : aPrg := ([(0, .aload_n 0, 0, 0, []),
  (1, .getfield 19, 0, 0, []),
  (4, .getfield 76, 0, 0, []),
  (7, .iconst 5, 5, 0, []),
  (8, .if_icmp .lt 9, 0, 17, []),
  (11, .aload_n 0, 0, 0, []),
  (12, .iconst 2, 2, 0, []),
  (13, .invokevirtual 65, 0, 0, []),
  (16, .ireturn, 0, 0, []),
  (17, .aload_n 0, 0, 0, []),
  (18, .getfield 19, 0, 0, []),
  (21, .dup, 0, 0, []),
  (22, .getfield 76, 0, 0, []),
  (25, .iconst 1, 1, 0, []),
  (26, .iadd, 0, 0, []),
  (27, .putfield 76, 0, 0, []),
  (30, .aload_n 0, 0, 0, []),
  (31, .getfield 15, 0, 0, []),
  (34, .invokevirtual 79, 0, 0, []),
  (37, .iconst 1, 1, 0, []),
  (38, .ireturn, 0, 0, [])],
  fdX3, [(65, fX3_refuse, 2, 3, 0), (79, fX5_next, 1, 5, 1)], [], [], [], 1)
noncomputable def fX3_readReader : aMF := a_fn none shp pX3_readReader 1 1
set_option maxRecDepth 20000 in
theorem wkX3_refuse : ∀ w ∈ [Cond.code yX3_refuse cX3_refuse 2 (some .boolean), .initialized yX3_refuse.cls, .instanceMethod yX3_refuse, .selects yX3_refuse.cls yX3_refuse yX3_refuse], w ∈ lw_g := a_ps [752, 100, 751, 16] rfl rfl
theorem hdX3_refuse : yX3_refuse.cls ≠ "java/lang/invoke/MethodHandle" ∧ yX3_refuse.cls ≠ "java/lang/invoke/VarHandle" ∧ (parseMethodDescriptor yX3_refuse.desc).map (fun d => d.parameters.length) = some 1 := by decide +kernel
set_option maxRecDepth 20000 in
theorem lkX3_65 : Cond.methodLink RX3 65 yX3_refuse ∈ lw_g := a_p1 749 rfl rfl
set_option maxRecDepth 20000 in
theorem lkX3_79 : Cond.methodLink RX3 79 yX5_next ∈ lw_g := a_p1 753 rfl rfl
set_option maxRecDepth 20000 in
theorem kX3_readReader {l : Launch} {G : aG} (hZ : a_Z l G) : a_Con l G shp yX3_readReader (.code yX3_readReader cX3_readReader 1 (some .boolean)) 3 59 fX3_readReader :=
  a_mth none hZ.1 hZ.2.1 shp_len (fun _ h => nomatch h) hZ.2.2.1 (by decide +kernel) rfl (foX3 rfl) (a_cok_of trivial) (b_code [42,180,0,19,180,0,76,8,161,0,9,42,5,182,0,65,172,42,180,0,19,89,180,0,76,4,96,181,0,76,42,180,0,15,182,0,79,4,172] [] (by decide +kernel) (by decide +kernel) (by decide +kernel) (by decide +kernel)) rfl rfl (trivial) (⟨a_CQ_v hZ.2.1 (kX3_refuse hZ) lkX3_65 (a_CF_v TX3 4 wkX3_refuse lkX3_65 hdX3_refuse ⟨by decide, by decide⟩ rfl) rfl rfl,
    ⟨a_CQ_v hZ.2.1 (kX5_next hZ) lkX3_79 (a_CF_v TX5 7 wkX5_next lkX3_79 hdX5_next ⟨by decide, by decide⟩ rfl) rfl rfl,
    trivial⟩⟩)
noncomputable def pX3_needNumber : aPrg := ([(0, .aload_n 0, 0, 0, []),
  (1, .getfield 15, 0, 0, []),
  (4, .getfield 37, 0, 0, []),
  (7, .iconst 2, 2, 0, []),
  (8, .if_icmp .eq 9, 0, 17, []),
  (11, .aload_n 0, 0, 0, []),
  (12, .iconst 1, 1, 0, []),
  (13, .invokevirtual 65, 0, 0, []),
  (16, .ireturn, 0, 0, []),
  (17, .aload_n 0, 0, 0, []),
  (18, .getfield 15, 0, 0, []),
  (21, .getfield 105, 0, 0, []),
  (24, .iconst (-1), (-1), 0, []),
  (25, .if_icmp .ne 11, 0, 36, []),
  (28, .aload_n 0, 0, 0, []),
  (29, .iconst 2, 2, 0, []),
  (30, .invokevirtual 65, 0, 0, []),
  (33, .ifCond .eq 7, 0, 40, []),
  (36, .iconst 1, 1, 0, []),
  (37, .goto 4, 0, 41, []),
  (40, .iconst 0, 0, 0, []),
  (41, .ireturn, 0, 0, [])],
  fdX3, [(65, fX3_refuse, 2, 3, 0)], [], [], [], 1)
noncomputable def fX3_needNumber : aMF := a_fn none shp pX3_needNumber 1 1
set_option maxRecDepth 20000 in
theorem kX3_needNumber {l : Launch} {G : aG} (hZ : a_Z l G) : a_Con l G shp yX3_needNumber (.code yX3_needNumber cX3_needNumber 1 (some .boolean)) 2 37 fX3_needNumber :=
  a_mth none hZ.1 hZ.2.1 shp_len (fun _ h => nomatch h) hZ.2.2.1 (by decide +kernel) rfl (foX3 rfl) (a_cok_of trivial) (b_code [42,180,0,15,180,0,37,5,159,0,9,42,4,182,0,65,172,42,180,0,15,180,0,105,2,160,0,11,42,5,182,0,65,153,0,7,4,167,0,4,3,172] [] (by decide +kernel) (by decide +kernel) (by decide +kernel) (by decide +kernel)) rfl rfl (trivial) (⟨a_CQ_v hZ.2.1 (kX3_refuse hZ) lkX3_65 (a_CF_v TX3 4 wkX3_refuse lkX3_65 hdX3_refuse ⟨by decide, by decide⟩ rfl) rfl rfl,
    trivial⟩)
noncomputable def pX3_readPart : aPrg := ([(0, .aload_n 0, 0, 0, []),
  (1, .invokevirtual 102, 0, 0, []),
  (4, .ifCond .ne 5, 0, 9, []),
  (7, .iconst 0, 0, 0, []),
  (8, .ireturn, 0, 0, []),
  (9, .aload_n 0, 0, 0, []),
  (10, .getfield 15, 0, 0, []),
  (13, .getfield 105, 0, 0, []),
  (16, .iload_n 2, 0, 0, []),
  (17, .if_icmp .lt 15, 0, 32, []),
  (20, .aload_n 0, 0, 0, []),
  (21, .getfield 15, 0, 0, []),
  (24, .getfield 105, 0, 0, []),
  (27, .bipush 99, 99, 0, []),
  (29, .if_icmp .le 9, 0, 38, []),
  (32, .aload_n 0, 0, 0, []),
  (33, .iconst 2, 2, 0, []),
  (34, .invokevirtual 65, 0, 0, []),
  (37, .ireturn, 0, 0, []),
  (38, .aload_n 0, 0, 0, []),
  (39, .getfield 19, 0, 0, []),
  (42, .getfield 108, 0, 0, []),
  (45, .iload_n 1, 0, 0, []),
  (46, .aload_n 0, 0, 0, []),
  (47, .getfield 15, 0, 0, []),
  (50, .getfield 105, 0, 0, []),
  (53, .iastore, 0, 0, []),
  (54, .aload_n 0, 0, 0, []),
  (55, .getfield 15, 0, 0, []),
  (58, .invokevirtual 79, 0, 0, []),
  (61, .iconst 1, 1, 0, []),
  (62, .ireturn, 0, 0, [])],
  fdX3, [(102, fX3_needNumber, 1, 3, 0), (65, fX3_refuse, 2, 3, 0), (79, fX5_next, 1, 5, 1)], [], [], [], 1)
noncomputable def fX3_readPart : aMF := a_fn none shp pX3_readPart 3 3
set_option maxRecDepth 20000 in
theorem wkX3_needNumber : ∀ w ∈ [Cond.code yX3_needNumber cX3_needNumber 1 (some .boolean), .initialized yX3_needNumber.cls, .instanceMethod yX3_needNumber, .selects yX3_needNumber.cls yX3_needNumber yX3_needNumber], w ∈ lw_g := a_ps [766, 100, 765, 19] rfl rfl
theorem hdX3_needNumber : yX3_needNumber.cls ≠ "java/lang/invoke/MethodHandle" ∧ yX3_needNumber.cls ≠ "java/lang/invoke/VarHandle" ∧ (parseMethodDescriptor yX3_needNumber.desc).map (fun d => d.parameters.length) = some 0 := by decide +kernel
set_option maxRecDepth 20000 in
theorem lkX3_102 : Cond.methodLink RX3 102 yX3_needNumber ∈ lw_g := a_p1 763 rfl rfl
set_option maxRecDepth 20000 in
theorem kX3_readPart {l : Launch} {G : aG} (hZ : a_Z l G) : a_Con l G shp yX3_readPart (.code yX3_readPart cX3_readPart 3 (some .boolean)) 3 59 fX3_readPart :=
  a_mth none hZ.1 hZ.2.1 shp_len (fun _ h => nomatch h) hZ.2.2.1 (by decide +kernel) rfl (foX3 rfl) (a_cok_of trivial) (b_code [42,182,0,102,154,0,5,3,172,42,180,0,15,180,0,105,28,161,0,15,42,180,0,15,180,0,105,16,99,164,0,9,42,5,182,0,65,172,42,180,0,19,180,0,108,27,42,180,0,15,180,0,105,79,42,180,0,15,182,0,79,4,172] [] (by decide +kernel) (by decide +kernel) (by decide +kernel) (by decide +kernel)) rfl rfl (trivial) (⟨a_CQ_v hZ.2.1 (kX3_needNumber hZ) lkX3_102 (a_CF_v TX3 4 wkX3_needNumber lkX3_102 hdX3_needNumber ⟨by decide, by decide⟩ rfl) rfl rfl,
    ⟨a_CQ_v hZ.2.1 (kX3_refuse hZ) lkX3_65 (a_CF_v TX3 4 wkX3_refuse lkX3_65 hdX3_refuse ⟨by decide, by decide⟩ rfl) rfl rfl,
    ⟨a_CQ_v hZ.2.1 (kX5_next hZ) lkX3_79 (a_CF_v TX5 7 wkX5_next lkX3_79 hdX5_next ⟨by decide, by decide⟩ rfl) rfl rfl,
    trivial⟩⟩⟩)
noncomputable def pX3_readPerhaps : aPrg := ([(0, .aload_n 0, 0, 0, []),
  (1, .getfield 15, 0, 0, []),
  (4, .aload_n 1, 0, 0, []),
  (5, .invokevirtual 42, 0, 0, []),
  (8, .ifCond .ne 5, 0, 13, []),
  (11, .iconst 1, 1, 0, []),
  (12, .ireturn, 0, 0, []),
  (13, .aload_n 0, 0, 0, []),
  (14, .getfield 15, 0, 0, []),
  (17, .invokevirtual 79, 0, 0, []),
  (20, .aload_n 0, 0, 0, []),
  (21, .iload_n 2, 0, 0, []),
  (22, .iconst 0, 0, 0, []),
  (23, .invokevirtual 85, 0, 0, []),
  (26, .ireturn, 0, 0, [])],
  fdX3, [(42, fX5_isWord, 2, 5, 0), (79, fX5_next, 1, 5, 1), (85, fX3_readPart, 3, 3, 0)], [], [], [], 1)
noncomputable def fX3_readPerhaps : aMF := a_fn none shp pX3_readPerhaps 3 3
set_option maxRecDepth 20000 in
theorem wkX5_isWord : ∀ w ∈ [Cond.code yX5_isWord cX5_isWord 3 (some .boolean), .initialized yX5_isWord.cls, .instanceMethod yX5_isWord, .selects yX5_isWord.cls yX5_isWord yX5_isWord], w ∈ lw_g := a_ps [696, 97, 694, 695] rfl rfl
theorem hdX5_isWord : yX5_isWord.cls ≠ "java/lang/invoke/MethodHandle" ∧ yX5_isWord.cls ≠ "java/lang/invoke/VarHandle" ∧ (parseMethodDescriptor yX5_isWord.desc).map (fun d => d.parameters.length) = some 1 := by decide +kernel
set_option maxRecDepth 20000 in
theorem lkX3_42 : Cond.methodLink RX3 42 yX5_isWord ∈ lw_g := a_p1 693 rfl rfl
set_option maxRecDepth 20000 in
theorem wkX3_readPart : ∀ w ∈ [Cond.code yX3_readPart cX3_readPart 3 (some .boolean), .initialized yX3_readPart.cls, .instanceMethod yX3_readPart, .selects yX3_readPart.cls yX3_readPart yX3_readPart], w ∈ lw_g := a_ps [762, 100, 761, 18] rfl rfl
theorem hdX3_readPart : yX3_readPart.cls ≠ "java/lang/invoke/MethodHandle" ∧ yX3_readPart.cls ≠ "java/lang/invoke/VarHandle" ∧ (parseMethodDescriptor yX3_readPart.desc).map (fun d => d.parameters.length) = some 2 := by decide +kernel
set_option maxRecDepth 20000 in
theorem lkX3_85 : Cond.methodLink RX3 85 yX3_readPart ∈ lw_g := a_p1 759 rfl rfl
set_option maxRecDepth 20000 in
theorem kX3_readPerhaps {l : Launch} {G : aG} (hZ : a_Z l G) : a_Con l G shp yX3_readPerhaps (.code yX3_readPerhaps cX3_readPerhaps 3 (some .boolean)) 7 182 fX3_readPerhaps :=
  a_mth none hZ.1 hZ.2.1 shp_len (fun _ h => nomatch h) hZ.2.2.1 (by decide +kernel) rfl (foX3 rfl) (a_cok_of trivial) (b_code [42,180,0,15,43,182,0,42,154,0,5,4,172,42,180,0,15,182,0,79,42,28,3,182,0,85,172] [] (by decide +kernel) (by decide +kernel) (by decide +kernel) (by decide +kernel)) rfl rfl (trivial) (⟨a_CQ_v hZ.2.1 (kX5_isWord hZ) lkX3_42 (a_CF_v TX5 7 wkX5_isWord lkX3_42 hdX5_isWord ⟨by decide, by decide⟩ rfl) rfl rfl,
    ⟨a_CQ_v hZ.2.1 (kX5_next hZ) lkX3_79 (a_CF_v TX5 7 wkX5_next lkX3_79 hdX5_next ⟨by decide, by decide⟩ rfl) rfl rfl,
    ⟨a_CQ_v hZ.2.1 (kX3_readPart hZ) lkX3_85 (a_CF_v TX3 4 wkX3_readPart lkX3_85 hdX3_readPart ⟨by decide, by decide⟩ rfl) rfl rfl,
    trivial⟩⟩⟩)
noncomputable def pX3_needToldAhead : aPrg := ([(0, .aload_n 0, 0, 0, []),
  (1, .invokevirtual 102, 0, 0, []),
  (4, .ifCond .ne 5, 0, 9, []),
  (7, .iconst 0, 0, 0, []),
  (8, .ireturn, 0, 0, []),
  (9, .aload_n 0, 0, 0, []),
  (10, .getfield 15, 0, 0, []),
  (13, .getfield 105, 0, 0, []),
  (16, .iload_n 1, 0, 0, []),
  (17, .if_icmp .lt 11, 0, 28, []),
  (20, .aload_n 0, 0, 0, []),
  (21, .iconst 3, 3, 0, []),
  (22, .invokevirtual 65, 0, 0, []),
  (25, .ifCond .eq 7, 0, 32, []),
  (28, .iconst 1, 1, 0, []),
  (29, .goto 4, 0, 33, []),
  (32, .iconst 0, 0, 0, []),
  (33, .ireturn, 0, 0, [])],
  fdX3, [(102, fX3_needNumber, 1, 3, 0), (65, fX3_refuse, 2, 3, 0)], [], [], [], 1)
noncomputable def fX3_needToldAhead : aMF := a_fn none shp pX3_needToldAhead 2 2
set_option maxRecDepth 20000 in
theorem kX3_needToldAhead {l : Launch} {G : aG} (hZ : a_Z l G) : a_Con l G shp yX3_needToldAhead (.code yX3_needToldAhead cX3_needToldAhead 2 (some .boolean)) 3 57 fX3_needToldAhead :=
  a_mth none hZ.1 hZ.2.1 shp_len (fun _ h => nomatch h) hZ.2.2.1 (by decide +kernel) rfl (foX3 rfl) (a_cok_of trivial) (b_code [42,182,0,102,154,0,5,3,172,42,180,0,15,180,0,105,27,161,0,11,42,6,182,0,65,153,0,7,4,167,0,4,3,172] [] (by decide +kernel) (by decide +kernel) (by decide +kernel) (by decide +kernel)) rfl rfl (trivial) (⟨a_CQ_v hZ.2.1 (kX3_needNumber hZ) lkX3_102 (a_CF_v TX3 4 wkX3_needNumber lkX3_102 hdX3_needNumber ⟨by decide, by decide⟩ rfl) rfl rfl,
    ⟨a_CQ_v hZ.2.1 (kX3_refuse hZ) lkX3_65 (a_CF_v TX3 4 wkX3_refuse lkX3_65 hdX3_refuse ⟨by decide, by decide⟩ rfl) rfl rfl,
    trivial⟩⟩)
noncomputable def pX3_readOwner : aPrg := ([(0, .iconst 5, 5, 0, []),
  (1, .istore_n 2, 0, 0, []),
  (2, .aload_n 0, 0, 0, []),
  (3, .getfield 15, 0, 0, []),
  (6, .ldc 112, 0, 0, []),
  (8, .invokevirtual 42, 0, 0, []),
  (11, .ifCond .eq 41, 0, 52, []),
  (14, .aload_n 0, 0, 0, []),
  (15, .getfield 15, 0, 0, []),
  (18, .invokevirtual 79, 0, 0, []),
  (21, .aload_n 0, 0, 0, []),
  (22, .aload_n 0, 0, 0, []),
  (23, .getfield 19, 0, 0, []),
  (26, .getfield 76, 0, 0, []),
  (29, .invokevirtual 114, 0, 0, []),
  (32, .ifCond .ne 5, 0, 37, []),
  (35, .iconst 0, 0, 0, []),
  (36, .ireturn, 0, 0, []),
  (37, .aload_n 0, 0, 0, []),
  (38, .getfield 15, 0, 0, []),
  (41, .getfield 105, 0, 0, []),
  (44, .istore_n 2, 0, 0, []),
  (45, .aload_n 0, 0, 0, []),
  (46, .getfield 15, 0, 0, []),
  (49, .invokevirtual 79, 0, 0, []),
  (52, .aload_n 0, 0, 0, []),
  (53, .getfield 19, 0, 0, []),
  (56, .getfield 117, 0, 0, []),
  (59, .iload_n 2, 0, 0, []),
  (60, .dup2, 0, 0, []),
  (61, .iaload, 0, 0, []),
  (62, .iconst 1, 1, 0, []),
  (63, .iload_n 1, 0, 0, []),
  (64, .ishl, 0, 0, []),
  (65, .ior, 0, 0, []),
  (66, .iastore, 0, 0, []),
  (67, .iconst 1, 1, 0, []),
  (68, .ireturn, 0, 0, [])],
  fdX3, [(42, fX5_isWord, 2, 5, 0), (79, fX5_next, 1, 5, 1), (114, fX3_needToldAhead, 2, 3, 0)], [(112, .ref 1007)], [], [], 1)
noncomputable def fX3_readOwner : aMF := a_fn none shp pX3_readOwner 3 2
set_option maxRecDepth 20000 in
theorem wkX3_needToldAhead : ∀ w ∈ [Cond.code yX3_needToldAhead cX3_needToldAhead 2 (some .boolean), .initialized yX3_needToldAhead.cls, .instanceMethod yX3_needToldAhead, .selects yX3_needToldAhead.cls yX3_needToldAhead yX3_needToldAhead], w ∈ lw_g := a_ps [782, 100, 781, 22] rfl rfl
theorem hdX3_needToldAhead : yX3_needToldAhead.cls ≠ "java/lang/invoke/MethodHandle" ∧ yX3_needToldAhead.cls ≠ "java/lang/invoke/VarHandle" ∧ (parseMethodDescriptor yX3_needToldAhead.desc).map (fun d => d.parameters.length) = some 1 := by decide +kernel
set_option maxRecDepth 20000 in
theorem lkX3_114 : Cond.methodLink RX3 114 yX3_needToldAhead ∈ lw_g := a_p1 779 rfl rfl
set_option maxRecDepth 20000 in
theorem kX3_readOwner {l : Launch} {G : aG} (hZ : a_Z l G) : a_Con l G shp yX3_readOwner (.code yX3_readOwner cX3_readOwner 3 (some .boolean)) 7 182 fX3_readOwner :=
  a_mth none hZ.1 hZ.2.1 shp_len (fun _ h => nomatch h) hZ.2.2.1 (by decide +kernel) rfl (foX3 rfl) (a_cok_of ⟨⟨_, z_7 hZ⟩, trivial⟩) (b_code [8,61,42,180,0,15,18,112,182,0,42,153,0,41,42,180,0,15,182,0,79,42,42,180,0,19,180,0,76,182,0,114,154,0,5,3,172,42,180,0,15,180,0,105,61,42,180,0,15,182,0,79,42,180,0,19,180,0,117,28,92,46,4,27,120,128,79,4,172] [] (by decide +kernel) (by decide +kernel) (by decide +kernel) (by decide +kernel)) rfl rfl (trivial) (⟨a_CQ_v hZ.2.1 (kX5_isWord hZ) lkX3_42 (a_CF_v TX5 7 wkX5_isWord lkX3_42 hdX5_isWord ⟨by decide, by decide⟩ rfl) rfl rfl,
    ⟨a_CQ_v hZ.2.1 (kX5_next hZ) lkX3_79 (a_CF_v TX5 7 wkX5_next lkX3_79 hdX5_next ⟨by decide, by decide⟩ rfl) rfl rfl,
    ⟨a_CQ_v hZ.2.1 (kX3_needToldAhead hZ) lkX3_114 (a_CF_v TX3 4 wkX3_needToldAhead lkX3_114 hdX3_needToldAhead ⟨by decide, by decide⟩ rfl) rfl rfl,
    trivial⟩⟩⟩)
noncomputable def pX3_readBook : aPrg := ([(0, .aload_n 0, 0, 0, []),
  (1, .getfield 19, 0, 0, []),
  (4, .getfield 82, 0, 0, []),
  (7, .istore_n 1, 0, 0, []),
  (8, .iload_n 1, 0, 0, []),
  (9, .bipush 12, 12, 0, []),
  (11, .if_icmp .lt 9, 0, 20, []),
  (14, .aload_n 0, 0, 0, []),
  (15, .iconst 2, 2, 0, []),
  (16, .invokevirtual 65, 0, 0, []),
  (19, .ireturn, 0, 0, []),
  (20, .aload_n 0, 0, 0, []),
  (21, .getfield 15, 0, 0, []),
  (24, .invokevirtual 79, 0, 0, []),
  (27, .iconst 4, 4, 0, []),
  (28, .iload_n 1, 0, 0, []),
  (29, .imul, 0, 0, []),
  (30, .istore_n 2, 0, 0, []),
  (31, .aload_n 0, 0, 0, []),
  (32, .iload_n 2, 0, 0, []),
  (33, .iconst 1, 1, 0, []),
  (34, .invokevirtual 85, 0, 0, []),
  (37, .ifCond .eq 51, 0, 88, []),
  (40, .aload_n 0, 0, 0, []),
  (41, .ldc 89, 0, 0, []),
  (43, .iload_n 2, 0, 0, []),
  (44, .iconst 1, 1, 0, []),
  (45, .iadd, 0, 0, []),
  (46, .invokevirtual 91, 0, 0, []),
  (49, .ifCond .eq 39, 0, 88, []),
  (52, .aload_n 0, 0, 0, []),
  (53, .ldc 95, 0, 0, []),
  (55, .iload_n 2, 0, 0, []),
  (56, .iconst 2, 2, 0, []),
  (57, .iadd, 0, 0, []),
  (58, .invokevirtual 91, 0, 0, []),
  (61, .ifCond .eq 27, 0, 88, []),
  (64, .aload_n 0, 0, 0, []),
  (65, .ldc 97, 0, 0, []),
  (67, .iload_n 2, 0, 0, []),
  (68, .iconst 3, 3, 0, []),
  (69, .iadd, 0, 0, []),
  (70, .invokevirtual 91, 0, 0, []),
  (73, .ifCond .eq 15, 0, 88, []),
  (76, .aload_n 0, 0, 0, []),
  (77, .iload_n 1, 0, 0, []),
  (78, .invokevirtual 99, 0, 0, []),
  (81, .ifCond .eq 7, 0, 88, []),
  (84, .iconst 1, 1, 0, []),
  (85, .goto 4, 0, 89, []),
  (88, .iconst 0, 0, 0, []),
  (89, .istore_n 3, 0, 0, []),
  (90, .aload_n 0, 0, 0, []),
  (91, .getfield 19, 0, 0, []),
  (94, .dup, 0, 0, []),
  (95, .getfield 82, 0, 0, []),
  (98, .iconst 1, 1, 0, []),
  (99, .iadd, 0, 0, []),
  (100, .putfield 82, 0, 0, []),
  (103, .iload_n 3, 0, 0, []),
  (104, .ireturn, 0, 0, [])],
  fdX3, [(65, fX3_refuse, 2, 3, 0), (79, fX5_next, 1, 5, 1), (85, fX3_readPart, 3, 3, 0), (91, fX3_readPerhaps, 3, 3, 0), (99, fX3_readOwner, 2, 3, 0)], [(89, .ref 1004), (95, .ref 1005), (97, .ref 1006)], [], [], 1)
noncomputable def fX3_readBook : aMF := a_fn none shp pX3_readBook 4 1
set_option maxRecDepth 20000 in
theorem wkX3_readPerhaps : ∀ w ∈ [Cond.code yX3_readPerhaps cX3_readPerhaps 3 (some .boolean), .initialized yX3_readPerhaps.cls, .instanceMethod yX3_readPerhaps, .selects yX3_readPerhaps.cls yX3_readPerhaps yX3_readPerhaps], w ∈ lw_g := a_ps [771, 100, 770, 20] rfl rfl
theorem hdX3_readPerhaps : yX3_readPerhaps.cls ≠ "java/lang/invoke/MethodHandle" ∧ yX3_readPerhaps.cls ≠ "java/lang/invoke/VarHandle" ∧ (parseMethodDescriptor yX3_readPerhaps.desc).map (fun d => d.parameters.length) = some 2 := by decide +kernel
set_option maxRecDepth 20000 in
theorem lkX3_91 : Cond.methodLink RX3 91 yX3_readPerhaps ∈ lw_g := a_p1 768 rfl rfl
set_option maxRecDepth 20000 in
theorem wkX3_readOwner : ∀ w ∈ [Cond.code yX3_readOwner cX3_readOwner 3 (some .boolean), .initialized yX3_readOwner.cls, .instanceMethod yX3_readOwner, .selects yX3_readOwner.cls yX3_readOwner yX3_readOwner], w ∈ lw_g := a_ps [777, 100, 776, 21] rfl rfl
theorem hdX3_readOwner : yX3_readOwner.cls ≠ "java/lang/invoke/MethodHandle" ∧ yX3_readOwner.cls ≠ "java/lang/invoke/VarHandle" ∧ (parseMethodDescriptor yX3_readOwner.desc).map (fun d => d.parameters.length) = some 1 := by decide +kernel
set_option maxRecDepth 20000 in
theorem lkX3_99 : Cond.methodLink RX3 99 yX3_readOwner ∈ lw_g := a_p1 774 rfl rfl
set_option maxRecDepth 20000 in
theorem kX3_readBook {l : Launch} {G : aG} (hZ : a_Z l G) : a_Con l G shp yX3_readBook (.code yX3_readBook cX3_readBook 4 (some .boolean)) 8 204 fX3_readBook :=
  a_mth none hZ.1 hZ.2.1 shp_len (fun _ h => nomatch h) hZ.2.2.1 (by decide +kernel) rfl (foX3 rfl) (a_cok_of ⟨⟨_, z_4 hZ⟩, ⟨⟨_, z_5 hZ⟩, ⟨⟨_, z_6 hZ⟩, trivial⟩⟩⟩) (b_code [42,180,0,19,180,0,82,60,27,16,12,161,0,9,42,5,182,0,65,172,42,180,0,15,182,0,79,7,27,104,61,42,28,4,182,0,85,153,0,51,42,18,89,28,4,96,182,0,91,153,0,39,42,18,95,28,5,96,182,0,91,153,0,27,42,18,97,28,6,96,182,0,91,153,0,15,42,27,182,0,99,153,0,7,4,167,0,4,3,62,42,180,0,19,89,180,0,82,4,96,181,0,82,29,172] [] (by decide +kernel) (by decide +kernel) (by decide +kernel) (by decide +kernel)) rfl rfl (trivial) (⟨a_CQ_v hZ.2.1 (kX3_refuse hZ) lkX3_65 (a_CF_v TX3 4 wkX3_refuse lkX3_65 hdX3_refuse ⟨by decide, by decide⟩ rfl) rfl rfl,
    ⟨a_CQ_v hZ.2.1 (kX5_next hZ) lkX3_79 (a_CF_v TX5 7 wkX5_next lkX3_79 hdX5_next ⟨by decide, by decide⟩ rfl) rfl rfl,
    ⟨a_CQ_v hZ.2.1 (kX3_readPart hZ) lkX3_85 (a_CF_v TX3 4 wkX3_readPart lkX3_85 hdX3_readPart ⟨by decide, by decide⟩ rfl) rfl rfl,
    ⟨a_CQ_v hZ.2.1 (kX3_readPerhaps hZ) lkX3_91 (a_CF_v TX3 4 wkX3_readPerhaps lkX3_91 hdX3_readPerhaps ⟨by decide, by decide⟩ rfl) rfl rfl,
    ⟨a_CQ_v hZ.2.1 (kX3_readOwner hZ) lkX3_99 (a_CF_v TX3 4 wkX3_readOwner lkX3_99 hdX3_readOwner ⟨by decide, by decide⟩ rfl) rfl rfl,
    trivial⟩⟩⟩⟩⟩)
noncomputable def pX3_readWants : aPrg := ([(0, .aload_n 0, 0, 0, []),
  (1, .getfield 15, 0, 0, []),
  (4, .invokevirtual 79, 0, 0, []),
  (7, .aload_n 0, 0, 0, []),
  (8, .aload_n 0, 0, 0, []),
  (9, .getfield 19, 0, 0, []),
  (12, .getfield 76, 0, 0, []),
  (15, .invokevirtual 114, 0, 0, []),
  (18, .ifCond .ne 5, 0, 23, []),
  (21, .iconst 0, 0, 0, []),
  (22, .ireturn, 0, 0, []),
  (23, .aload_n 0, 0, 0, []),
  (24, .getfield 15, 0, 0, []),
  (27, .getfield 105, 0, 0, []),
  (30, .istore_n 1, 0, 0, []),
  (31, .aload_n 0, 0, 0, []),
  (32, .getfield 19, 0, 0, []),
  (35, .getfield 120, 0, 0, []),
  (38, .iload_n 1, 0, 0, []),
  (39, .iaload, 0, 0, []),
  (40, .iconst (-1), (-1), 0, []),
  (41, .if_icmp .eq 9, 0, 50, []),
  (44, .aload_n 0, 0, 0, []),
  (45, .iconst 4, 4, 0, []),
  (46, .invokevirtual 65, 0, 0, []),
  (49, .ireturn, 0, 0, []),
  (50, .aload_n 0, 0, 0, []),
  (51, .getfield 15, 0, 0, []),
  (54, .invokevirtual 79, 0, 0, []),
  (57, .aload_n 0, 0, 0, []),
  (58, .aload_n 0, 0, 0, []),
  (59, .getfield 19, 0, 0, []),
  (62, .getfield 82, 0, 0, []),
  (65, .invokevirtual 114, 0, 0, []),
  (68, .ifCond .ne 5, 0, 73, []),
  (71, .iconst 0, 0, 0, []),
  (72, .ireturn, 0, 0, []),
  (73, .aload_n 0, 0, 0, []),
  (74, .getfield 19, 0, 0, []),
  (77, .getfield 120, 0, 0, []),
  (80, .iload_n 1, 0, 0, []),
  (81, .aload_n 0, 0, 0, []),
  (82, .getfield 15, 0, 0, []),
  (85, .getfield 105, 0, 0, []),
  (88, .iastore, 0, 0, []),
  (89, .aload_n 0, 0, 0, []),
  (90, .getfield 15, 0, 0, []),
  (93, .invokevirtual 79, 0, 0, []),
  (96, .iconst 1, 1, 0, []),
  (97, .ireturn, 0, 0, [])],
  fdX3, [(79, fX5_next, 1, 5, 1), (114, fX3_needToldAhead, 2, 3, 0), (65, fX3_refuse, 2, 3, 0)], [], [], [], 1)
noncomputable def fX3_readWants : aMF := a_fn none shp pX3_readWants 2 1
set_option maxRecDepth 20000 in
theorem kX3_readWants {l : Launch} {G : aG} (hZ : a_Z l G) : a_Con l G shp yX3_readWants (.code yX3_readWants cX3_readWants 2 (some .boolean)) 4 78 fX3_readWants :=
  a_mth none hZ.1 hZ.2.1 shp_len (fun _ h => nomatch h) hZ.2.2.1 (by decide +kernel) rfl (foX3 rfl) (a_cok_of trivial) (b_code [42,180,0,15,182,0,79,42,42,180,0,19,180,0,76,182,0,114,154,0,5,3,172,42,180,0,15,180,0,105,60,42,180,0,19,180,0,120,27,46,2,159,0,9,42,7,182,0,65,172,42,180,0,15,182,0,79,42,42,180,0,19,180,0,82,182,0,114,154,0,5,3,172,42,180,0,19,180,0,120,27,42,180,0,15,180,0,105,79,42,180,0,15,182,0,79,4,172] [] (by decide +kernel) (by decide +kernel) (by decide +kernel) (by decide +kernel)) rfl rfl (trivial) (⟨a_CQ_v hZ.2.1 (kX5_next hZ) lkX3_79 (a_CF_v TX5 7 wkX5_next lkX3_79 hdX5_next ⟨by decide, by decide⟩ rfl) rfl rfl,
    ⟨a_CQ_v hZ.2.1 (kX3_needToldAhead hZ) lkX3_114 (a_CF_v TX3 4 wkX3_needToldAhead lkX3_114 hdX3_needToldAhead ⟨by decide, by decide⟩ rfl) rfl rfl,
    ⟨a_CQ_v hZ.2.1 (kX3_refuse hZ) lkX3_65 (a_CF_v TX3 4 wkX3_refuse lkX3_65 hdX3_refuse ⟨by decide, by decide⟩ rfl) rfl rfl,
    trivial⟩⟩⟩)
noncomputable def pX5_isSign : aPrg := ([(0, .aload_n 0, 0, 0, []),
  (1, .getfield 45, 0, 0, []),
  (4, .iconst 3, 3, 0, []),
  (5, .if_icmp .ne 19, 0, 24, []),
  (8, .aload_n 0, 0, 0, []),
  (9, .aload_n 0, 0, 0, []),
  (10, .getfield 28, 0, 0, []),
  (13, .invokevirtual 31, 0, 0, []),
  (16, .iload_n 1, 0, 0, []),
  (17, .if_icmp .ne 7, 0, 24, []),
  (20, .iconst 1, 1, 0, []),
  (21, .goto 4, 0, 25, []),
  (24, .iconst 0, 0, 0, []),
  (25, .ireturn, 0, 0, [])],
  fdX5, [(31, fX5_at, 2, 5, 0)], [], [], [], 1)
noncomputable def fX5_isSign : aMF := a_fn none shp pX5_isSign 2 2
set_option maxRecDepth 20000 in
theorem kX5_isSign {l : Launch} {G : aG} (hZ : a_Z l G) : a_Con l G shp yX5_isSign (.code yX5_isSign cX5_isSign 2 (some .boolean)) 2 37 fX5_isSign :=
  a_mth none hZ.1 hZ.2.1 shp_len (fun _ h => nomatch h) hZ.2.2.1 (by decide +kernel) rfl (foX5 rfl) (a_cok_of trivial) (b_code [42,180,0,45,6,160,0,19,42,42,180,0,28,182,0,31,27,160,0,7,4,167,0,4,3,172] [] (by decide +kernel) (by decide +kernel) (by decide +kernel) (by decide +kernel)) rfl rfl (trivial) (⟨a_CQ_v hZ.2.1 (kX5_at hZ) lkX5_31 (a_CF_v TX5 7 wkX5_at lkX5_31 hdX5_at ⟨by decide, by decide⟩ rfl) rfl rfl,
    trivial⟩)
noncomputable def pX3_operatorOf : aPrg := ([(0, .iload_n 1, 0, 0, []),
  (1, .tableswitch 141 0 3 #[31, 50, 69, 105], 0, 142, [(0, 32), (1, 51), (2, 70), (3, 106)]),
  (32, .aload_n 0, 0, 0, []),
  (33, .getfield 15, 0, 0, []),
  (36, .ldc 154, 0, 0, []),
  (38, .invokevirtual 42, 0, 0, []),
  (41, .ifCond .eq 8, 0, 49, []),
  (44, .bipush (-5), (-5), 0, []),
  (46, .goto 4, 0, 50, []),
  (49, .iconst 0, 0, 0, []),
  (50, .ireturn, 0, 0, []),
  (51, .aload_n 0, 0, 0, []),
  (52, .getfield 15, 0, 0, []),
  (55, .ldc 156, 0, 0, []),
  (57, .invokevirtual 42, 0, 0, []),
  (60, .ifCond .eq 8, 0, 68, []),
  (63, .bipush (-6), (-6), 0, []),
  (65, .goto 4, 0, 69, []),
  (68, .iconst 0, 0, 0, []),
  (69, .ireturn, 0, 0, []),
  (70, .aload_n 0, 0, 0, []),
  (71, .getfield 15, 0, 0, []),
  (74, .bipush 60, 60, 0, []),
  (76, .invokevirtual 135, 0, 0, []),
  (79, .ifCond .eq 8, 0, 87, []),
  (82, .bipush (-8), (-8), 0, []),
  (84, .goto 21, 0, 105, []),
  (87, .aload_n 0, 0, 0, []),
  (88, .getfield 15, 0, 0, []),
  (91, .bipush 61, 61, 0, []),
  (93, .invokevirtual 135, 0, 0, []),
  (96, .ifCond .eq 8, 0, 104, []),
  (99, .bipush (-9), (-9), 0, []),
  (101, .goto 4, 0, 105, []),
  (104, .iconst 0, 0, 0, []),
  (105, .ireturn, 0, 0, []),
  (106, .aload_n 0, 0, 0, []),
  (107, .getfield 15, 0, 0, []),
  (110, .bipush 43, 43, 0, []),
  (112, .invokevirtual 135, 0, 0, []),
  (115, .ifCond .eq 8, 0, 123, []),
  (118, .bipush (-10), (-10), 0, []),
  (120, .goto 21, 0, 141, []),
  (123, .aload_n 0, 0, 0, []),
  (124, .getfield 15, 0, 0, []),
  (127, .bipush 45, 45, 0, []),
  (129, .invokevirtual 135, 0, 0, []),
  (132, .ifCond .eq 8, 0, 140, []),
  (135, .bipush (-11), (-11), 0, []),
  (137, .goto 4, 0, 141, []),
  (140, .iconst 0, 0, 0, []),
  (141, .ireturn, 0, 0, []),
  (142, .aload_n 0, 0, 0, []),
  (143, .getfield 15, 0, 0, []),
  (146, .bipush 42, 42, 0, []),
  (148, .invokevirtual 135, 0, 0, []),
  (151, .ifCond .eq 8, 0, 159, []),
  (154, .bipush (-12), (-12), 0, []),
  (156, .goto 21, 0, 177, []),
  (159, .aload_n 0, 0, 0, []),
  (160, .getfield 15, 0, 0, []),
  (163, .bipush 47, 47, 0, []),
  (165, .invokevirtual 135, 0, 0, []),
  (168, .ifCond .eq 8, 0, 176, []),
  (171, .bipush (-13), (-13), 0, []),
  (173, .goto 4, 0, 177, []),
  (176, .iconst 0, 0, 0, []),
  (177, .ireturn, 0, 0, [])],
  fdX3, [(42, fX5_isWord, 2, 5, 0), (135, fX5_isSign, 2, 5, 0)], [(154, .ref 1008), (156, .ref 1009)], [], [], 0)
noncomputable def fX3_operatorOf : aMF := a_fn none shp pX3_operatorOf 2 2
set_option maxRecDepth 20000 in
theorem wkX5_isSign : ∀ w ∈ [Cond.code yX5_isSign cX5_isSign 2 (some .boolean), .initialized yX5_isSign.cls, .instanceMethod yX5_isSign, .selects yX5_isSign.cls yX5_isSign yX5_isSign], w ∈ lw_g := a_ps [801, 97, 799, 800] rfl rfl
theorem hdX5_isSign : yX5_isSign.cls ≠ "java/lang/invoke/MethodHandle" ∧ yX5_isSign.cls ≠ "java/lang/invoke/VarHandle" ∧ (parseMethodDescriptor yX5_isSign.desc).map (fun d => d.parameters.length) = some 1 := by decide +kernel
set_option maxRecDepth 20000 in
theorem lkX3_135 : Cond.methodLink RX3 135 yX5_isSign ∈ lw_g := a_p1 798 rfl rfl
set_option maxRecDepth 20000 in
theorem kX3_operatorOf {l : Launch} {G : aG} (hZ : a_Z l G) : a_Con l G shp yX3_operatorOf (.code yX3_operatorOf cX3_operatorOf 2 (some .int)) 7 182 fX3_operatorOf :=
  a_mth none hZ.1 hZ.2.1 shp_len (fun _ h => nomatch h) hZ.2.2.1 (by decide +kernel) rfl (foX3 rfl) (a_cok_of ⟨⟨_, z_8 hZ⟩, ⟨⟨_, z_9 hZ⟩, trivial⟩⟩) (b_code [27,170,0,0,0,0,0,141,0,0,0,0,0,0,0,3,0,0,0,31,0,0,0,50,0,0,0,69,0,0,0,105,42,180,0,15,18,154,182,0,42,153,0,8,16,251,167,0,4,3,172,42,180,0,15,18,156,182,0,42,153,0,8,16,250,167,0,4,3,172,42,180,0,15,16,60,182,0,135,153,0,8,16,248,167,0,21,42,180,0,15,16,61,182,0,135,153,0,8,16,247,167,0,4,3,172,42,180,0,15,16,43,182,0,135,153,0,8,16,246,167,0,21,42,180,0,15,16,45,182,0,135,153,0,8,16,245,167,0,4,3,172,42,180,0,15,16,42,182,0,135,153,0,8,16,244,167,0,21,42,180,0,15,16,47,182,0,135,153,0,8,16,243,167,0,4,3,172] [(1, 31)] (by decide +kernel) (by decide +kernel) (by decide +kernel) (by decide +kernel)) rfl rfl (trivial) (⟨a_CQ_v hZ.2.1 (kX5_isWord hZ) lkX3_42 (a_CF_v TX5 7 wkX5_isWord lkX3_42 hdX5_isWord ⟨by decide, by decide⟩ rfl) rfl rfl,
    ⟨a_CQ_v hZ.2.1 (kX5_isSign hZ) lkX3_135 (a_CF_v TX5 7 wkX5_isSign lkX3_135 hdX5_isSign ⟨by decide, by decide⟩ rfl) rfl rfl,
    trivial⟩⟩)
noncomputable def pX3_needSign : aPrg := ([(0, .aload_n 0, 0, 0, []),
  (1, .getfield 15, 0, 0, []),
  (4, .iload_n 1, 0, 0, []),
  (5, .invokevirtual 135, 0, 0, []),
  (8, .ifCond .ne 9, 0, 17, []),
  (11, .aload_n 0, 0, 0, []),
  (12, .iconst 1, 1, 0, []),
  (13, .invokevirtual 65, 0, 0, []),
  (16, .ireturn, 0, 0, []),
  (17, .aload_n 0, 0, 0, []),
  (18, .getfield 15, 0, 0, []),
  (21, .invokevirtual 79, 0, 0, []),
  (24, .iconst 1, 1, 0, []),
  (25, .ireturn, 0, 0, [])],
  fdX3, [(135, fX5_isSign, 2, 5, 0), (65, fX3_refuse, 2, 3, 0), (79, fX5_next, 1, 5, 1)], [], [], [], 1)
noncomputable def fX3_needSign : aMF := a_fn none shp pX3_needSign 2 2
set_option maxRecDepth 20000 in
theorem kX3_needSign {l : Launch} {G : aG} (hZ : a_Z l G) : a_Con l G shp yX3_needSign (.code yX3_needSign cX3_needSign 2 (some .boolean)) 3 59 fX3_needSign :=
  a_mth none hZ.1 hZ.2.1 shp_len (fun _ h => nomatch h) hZ.2.2.1 (by decide +kernel) rfl (foX3 rfl) (a_cok_of trivial) (b_code [42,180,0,15,27,182,0,135,154,0,9,42,4,182,0,65,172,42,180,0,15,182,0,79,4,172] [] (by decide +kernel) (by decide +kernel) (by decide +kernel) (by decide +kernel)) rfl rfl (trivial) (⟨a_CQ_v hZ.2.1 (kX5_isSign hZ) lkX3_135 (a_CF_v TX5 7 wkX5_isSign lkX3_135 hdX5_isSign ⟨by decide, by decide⟩ rfl) rfl rfl,
    ⟨a_CQ_v hZ.2.1 (kX3_refuse hZ) lkX3_65 (a_CF_v TX3 4 wkX3_refuse lkX3_65 hdX3_refuse ⟨by decide, by decide⟩ rfl) rfl rfl,
    ⟨a_CQ_v hZ.2.1 (kX5_next hZ) lkX3_79 (a_CF_v TX5 7 wkX5_next lkX3_79 hdX5_next ⟨by decide, by decide⟩ rfl) rfl rfl,
    trivial⟩⟩⟩)
noncomputable def pX3_needWord : aPrg := ([(0, .aload_n 0, 0, 0, []),
  (1, .getfield 15, 0, 0, []),
  (4, .aload_n 1, 0, 0, []),
  (5, .invokevirtual 42, 0, 0, []),
  (8, .ifCond .ne 9, 0, 17, []),
  (11, .aload_n 0, 0, 0, []),
  (12, .iconst 1, 1, 0, []),
  (13, .invokevirtual 65, 0, 0, []),
  (16, .ireturn, 0, 0, []),
  (17, .aload_n 0, 0, 0, []),
  (18, .getfield 15, 0, 0, []),
  (21, .invokevirtual 79, 0, 0, []),
  (24, .iconst 1, 1, 0, []),
  (25, .ireturn, 0, 0, [])],
  fdX3, [(42, fX5_isWord, 2, 5, 0), (65, fX3_refuse, 2, 3, 0), (79, fX5_next, 1, 5, 1)], [], [], [], 1)
noncomputable def fX3_needWord : aMF := a_fn none shp pX3_needWord 2 2
set_option maxRecDepth 20000 in
theorem kX3_needWord {l : Launch} {G : aG} (hZ : a_Z l G) : a_Con l G shp yX3_needWord (.code yX3_needWord cX3_needWord 2 (some .boolean)) 7 182 fX3_needWord :=
  a_mth none hZ.1 hZ.2.1 shp_len (fun _ h => nomatch h) hZ.2.2.1 (by decide +kernel) rfl (foX3 rfl) (a_cok_of trivial) (b_code [42,180,0,15,43,182,0,42,154,0,9,42,4,182,0,65,172,42,180,0,15,182,0,79,4,172] [] (by decide +kernel) (by decide +kernel) (by decide +kernel) (by decide +kernel)) rfl rfl (trivial) (⟨a_CQ_v hZ.2.1 (kX5_isWord hZ) lkX3_42 (a_CF_v TX5 7 wkX5_isWord lkX3_42 hdX5_isWord ⟨by decide, by decide⟩ rfl) rfl rfl,
    ⟨a_CQ_v hZ.2.1 (kX3_refuse hZ) lkX3_65 (a_CF_v TX3 4 wkX3_refuse lkX3_65 hdX3_refuse ⟨by decide, by decide⟩ rfl) rfl rfl,
    ⟨a_CQ_v hZ.2.1 (kX5_next hZ) lkX3_79 (a_CF_v TX5 7 wkX5_next lkX3_79 hdX5_next ⟨by decide, by decide⟩ rfl) rfl rfl,
    trivial⟩⟩⟩)
noncomputable def pX3_readValue : aPrg := ([(0, .aload_n 0, 0, 0, []),
  (1, .getfield 15, 0, 0, []),
  (4, .ldc 177, 0, 0, []),
  (6, .invokevirtual 42, 0, 0, []),
  (9, .ifCond .eq 7, 0, 16, []),
  (12, .iconst (-1), (-1), 0, []),
  (13, .goto 55, 0, 68, []),
  (16, .aload_n 0, 0, 0, []),
  (17, .getfield 15, 0, 0, []),
  (20, .ldc 89, 0, 0, []),
  (22, .invokevirtual 42, 0, 0, []),
  (25, .ifCond .eq 8, 0, 33, []),
  (28, .bipush (-2), (-2), 0, []),
  (30, .goto 38, 0, 68, []),
  (33, .aload_n 0, 0, 0, []),
  (34, .getfield 15, 0, 0, []),
  (37, .ldc 95, 0, 0, []),
  (39, .invokevirtual 42, 0, 0, []),
  (42, .ifCond .eq 8, 0, 50, []),
  (45, .bipush (-3), (-3), 0, []),
  (47, .goto 21, 0, 68, []),
  (50, .aload_n 0, 0, 0, []),
  (51, .getfield 15, 0, 0, []),
  (54, .ldc 97, 0, 0, []),
  (56, .invokevirtual 42, 0, 0, []),
  (59, .ifCond .eq 8, 0, 67, []),
  (62, .bipush (-4), (-4), 0, []),
  (64, .goto 4, 0, 68, []),
  (67, .iconst 0, 0, 0, []),
  (68, .istore_n 1, 0, 0, []),
  (69, .iload_n 1, 0, 0, []),
  (70, .ifCond .ne 9, 0, 79, []),
  (73, .aload_n 0, 0, 0, []),
  (74, .iconst 3, 3, 0, []),
  (75, .invokevirtual 65, 0, 0, []),
  (78, .ireturn, 0, 0, []),
  (79, .aload_n 0, 0, 0, []),
  (80, .getfield 19, 0, 0, []),
  (83, .getfield 126, 0, 0, []),
  (86, .iload_n 1, 0, 0, []),
  (87, .invokevirtual 151, 0, 0, []),
  (90, .aload_n 0, 0, 0, []),
  (91, .getfield 15, 0, 0, []),
  (94, .invokevirtual 79, 0, 0, []),
  (97, .iconst 1, 1, 0, []),
  (98, .ireturn, 0, 0, [])],
  fdX3, [(42, fX5_isWord, 2, 5, 0), (65, fX3_refuse, 2, 3, 0), (151, fX1_add, 2, 1, 1), (79, fX5_next, 1, 5, 1)], [(177, .ref 1015), (89, .ref 1004), (95, .ref 1005), (97, .ref 1006)], [], [], 1)
noncomputable def fX3_readValue : aMF := a_fn none shp pX3_readValue 2 1
set_option maxRecDepth 20000 in
theorem lkX3_151 : Cond.methodLink RX3 151 yX1_add ∈ lw_g := a_p1 817 rfl rfl
set_option maxRecDepth 20000 in
theorem kX3_readValue {l : Launch} {G : aG} (hZ : a_Z l G) : a_Con l G shp yX3_readValue (.code yX3_readValue cX3_readValue 2 (some .boolean)) 7 182 fX3_readValue :=
  a_mth none hZ.1 hZ.2.1 shp_len (fun _ h => nomatch h) hZ.2.2.1 (by decide +kernel) rfl (foX3 rfl) (a_cok_of ⟨⟨_, z_15 hZ⟩, ⟨⟨_, z_4 hZ⟩, ⟨⟨_, z_5 hZ⟩, ⟨⟨_, z_6 hZ⟩, trivial⟩⟩⟩⟩) (b_code [42,180,0,15,18,177,182,0,42,153,0,7,2,167,0,55,42,180,0,15,18,89,182,0,42,153,0,8,16,254,167,0,38,42,180,0,15,18,95,182,0,42,153,0,8,16,253,167,0,21,42,180,0,15,18,97,182,0,42,153,0,8,16,252,167,0,4,3,60,27,154,0,9,42,6,182,0,65,172,42,180,0,19,180,0,126,27,182,0,151,42,180,0,15,182,0,79,4,172] [] (by decide +kernel) (by decide +kernel) (by decide +kernel) (by decide +kernel)) rfl rfl (trivial) (⟨a_CQ_v hZ.2.1 (kX5_isWord hZ) lkX3_42 (a_CF_v TX5 7 wkX5_isWord lkX3_42 hdX5_isWord ⟨by decide, by decide⟩ rfl) rfl rfl,
    ⟨a_CQ_v hZ.2.1 (kX3_refuse hZ) lkX3_65 (a_CF_v TX3 4 wkX3_refuse lkX3_65 hdX3_refuse ⟨by decide, by decide⟩ rfl) rfl rfl,
    ⟨a_CQ_v hZ.2.1 (kX1_add hZ) lkX3_151 (a_CF_v TX1 4 wkX1_add lkX3_151 hdX1_add ⟨by decide, by decide⟩ rfl) rfl rfl,
    ⟨a_CQ_v hZ.2.1 (kX5_next hZ) lkX3_79 (a_CF_v TX5 7 wkX5_next lkX3_79 hdX5_next ⟨by decide, by decide⟩ rfl) rfl rfl,
    trivial⟩⟩⟩⟩)
noncomputable def pX3_readExpr (g : Nat → aMF) : aPrg := ([(0, .iload_n 1, 0, 0, []),
  (1, .iconst 5, 5, 0, []),
  (2, .if_icmp .le 57, 0, 59, []),
  (5, .aload_n 0, 0, 0, []),
  (6, .getfield 15, 0, 0, []),
  (9, .getfield 37, 0, 0, []),
  (12, .iconst 2, 2, 0, []),
  (13, .if_icmp .eq 26, 0, 39, []),
  (16, .aload_n 0, 0, 0, []),
  (17, .getfield 15, 0, 0, []),
  (20, .getfield 37, 0, 0, []),
  (23, .iconst 1, 1, 0, []),
  (24, .if_icmp .eq 15, 0, 39, []),
  (27, .aload_n 0, 0, 0, []),
  (28, .getfield 15, 0, 0, []),
  (31, .bipush 40, 40, 0, []),
  (33, .invokevirtual 135, 0, 0, []),
  (36, .ifCond .eq 7, 0, 43, []),
  (39, .iconst 1, 1, 0, []),
  (40, .goto 4, 0, 44, []),
  (43, .iconst 0, 0, 0, []),
  (44, .istore_n 2, 0, 0, []),
  (45, .aload_n 0, 0, 0, []),
  (46, .iload_n 2, 0, 0, []),
  (47, .ifCond .eq 7, 0, 54, []),
  (50, .iconst 2, 2, 0, []),
  (51, .goto 4, 0, 55, []),
  (54, .iconst 1, 1, 0, []),
  (55, .invokevirtual 65, 0, 0, []),
  (58, .ireturn, 0, 0, []),
  (59, .aload_n 0, 0, 0, []),
  (60, .iconst 0, 0, 0, []),
  (61, .iload_n 1, 0, 0, []),
  (62, .invokevirtual 138, 0, 0, []),
  (65, .ireturn, 0, 0, [])],
  fdX3, [(135, fX5_isSign, 2, 5, 0), (65, fX3_refuse, 2, 3, 0), (138, (g 1), 3, 3, 0)], [], [], [], 1)
noncomputable def pX3_readLevel (g : Nat → aMF) : aPrg := ([(0, .iload_n 1, 0, 0, []),
  (1, .iconst 2, 2, 0, []),
  (2, .if_icmp .ne 9, 0, 11, []),
  (5, .aload_n 0, 0, 0, []),
  (6, .iload_n 2, 0, 0, []),
  (7, .invokevirtual 141, 0, 0, []),
  (10, .ireturn, 0, 0, []),
  (11, .iload_n 1, 0, 0, []),
  (12, .iconst 5, 5, 0, []),
  (13, .if_icmp .lt 9, 0, 22, []),
  (16, .aload_n 0, 0, 0, []),
  (17, .iload_n 2, 0, 0, []),
  (18, .invokevirtual 144, 0, 0, []),
  (21, .ireturn, 0, 0, []),
  (22, .aload_n 0, 0, 0, []),
  (23, .iload_n 1, 0, 0, []),
  (24, .iconst 1, 1, 0, []),
  (25, .iadd, 0, 0, []),
  (26, .iload_n 2, 0, 0, []),
  (27, .invokevirtual 138, 0, 0, []),
  (30, .istore_n 3, 0, 0, []),
  (31, .iconst 0, 0, 0, []),
  (32, .istore 4, 0, 0, []),
  (34, .iload 4, 0, 0, []),
  (36, .sipush 700, 700, 0, []),
  (39, .if_icmp .ge 56, 0, 95, []),
  (42, .iload_n 3, 0, 0, []),
  (43, .ifCond .eq 52, 0, 95, []),
  (46, .aload_n 0, 0, 0, []),
  (47, .iload_n 1, 0, 0, []),
  (48, .invokevirtual 147, 0, 0, []),
  (51, .istore 5, 0, 0, []),
  (53, .iload 5, 0, 0, []),
  (55, .ifCond .ne 6, 0, 61, []),
  (58, .goto 37, 0, 95, []),
  (61, .aload_n 0, 0, 0, []),
  (62, .getfield 15, 0, 0, []),
  (65, .invokevirtual 79, 0, 0, []),
  (68, .aload_n 0, 0, 0, []),
  (69, .iload_n 1, 0, 0, []),
  (70, .iconst 1, 1, 0, []),
  (71, .iadd, 0, 0, []),
  (72, .iload_n 2, 0, 0, []),
  (73, .invokevirtual 138, 0, 0, []),
  (76, .istore_n 3, 0, 0, []),
  (77, .aload_n 0, 0, 0, []),
  (78, .getfield 19, 0, 0, []),
  (81, .getfield 126, 0, 0, []),
  (84, .iload 5, 0, 0, []),
  (86, .invokevirtual 151, 0, 0, []),
  (89, .iinc 4 1, 1, 0, []),
  (92, .goto (-58), 0, 34, []),
  (95, .iload_n 3, 0, 0, []),
  (96, .ireturn, 0, 0, [])],
  fdX3, [(141, (g 2), 2, 3, 0), (144, (g 3), 2, 3, 0), (138, (g 1), 3, 3, 0), (147, fX3_operatorOf, 2, 3, 0), (79, fX5_next, 1, 5, 1), (151, fX1_add, 2, 1, 1)], [], [], [], 1)
noncomputable def pX3_readTest (g : Nat → aMF) : aPrg := ([(0, .iconst 0, 0, 0, []),
  (1, .istore_n 2, 0, 0, []),
  (2, .iload_n 2, 0, 0, []),
  (3, .bipush 6, 6, 0, []),
  (5, .if_icmp .ge 28, 0, 33, []),
  (8, .aload_n 0, 0, 0, []),
  (9, .getfield 15, 0, 0, []),
  (12, .ldc 158, 0, 0, []),
  (14, .invokevirtual 42, 0, 0, []),
  (17, .ifCond .eq 16, 0, 33, []),
  (20, .iinc 2 1, 1, 0, []),
  (23, .aload_n 0, 0, 0, []),
  (24, .getfield 15, 0, 0, []),
  (27, .invokevirtual 79, 0, 0, []),
  (30, .goto (-28), 0, 2, []),
  (33, .aload_n 0, 0, 0, []),
  (34, .getfield 15, 0, 0, []),
  (37, .ldc 158, 0, 0, []),
  (39, .invokevirtual 42, 0, 0, []),
  (42, .ifCond .eq 9, 0, 51, []),
  (45, .aload_n 0, 0, 0, []),
  (46, .iconst 2, 2, 0, []),
  (47, .invokevirtual 65, 0, 0, []),
  (50, .ireturn, 0, 0, []),
  (51, .aload_n 0, 0, 0, []),
  (52, .iconst 3, 3, 0, []),
  (53, .iload_n 1, 0, 0, []),
  (54, .invokevirtual 138, 0, 0, []),
  (57, .istore_n 3, 0, 0, []),
  (58, .iload_n 3, 0, 0, []),
  (59, .ifCond .eq 11, 0, 70, []),
  (62, .aload_n 0, 0, 0, []),
  (63, .iconst 2, 2, 0, []),
  (64, .invokevirtual 147, 0, 0, []),
  (67, .goto 4, 0, 71, []),
  (70, .iconst 0, 0, 0, []),
  (71, .istore 4, 0, 0, []),
  (73, .iload 4, 0, 0, []),
  (75, .ifCond .eq 29, 0, 104, []),
  (78, .aload_n 0, 0, 0, []),
  (79, .getfield 15, 0, 0, []),
  (82, .invokevirtual 79, 0, 0, []),
  (85, .aload_n 0, 0, 0, []),
  (86, .iconst 3, 3, 0, []),
  (87, .iload_n 1, 0, 0, []),
  (88, .invokevirtual 138, 0, 0, []),
  (91, .istore_n 3, 0, 0, []),
  (92, .aload_n 0, 0, 0, []),
  (93, .getfield 19, 0, 0, []),
  (96, .getfield 126, 0, 0, []),
  (99, .iload 4, 0, 0, []),
  (101, .invokevirtual 151, 0, 0, []),
  (104, .iconst 0, 0, 0, []),
  (105, .istore 5, 0, 0, []),
  (107, .iload 5, 0, 0, []),
  (109, .iload_n 2, 0, 0, []),
  (110, .if_icmp .ge 21, 0, 131, []),
  (113, .aload_n 0, 0, 0, []),
  (114, .getfield 19, 0, 0, []),
  (117, .getfield 126, 0, 0, []),
  (120, .bipush (-7), (-7), 0, []),
  (122, .invokevirtual 151, 0, 0, []),
  (125, .iinc 5 1, 1, 0, []),
  (128, .goto (-21), 0, 107, []),
  (131, .iload_n 3, 0, 0, []),
  (132, .ireturn, 0, 0, [])],
  fdX3, [(42, fX5_isWord, 2, 5, 0), (79, fX5_next, 1, 5, 1), (65, fX3_refuse, 2, 3, 0), (138, (g 1), 3, 3, 0), (147, fX3_operatorOf, 2, 3, 0), (151, fX1_add, 2, 1, 1)], [(158, .ref 1010)], [], [], 1)
noncomputable def pX3_readSingle (g : Nat → aMF) : aPrg := ([(0, .aload_n 0, 0, 0, []),
  (1, .getfield 15, 0, 0, []),
  (4, .bipush 40, 40, 0, []),
  (6, .invokevirtual 135, 0, 0, []),
  (9, .ifCond .eq 35, 0, 44, []),
  (12, .aload_n 0, 0, 0, []),
  (13, .getfield 15, 0, 0, []),
  (16, .invokevirtual 79, 0, 0, []),
  (19, .aload_n 0, 0, 0, []),
  (20, .iload_n 1, 0, 0, []),
  (21, .iconst 1, 1, 0, []),
  (22, .iadd, 0, 0, []),
  (23, .invokevirtual 132, 0, 0, []),
  (26, .ifCond .eq 16, 0, 42, []),
  (29, .aload_n 0, 0, 0, []),
  (30, .bipush 41, 41, 0, []),
  (32, .invokevirtual 69, 0, 0, []),
  (35, .ifCond .eq 7, 0, 42, []),
  (38, .iconst 1, 1, 0, []),
  (39, .goto 4, 0, 43, []),
  (42, .iconst 0, 0, 0, []),
  (43, .ireturn, 0, 0, []),
  (44, .aload_n 0, 0, 0, []),
  (45, .getfield 15, 0, 0, []),
  (48, .ldc 160, 0, 0, []),
  (50, .invokevirtual 42, 0, 0, []),
  (53, .ifCond .eq 9, 0, 62, []),
  (56, .aload_n 0, 0, 0, []),
  (57, .iload_n 1, 0, 0, []),
  (58, .invokevirtual 162, 0, 0, []),
  (61, .ireturn, 0, 0, []),
  (62, .aload_n 0, 0, 0, []),
  (63, .getfield 15, 0, 0, []),
  (66, .getfield 37, 0, 0, []),
  (69, .iconst 1, 1, 0, []),
  (70, .if_icmp .ne 8, 0, 78, []),
  (73, .aload_n 0, 0, 0, []),
  (74, .invokevirtual 165, 0, 0, []),
  (77, .ireturn, 0, 0, []),
  (78, .aload_n 0, 0, 0, []),
  (79, .invokevirtual 102, 0, 0, []),
  (82, .ifCond .ne 5, 0, 87, []),
  (85, .iconst 0, 0, 0, []),
  (86, .ireturn, 0, 0, []),
  (87, .aload_n 0, 0, 0, []),
  (88, .getfield 19, 0, 0, []),
  (91, .getfield 126, 0, 0, []),
  (94, .aload_n 0, 0, 0, []),
  (95, .getfield 15, 0, 0, []),
  (98, .getfield 105, 0, 0, []),
  (101, .invokevirtual 151, 0, 0, []),
  (104, .aload_n 0, 0, 0, []),
  (105, .getfield 15, 0, 0, []),
  (108, .invokevirtual 79, 0, 0, []),
  (111, .iconst 1, 1, 0, []),
  (112, .ireturn, 0, 0, [])],
  fdX3, [(135, fX5_isSign, 2, 5, 0), (79, fX5_next, 1, 5, 1), (132, (g 0), 2, 3, 0), (69, fX3_needSign, 2, 3, 0), (42, fX5_isWord, 2, 5, 0), (162, (g 4), 2, 3, 0), (165, fX3_readValue, 1, 3, 0), (102, fX3_needNumber, 1, 3, 0), (151, fX1_add, 2, 1, 1)], [(160, .ref 1011)], [], [], 1)
noncomputable def pX3_readIf (g : Nat → aMF) : aPrg := ([(0, .aload_n 0, 0, 0, []),
  (1, .getfield 15, 0, 0, []),
  (4, .invokevirtual 79, 0, 0, []),
  (7, .aload_n 0, 0, 0, []),
  (8, .iload_n 1, 0, 0, []),
  (9, .iconst 1, 1, 0, []),
  (10, .iadd, 0, 0, []),
  (11, .invokevirtual 132, 0, 0, []),
  (14, .ifCond .eq 54, 0, 68, []),
  (17, .aload_n 0, 0, 0, []),
  (18, .ldc 168, 0, 0, []),
  (20, .invokevirtual 170, 0, 0, []),
  (23, .ifCond .eq 45, 0, 68, []),
  (26, .aload_n 0, 0, 0, []),
  (27, .iload_n 1, 0, 0, []),
  (28, .iconst 1, 1, 0, []),
  (29, .iadd, 0, 0, []),
  (30, .invokevirtual 132, 0, 0, []),
  (33, .ifCond .eq 35, 0, 68, []),
  (36, .aload_n 0, 0, 0, []),
  (37, .ldc 173, 0, 0, []),
  (39, .invokevirtual 170, 0, 0, []),
  (42, .ifCond .eq 26, 0, 68, []),
  (45, .aload_n 0, 0, 0, []),
  (46, .iload_n 1, 0, 0, []),
  (47, .iconst 1, 1, 0, []),
  (48, .iadd, 0, 0, []),
  (49, .invokevirtual 132, 0, 0, []),
  (52, .ifCond .eq 16, 0, 68, []),
  (55, .aload_n 0, 0, 0, []),
  (56, .ldc 175, 0, 0, []),
  (58, .invokevirtual 170, 0, 0, []),
  (61, .ifCond .eq 7, 0, 68, []),
  (64, .iconst 1, 1, 0, []),
  (65, .goto 4, 0, 69, []),
  (68, .iconst 0, 0, 0, []),
  (69, .istore_n 2, 0, 0, []),
  (70, .aload_n 0, 0, 0, []),
  (71, .getfield 19, 0, 0, []),
  (74, .getfield 126, 0, 0, []),
  (77, .bipush (-14), (-14), 0, []),
  (79, .invokevirtual 151, 0, 0, []),
  (82, .iload_n 2, 0, 0, []),
  (83, .ireturn, 0, 0, [])],
  fdX3, [(79, fX5_next, 1, 5, 1), (132, (g 0), 2, 3, 0), (170, fX3_needWord, 2, 3, 0), (151, fX1_add, 2, 1, 1)], [(168, .ref 1012), (173, .ref 1013), (175, .ref 1014)], [], [], 1)
noncomputable def fRD : Nat → Nat → aMF
  | 0 => fun _ _ _ => none
  | d + 1 => fun i => match i with
    | 0 => a_fn none shp (pX3_readExpr (fRD d)) 3 2
    | 1 => a_fn none shp (pX3_readLevel (fRD d)) 6 3
    | 2 => a_fn none shp (pX3_readTest (fRD d)) 6 2
    | 3 => a_fn none shp (pX3_readSingle (fRD d)) 2 2
    | _ => a_fn none shp (pX3_readIf (fRD d)) 3 2
set_option maxRecDepth 20000 in
theorem wkX3_readLevel : ∀ w ∈ [Cond.code yX3_readLevel cX3_readLevel 6 (some .boolean), .initialized yX3_readLevel.cls, .instanceMethod yX3_readLevel, .selects yX3_readLevel.cls yX3_readLevel yX3_readLevel], w ∈ lw_g := a_ps [805, 100, 804, 26] rfl rfl
theorem hdX3_readLevel : yX3_readLevel.cls ≠ "java/lang/invoke/MethodHandle" ∧ yX3_readLevel.cls ≠ "java/lang/invoke/VarHandle" ∧ (parseMethodDescriptor yX3_readLevel.desc).map (fun d => d.parameters.length) = some 2 := by decide +kernel
set_option maxRecDepth 20000 in
theorem lkX3_138 : Cond.methodLink RX3 138 yX3_readLevel ∈ lw_g := a_p1 802 rfl rfl
set_option maxRecDepth 20000 in
theorem wkX3_readTest : ∀ w ∈ [Cond.code yX3_readTest cX3_readTest 6 (some .boolean), .initialized yX3_readTest.cls, .instanceMethod yX3_readTest, .selects yX3_readTest.cls yX3_readTest yX3_readTest], w ∈ lw_g := a_ps [809, 100, 808, 27] rfl rfl
theorem hdX3_readTest : yX3_readTest.cls ≠ "java/lang/invoke/MethodHandle" ∧ yX3_readTest.cls ≠ "java/lang/invoke/VarHandle" ∧ (parseMethodDescriptor yX3_readTest.desc).map (fun d => d.parameters.length) = some 1 := by decide +kernel
set_option maxRecDepth 20000 in
theorem lkX3_141 : Cond.methodLink RX3 141 yX3_readTest ∈ lw_g := a_p1 806 rfl rfl
set_option maxRecDepth 20000 in
theorem wkX3_readSingle : ∀ w ∈ [Cond.code yX3_readSingle cX3_readSingle 2 (some .boolean), .initialized yX3_readSingle.cls, .instanceMethod yX3_readSingle, .selects yX3_readSingle.cls yX3_readSingle yX3_readSingle], w ∈ lw_g := a_ps [821, 100, 820, 29] rfl rfl
theorem hdX3_readSingle : yX3_readSingle.cls ≠ "java/lang/invoke/MethodHandle" ∧ yX3_readSingle.cls ≠ "java/lang/invoke/VarHandle" ∧ (parseMethodDescriptor yX3_readSingle.desc).map (fun d => d.parameters.length) = some 1 := by decide +kernel
set_option maxRecDepth 20000 in
theorem lkX3_144 : Cond.methodLink RX3 144 yX3_readSingle ∈ lw_g := a_p1 818 rfl rfl
set_option maxRecDepth 20000 in
theorem wkX3_operatorOf : ∀ w ∈ [Cond.code yX3_operatorOf cX3_operatorOf 2 (some .int), .initialized yX3_operatorOf.cls, .instanceMethod yX3_operatorOf, .selects yX3_operatorOf.cls yX3_operatorOf yX3_operatorOf], w ∈ lw_g := a_ps [814, 100, 813, 28] rfl rfl
theorem hdX3_operatorOf : yX3_operatorOf.cls ≠ "java/lang/invoke/MethodHandle" ∧ yX3_operatorOf.cls ≠ "java/lang/invoke/VarHandle" ∧ (parseMethodDescriptor yX3_operatorOf.desc).map (fun d => d.parameters.length) = some 1 := by decide +kernel
set_option maxRecDepth 20000 in
theorem lkX3_147 : Cond.methodLink RX3 147 yX3_operatorOf ∈ lw_g := a_p1 811 rfl rfl
set_option maxRecDepth 20000 in
theorem wkX3_readExpr : ∀ w ∈ [Cond.code yX3_readExpr cX3_readExpr 3 (some .boolean), .initialized yX3_readExpr.cls, .instanceMethod yX3_readExpr, .selects yX3_readExpr.cls yX3_readExpr yX3_readExpr], w ∈ lw_g := a_ps [797, 100, 796, 25] rfl rfl
theorem hdX3_readExpr : yX3_readExpr.cls ≠ "java/lang/invoke/MethodHandle" ∧ yX3_readExpr.cls ≠ "java/lang/invoke/VarHandle" ∧ (parseMethodDescriptor yX3_readExpr.desc).map (fun d => d.parameters.length) = some 1 := by decide +kernel
set_option maxRecDepth 20000 in
theorem lkX3_132 : Cond.methodLink RX3 132 yX3_readExpr ∈ lw_g := a_p1 794 rfl rfl
set_option maxRecDepth 20000 in
theorem wkX3_needSign : ∀ w ∈ [Cond.code yX3_needSign cX3_needSign 2 (some .boolean), .initialized yX3_needSign.cls, .instanceMethod yX3_needSign, .selects yX3_needSign.cls yX3_needSign yX3_needSign], w ∈ lw_g := a_ps [825, 100, 824, 30] rfl rfl
theorem hdX3_needSign : yX3_needSign.cls ≠ "java/lang/invoke/MethodHandle" ∧ yX3_needSign.cls ≠ "java/lang/invoke/VarHandle" ∧ (parseMethodDescriptor yX3_needSign.desc).map (fun d => d.parameters.length) = some 1 := by decide +kernel
set_option maxRecDepth 20000 in
theorem lkX3_69 : Cond.methodLink RX3 69 yX3_needSign ∈ lw_g := a_p1 822 rfl rfl
set_option maxRecDepth 20000 in
theorem wkX3_readIf : ∀ w ∈ [Cond.code yX3_readIf cX3_readIf 3 (some .boolean), .initialized yX3_readIf.cls, .instanceMethod yX3_readIf, .selects yX3_readIf.cls yX3_readIf yX3_readIf], w ∈ lw_g := a_ps [830, 100, 829, 31] rfl rfl
theorem hdX3_readIf : yX3_readIf.cls ≠ "java/lang/invoke/MethodHandle" ∧ yX3_readIf.cls ≠ "java/lang/invoke/VarHandle" ∧ (parseMethodDescriptor yX3_readIf.desc).map (fun d => d.parameters.length) = some 1 := by decide +kernel
set_option maxRecDepth 20000 in
theorem lkX3_162 : Cond.methodLink RX3 162 yX3_readIf ∈ lw_g := a_p1 827 rfl rfl
set_option maxRecDepth 20000 in
theorem wkX3_readValue : ∀ w ∈ [Cond.code yX3_readValue cX3_readValue 2 (some .boolean), .initialized yX3_readValue.cls, .instanceMethod yX3_readValue, .selects yX3_readValue.cls yX3_readValue yX3_readValue], w ∈ lw_g := a_ps [841, 100, 840, 33] rfl rfl
theorem hdX3_readValue : yX3_readValue.cls ≠ "java/lang/invoke/MethodHandle" ∧ yX3_readValue.cls ≠ "java/lang/invoke/VarHandle" ∧ (parseMethodDescriptor yX3_readValue.desc).map (fun d => d.parameters.length) = some 0 := by decide +kernel
set_option maxRecDepth 20000 in
theorem lkX3_165 : Cond.methodLink RX3 165 yX3_readValue ∈ lw_g := a_p1 838 rfl rfl
set_option maxRecDepth 20000 in
theorem wkX3_needWord : ∀ w ∈ [Cond.code yX3_needWord cX3_needWord 2 (some .boolean), .initialized yX3_needWord.cls, .instanceMethod yX3_needWord, .selects yX3_needWord.cls yX3_needWord yX3_needWord], w ∈ lw_g := a_ps [835, 100, 834, 32] rfl rfl
theorem hdX3_needWord : yX3_needWord.cls ≠ "java/lang/invoke/MethodHandle" ∧ yX3_needWord.cls ≠ "java/lang/invoke/VarHandle" ∧ (parseMethodDescriptor yX3_needWord.desc).map (fun d => d.parameters.length) = some 1 := by decide +kernel
set_option maxRecDepth 20000 in
theorem lkX3_170 : Cond.methodLink RX3 170 yX3_needWord ∈ lw_g := a_p1 832 rfl rfl
set_option maxRecDepth 20000 in
theorem kfRD {l : Launch} {G : aG} (hZ : a_Z l G) : ∀ d : Nat, a_Con l G shp yX3_readExpr (.code yX3_readExpr cX3_readExpr 3 (some .boolean)) (8 + d) (203 + 40 * d) (fRD d 0) ∧
    a_Con l G shp yX3_readLevel (.code yX3_readLevel cX3_readLevel 6 (some .boolean)) (8 + d) (203 + 40 * d) (fRD d 1) ∧
    a_Con l G shp yX3_readTest (.code yX3_readTest cX3_readTest 6 (some .boolean)) (8 + d) (203 + 40 * d) (fRD d 2) ∧
    a_Con l G shp yX3_readSingle (.code yX3_readSingle cX3_readSingle 2 (some .boolean)) (8 + d) (203 + 40 * d) (fRD d 3) ∧
    a_Con l G shp yX3_readIf (.code yX3_readIf cX3_readIf 3 (some .boolean)) (8 + d) (203 + 40 * d) (fRD d 4)
  | 0 => ⟨(fun _ _ _ _ h => nomatch h), (fun _ _ _ _ h => nomatch h), (fun _ _ _ _ h => nomatch h), (fun _ _ _ _ h => nomatch h), (fun _ _ _ _ h => nomatch h)⟩
  | d + 1 => by
    have ih := kfRD hZ d
    refine ⟨?_, ?_, ?_, ?_, ?_⟩
    · exact a_mth none hZ.1 hZ.2.1 shp_len (fun _ h => nomatch h) hZ.2.2.1 (by decide +kernel) rfl (foX3 rfl) (a_cok_of trivial) (b_code [27,8,164,0,57,42,180,0,15,180,0,37,5,159,0,26,42,180,0,15,180,0,37,4,159,0,15,42,180,0,15,16,40,182,0,135,153,0,7,4,167,0,4,3,61,42,28,153,0,7,5,167,0,4,4,182,0,65,172,42,3,27,182,0,138,172] [] (by decide +kernel) (by decide +kernel) (by decide +kernel) (by decide +kernel)) rfl rfl (trivial) (⟨a_CQ_v hZ.2.1 (kX5_isSign hZ) lkX3_135 (a_CF_v TX5 7 wkX5_isSign lkX3_135 hdX5_isSign ⟨by decide, by decide⟩ rfl) (Nat.ble_eq_true_of_le (by omega)) (Nat.ble_eq_true_of_le (by omega)),
    ⟨a_CQ_v hZ.2.1 (kX3_refuse hZ) lkX3_65 (a_CF_v TX3 4 wkX3_refuse lkX3_65 hdX3_refuse ⟨by decide, by decide⟩ rfl) (Nat.ble_eq_true_of_le (by omega)) (Nat.ble_eq_true_of_le (by omega)),
    ⟨a_CQ_v hZ.2.1 (ih.2.1) lkX3_138 (a_CF_v TX3 4 wkX3_readLevel lkX3_138 hdX3_readLevel ⟨by decide, by decide⟩ rfl) (Nat.ble_eq_true_of_le (by omega)) (Nat.ble_eq_true_of_le (by omega)),
    trivial⟩⟩⟩)
    · exact a_mth none hZ.1 hZ.2.1 shp_len (fun _ h => nomatch h) hZ.2.2.1 (by decide +kernel) rfl (foX3 rfl) (a_cok_of trivial) (b_code [27,5,160,0,9,42,28,182,0,141,172,27,8,161,0,9,42,28,182,0,144,172,42,27,4,96,28,182,0,138,62,3,54,4,21,4,17,2,188,162,0,56,29,153,0,52,42,27,182,0,147,54,5,21,5,154,0,6,167,0,37,42,180,0,15,182,0,79,42,27,4,96,28,182,0,138,62,42,180,0,19,180,0,126,21,5,182,0,151,132,4,1,167,255,198,29,172] [] (by decide +kernel) (by decide +kernel) (by decide +kernel) (by decide +kernel)) rfl rfl (trivial) (⟨a_CQ_v hZ.2.1 (ih.2.2.1) lkX3_141 (a_CF_v TX3 4 wkX3_readTest lkX3_141 hdX3_readTest ⟨by decide, by decide⟩ rfl) (Nat.ble_eq_true_of_le (by omega)) (Nat.ble_eq_true_of_le (by omega)),
    ⟨a_CQ_v hZ.2.1 (ih.2.2.2.1) lkX3_144 (a_CF_v TX3 4 wkX3_readSingle lkX3_144 hdX3_readSingle ⟨by decide, by decide⟩ rfl) (Nat.ble_eq_true_of_le (by omega)) (Nat.ble_eq_true_of_le (by omega)),
    ⟨a_CQ_v hZ.2.1 (ih.2.1) lkX3_138 (a_CF_v TX3 4 wkX3_readLevel lkX3_138 hdX3_readLevel ⟨by decide, by decide⟩ rfl) (Nat.ble_eq_true_of_le (by omega)) (Nat.ble_eq_true_of_le (by omega)),
    ⟨a_CQ_v hZ.2.1 (kX3_operatorOf hZ) lkX3_147 (a_CF_v TX3 4 wkX3_operatorOf lkX3_147 hdX3_operatorOf ⟨by decide, by decide⟩ rfl) (Nat.ble_eq_true_of_le (by omega)) (Nat.ble_eq_true_of_le (by omega)),
    ⟨a_CQ_v hZ.2.1 (kX5_next hZ) lkX3_79 (a_CF_v TX5 7 wkX5_next lkX3_79 hdX5_next ⟨by decide, by decide⟩ rfl) (Nat.ble_eq_true_of_le (by omega)) (Nat.ble_eq_true_of_le (by omega)),
    ⟨a_CQ_v hZ.2.1 (kX1_add hZ) lkX3_151 (a_CF_v TX1 4 wkX1_add lkX3_151 hdX1_add ⟨by decide, by decide⟩ rfl) (Nat.ble_eq_true_of_le (by omega)) (Nat.ble_eq_true_of_le (by omega)),
    trivial⟩⟩⟩⟩⟩⟩)
    · exact a_mth none hZ.1 hZ.2.1 shp_len (fun _ h => nomatch h) hZ.2.2.1 (by decide +kernel) rfl (foX3 rfl) (a_cok_of ⟨⟨_, z_10 hZ⟩, trivial⟩) (b_code [3,61,28,16,6,162,0,28,42,180,0,15,18,158,182,0,42,153,0,16,132,2,1,42,180,0,15,182,0,79,167,255,228,42,180,0,15,18,158,182,0,42,153,0,9,42,5,182,0,65,172,42,6,27,182,0,138,62,29,153,0,11,42,5,182,0,147,167,0,4,3,54,4,21,4,153,0,29,42,180,0,15,182,0,79,42,6,27,182,0,138,62,42,180,0,19,180,0,126,21,4,182,0,151,3,54,5,21,5,28,162,0,21,42,180,0,19,180,0,126,16,249,182,0,151,132,5,1,167,255,235,29,172] [] (by decide +kernel) (by decide +kernel) (by decide +kernel) (by decide +kernel)) rfl rfl (trivial) (⟨a_CQ_v hZ.2.1 (kX5_isWord hZ) lkX3_42 (a_CF_v TX5 7 wkX5_isWord lkX3_42 hdX5_isWord ⟨by decide, by decide⟩ rfl) (Nat.ble_eq_true_of_le (by omega)) (Nat.ble_eq_true_of_le (by omega)),
    ⟨a_CQ_v hZ.2.1 (kX5_next hZ) lkX3_79 (a_CF_v TX5 7 wkX5_next lkX3_79 hdX5_next ⟨by decide, by decide⟩ rfl) (Nat.ble_eq_true_of_le (by omega)) (Nat.ble_eq_true_of_le (by omega)),
    ⟨a_CQ_v hZ.2.1 (kX3_refuse hZ) lkX3_65 (a_CF_v TX3 4 wkX3_refuse lkX3_65 hdX3_refuse ⟨by decide, by decide⟩ rfl) (Nat.ble_eq_true_of_le (by omega)) (Nat.ble_eq_true_of_le (by omega)),
    ⟨a_CQ_v hZ.2.1 (ih.2.1) lkX3_138 (a_CF_v TX3 4 wkX3_readLevel lkX3_138 hdX3_readLevel ⟨by decide, by decide⟩ rfl) (Nat.ble_eq_true_of_le (by omega)) (Nat.ble_eq_true_of_le (by omega)),
    ⟨a_CQ_v hZ.2.1 (kX3_operatorOf hZ) lkX3_147 (a_CF_v TX3 4 wkX3_operatorOf lkX3_147 hdX3_operatorOf ⟨by decide, by decide⟩ rfl) (Nat.ble_eq_true_of_le (by omega)) (Nat.ble_eq_true_of_le (by omega)),
    ⟨a_CQ_v hZ.2.1 (kX1_add hZ) lkX3_151 (a_CF_v TX1 4 wkX1_add lkX3_151 hdX1_add ⟨by decide, by decide⟩ rfl) (Nat.ble_eq_true_of_le (by omega)) (Nat.ble_eq_true_of_le (by omega)),
    trivial⟩⟩⟩⟩⟩⟩)
    · exact a_mth none hZ.1 hZ.2.1 shp_len (fun _ h => nomatch h) hZ.2.2.1 (by decide +kernel) rfl (foX3 rfl) (a_cok_of ⟨⟨_, z_11 hZ⟩, trivial⟩) (b_code [42,180,0,15,16,40,182,0,135,153,0,35,42,180,0,15,182,0,79,42,27,4,96,182,0,132,153,0,16,42,16,41,182,0,69,153,0,7,4,167,0,4,3,172,42,180,0,15,18,160,182,0,42,153,0,9,42,27,182,0,162,172,42,180,0,15,180,0,37,4,160,0,8,42,182,0,165,172,42,182,0,102,154,0,5,3,172,42,180,0,19,180,0,126,42,180,0,15,180,0,105,182,0,151,42,180,0,15,182,0,79,4,172] [] (by decide +kernel) (by decide +kernel) (by decide +kernel) (by decide +kernel)) rfl rfl (trivial) (⟨a_CQ_v hZ.2.1 (kX5_isSign hZ) lkX3_135 (a_CF_v TX5 7 wkX5_isSign lkX3_135 hdX5_isSign ⟨by decide, by decide⟩ rfl) (Nat.ble_eq_true_of_le (by omega)) (Nat.ble_eq_true_of_le (by omega)),
    ⟨a_CQ_v hZ.2.1 (kX5_next hZ) lkX3_79 (a_CF_v TX5 7 wkX5_next lkX3_79 hdX5_next ⟨by decide, by decide⟩ rfl) (Nat.ble_eq_true_of_le (by omega)) (Nat.ble_eq_true_of_le (by omega)),
    ⟨a_CQ_v hZ.2.1 (ih.1) lkX3_132 (a_CF_v TX3 4 wkX3_readExpr lkX3_132 hdX3_readExpr ⟨by decide, by decide⟩ rfl) (Nat.ble_eq_true_of_le (by omega)) (Nat.ble_eq_true_of_le (by omega)),
    ⟨a_CQ_v hZ.2.1 (kX3_needSign hZ) lkX3_69 (a_CF_v TX3 4 wkX3_needSign lkX3_69 hdX3_needSign ⟨by decide, by decide⟩ rfl) (Nat.ble_eq_true_of_le (by omega)) (Nat.ble_eq_true_of_le (by omega)),
    ⟨a_CQ_v hZ.2.1 (kX5_isWord hZ) lkX3_42 (a_CF_v TX5 7 wkX5_isWord lkX3_42 hdX5_isWord ⟨by decide, by decide⟩ rfl) (Nat.ble_eq_true_of_le (by omega)) (Nat.ble_eq_true_of_le (by omega)),
    ⟨a_CQ_v hZ.2.1 (ih.2.2.2.2) lkX3_162 (a_CF_v TX3 4 wkX3_readIf lkX3_162 hdX3_readIf ⟨by decide, by decide⟩ rfl) (Nat.ble_eq_true_of_le (by omega)) (Nat.ble_eq_true_of_le (by omega)),
    ⟨a_CQ_v hZ.2.1 (kX3_readValue hZ) lkX3_165 (a_CF_v TX3 4 wkX3_readValue lkX3_165 hdX3_readValue ⟨by decide, by decide⟩ rfl) (Nat.ble_eq_true_of_le (by omega)) (Nat.ble_eq_true_of_le (by omega)),
    ⟨a_CQ_v hZ.2.1 (kX3_needNumber hZ) lkX3_102 (a_CF_v TX3 4 wkX3_needNumber lkX3_102 hdX3_needNumber ⟨by decide, by decide⟩ rfl) (Nat.ble_eq_true_of_le (by omega)) (Nat.ble_eq_true_of_le (by omega)),
    ⟨a_CQ_v hZ.2.1 (kX1_add hZ) lkX3_151 (a_CF_v TX1 4 wkX1_add lkX3_151 hdX1_add ⟨by decide, by decide⟩ rfl) (Nat.ble_eq_true_of_le (by omega)) (Nat.ble_eq_true_of_le (by omega)),
    trivial⟩⟩⟩⟩⟩⟩⟩⟩⟩)
    · exact a_mth none hZ.1 hZ.2.1 shp_len (fun _ h => nomatch h) hZ.2.2.1 (by decide +kernel) rfl (foX3 rfl) (a_cok_of ⟨⟨_, z_12 hZ⟩, ⟨⟨_, z_13 hZ⟩, ⟨⟨_, z_14 hZ⟩, trivial⟩⟩⟩) (b_code [42,180,0,15,182,0,79,42,27,4,96,182,0,132,153,0,54,42,18,168,182,0,170,153,0,45,42,27,4,96,182,0,132,153,0,35,42,18,173,182,0,170,153,0,26,42,27,4,96,182,0,132,153,0,16,42,18,175,182,0,170,153,0,7,4,167,0,4,3,61,42,180,0,19,180,0,126,16,242,182,0,151,28,172] [] (by decide +kernel) (by decide +kernel) (by decide +kernel) (by decide +kernel)) rfl rfl (trivial) (⟨a_CQ_v hZ.2.1 (kX5_next hZ) lkX3_79 (a_CF_v TX5 7 wkX5_next lkX3_79 hdX5_next ⟨by decide, by decide⟩ rfl) (Nat.ble_eq_true_of_le (by omega)) (Nat.ble_eq_true_of_le (by omega)),
    ⟨a_CQ_v hZ.2.1 (ih.1) lkX3_132 (a_CF_v TX3 4 wkX3_readExpr lkX3_132 hdX3_readExpr ⟨by decide, by decide⟩ rfl) (Nat.ble_eq_true_of_le (by omega)) (Nat.ble_eq_true_of_le (by omega)),
    ⟨a_CQ_v hZ.2.1 (kX3_needWord hZ) lkX3_170 (a_CF_v TX3 4 wkX3_needWord lkX3_170 hdX3_needWord ⟨by decide, by decide⟩ rfl) (Nat.ble_eq_true_of_le (by omega)) (Nat.ble_eq_true_of_le (by omega)),
    ⟨a_CQ_v hZ.2.1 (kX1_add hZ) lkX3_151 (a_CF_v TX1 4 wkX1_add lkX3_151 hdX1_add ⟨by decide, by decide⟩ rfl) (Nat.ble_eq_true_of_le (by omega)) (Nat.ble_eq_true_of_le (by omega)),
    trivial⟩⟩⟩⟩)
noncomputable abbrev fX3_readExpr : aMF := fRD 70 0
theorem kX3_readExpr {l : Launch} {G : aG} (hZ : a_Z l G) : a_Con l G shp yX3_readExpr (.code yX3_readExpr cX3_readExpr 3 (some .boolean)) 78 3003 fX3_readExpr := (kfRD hZ 70).1
noncomputable abbrev fX3_readLevel : aMF := fRD 70 1
theorem kX3_readLevel {l : Launch} {G : aG} (hZ : a_Z l G) : a_Con l G shp yX3_readLevel (.code yX3_readLevel cX3_readLevel 6 (some .boolean)) 78 3003 fX3_readLevel := (kfRD hZ 70).2.1
noncomputable abbrev fX3_readTest : aMF := fRD 70 2
theorem kX3_readTest {l : Launch} {G : aG} (hZ : a_Z l G) : a_Con l G shp yX3_readTest (.code yX3_readTest cX3_readTest 6 (some .boolean)) 78 3003 fX3_readTest := (kfRD hZ 70).2.2.1
noncomputable abbrev fX3_readSingle : aMF := fRD 70 3
theorem kX3_readSingle {l : Launch} {G : aG} (hZ : a_Z l G) : a_Con l G shp yX3_readSingle (.code yX3_readSingle cX3_readSingle 2 (some .boolean)) 78 3003 fX3_readSingle := (kfRD hZ 70).2.2.2.1
noncomputable abbrev fX3_readIf : aMF := fRD 70 4
theorem kX3_readIf {l : Launch} {G : aG} (hZ : a_Z l G) : a_Con l G shp yX3_readIf (.code yX3_readIf cX3_readIf 3 (some .boolean)) 78 3003 fX3_readIf := (kfRD hZ 70).2.2.2.2
end
section
/-! ===== programs and contracts, written by wip/whole/gen.py ===== -/
noncomputable def pX3_readLaw : aPrg := ([(0, .aload_n 0, 0, 0, []),
  (1, .getfield 19, 0, 0, []),
  (4, .getfield 122, 0, 0, []),
  (7, .ifCond .eq 9, 0, 16, []),
  (10, .aload_n 0, 0, 0, []),
  (11, .iconst 4, 4, 0, []),
  (12, .invokevirtual 65, 0, 0, []),
  (15, .ireturn, 0, 0, []),
  (16, .aload_n 0, 0, 0, []),
  (17, .getfield 19, 0, 0, []),
  (20, .iconst 1, 1, 0, []),
  (21, .putfield 122, 0, 0, []),
  (24, .aload_n 0, 0, 0, []),
  (25, .getfield 19, 0, 0, []),
  (28, .getfield 126, 0, 0, []),
  (31, .invokevirtual 129, 0, 0, []),
  (34, .aload_n 0, 0, 0, []),
  (35, .getfield 15, 0, 0, []),
  (38, .invokevirtual 79, 0, 0, []),
  (41, .aload_n 0, 0, 0, []),
  (42, .iconst 0, 0, 0, []),
  (43, .invokevirtual 132, 0, 0, []),
  (46, .ireturn, 0, 0, [])],
  fdX3, [(65, fX3_refuse, 2, 3, 0), (129, fX1_clear, 1, 1, 1), (79, fX5_next, 1, 5, 1), (132, fX3_readExpr, 2, 3, 0)], [], [], [], 1)
noncomputable def fX3_readLaw : aMF := a_fn none shp pX3_readLaw 1 1
set_option maxRecDepth 20000 in
theorem lkX3_129 : Cond.methodLink RX3 129 yX1_clear ∈ lw_g := a_p1 793 rfl rfl
set_option maxRecDepth 20000 in
theorem kX3_readLaw {l : Launch} {G : aG} (hZ : a_Z l G) : a_Con l G shp yX3_readLaw (.code yX3_readLaw cX3_readLaw 1 (some .boolean)) 79 3025 fX3_readLaw :=
  a_mth none hZ.1 hZ.2.1 shp_len (fun _ h => nomatch h) hZ.2.2.1 (by decide +kernel) rfl (foX3 rfl) (a_cok_of trivial) (b_code [42,180,0,19,180,0,122,153,0,9,42,7,182,0,65,172,42,180,0,19,4,181,0,122,42,180,0,19,180,0,126,182,0,129,42,180,0,15,182,0,79,42,3,182,0,132,172] [] (by decide +kernel) (by decide +kernel) (by decide +kernel) (by decide +kernel)) rfl rfl (trivial) (⟨a_CQ_v hZ.2.1 (kX3_refuse hZ) lkX3_65 (a_CF_v TX3 4 wkX3_refuse lkX3_65 hdX3_refuse ⟨by decide, by decide⟩ rfl) rfl rfl,
    ⟨a_CQ_v hZ.2.1 (kX1_clear hZ) lkX3_129 (a_CF_v TX1 4 wkX1_clear lkX3_129 hdX1_clear ⟨by decide, by decide⟩ rfl) rfl rfl,
    ⟨a_CQ_v hZ.2.1 (kX5_next hZ) lkX3_79 (a_CF_v TX5 7 wkX5_next lkX3_79 hdX5_next ⟨by decide, by decide⟩ rfl) rfl rfl,
    ⟨a_CQ_v hZ.2.1 (kX3_readExpr hZ) lkX3_132 (a_CF_v TX3 4 wkX3_readExpr lkX3_132 hdX3_readExpr ⟨by decide, by decide⟩ rfl) rfl rfl,
    trivial⟩⟩⟩⟩)
noncomputable def pX3_readAll : aPrg := ([(0, .aload_n 0, 0, 0, []),
  (1, .iconst 0, 0, 0, []),
  (2, .putfield 23, 0, 0, []),
  (5, .aload_n 0, 0, 0, []),
  (6, .iconst (-1), (-1), 0, []),
  (7, .putfield 9, 0, 0, []),
  (10, .aload_n 0, 0, 0, []),
  (11, .getfield 19, 0, 0, []),
  (14, .invokevirtual 26, 0, 0, []),
  (17, .aload_n 0, 0, 0, []),
  (18, .getfield 15, 0, 0, []),
  (21, .iload_n 1, 0, 0, []),
  (22, .invokevirtual 31, 0, 0, []),
  (25, .iconst 1, 1, 0, []),
  (26, .istore_n 2, 0, 0, []),
  (27, .iconst 0, 0, 0, []),
  (28, .istore_n 3, 0, 0, []),
  (29, .iload_n 3, 0, 0, []),
  (30, .sipush 700, 700, 0, []),
  (33, .if_icmp .ge 134, 0, 167, []),
  (36, .iload_n 2, 0, 0, []),
  (37, .ifCond .eq 130, 0, 167, []),
  (40, .aload_n 0, 0, 0, []),
  (41, .getfield 15, 0, 0, []),
  (44, .getfield 37, 0, 0, []),
  (47, .ifCond .eq 120, 0, 167, []),
  (50, .aload_n 0, 0, 0, []),
  (51, .getfield 15, 0, 0, []),
  (54, .ldc 40, 0, 0, []),
  (56, .invokevirtual 42, 0, 0, []),
  (59, .ifCond .eq 13, 0, 72, []),
  (62, .aload_n 0, 0, 0, []),
  (63, .invokevirtual 46, 0, 0, []),
  (66, .ifCond .eq 93, 0, 159, []),
  (69, .goto 77, 0, 146, []),
  (72, .aload_n 0, 0, 0, []),
  (73, .getfield 15, 0, 0, []),
  (76, .ldc 50, 0, 0, []),
  (78, .invokevirtual 42, 0, 0, []),
  (81, .ifCond .eq 13, 0, 94, []),
  (84, .aload_n 0, 0, 0, []),
  (85, .invokevirtual 52, 0, 0, []),
  (88, .ifCond .eq 71, 0, 159, []),
  (91, .goto 55, 0, 146, []),
  (94, .aload_n 0, 0, 0, []),
  (95, .getfield 15, 0, 0, []),
  (98, .ldc 55, 0, 0, []),
  (100, .invokevirtual 42, 0, 0, []),
  (103, .ifCond .eq 13, 0, 116, []),
  (106, .aload_n 0, 0, 0, []),
  (107, .invokevirtual 57, 0, 0, []),
  (110, .ifCond .eq 49, 0, 159, []),
  (113, .goto 33, 0, 146, []),
  (116, .aload_n 0, 0, 0, []),
  (117, .getfield 15, 0, 0, []),
  (120, .ldc 60, 0, 0, []),
  (122, .invokevirtual 42, 0, 0, []),
  (125, .ifCond .eq 13, 0, 138, []),
  (128, .aload_n 0, 0, 0, []),
  (129, .invokevirtual 62, 0, 0, []),
  (132, .ifCond .eq 27, 0, 159, []),
  (135, .goto 11, 0, 146, []),
  (138, .aload_n 0, 0, 0, []),
  (139, .iconst 1, 1, 0, []),
  (140, .invokevirtual 65, 0, 0, []),
  (143, .ifCond .eq 16, 0, 159, []),
  (146, .aload_n 0, 0, 0, []),
  (147, .bipush 59, 59, 0, []),
  (149, .invokevirtual 69, 0, 0, []),
  (152, .ifCond .eq 7, 0, 159, []),
  (155, .iconst 1, 1, 0, []),
  (156, .goto 4, 0, 160, []),
  (159, .iconst 0, 0, 0, []),
  (160, .istore_n 2, 0, 0, []),
  (161, .iinc 3 1, 1, 0, []),
  (164, .goto (-135), 0, 29, []),
  (167, .aload_n 0, 0, 0, []),
  (168, .getfield 23, 0, 0, []),
  (171, .ireturn, 0, 0, [])],
  fdX3, [(26, fX6_clear, 1, 6, 1), (31, fX5_begin, 2, 5, 1), (42, fX5_isWord, 2, 5, 0), (46, fX3_readReader, 1, 3, 0), (52, fX3_readBook, 1, 3, 0), (57, fX3_readWants, 1, 3, 0), (62, fX3_readLaw, 1, 3, 0), (65, fX3_refuse, 2, 3, 0), (69, fX3_needSign, 2, 3, 0)], [(40, .ref 1000), (50, .ref 1001), (55, .ref 1002), (60, .ref 1003)], [], [], 0)
noncomputable def fX3_readAll : aMF := a_fn none shp pX3_readAll 4 2
set_option maxRecDepth 20000 in
theorem wkX6_clear : ∀ w ∈ [Cond.code yX6_clear cX6_clear 1 none, .initialized yX6_clear.cls, .instanceMethod yX6_clear, .selects yX6_clear.cls yX6_clear yX6_clear], w ∈ lw_g := a_ps [658, 98, 656, 657] rfl rfl
theorem hdX6_clear : yX6_clear.cls ≠ "java/lang/invoke/MethodHandle" ∧ yX6_clear.cls ≠ "java/lang/invoke/VarHandle" ∧ (parseMethodDescriptor yX6_clear.desc).map (fun d => d.parameters.length) = some 0 := by decide +kernel
set_option maxRecDepth 20000 in
theorem lkX3_26 : Cond.methodLink RX3 26 yX6_clear ∈ lw_g := a_p1 655 rfl rfl
set_option maxRecDepth 20000 in
theorem wkX5_begin : ∀ w ∈ [Cond.code yX5_begin cX5_begin 2 none, .initialized yX5_begin.cls, .instanceMethod yX5_begin, .selects yX5_begin.cls yX5_begin yX5_begin], w ∈ lw_g := a_ps [671, 97, 669, 670] rfl rfl
theorem hdX5_begin : yX5_begin.cls ≠ "java/lang/invoke/MethodHandle" ∧ yX5_begin.cls ≠ "java/lang/invoke/VarHandle" ∧ (parseMethodDescriptor yX5_begin.desc).map (fun d => d.parameters.length) = some 1 := by decide +kernel
set_option maxRecDepth 20000 in
theorem lkX3_31 : Cond.methodLink RX3 31 yX5_begin ∈ lw_g := a_p1 668 rfl rfl
set_option maxRecDepth 20000 in
theorem wkX3_readReader : ∀ w ∈ [Cond.code yX3_readReader cX3_readReader 1 (some .boolean), .initialized yX3_readReader.cls, .instanceMethod yX3_readReader, .selects yX3_readReader.cls yX3_readReader yX3_readReader], w ∈ lw_g := a_ps [748, 100, 747, 15] rfl rfl
theorem hdX3_readReader : yX3_readReader.cls ≠ "java/lang/invoke/MethodHandle" ∧ yX3_readReader.cls ≠ "java/lang/invoke/VarHandle" ∧ (parseMethodDescriptor yX3_readReader.desc).map (fun d => d.parameters.length) = some 0 := by decide +kernel
set_option maxRecDepth 20000 in
theorem lkX3_46 : Cond.methodLink RX3 46 yX3_readReader ∈ lw_g := a_p1 745 rfl rfl
set_option maxRecDepth 20000 in
theorem wkX3_readBook : ∀ w ∈ [Cond.code yX3_readBook cX3_readBook 4 (some .boolean), .initialized yX3_readBook.cls, .instanceMethod yX3_readBook, .selects yX3_readBook.cls yX3_readBook yX3_readBook], w ∈ lw_g := a_ps [758, 100, 757, 17] rfl rfl
theorem hdX3_readBook : yX3_readBook.cls ≠ "java/lang/invoke/MethodHandle" ∧ yX3_readBook.cls ≠ "java/lang/invoke/VarHandle" ∧ (parseMethodDescriptor yX3_readBook.desc).map (fun d => d.parameters.length) = some 0 := by decide +kernel
set_option maxRecDepth 20000 in
theorem lkX3_52 : Cond.methodLink RX3 52 yX3_readBook ∈ lw_g := a_p1 755 rfl rfl
set_option maxRecDepth 20000 in
theorem wkX3_readWants : ∀ w ∈ [Cond.code yX3_readWants cX3_readWants 2 (some .boolean), .initialized yX3_readWants.cls, .instanceMethod yX3_readWants, .selects yX3_readWants.cls yX3_readWants yX3_readWants], w ∈ lw_g := a_ps [787, 100, 786, 23] rfl rfl
theorem hdX3_readWants : yX3_readWants.cls ≠ "java/lang/invoke/MethodHandle" ∧ yX3_readWants.cls ≠ "java/lang/invoke/VarHandle" ∧ (parseMethodDescriptor yX3_readWants.desc).map (fun d => d.parameters.length) = some 0 := by decide +kernel
set_option maxRecDepth 20000 in
theorem lkX3_57 : Cond.methodLink RX3 57 yX3_readWants ∈ lw_g := a_p1 784 rfl rfl
set_option maxRecDepth 20000 in
theorem wkX3_readLaw : ∀ w ∈ [Cond.code yX3_readLaw cX3_readLaw 1 (some .boolean), .initialized yX3_readLaw.cls, .instanceMethod yX3_readLaw, .selects yX3_readLaw.cls yX3_readLaw yX3_readLaw], w ∈ lw_g := a_ps [792, 100, 791, 24] rfl rfl
theorem hdX3_readLaw : yX3_readLaw.cls ≠ "java/lang/invoke/MethodHandle" ∧ yX3_readLaw.cls ≠ "java/lang/invoke/VarHandle" ∧ (parseMethodDescriptor yX3_readLaw.desc).map (fun d => d.parameters.length) = some 0 := by decide +kernel
set_option maxRecDepth 20000 in
theorem lkX3_62 : Cond.methodLink RX3 62 yX3_readLaw ∈ lw_g := a_p1 789 rfl rfl
set_option maxRecDepth 20000 in
theorem kX3_readAll {l : Launch} {G : aG} (hZ : a_Z l G) : a_Con l G shp yX3_readAll (.code yX3_readAll cX3_readAll 4 (some .int)) 80 3045 fX3_readAll :=
  a_mth none hZ.1 hZ.2.1 shp_len (fun _ h => nomatch h) hZ.2.2.1 (by decide +kernel) rfl (foX3 rfl) (a_cok_of ⟨⟨_, z_0 hZ⟩, ⟨⟨_, z_1 hZ⟩, ⟨⟨_, z_2 hZ⟩, ⟨⟨_, z_3 hZ⟩, trivial⟩⟩⟩⟩) (b_code [42,3,181,0,23,42,2,181,0,9,42,180,0,19,182,0,26,42,180,0,15,27,182,0,31,4,61,3,62,29,17,2,188,162,0,134,28,153,0,130,42,180,0,15,180,0,37,153,0,120,42,180,0,15,18,40,182,0,42,153,0,13,42,182,0,46,153,0,93,167,0,77,42,180,0,15,18,50,182,0,42,153,0,13,42,182,0,52,153,0,71,167,0,55,42,180,0,15,18,55,182,0,42,153,0,13,42,182,0,57,153,0,49,167,0,33,42,180,0,15,18,60,182,0,42,153,0,13,42,182,0,62,153,0,27,167,0,11,42,4,182,0,65,153,0,16,42,16,59,182,0,69,153,0,7,4,167,0,4,3,61,132,3,1,167,255,121,42,180,0,23,172] [] (by decide +kernel) (by decide +kernel) (by decide +kernel) (by decide +kernel)) rfl rfl (trivial) (⟨a_CQ_v hZ.2.1 (kX6_clear hZ) lkX3_26 (a_CF_v TX6 9 wkX6_clear lkX3_26 hdX6_clear ⟨by decide, by decide⟩ rfl) rfl rfl,
    ⟨a_CQ_v hZ.2.1 (kX5_begin hZ) lkX3_31 (a_CF_v TX5 7 wkX5_begin lkX3_31 hdX5_begin ⟨by decide, by decide⟩ rfl) rfl rfl,
    ⟨a_CQ_v hZ.2.1 (kX5_isWord hZ) lkX3_42 (a_CF_v TX5 7 wkX5_isWord lkX3_42 hdX5_isWord ⟨by decide, by decide⟩ rfl) rfl rfl,
    ⟨a_CQ_v hZ.2.1 (kX3_readReader hZ) lkX3_46 (a_CF_v TX3 4 wkX3_readReader lkX3_46 hdX3_readReader ⟨by decide, by decide⟩ rfl) rfl rfl,
    ⟨a_CQ_v hZ.2.1 (kX3_readBook hZ) lkX3_52 (a_CF_v TX3 4 wkX3_readBook lkX3_52 hdX3_readBook ⟨by decide, by decide⟩ rfl) rfl rfl,
    ⟨a_CQ_v hZ.2.1 (kX3_readWants hZ) lkX3_57 (a_CF_v TX3 4 wkX3_readWants lkX3_57 hdX3_readWants ⟨by decide, by decide⟩ rfl) rfl rfl,
    ⟨a_CQ_v hZ.2.1 (kX3_readLaw hZ) lkX3_62 (a_CF_v TX3 4 wkX3_readLaw lkX3_62 hdX3_readLaw ⟨by decide, by decide⟩ rfl) rfl rfl,
    ⟨a_CQ_v hZ.2.1 (kX3_refuse hZ) lkX3_65 (a_CF_v TX3 4 wkX3_refuse lkX3_65 hdX3_refuse ⟨by decide, by decide⟩ rfl) rfl rfl,
    ⟨a_CQ_v hZ.2.1 (kX3_needSign hZ) lkX3_69 (a_CF_v TX3 4 wkX3_needSign lkX3_69 hdX3_needSign ⟨by decide, by decide⟩ rfl) rfl rfl,
    trivial⟩⟩⟩⟩⟩⟩⟩⟩⟩)
noncomputable def pX4_begin : aPrg := ([(0, .aload_n 1, 0, 0, []),
  (1, .iconst 0, 0, 0, []),
  (2, .aload_n 0, 0, 0, []),
  (3, .getfield 9, 0, 0, []),
  (6, .iconst 0, 0, 0, []),
  (7, .bipush 6, 6, 0, []),
  (9, .invokestatic 21, 0, 0, []),
  (12, .aload_n 0, 0, 0, []),
  (13, .iconst 0, 0, 0, []),
  (14, .putfield 27, 0, 0, []),
  (17, .aload_n 0, 0, 0, []),
  (18, .iconst 0, 0, 0, []),
  (19, .putfield 31, 0, 0, []),
  (22, .return_, 0, 0, [])],
  fdX4, [(21, a_acp, 5, 2000, 1)], [], [], [], 2)
noncomputable def fX4_begin : aMF := a_fn none shp pX4_begin 2 2
set_option maxRecDepth 20000 in
theorem kX4_begin {l : Launch} {G : aG} (hZ : a_Z l G) : a_Con l G shp yX4_begin (.code yX4_begin cX4_begin 2 none) 2 60 fX4_begin :=
  a_mth none hZ.1 hZ.2.1 shp_len (fun _ h => nomatch h) hZ.2.2.1 (by decide +kernel) rfl (foX4 rfl) (a_cok_of trivial) (b_code [43,3,42,180,0,9,3,16,6,184,0,21,42,3,181,0,27,42,3,181,0,31,177] [] (by decide +kernel) (by decide +kernel) (by decide +kernel) (by decide +kernel)) rfl rfl (trivial) (⟨q_acp hZ 572 rfl rfl rfl,
    trivial⟩)
noncomputable def pX4_take : aPrg := ([(0, .aload_n 1, 0, 0, []),
  (1, .getfield 9, 0, 0, []),
  (4, .iconst 0, 0, 0, []),
  (5, .aload_n 0, 0, 0, []),
  (6, .getfield 9, 0, 0, []),
  (9, .iconst 0, 0, 0, []),
  (10, .bipush 6, 6, 0, []),
  (12, .invokestatic 21, 0, 0, []),
  (15, .aload_n 1, 0, 0, []),
  (16, .getfield 15, 0, 0, []),
  (19, .iconst 0, 0, 0, []),
  (20, .aload_n 0, 0, 0, []),
  (21, .getfield 15, 0, 0, []),
  (24, .iconst 0, 0, 0, []),
  (25, .sipush 800, 800, 0, []),
  (28, .invokestatic 21, 0, 0, []),
  (31, .aload_n 1, 0, 0, []),
  (32, .getfield 18, 0, 0, []),
  (35, .iconst 0, 0, 0, []),
  (36, .aload_n 0, 0, 0, []),
  (37, .getfield 18, 0, 0, []),
  (40, .iconst 0, 0, 0, []),
  (41, .bipush 24, 24, 0, []),
  (43, .invokestatic 21, 0, 0, []),
  (46, .aload_n 0, 0, 0, []),
  (47, .aload_n 1, 0, 0, []),
  (48, .getfield 27, 0, 0, []),
  (51, .putfield 27, 0, 0, []),
  (54, .aload_n 0, 0, 0, []),
  (55, .aload_n 1, 0, 0, []),
  (56, .getfield 31, 0, 0, []),
  (59, .putfield 31, 0, 0, []),
  (62, .return_, 0, 0, [])],
  fdX4, [(21, a_acp, 5, 2000, 1)], [], [], [], 2)
noncomputable def fX4_take : aMF := a_fn none shp pX4_take 2 2
set_option maxRecDepth 20000 in
theorem kX4_take {l : Launch} {G : aG} (hZ : a_Z l G) : a_Con l G shp yX4_take (.code yX4_take cX4_take 2 none) 2 60 fX4_take :=
  a_mth none hZ.1 hZ.2.1 shp_len (fun _ h => nomatch h) hZ.2.2.1 (by decide +kernel) rfl (foX4 rfl) (a_cok_of trivial) (b_code [43,180,0,9,3,42,180,0,9,3,16,6,184,0,21,43,180,0,15,3,42,180,0,15,3,17,3,32,184,0,21,43,180,0,18,3,42,180,0,18,3,16,24,184,0,21,42,43,180,0,27,181,0,27,42,43,180,0,31,181,0,31,177] [] (by decide +kernel) (by decide +kernel) (by decide +kernel) (by decide +kernel)) rfl rfl (trivial) (⟨q_acp hZ 572 rfl rfl rfl,
    trivial⟩)
noncomputable def pX4_tradeMove : aPrg := ([(0, .aload_n 0, 0, 0, []),
  (1, .getfield 15, 0, 0, []),
  (4, .iload_n 1, 0, 0, []),
  (5, .iconst 3, 3, 0, []),
  (6, .iadd, 0, 0, []),
  (7, .iaload, 0, 0, []),
  (8, .istore_n 2, 0, 0, []),
  (9, .aload_n 0, 0, 0, []),
  (10, .getfield 9, 0, 0, []),
  (13, .aload_n 0, 0, 0, []),
  (14, .getfield 15, 0, 0, []),
  (17, .iload_n 1, 0, 0, []),
  (18, .iaload, 0, 0, []),
  (19, .iload_n 2, 0, 0, []),
  (20, .iconst (-1), (-1), 0, []),
  (21, .if_icmp .ne 7, 0, 28, []),
  (24, .iconst 5, 5, 0, []),
  (25, .goto 4, 0, 29, []),
  (28, .iload_n 2, 0, 0, []),
  (29, .aload_n 0, 0, 0, []),
  (30, .getfield 15, 0, 0, []),
  (33, .iload_n 1, 0, 0, []),
  (34, .iconst 1, 1, 0, []),
  (35, .iadd, 0, 0, []),
  (36, .iaload, 0, 0, []),
  (37, .aload_n 0, 0, 0, []),
  (38, .getfield 15, 0, 0, []),
  (41, .iload_n 1, 0, 0, []),
  (42, .iconst 2, 2, 0, []),
  (43, .iadd, 0, 0, []),
  (44, .iaload, 0, 0, []),
  (45, .invokestatic 38, 0, 0, []),
  (48, .return_, 0, 0, [])],
  fdX4, [(38, fX8_trade, 5, 2000, 1)], [], [], [], 2)
noncomputable def fX4_tradeMove : aMF := a_fn none shp pX4_tradeMove 3 2
set_option maxRecDepth 20000 in
theorem kX4_tradeMove {l : Launch} {G : aG} (hZ : a_Z l G) : a_Con l G shp yX4_tradeMove (.code yX4_tradeMove cX4_tradeMove 3 none) 2 41 fX4_tradeMove :=
  a_mth none hZ.1 hZ.2.1 shp_len (fun _ h => nomatch h) hZ.2.2.1 (by decide +kernel) rfl (foX4 rfl) (a_cok_of trivial) (b_code [42,180,0,15,27,6,96,46,61,42,180,0,9,42,180,0,15,27,46,28,2,160,0,7,8,167,0,4,28,42,180,0,15,27,4,96,46,42,180,0,15,27,5,96,46,184,0,38,177] [] (by decide +kernel) (by decide +kernel) (by decide +kernel) (by decide +kernel)) rfl rfl (trivial) (⟨a_CQ_sn hZ.2.1 (kX8_trade hZ) (a_CF_sn wkX8_trade "StoutShelf" 454 rfl hdX8_trade) (a_fn_nt rfl rfl) rfl rfl,
    trivial⟩)
noncomputable def pX4_writeMove : aPrg := ([(0, .iconst 4, 4, 0, []),
  (1, .aload_n 0, 0, 0, []),
  (2, .getfield 27, 0, 0, []),
  (5, .imul, 0, 0, []),
  (6, .istore 5, 0, 0, []),
  (8, .aload_n 0, 0, 0, []),
  (9, .getfield 15, 0, 0, []),
  (12, .iload 5, 0, 0, []),
  (14, .iload_n 1, 0, 0, []),
  (15, .iastore, 0, 0, []),
  (16, .aload_n 0, 0, 0, []),
  (17, .getfield 15, 0, 0, []),
  (20, .iload 5, 0, 0, []),
  (22, .iconst 1, 1, 0, []),
  (23, .iadd, 0, 0, []),
  (24, .iload_n 2, 0, 0, []),
  (25, .iastore, 0, 0, []),
  (26, .aload_n 0, 0, 0, []),
  (27, .getfield 15, 0, 0, []),
  (30, .iload 5, 0, 0, []),
  (32, .iconst 2, 2, 0, []),
  (33, .iadd, 0, 0, []),
  (34, .iload_n 3, 0, 0, []),
  (35, .iastore, 0, 0, []),
  (36, .aload_n 0, 0, 0, []),
  (37, .getfield 15, 0, 0, []),
  (40, .iload 5, 0, 0, []),
  (42, .iconst 3, 3, 0, []),
  (43, .iadd, 0, 0, []),
  (44, .iload 4, 0, 0, []),
  (46, .iastore, 0, 0, []),
  (47, .aload_n 0, 0, 0, []),
  (48, .dup, 0, 0, []),
  (49, .getfield 27, 0, 0, []),
  (52, .iconst 1, 1, 0, []),
  (53, .iadd, 0, 0, []),
  (54, .putfield 27, 0, 0, []),
  (57, .aload_n 0, 0, 0, []),
  (58, .iload 5, 0, 0, []),
  (60, .invokevirtual 34, 0, 0, []),
  (63, .return_, 0, 0, [])],
  fdX4, [(34, fX4_tradeMove, 2, 4, 1)], [], [], [], 2)
noncomputable def fX4_writeMove : aMF := a_fn none shp pX4_writeMove 6 5
set_option maxRecDepth 20000 in
theorem wkX4_tradeMove : ∀ w ∈ [Cond.code yX4_tradeMove cX4_tradeMove 3 none, .initialized yX4_tradeMove.cls, .instanceMethod yX4_tradeMove, .selects yX4_tradeMove.cls yX4_tradeMove yX4_tradeMove], w ∈ lw_g := a_ps [453, 101, 452, 3] rfl rfl
theorem hdX4_tradeMove : yX4_tradeMove.cls ≠ "java/lang/invoke/MethodHandle" ∧ yX4_tradeMove.cls ≠ "java/lang/invoke/VarHandle" ∧ (parseMethodDescriptor yX4_tradeMove.desc).map (fun d => d.parameters.length) = some 1 := by decide +kernel
set_option maxRecDepth 20000 in
theorem lkX4_34 : Cond.methodLink RX4 34 yX4_tradeMove ∈ lw_g := a_p1 450 rfl rfl
set_option maxRecDepth 20000 in
theorem kX4_writeMove {l : Launch} {G : aG} (hZ : a_Z l G) : a_Con l G shp yX4_writeMove (.code yX4_writeMove cX4_writeMove 6 none) 3 63 fX4_writeMove :=
  a_mth none hZ.1 hZ.2.1 shp_len (fun _ h => nomatch h) hZ.2.2.1 (by decide +kernel) rfl (foX4 rfl) (a_cok_of trivial) (b_code [7,42,180,0,27,104,54,5,42,180,0,15,21,5,27,79,42,180,0,15,21,5,4,96,28,79,42,180,0,15,21,5,5,96,29,79,42,180,0,15,21,5,6,96,21,4,79,42,89,180,0,27,4,96,181,0,27,42,21,5,182,0,34,177] [] (by decide +kernel) (by decide +kernel) (by decide +kernel) (by decide +kernel)) rfl rfl (trivial) (⟨a_CQ_v hZ.2.1 (kX4_tradeMove hZ) lkX4_34 (a_CF_v TX4 5 wkX4_tradeMove lkX4_34 hdX4_tradeMove ⟨by decide, by decide⟩ rfl) rfl rfl,
    trivial⟩)
noncomputable def pX4_takeBackMove : aPrg := ([(0, .aload_n 0, 0, 0, []),
  (1, .dup, 0, 0, []),
  (2, .getfield 27, 0, 0, []),
  (5, .iconst 1, 1, 0, []),
  (6, .isub, 0, 0, []),
  (7, .putfield 27, 0, 0, []),
  (10, .aload_n 0, 0, 0, []),
  (11, .iconst 4, 4, 0, []),
  (12, .aload_n 0, 0, 0, []),
  (13, .getfield 27, 0, 0, []),
  (16, .imul, 0, 0, []),
  (17, .invokevirtual 34, 0, 0, []),
  (20, .return_, 0, 0, [])],
  fdX4, [(34, fX4_tradeMove, 2, 4, 1)], [], [], [], 2)
noncomputable def fX4_takeBackMove : aMF := a_fn none shp pX4_takeBackMove 1 1
set_option maxRecDepth 20000 in
theorem kX4_takeBackMove {l : Launch} {G : aG} (hZ : a_Z l G) : a_Con l G shp yX4_takeBackMove (.code yX4_takeBackMove cX4_takeBackMove 1 none) 3 63 fX4_takeBackMove :=
  a_mth none hZ.1 hZ.2.1 shp_len (fun _ h => nomatch h) hZ.2.2.1 (by decide +kernel) rfl (foX4 rfl) (a_cok_of trivial) (b_code [42,89,180,0,27,4,100,181,0,27,42,7,42,180,0,27,104,182,0,34,177] [] (by decide +kernel) (by decide +kernel) (by decide +kernel) (by decide +kernel)) rfl rfl (trivial) (⟨a_CQ_v hZ.2.1 (kX4_tradeMove hZ) lkX4_34 (a_CF_v TX4 5 wkX4_tradeMove lkX4_34 hdX4_tradeMove ⟨by decide, by decide⟩ rfl) rfl rfl,
    trivial⟩)
noncomputable def pX4_writeEvent : aPrg := ([(0, .iconst 3, 3, 0, []),
  (1, .aload_n 0, 0, 0, []),
  (2, .getfield 31, 0, 0, []),
  (5, .imul, 0, 0, []),
  (6, .istore 4, 0, 0, []),
  (8, .aload_n 0, 0, 0, []),
  (9, .getfield 18, 0, 0, []),
  (12, .iload 4, 0, 0, []),
  (14, .iload_n 1, 0, 0, []),
  (15, .iastore, 0, 0, []),
  (16, .aload_n 0, 0, 0, []),
  (17, .getfield 18, 0, 0, []),
  (20, .iload 4, 0, 0, []),
  (22, .iconst 1, 1, 0, []),
  (23, .iadd, 0, 0, []),
  (24, .iload_n 2, 0, 0, []),
  (25, .iastore, 0, 0, []),
  (26, .aload_n 0, 0, 0, []),
  (27, .getfield 18, 0, 0, []),
  (30, .iload 4, 0, 0, []),
  (32, .iconst 2, 2, 0, []),
  (33, .iadd, 0, 0, []),
  (34, .iload_n 3, 0, 0, []),
  (35, .iastore, 0, 0, []),
  (36, .aload_n 0, 0, 0, []),
  (37, .dup, 0, 0, []),
  (38, .getfield 31, 0, 0, []),
  (41, .iconst 1, 1, 0, []),
  (42, .iadd, 0, 0, []),
  (43, .putfield 31, 0, 0, []),
  (46, .return_, 0, 0, [])],
  fdX4, [], [], [], [], 2)
noncomputable def fX4_writeEvent : aMF := a_fn none shp pX4_writeEvent 5 4
set_option maxRecDepth 20000 in
theorem kX4_writeEvent {l : Launch} {G : aG} (hZ : a_Z l G) : a_Con l G shp yX4_writeEvent (.code yX4_writeEvent cX4_writeEvent 5 none) 1 16 fX4_writeEvent :=
  a_mth none hZ.1 hZ.2.1 shp_len (fun _ h => nomatch h) hZ.2.2.1 (by decide +kernel) rfl (foX4 rfl) (a_cok_of trivial) (b_code [6,42,180,0,31,104,54,4,42,180,0,18,21,4,27,79,42,180,0,18,21,4,4,96,28,79,42,180,0,18,21,4,5,96,29,79,42,89,180,0,31,4,96,181,0,31,177] [] (by decide +kernel) (by decide +kernel) (by decide +kernel) (by decide +kernel)) rfl rfl (trivial) (trivial)
noncomputable def pX4_isMoved : aPrg := ([(0, .iconst 4, 4, 0, []),
  (1, .iload_n 2, 0, 0, []),
  (2, .imul, 0, 0, []),
  (3, .istore_n 3, 0, 0, []),
  (4, .aload_n 0, 0, 0, []),
  (5, .getfield 15, 0, 0, []),
  (8, .iload_n 3, 0, 0, []),
  (9, .iconst 1, 1, 0, []),
  (10, .iadd, 0, 0, []),
  (11, .iaload, 0, 0, []),
  (12, .iload_n 1, 0, 0, []),
  (13, .if_icmp .eq 15, 0, 28, []),
  (16, .aload_n 0, 0, 0, []),
  (17, .getfield 15, 0, 0, []),
  (20, .iload_n 3, 0, 0, []),
  (21, .iconst 2, 2, 0, []),
  (22, .iadd, 0, 0, []),
  (23, .iaload, 0, 0, []),
  (24, .iload_n 1, 0, 0, []),
  (25, .if_icmp .ne 7, 0, 32, []),
  (28, .iconst 1, 1, 0, []),
  (29, .goto 4, 0, 33, []),
  (32, .iconst 0, 0, 0, []),
  (33, .ireturn, 0, 0, [])],
  fdX4, [], [], [], [], 1)
noncomputable def fX4_isMoved : aMF := a_fn none shp pX4_isMoved 4 3
set_option maxRecDepth 20000 in
theorem kX4_isMoved {l : Launch} {G : aG} (hZ : a_Z l G) : a_Con l G shp yX4_isMoved (.code yX4_isMoved cX4_isMoved 4 (some .boolean)) 1 16 fX4_isMoved :=
  a_mth none hZ.1 hZ.2.1 shp_len (fun _ h => nomatch h) hZ.2.2.1 (by decide +kernel) rfl (foX4 rfl) (a_cok_of trivial) (b_code [7,28,104,62,42,180,0,15,29,4,96,46,27,159,0,15,42,180,0,15,29,5,96,46,27,160,0,7,4,167,0,4,3,172] [] (by decide +kernel) (by decide +kernel) (by decide +kernel) (by decide +kernel)) rfl rfl (trivial) (trivial)
noncomputable def pX4_changesOf : aPrg := ([(0, .iconst 0, 0, 0, []),
  (1, .istore_n 2, 0, 0, []),
  (2, .iconst 0, 0, 0, []),
  (3, .istore_n 3, 0, 0, []),
  (4, .iload_n 3, 0, 0, []),
  (5, .aload_n 0, 0, 0, []),
  (6, .getfield 27, 0, 0, []),
  (9, .if_icmp .ge 21, 0, 30, []),
  (12, .aload_n 0, 0, 0, []),
  (13, .iload_n 1, 0, 0, []),
  (14, .iload_n 3, 0, 0, []),
  (15, .invokevirtual 42, 0, 0, []),
  (18, .ifCond .eq 6, 0, 24, []),
  (21, .iinc 2 1, 1, 0, []),
  (24, .iinc 3 1, 1, 0, []),
  (27, .goto (-23), 0, 4, []),
  (30, .iload_n 2, 0, 0, []),
  (31, .ireturn, 0, 0, [])],
  fdX4, [(42, fX4_isMoved, 3, 4, 0)], [], [], [], 0)
noncomputable def fX4_changesOf : aMF := a_fn none shp pX4_changesOf 4 2
set_option maxRecDepth 20000 in
theorem wkX4_isMoved : ∀ w ∈ [Cond.code yX4_isMoved cX4_isMoved 4 (some .boolean), .initialized yX4_isMoved.cls, .instanceMethod yX4_isMoved, .selects yX4_isMoved.cls yX4_isMoved yX4_isMoved], w ∈ lw_g := a_ps [1115, 101, 1114, 51] rfl rfl
theorem hdX4_isMoved : yX4_isMoved.cls ≠ "java/lang/invoke/MethodHandle" ∧ yX4_isMoved.cls ≠ "java/lang/invoke/VarHandle" ∧ (parseMethodDescriptor yX4_isMoved.desc).map (fun d => d.parameters.length) = some 2 := by decide +kernel
set_option maxRecDepth 20000 in
theorem lkX4_42 : Cond.methodLink RX4 42 yX4_isMoved ∈ lw_g := a_p1 1112 rfl rfl
set_option maxRecDepth 20000 in
theorem kX4_changesOf {l : Launch} {G : aG} (hZ : a_Z l G) : a_Con l G shp yX4_changesOf (.code yX4_changesOf cX4_changesOf 4 (some .int)) 2 39 fX4_changesOf :=
  a_mth none hZ.1 hZ.2.1 shp_len (fun _ h => nomatch h) hZ.2.2.1 (by decide +kernel) rfl (foX4 rfl) (a_cok_of trivial) (b_code [3,61,3,62,29,42,180,0,27,162,0,21,42,27,29,182,0,42,153,0,6,132,2,1,132,3,1,167,255,233,28,172] [] (by decide +kernel) (by decide +kernel) (by decide +kernel) (by decide +kernel)) rfl rfl (trivial) (⟨a_CQ_v hZ.2.1 (kX4_isMoved hZ) lkX4_42 (a_CF_v TX4 5 wkX4_isMoved lkX4_42 hdX4_isMoved ⟨by decide, by decide⟩ rfl) rfl rfl,
    trivial⟩)
noncomputable def pX4_placeAfterChange : aPrg := ([(0, .iconst 0, 0, 0, []),
  (1, .istore_n 3, 0, 0, []),
  (2, .iconst 0, 0, 0, []),
  (3, .istore 4, 0, 0, []),
  (5, .iload 4, 0, 0, []),
  (7, .aload_n 0, 0, 0, []),
  (8, .getfield 27, 0, 0, []),
  (11, .if_icmp .ge 66, 0, 77, []),
  (14, .aload_n 0, 0, 0, []),
  (15, .iload_n 1, 0, 0, []),
  (16, .iload 4, 0, 0, []),
  (18, .invokevirtual 42, 0, 0, []),
  (21, .ifCond .eq 50, 0, 71, []),
  (24, .iinc 3 1, 1, 0, []),
  (27, .iload_n 3, 0, 0, []),
  (28, .iload_n 2, 0, 0, []),
  (29, .if_icmp .ne 42, 0, 71, []),
  (32, .iconst 4, 4, 0, []),
  (33, .iload 4, 0, 0, []),
  (35, .imul, 0, 0, []),
  (36, .istore 5, 0, 0, []),
  (38, .aload_n 0, 0, 0, []),
  (39, .getfield 15, 0, 0, []),
  (42, .iload 5, 0, 0, []),
  (44, .iconst 1, 1, 0, []),
  (45, .iadd, 0, 0, []),
  (46, .iaload, 0, 0, []),
  (47, .iload_n 1, 0, 0, []),
  (48, .if_icmp .ne 15, 0, 63, []),
  (51, .aload_n 0, 0, 0, []),
  (52, .getfield 15, 0, 0, []),
  (55, .iload 5, 0, 0, []),
  (57, .iconst 3, 3, 0, []),
  (58, .iadd, 0, 0, []),
  (59, .iaload, 0, 0, []),
  (60, .goto 10, 0, 70, []),
  (63, .aload_n 0, 0, 0, []),
  (64, .getfield 15, 0, 0, []),
  (67, .iload 5, 0, 0, []),
  (69, .iaload, 0, 0, []),
  (70, .ireturn, 0, 0, []),
  (71, .iinc 4 1, 1, 0, []),
  (74, .goto (-69), 0, 5, []),
  (77, .iconst (-1), (-1), 0, []),
  (78, .ireturn, 0, 0, [])],
  fdX4, [(42, fX4_isMoved, 3, 4, 0)], [], [], [], 0)
noncomputable def fX4_placeAfterChange : aMF := a_fn none shp pX4_placeAfterChange 6 3
set_option maxRecDepth 20000 in
theorem kX4_placeAfterChange {l : Launch} {G : aG} (hZ : a_Z l G) : a_Con l G shp yX4_placeAfterChange (.code yX4_placeAfterChange cX4_placeAfterChange 6 (some .int)) 2 39 fX4_placeAfterChange :=
  a_mth none hZ.1 hZ.2.1 shp_len (fun _ h => nomatch h) hZ.2.2.1 (by decide +kernel) rfl (foX4 rfl) (a_cok_of trivial) (b_code [3,62,3,54,4,21,4,42,180,0,27,162,0,66,42,27,21,4,182,0,42,153,0,50,132,3,1,29,28,160,0,42,7,21,4,104,54,5,42,180,0,15,21,5,4,96,46,27,160,0,15,42,180,0,15,21,5,6,96,46,167,0,10,42,180,0,15,21,5,46,172,132,4,1,167,255,187,2,172] [] (by decide +kernel) (by decide +kernel) (by decide +kernel) (by decide +kernel)) rfl rfl (trivial) (⟨a_CQ_v hZ.2.1 (kX4_isMoved hZ) lkX4_42 (a_CF_v TX4 5 wkX4_isMoved lkX4_42 hdX4_isMoved ⟨by decide, by decide⟩ rfl) rfl rfl,
    trivial⟩)
noncomputable def pX5_put : aPrg := ([(0, .aload_n 0, 0, 0, []),
  (1, .getfield 15, 0, 0, []),
  (4, .sipush 696, 696, 0, []),
  (7, .if_icmp .le 4, 0, 11, []),
  (10, .return_, 0, 0, []),
  (11, .aload_n 0, 0, 0, []),
  (12, .getfield 9, 0, 0, []),
  (15, .aload_n 0, 0, 0, []),
  (16, .getfield 15, 0, 0, []),
  (19, .iload_n 1, 0, 0, []),
  (20, .bipush 24, 24, 0, []),
  (22, .iushr, 0, 0, []),
  (23, .i2b, 0, 0, []),
  (24, .bastore, 0, 0, []),
  (25, .aload_n 0, 0, 0, []),
  (26, .getfield 9, 0, 0, []),
  (29, .aload_n 0, 0, 0, []),
  (30, .getfield 15, 0, 0, []),
  (33, .iconst 1, 1, 0, []),
  (34, .iadd, 0, 0, []),
  (35, .iload_n 1, 0, 0, []),
  (36, .bipush 16, 16, 0, []),
  (38, .iushr, 0, 0, []),
  (39, .i2b, 0, 0, []),
  (40, .bastore, 0, 0, []),
  (41, .aload_n 0, 0, 0, []),
  (42, .getfield 9, 0, 0, []),
  (45, .aload_n 0, 0, 0, []),
  (46, .getfield 15, 0, 0, []),
  (49, .iconst 2, 2, 0, []),
  (50, .iadd, 0, 0, []),
  (51, .iload_n 1, 0, 0, []),
  (52, .bipush 8, 8, 0, []),
  (54, .iushr, 0, 0, []),
  (55, .i2b, 0, 0, []),
  (56, .bastore, 0, 0, []),
  (57, .aload_n 0, 0, 0, []),
  (58, .getfield 9, 0, 0, []),
  (61, .aload_n 0, 0, 0, []),
  (62, .getfield 15, 0, 0, []),
  (65, .iconst 3, 3, 0, []),
  (66, .iadd, 0, 0, []),
  (67, .iload_n 1, 0, 0, []),
  (68, .i2b, 0, 0, []),
  (69, .bastore, 0, 0, []),
  (70, .aload_n 0, 0, 0, []),
  (71, .dup, 0, 0, []),
  (72, .getfield 15, 0, 0, []),
  (75, .iconst 4, 4, 0, []),
  (76, .iadd, 0, 0, []),
  (77, .putfield 15, 0, 0, []),
  (80, .return_, 0, 0, [])],
  fdX5, [], [], [], [], 2)
noncomputable def fX5_put : aMF := a_fn none shp pX5_put 2 2
set_option maxRecDepth 20000 in
theorem kX5_put {l : Launch} {G : aG} (hZ : a_Z l G) : a_Con l G shp yX5_put (.code yX5_put cX5_put 2 none) 1 16 fX5_put :=
  a_mth none hZ.1 hZ.2.1 shp_len (fun _ h => nomatch h) hZ.2.2.1 (by decide +kernel) rfl (foX5 rfl) (a_cok_of trivial) (b_code [42,180,0,15,17,2,184,164,0,4,177,42,180,0,9,42,180,0,15,27,16,24,124,145,84,42,180,0,9,42,180,0,15,4,96,27,16,16,124,145,84,42,180,0,9,42,180,0,15,5,96,27,16,8,124,145,84,42,180,0,9,42,180,0,15,6,96,27,145,84,42,89,180,0,15,7,96,181,0,15,177] [] (by decide +kernel) (by decide +kernel) (by decide +kernel) (by decide +kernel)) rfl rfl (trivial) (trivial)
noncomputable def pX6_take : aPrg := ([(0, .aload_n 0, 0, 0, []),
  (1, .aload_n 1, 0, 0, []),
  (2, .getfield 34, 0, 0, []),
  (5, .putfield 34, 0, 0, []),
  (8, .aload_n 0, 0, 0, []),
  (9, .aload_n 1, 0, 0, []),
  (10, .getfield 38, 0, 0, []),
  (13, .putfield 38, 0, 0, []),
  (16, .aload_n 0, 0, 0, []),
  (17, .aload_n 1, 0, 0, []),
  (18, .getfield 41, 0, 0, []),
  (21, .putfield 41, 0, 0, []),
  (24, .aload_n 0, 0, 0, []),
  (25, .getfield 12, 0, 0, []),
  (28, .aload_n 1, 0, 0, []),
  (29, .getfield 12, 0, 0, []),
  (32, .invokevirtual 58, 0, 0, []),
  (35, .aload_n 1, 0, 0, []),
  (36, .getfield 18, 0, 0, []),
  (39, .iconst 0, 0, 0, []),
  (40, .aload_n 0, 0, 0, []),
  (41, .getfield 18, 0, 0, []),
  (44, .iconst 0, 0, 0, []),
  (45, .bipush 48, 48, 0, []),
  (47, .invokestatic 62, 0, 0, []),
  (50, .aload_n 1, 0, 0, []),
  (51, .getfield 22, 0, 0, []),
  (54, .iconst 0, 0, 0, []),
  (55, .aload_n 0, 0, 0, []),
  (56, .getfield 22, 0, 0, []),
  (59, .iconst 0, 0, 0, []),
  (60, .iconst 5, 5, 0, []),
  (61, .invokestatic 62, 0, 0, []),
  (64, .aload_n 1, 0, 0, []),
  (65, .getfield 25, 0, 0, []),
  (68, .iconst 0, 0, 0, []),
  (69, .aload_n 0, 0, 0, []),
  (70, .getfield 25, 0, 0, []),
  (73, .iconst 0, 0, 0, []),
  (74, .bipush 6, 6, 0, []),
  (76, .invokestatic 62, 0, 0, []),
  (79, .return_, 0, 0, [])],
  fdX6, [(58, fX1_take, 2, 1, 1), (62, a_acp, 5, 2000, 1)], [], [], [], 2)
noncomputable def fX6_take : aMF := a_fn none shp pX6_take 2 2
set_option maxRecDepth 20000 in
theorem wkX1_take : ∀ w ∈ [Cond.code yX1_take cX1_take 2 none, .initialized yX1_take.cls, .instanceMethod yX1_take, .selects yX1_take.cls yX1_take yX1_take], w ∈ lw_g := a_ps [850, 99, 848, 849] rfl rfl
theorem hdX1_take : yX1_take.cls ≠ "java/lang/invoke/MethodHandle" ∧ yX1_take.cls ≠ "java/lang/invoke/VarHandle" ∧ (parseMethodDescriptor yX1_take.desc).map (fun d => d.parameters.length) = some 1 := by decide +kernel
set_option maxRecDepth 20000 in
theorem lkX6_58 : Cond.methodLink RX6 58 yX1_take ∈ lw_g := a_p1 847 rfl rfl
set_option maxRecDepth 20000 in
theorem kX6_take {l : Launch} {G : aG} (hZ : a_Z l G) : a_Con l G shp yX6_take (.code yX6_take cX6_take 2 none) 3 81 fX6_take :=
  a_mth none hZ.1 hZ.2.1 shp_len (fun _ h => nomatch h) hZ.2.2.1 (by decide +kernel) rfl (foX6 rfl) (a_cok_of trivial) (b_code [42,43,180,0,34,181,0,34,42,43,180,0,38,181,0,38,42,43,180,0,41,181,0,41,42,180,0,12,43,180,0,12,182,0,58,43,180,0,18,3,42,180,0,18,3,16,48,184,0,62,43,180,0,22,3,42,180,0,22,3,8,184,0,62,43,180,0,25,3,42,180,0,25,3,16,6,184,0,62,177] [] (by decide +kernel) (by decide +kernel) (by decide +kernel) (by decide +kernel)) rfl rfl (trivial) (⟨a_CQ_v hZ.2.1 (kX1_take hZ) lkX6_58 (a_CF_v TX1 4 wkX1_take lkX6_58 hdX1_take ⟨by decide, by decide⟩ rfl) rfl rfl,
    ⟨q_acp hZ 852 rfl rfl rfl,
    trivial⟩⟩)
noncomputable def pX6_pagesWithMore : aPrg := ([(0, .iconst 4, 4, 0, []),
  (1, .iload_n 1, 0, 0, []),
  (2, .imul, 0, 0, []),
  (3, .istore_n 3, 0, 0, []),
  (4, .aload_n 0, 0, 0, []),
  (5, .getfield 12, 0, 0, []),
  (8, .aload_n 0, 0, 0, []),
  (9, .getfield 18, 0, 0, []),
  (12, .iload_n 3, 0, 0, []),
  (13, .iaload, 0, 0, []),
  (14, .aload_n 0, 0, 0, []),
  (15, .getfield 18, 0, 0, []),
  (18, .iload_n 3, 0, 0, []),
  (19, .iconst 1, 1, 0, []),
  (20, .iadd, 0, 0, []),
  (21, .iaload, 0, 0, []),
  (22, .iload_n 2, 0, 0, []),
  (23, .iadd, 0, 0, []),
  (24, .aload_n 0, 0, 0, []),
  (25, .getfield 18, 0, 0, []),
  (28, .iload_n 3, 0, 0, []),
  (29, .iconst 2, 2, 0, []),
  (30, .iadd, 0, 0, []),
  (31, .iaload, 0, 0, []),
  (32, .aload_n 0, 0, 0, []),
  (33, .getfield 18, 0, 0, []),
  (36, .iload_n 3, 0, 0, []),
  (37, .iconst 3, 3, 0, []),
  (38, .iadd, 0, 0, []),
  (39, .iaload, 0, 0, []),
  (40, .invokevirtual 76, 0, 0, []),
  (43, .ireturn, 0, 0, [])],
  fdX6, [(76, fX1_reckon, 5, 1, 0)], [], [], [], 0)
noncomputable def fX6_pagesWithMore : aMF := a_fn none shp pX6_pagesWithMore 4 3
set_option maxRecDepth 20000 in
theorem wkX1_reckon : ∀ w ∈ [Cond.code yX1_reckon cX1_reckon 7 (some .int), .initialized yX1_reckon.cls, .instanceMethod yX1_reckon, .selects yX1_reckon.cls yX1_reckon yX1_reckon], w ∈ lw_g := a_ps [864, 99, 862, 863] rfl rfl
theorem hdX1_reckon : yX1_reckon.cls ≠ "java/lang/invoke/MethodHandle" ∧ yX1_reckon.cls ≠ "java/lang/invoke/VarHandle" ∧ (parseMethodDescriptor yX1_reckon.desc).map (fun d => d.parameters.length) = some 4 := by decide +kernel
set_option maxRecDepth 20000 in
theorem lkX6_76 : Cond.methodLink RX6 76 yX1_reckon ∈ lw_g := a_p1 861 rfl rfl
set_option maxRecDepth 20000 in
theorem kX6_pagesWithMore {l : Launch} {G : aG} (hZ : a_Z l G) : a_Con l G shp yX6_pagesWithMore (.code yX6_pagesWithMore cX6_pagesWithMore 4 (some .int)) 5 105 fX6_pagesWithMore :=
  a_mth none hZ.1 hZ.2.1 shp_len (fun _ h => nomatch h) hZ.2.2.1 (by decide +kernel) rfl (foX6 rfl) (a_cok_of trivial) (b_code [7,27,104,62,42,180,0,12,42,180,0,18,29,46,42,180,0,18,29,4,96,46,28,96,42,180,0,18,29,5,96,46,42,180,0,18,29,6,96,46,182,0,76,172] [] (by decide +kernel) (by decide +kernel) (by decide +kernel) (by decide +kernel)) rfl rfl (trivial) (⟨a_CQ_v hZ.2.1 (kX1_reckon hZ) lkX6_76 (a_CF_v TX1 4 wkX1_reckon lkX6_76 hdX1_reckon ⟨by decide, by decide⟩ rfl) rfl rfl,
    trivial⟩)
noncomputable def pX6_booksUnder : aPrg := ([(0, .iconst 0, 0, 0, []),
  (1, .istore_n 2, 0, 0, []),
  (2, .iconst 0, 0, 0, []),
  (3, .istore_n 3, 0, 0, []),
  (4, .iload_n 3, 0, 0, []),
  (5, .aload_n 0, 0, 0, []),
  (6, .getfield 34, 0, 0, []),
  (9, .if_icmp .ge 25, 0, 34, []),
  (12, .aload_n 0, 0, 0, []),
  (13, .getfield 28, 0, 0, []),
  (16, .iload_n 3, 0, 0, []),
  (17, .iaload, 0, 0, []),
  (18, .iload_n 1, 0, 0, []),
  (19, .if_icmp .ge 9, 0, 28, []),
  (22, .iload_n 2, 0, 0, []),
  (23, .iconst 1, 1, 0, []),
  (24, .iload_n 3, 0, 0, []),
  (25, .ishl, 0, 0, []),
  (26, .ior, 0, 0, []),
  (27, .istore_n 2, 0, 0, []),
  (28, .iinc 3 1, 1, 0, []),
  (31, .goto (-27), 0, 4, []),
  (34, .iload_n 2, 0, 0, []),
  (35, .ireturn, 0, 0, [])],
  fdX6, [], [], [], [], 0)
noncomputable def fX6_booksUnder : aMF := a_fn none shp pX6_booksUnder 4 2
set_option maxRecDepth 20000 in
theorem kX6_booksUnder {l : Launch} {G : aG} (hZ : a_Z l G) : a_Con l G shp yX6_booksUnder (.code yX6_booksUnder cX6_booksUnder 4 (some .int)) 1 16 fX6_booksUnder :=
  a_mth none hZ.1 hZ.2.1 shp_len (fun _ h => nomatch h) hZ.2.2.1 (by decide +kernel) rfl (foX6 rfl) (a_cok_of trivial) (b_code [3,61,3,62,29,42,180,0,34,162,0,25,42,180,0,28,29,46,27,162,0,9,28,4,29,120,128,61,132,3,1,167,255,229,28,172] [] (by decide +kernel) (by decide +kernel) (by decide +kernel) (by decide +kernel)) rfl rfl (trivial) (trivial)
noncomputable def pX6_reckon : aPrg := ([(0, .iconst 0, 0, 0, []),
  (1, .istore_n 1, 0, 0, []),
  (2, .iload_n 1, 0, 0, []),
  (3, .aload_n 0, 0, 0, []),
  (4, .getfield 34, 0, 0, []),
  (7, .if_icmp .ge 21, 0, 28, []),
  (10, .aload_n 0, 0, 0, []),
  (11, .getfield 28, 0, 0, []),
  (14, .iload_n 1, 0, 0, []),
  (15, .aload_n 0, 0, 0, []),
  (16, .iload_n 1, 0, 0, []),
  (17, .iconst 0, 0, 0, []),
  (18, .invokevirtual 68, 0, 0, []),
  (21, .iastore, 0, 0, []),
  (22, .iinc 1 1, 1, 0, []),
  (25, .goto (-23), 0, 2, []),
  (28, .iconst 0, 0, 0, []),
  (29, .istore_n 1, 0, 0, []),
  (30, .iload_n 1, 0, 0, []),
  (31, .aload_n 0, 0, 0, []),
  (32, .getfield 34, 0, 0, []),
  (35, .if_icmp .ge 25, 0, 60, []),
  (38, .aload_n 0, 0, 0, []),
  (39, .getfield 31, 0, 0, []),
  (42, .iload_n 1, 0, 0, []),
  (43, .aload_n 0, 0, 0, []),
  (44, .aload_n 0, 0, 0, []),
  (45, .getfield 28, 0, 0, []),
  (48, .iload_n 1, 0, 0, []),
  (49, .iaload, 0, 0, []),
  (50, .invokevirtual 72, 0, 0, []),
  (53, .iastore, 0, 0, []),
  (54, .iinc 1 1, 1, 0, []),
  (57, .goto (-27), 0, 30, []),
  (60, .return_, 0, 0, [])],
  fdX6, [(68, fX6_pagesWithMore, 3, 6, 0), (72, fX6_booksUnder, 2, 6, 0)], [], [], [], 2)
noncomputable def fX6_reckon : aMF := a_fn none shp pX6_reckon 2 1
set_option maxRecDepth 20000 in
theorem wkX6_pagesWithMore : ∀ w ∈ [Cond.code yX6_pagesWithMore cX6_pagesWithMore 4 (some .int), .initialized yX6_pagesWithMore.cls, .instanceMethod yX6_pagesWithMore, .selects yX6_pagesWithMore.cls yX6_pagesWithMore yX6_pagesWithMore], w ∈ lw_g := a_ps [860, 98, 858, 859] rfl rfl
theorem hdX6_pagesWithMore : yX6_pagesWithMore.cls ≠ "java/lang/invoke/MethodHandle" ∧ yX6_pagesWithMore.cls ≠ "java/lang/invoke/VarHandle" ∧ (parseMethodDescriptor yX6_pagesWithMore.desc).map (fun d => d.parameters.length) = some 2 := by decide +kernel
set_option maxRecDepth 20000 in
theorem lkX6_68 : Cond.methodLink RX6 68 yX6_pagesWithMore ∈ lw_g := a_p1 857 rfl rfl
set_option maxRecDepth 20000 in
theorem wkX6_booksUnder : ∀ w ∈ [Cond.code yX6_booksUnder cX6_booksUnder 4 (some .int), .initialized yX6_booksUnder.cls, .instanceMethod yX6_booksUnder, .selects yX6_booksUnder.cls yX6_booksUnder yX6_booksUnder], w ∈ lw_g := a_ps [890, 98, 888, 889] rfl rfl
theorem hdX6_booksUnder : yX6_booksUnder.cls ≠ "java/lang/invoke/MethodHandle" ∧ yX6_booksUnder.cls ≠ "java/lang/invoke/VarHandle" ∧ (parseMethodDescriptor yX6_booksUnder.desc).map (fun d => d.parameters.length) = some 1 := by decide +kernel
set_option maxRecDepth 20000 in
theorem lkX6_72 : Cond.methodLink RX6 72 yX6_booksUnder ∈ lw_g := a_p1 887 rfl rfl
set_option maxRecDepth 20000 in
theorem kX6_reckon {l : Launch} {G : aG} (hZ : a_Z l G) : a_Con l G shp yX6_reckon (.code yX6_reckon cX6_reckon 2 none) 6 128 fX6_reckon :=
  a_mth none hZ.1 hZ.2.1 shp_len (fun _ h => nomatch h) hZ.2.2.1 (by decide +kernel) rfl (foX6 rfl) (a_cok_of trivial) (b_code [3,60,27,42,180,0,34,162,0,21,42,180,0,28,27,42,27,3,182,0,68,79,132,1,1,167,255,233,3,60,27,42,180,0,34,162,0,25,42,180,0,31,27,42,42,180,0,28,27,46,182,0,72,79,132,1,1,167,255,229,177] [] (by decide +kernel) (by decide +kernel) (by decide +kernel) (by decide +kernel)) rfl rfl (trivial) (⟨a_CQ_v hZ.2.1 (kX6_pagesWithMore hZ) lkX6_68 (a_CF_v TX6 9 wkX6_pagesWithMore lkX6_68 hdX6_pagesWithMore ⟨by decide, by decide⟩ rfl) rfl rfl,
    ⟨a_CQ_v hZ.2.1 (kX6_booksUnder hZ) lkX6_72 (a_CF_v TX6 9 wkX6_booksUnder lkX6_72 hdX6_booksUnder ⟨by decide, by decide⟩ rfl) rfl rfl,
    trivial⟩⟩)
noncomputable def pX6_pagesBound : aPrg := ([(0, .iconst 4, 4, 0, []),
  (1, .iload_n 1, 0, 0, []),
  (2, .imul, 0, 0, []),
  (3, .istore_n 3, 0, 0, []),
  (4, .iconst 4, 4, 0, []),
  (5, .iload_n 2, 0, 0, []),
  (6, .imul, 0, 0, []),
  (7, .istore 4, 0, 0, []),
  (9, .aload_n 0, 0, 0, []),
  (10, .getfield 12, 0, 0, []),
  (13, .aload_n 0, 0, 0, []),
  (14, .getfield 18, 0, 0, []),
  (17, .iload_n 3, 0, 0, []),
  (18, .iaload, 0, 0, []),
  (19, .aload_n 0, 0, 0, []),
  (20, .getfield 18, 0, 0, []),
  (23, .iload 4, 0, 0, []),
  (25, .iaload, 0, 0, []),
  (26, .iadd, 0, 0, []),
  (27, .aload_n 0, 0, 0, []),
  (28, .getfield 18, 0, 0, []),
  (31, .iload_n 3, 0, 0, []),
  (32, .iconst 1, 1, 0, []),
  (33, .iadd, 0, 0, []),
  (34, .iaload, 0, 0, []),
  (35, .aload_n 0, 0, 0, []),
  (36, .getfield 18, 0, 0, []),
  (39, .iload 4, 0, 0, []),
  (41, .iconst 1, 1, 0, []),
  (42, .iadd, 0, 0, []),
  (43, .iaload, 0, 0, []),
  (44, .iadd, 0, 0, []),
  (45, .aload_n 0, 0, 0, []),
  (46, .getfield 18, 0, 0, []),
  (49, .iload_n 3, 0, 0, []),
  (50, .iconst 2, 2, 0, []),
  (51, .iadd, 0, 0, []),
  (52, .iaload, 0, 0, []),
  (53, .aload_n 0, 0, 0, []),
  (54, .getfield 18, 0, 0, []),
  (57, .iload 4, 0, 0, []),
  (59, .iconst 2, 2, 0, []),
  (60, .iadd, 0, 0, []),
  (61, .iaload, 0, 0, []),
  (62, .iadd, 0, 0, []),
  (63, .aload_n 0, 0, 0, []),
  (64, .getfield 18, 0, 0, []),
  (67, .iload_n 3, 0, 0, []),
  (68, .iconst 3, 3, 0, []),
  (69, .iadd, 0, 0, []),
  (70, .iaload, 0, 0, []),
  (71, .aload_n 0, 0, 0, []),
  (72, .getfield 18, 0, 0, []),
  (75, .iload 4, 0, 0, []),
  (77, .iconst 3, 3, 0, []),
  (78, .iadd, 0, 0, []),
  (79, .iaload, 0, 0, []),
  (80, .iadd, 0, 0, []),
  (81, .invokevirtual 76, 0, 0, []),
  (84, .ireturn, 0, 0, [])],
  fdX6, [(76, fX1_reckon, 5, 1, 0)], [], [], [], 0)
noncomputable def fX6_pagesBound : aMF := a_fn none shp pX6_pagesBound 5 3
set_option maxRecDepth 20000 in
theorem kX6_pagesBound {l : Launch} {G : aG} (hZ : a_Z l G) : a_Con l G shp yX6_pagesBound (.code yX6_pagesBound cX6_pagesBound 5 (some .int)) 5 105 fX6_pagesBound :=
  a_mth none hZ.1 hZ.2.1 shp_len (fun _ h => nomatch h) hZ.2.2.1 (by decide +kernel) rfl (foX6 rfl) (a_cok_of trivial) (b_code [7,27,104,62,7,28,104,54,4,42,180,0,12,42,180,0,18,29,46,42,180,0,18,21,4,46,96,42,180,0,18,29,4,96,46,42,180,0,18,21,4,4,96,46,96,42,180,0,18,29,5,96,46,42,180,0,18,21,4,5,96,46,96,42,180,0,18,29,6,96,46,42,180,0,18,21,4,6,96,46,96,182,0,76,172] [] (by decide +kernel) (by decide +kernel) (by decide +kernel) (by decide +kernel)) rfl rfl (trivial) (⟨a_CQ_v hZ.2.1 (kX1_reckon hZ) lkX6_76 (a_CF_v TX1 4 wkX1_reckon lkX6_76 hdX1_reckon ⟨by decide, by decide⟩ rfl) rfl rfl,
    trivial⟩)
noncomputable def pX6_pagesTogether : aPrg := ([(0, .iconst 0, 0, 0, []),
  (1, .istore_n 2, 0, 0, []),
  (2, .iconst 0, 0, 0, []),
  (3, .istore_n 3, 0, 0, []),
  (4, .iload_n 3, 0, 0, []),
  (5, .aload_n 0, 0, 0, []),
  (6, .getfield 34, 0, 0, []),
  (9, .if_icmp .ge 26, 0, 35, []),
  (12, .iload_n 1, 0, 0, []),
  (13, .iload_n 3, 0, 0, []),
  (14, .invokestatic 80, 0, 0, []),
  (17, .ifCond .eq 12, 0, 29, []),
  (20, .iload_n 2, 0, 0, []),
  (21, .aload_n 0, 0, 0, []),
  (22, .getfield 28, 0, 0, []),
  (25, .iload_n 3, 0, 0, []),
  (26, .iaload, 0, 0, []),
  (27, .iadd, 0, 0, []),
  (28, .istore_n 2, 0, 0, []),
  (29, .iinc 3 1, 1, 0, []),
  (32, .goto (-28), 0, 4, []),
  (35, .iload_n 2, 0, 0, []),
  (36, .ireturn, 0, 0, [])],
  fdX6, [(80, fX8_holds, 2, 2000, 0)], [], [], [], 0)
noncomputable def fX6_pagesTogether : aMF := a_fn none shp pX6_pagesTogether 4 2
set_option maxRecDepth 20000 in
theorem kX6_pagesTogether {l : Launch} {G : aG} (hZ : a_Z l G) : a_Con l G shp yX6_pagesTogether (.code yX6_pagesTogether cX6_pagesTogether 4 (some .int)) 2 37 fX6_pagesTogether :=
  a_mth none hZ.1 hZ.2.1 shp_len (fun _ h => nomatch h) hZ.2.2.1 (by decide +kernel) rfl (foX6 rfl) (a_cok_of trivial) (b_code [3,61,3,62,29,42,180,0,34,162,0,26,27,29,184,0,80,153,0,12,28,42,180,0,28,29,46,96,61,132,3,1,167,255,228,28,172] [] (by decide +kernel) (by decide +kernel) (by decide +kernel) (by decide +kernel)) rfl rfl (trivial) (⟨a_CQ_sn hZ.2.1 (kX8_holds hZ) (a_CF_sn wkX8_holds "StoutShelf" 439 rfl hdX8_holds) (a_fn_nt rfl rfl) rfl rfl,
    trivial⟩)
noncomputable def pX6_takeableFor : aPrg := ([(0, .iconst 0, 0, 0, []),
  (1, .istore_n 2, 0, 0, []),
  (2, .iconst 0, 0, 0, []),
  (3, .istore_n 3, 0, 0, []),
  (4, .iload_n 3, 0, 0, []),
  (5, .aload_n 0, 0, 0, []),
  (6, .getfield 34, 0, 0, []),
  (9, .if_icmp .ge 26, 0, 35, []),
  (12, .iload_n 1, 0, 0, []),
  (13, .iload_n 3, 0, 0, []),
  (14, .invokestatic 80, 0, 0, []),
  (17, .ifCond .eq 12, 0, 29, []),
  (20, .iload_n 2, 0, 0, []),
  (21, .aload_n 0, 0, 0, []),
  (22, .getfield 31, 0, 0, []),
  (25, .iload_n 3, 0, 0, []),
  (26, .iaload, 0, 0, []),
  (27, .ior, 0, 0, []),
  (28, .istore_n 2, 0, 0, []),
  (29, .iinc 3 1, 1, 0, []),
  (32, .goto (-28), 0, 4, []),
  (35, .iload_n 2, 0, 0, []),
  (36, .ireturn, 0, 0, [])],
  fdX6, [(80, fX8_holds, 2, 2000, 0)], [], [], [], 0)
noncomputable def fX6_takeableFor : aMF := a_fn none shp pX6_takeableFor 4 2
set_option maxRecDepth 20000 in
theorem kX6_takeableFor {l : Launch} {G : aG} (hZ : a_Z l G) : a_Con l G shp yX6_takeableFor (.code yX6_takeableFor cX6_takeableFor 4 (some .int)) 2 37 fX6_takeableFor :=
  a_mth none hZ.1 hZ.2.1 shp_len (fun _ h => nomatch h) hZ.2.2.1 (by decide +kernel) rfl (foX6 rfl) (a_cok_of trivial) (b_code [3,61,3,62,29,42,180,0,34,162,0,26,27,29,184,0,80,153,0,12,28,42,180,0,31,29,46,128,61,132,3,1,167,255,228,28,172] [] (by decide +kernel) (by decide +kernel) (by decide +kernel) (by decide +kernel)) rfl rfl (trivial) (⟨a_CQ_sn hZ.2.1 (kX8_holds hZ) (a_CF_sn wkX8_holds "StoutShelf" 439 rfl hdX8_holds) (a_fn_nt rfl rfl) rfl rfl,
    trivial⟩)
noncomputable def pX6_isServed : aPrg := ([(0, .aload_n 0, 0, 0, []),
  (1, .getfield 22, 0, 0, []),
  (4, .iload_n 2, 0, 0, []),
  (5, .iaload, 0, 0, []),
  (6, .iconst (-1), (-1), 0, []),
  (7, .if_icmp .eq 22, 0, 29, []),
  (10, .aload_n 1, 0, 0, []),
  (11, .iload_n 2, 0, 0, []),
  (12, .iaload, 0, 0, []),
  (13, .aload_n 0, 0, 0, []),
  (14, .getfield 22, 0, 0, []),
  (17, .iload_n 2, 0, 0, []),
  (18, .iaload, 0, 0, []),
  (19, .invokestatic 80, 0, 0, []),
  (22, .ifCond .eq 7, 0, 29, []),
  (25, .iconst 1, 1, 0, []),
  (26, .goto 4, 0, 30, []),
  (29, .iconst 0, 0, 0, []),
  (30, .ireturn, 0, 0, [])],
  fdX6, [(80, fX8_holds, 2, 2000, 0)], [], [], [], 1)
noncomputable def fX6_isServed : aMF := a_fn none shp pX6_isServed 3 3
set_option maxRecDepth 20000 in
theorem kX6_isServed {l : Launch} {G : aG} (hZ : a_Z l G) : a_Con l G shp yX6_isServed (.code yX6_isServed cX6_isServed 3 (some .boolean)) 2 37 fX6_isServed :=
  a_mth none hZ.1 hZ.2.1 shp_len (fun _ h => nomatch h) hZ.2.2.1 (by decide +kernel) rfl (foX6 rfl) (a_cok_of trivial) (b_code [42,180,0,22,28,46,2,159,0,22,43,28,46,42,180,0,22,28,46,184,0,80,153,0,7,4,167,0,4,3,172] [] (by decide +kernel) (by decide +kernel) (by decide +kernel) (by decide +kernel)) rfl rfl (trivial) (⟨a_CQ_sn hZ.2.1 (kX8_holds hZ) (a_CF_sn wkX8_holds "StoutShelf" 439 rfl hdX8_holds) (a_fn_nt rfl rfl) rfl rfl,
    trivial⟩)
noncomputable def pX7_weigh : aPrg := ([(0, .iconst 0, 0, 0, []),
  (1, .istore_n 2, 0, 0, []),
  (2, .iconst 0, 0, 0, []),
  (3, .istore_n 3, 0, 0, []),
  (4, .iload_n 3, 0, 0, []),
  (5, .aload_n 0, 0, 0, []),
  (6, .getfield 28, 0, 0, []),
  (9, .getfield 55, 0, 0, []),
  (12, .if_icmp .ge 27, 0, 39, []),
  (15, .aload_n 0, 0, 0, []),
  (16, .getfield 28, 0, 0, []),
  (19, .aload_n 0, 0, 0, []),
  (20, .getfield 9, 0, 0, []),
  (23, .iload_n 3, 0, 0, []),
  (24, .invokevirtual 82, 0, 0, []),
  (27, .ifCond .eq 6, 0, 33, []),
  (30, .iinc 2 1, 1, 0, []),
  (33, .iinc 3 1, 1, 0, []),
  (36, .goto (-32), 0, 4, []),
  (39, .iload_n 2, 0, 0, []),
  (40, .aload_n 0, 0, 0, []),
  (41, .getfield 41, 0, 0, []),
  (44, .if_icmp .le 28, 0, 72, []),
  (47, .aload_n 0, 0, 0, []),
  (48, .iload_n 2, 0, 0, []),
  (49, .putfield 41, 0, 0, []),
  (52, .aload_n 0, 0, 0, []),
  (53, .iload_n 1, 0, 0, []),
  (54, .putfield 48, 0, 0, []),
  (57, .aload_n 0, 0, 0, []),
  (58, .getfield 15, 0, 0, []),
  (61, .iconst 0, 0, 0, []),
  (62, .aload_n 0, 0, 0, []),
  (63, .getfield 18, 0, 0, []),
  (66, .iconst 0, 0, 0, []),
  (67, .bipush 15, 15, 0, []),
  (69, .invokestatic 32, 0, 0, []),
  (72, .return_, 0, 0, [])],
  fdX7, [(82, fX6_isServed, 3, 6, 0), (32, a_acp, 5, 2000, 1)], [], [], [], 2)
noncomputable def fX7_weigh : aMF := a_fn none shp pX7_weigh 4 2
set_option maxRecDepth 20000 in
theorem wkX6_isServed : ∀ w ∈ [Cond.code yX6_isServed cX6_isServed 3 (some .boolean), .initialized yX6_isServed.cls, .instanceMethod yX6_isServed, .selects yX6_isServed.cls yX6_isServed yX6_isServed], w ∈ lw_g := a_ps [497, 98, 495, 496] rfl rfl
theorem hdX6_isServed : yX6_isServed.cls ≠ "java/lang/invoke/MethodHandle" ∧ yX6_isServed.cls ≠ "java/lang/invoke/VarHandle" ∧ (parseMethodDescriptor yX6_isServed.desc).map (fun d => d.parameters.length) = some 2 := by decide +kernel
set_option maxRecDepth 20000 in
theorem lkX7_82 : Cond.methodLink RX7 82 yX6_isServed ∈ lw_g := a_p1 494 rfl rfl
set_option maxRecDepth 20000 in
theorem kX7_weigh {l : Launch} {G : aG} (hZ : a_Z l G) : a_Con l G shp yX7_weigh (.code yX7_weigh cX7_weigh 4 none) 3 60 fX7_weigh :=
  a_mth none hZ.1 hZ.2.1 shp_len (fun _ h => nomatch h) hZ.2.2.1 (by decide +kernel) rfl (foX7 rfl) (a_cok_of trivial) (b_code [3,61,3,62,29,42,180,0,28,180,0,55,162,0,27,42,180,0,28,42,180,0,9,29,182,0,82,153,0,6,132,2,1,132,3,1,167,255,224,28,42,180,0,41,164,0,28,42,28,181,0,41,42,27,181,0,48,42,180,0,15,3,42,180,0,18,3,16,15,184,0,32,177] [] (by decide +kernel) (by decide +kernel) (by decide +kernel) (by decide +kernel)) rfl rfl (trivial) (⟨a_CQ_v hZ.2.1 (kX6_isServed hZ) lkX7_82 (a_CF_v TX6 9 wkX6_isServed lkX7_82 hdX6_isServed ⟨by decide, by decide⟩ rfl) rfl rfl,
    ⟨q_acp hZ 483 rfl rfl rfl,
    trivial⟩⟩)
noncomputable def pX7_tryPlace (g : Nat → aMF) : aPrg := ([(0, .aload_n 0, 0, 0, []),
  (1, .iload_n 1, 0, 0, []),
  (2, .invokevirtual 51, 0, 0, []),
  (5, .iload_n 1, 0, 0, []),
  (6, .iconst 5, 5, 0, []),
  (7, .if_icmp .lt 4, 0, 11, []),
  (10, .return_, 0, 0, []),
  (11, .iconst 0, 0, 0, []),
  (12, .istore_n 3, 0, 0, []),
  (13, .iload_n 3, 0, 0, []),
  (14, .aload_n 0, 0, 0, []),
  (15, .getfield 28, 0, 0, []),
  (18, .getfield 55, 0, 0, []),
  (21, .if_icmp .ge 28, 0, 49, []),
  (24, .iload_n 2, 0, 0, []),
  (25, .iload_n 3, 0, 0, []),
  (26, .ishr, 0, 0, []),
  (27, .iconst 1, 1, 0, []),
  (28, .iand, 0, 0, []),
  (29, .ifCond .ne 14, 0, 43, []),
  (32, .aload_n 0, 0, 0, []),
  (33, .iload_n 1, 0, 0, []),
  (34, .iload_n 2, 0, 0, []),
  (35, .iconst 1, 1, 0, []),
  (36, .iload_n 3, 0, 0, []),
  (37, .ishl, 0, 0, []),
  (38, .ior, 0, 0, []),
  (39, .iload_n 3, 0, 0, []),
  (40, .invokevirtual 60, 0, 0, []),
  (43, .iinc 3 1, 1, 0, []),
  (46, .goto (-33), 0, 13, []),
  (49, .return_, 0, 0, [])],
  fdX7, [(51, fX7_weigh, 2, 7, 1), (60, (g 1), 4, 7, 1)], [], [], [], 2)
noncomputable def pX7_tryReader (g : Nat → aMF) : aPrg := ([(0, .aload_n 0, 0, 0, []),
  (1, .getfield 9, 0, 0, []),
  (4, .iload_n 3, 0, 0, []),
  (5, .iaload, 0, 0, []),
  (6, .istore 4, 0, 0, []),
  (8, .aload_n 0, 0, 0, []),
  (9, .getfield 9, 0, 0, []),
  (12, .iconst 5, 5, 0, []),
  (13, .iaload, 0, 0, []),
  (14, .istore 5, 0, 0, []),
  (16, .iconst 0, 0, 0, []),
  (17, .istore 6, 0, 0, []),
  (19, .iload 6, 0, 0, []),
  (21, .aload_n 0, 0, 0, []),
  (22, .getfield 28, 0, 0, []),
  (25, .getfield 64, 0, 0, []),
  (28, .if_icmp .ge 95, 0, 123, []),
  (31, .aload_n 0, 0, 0, []),
  (32, .getfield 38, 0, 0, []),
  (35, .sipush 20000, 20000, 0, []),
  (38, .if_icmp .gt 85, 0, 123, []),
  (41, .iload 4, 0, 0, []),
  (43, .iload 6, 0, 0, []),
  (45, .invokestatic 67, 0, 0, []),
  (48, .ifCond .eq 19, 0, 67, []),
  (51, .aload_n 0, 0, 0, []),
  (52, .getfield 28, 0, 0, []),
  (55, .getfield 71, 0, 0, []),
  (58, .iload 6, 0, 0, []),
  (60, .iaload, 0, 0, []),
  (61, .iload 5, 0, 0, []),
  (63, .iand, 0, 0, []),
  (64, .goto 4, 0, 68, []),
  (67, .iconst 0, 0, 0, []),
  (68, .istore 7, 0, 0, []),
  (70, .iconst 0, 0, 0, []),
  (71, .istore 8, 0, 0, []),
  (73, .iload 8, 0, 0, []),
  (75, .aload_n 0, 0, 0, []),
  (76, .getfield 28, 0, 0, []),
  (79, .getfield 64, 0, 0, []),
  (82, .if_icmp .ge 35, 0, 117, []),
  (85, .iload 7, 0, 0, []),
  (87, .ifCond .eq 30, 0, 117, []),
  (90, .iload 7, 0, 0, []),
  (92, .iload 8, 0, 0, []),
  (94, .invokestatic 67, 0, 0, []),
  (97, .ifCond .eq 14, 0, 111, []),
  (100, .aload_n 0, 0, 0, []),
  (101, .iload_n 1, 0, 0, []),
  (102, .iload_n 2, 0, 0, []),
  (103, .iload_n 3, 0, 0, []),
  (104, .iload 6, 0, 0, []),
  (106, .iload 8, 0, 0, []),
  (108, .invokevirtual 74, 0, 0, []),
  (111, .iinc 8 1, 1, 0, []),
  (114, .goto (-41), 0, 73, []),
  (117, .iinc 6 1, 1, 0, []),
  (120, .goto (-101), 0, 19, []),
  (123, .return_, 0, 0, [])],
  fdX7, [(67, fX8_holds, 2, 2000, 0), (74, (g 2), 6, 7, 1)], [], [], [], 2)
noncomputable def pX7_tryExchange (g : Nat → aMF) : aPrg := ([(0, .aload_n 0, 0, 0, []),
  (1, .dup, 0, 0, []),
  (2, .getfield 38, 0, 0, []),
  (5, .iconst 1, 1, 0, []),
  (6, .iadd, 0, 0, []),
  (7, .putfield 38, 0, 0, []),
  (10, .aload_n 0, 0, 0, []),
  (11, .getfield 38, 0, 0, []),
  (14, .sipush 20000, 20000, 0, []),
  (17, .if_icmp .le 4, 0, 21, []),
  (20, .return_, 0, 0, []),
  (21, .iconst 3, 3, 0, []),
  (22, .iload_n 1, 0, 0, []),
  (23, .imul, 0, 0, []),
  (24, .istore 6, 0, 0, []),
  (26, .aload_n 0, 0, 0, []),
  (27, .getfield 15, 0, 0, []),
  (30, .iload 6, 0, 0, []),
  (32, .iload_n 3, 0, 0, []),
  (33, .iastore, 0, 0, []),
  (34, .aload_n 0, 0, 0, []),
  (35, .getfield 15, 0, 0, []),
  (38, .iload 6, 0, 0, []),
  (40, .iconst 1, 1, 0, []),
  (41, .iadd, 0, 0, []),
  (42, .iload 4, 0, 0, []),
  (44, .iastore, 0, 0, []),
  (45, .aload_n 0, 0, 0, []),
  (46, .getfield 15, 0, 0, []),
  (49, .iload 6, 0, 0, []),
  (51, .iconst 2, 2, 0, []),
  (52, .iadd, 0, 0, []),
  (53, .iload 5, 0, 0, []),
  (55, .iastore, 0, 0, []),
  (56, .aload_n 0, 0, 0, []),
  (57, .getfield 9, 0, 0, []),
  (60, .iload_n 3, 0, 0, []),
  (61, .iconst 5, 5, 0, []),
  (62, .iload 4, 0, 0, []),
  (64, .iload 5, 0, 0, []),
  (66, .invokestatic 78, 0, 0, []),
  (69, .aload_n 0, 0, 0, []),
  (70, .iload_n 1, 0, 0, []),
  (71, .iconst 1, 1, 0, []),
  (72, .iadd, 0, 0, []),
  (73, .iload_n 2, 0, 0, []),
  (74, .invokevirtual 44, 0, 0, []),
  (77, .aload_n 0, 0, 0, []),
  (78, .getfield 9, 0, 0, []),
  (81, .iload_n 3, 0, 0, []),
  (82, .iconst 5, 5, 0, []),
  (83, .iload 4, 0, 0, []),
  (85, .iload 5, 0, 0, []),
  (87, .invokestatic 78, 0, 0, []),
  (90, .return_, 0, 0, [])],
  fdX7, [(78, fX8_trade, 5, 2000, 1), (44, (g 0), 3, 7, 1)], [], [], [], 2)
noncomputable def fWK : Nat → Nat → aMF
  | 0 => fun _ _ _ => none
  | d + 1 => fun i => match i with
    | 0 => a_fn none shp (pX7_tryPlace (fWK d)) 4 3
    | 1 => a_fn none shp (pX7_tryReader (fWK d)) 9 4
    | _ => a_fn none shp (pX7_tryExchange (fWK d)) 7 6
set_option maxRecDepth 20000 in
theorem wkX7_weigh : ∀ w ∈ [Cond.code yX7_weigh cX7_weigh 4 none, .initialized yX7_weigh.cls, .instanceMethod yX7_weigh, .selects yX7_weigh.cls yX7_weigh yX7_weigh], w ∈ lw_g := a_ps [493, 102, 492, 6] rfl rfl
theorem hdX7_weigh : yX7_weigh.cls ≠ "java/lang/invoke/MethodHandle" ∧ yX7_weigh.cls ≠ "java/lang/invoke/VarHandle" ∧ (parseMethodDescriptor yX7_weigh.desc).map (fun d => d.parameters.length) = some 1 := by decide +kernel
set_option maxRecDepth 20000 in
theorem lkX7_51 : Cond.methodLink RX7 51 yX7_weigh ∈ lw_g := a_p1 490 rfl rfl
set_option maxRecDepth 20000 in
theorem wkX7_tryReader : ∀ w ∈ [Cond.code yX7_tryReader cX7_tryReader 9 none, .initialized yX7_tryReader.cls, .instanceMethod yX7_tryReader, .selects yX7_tryReader.cls yX7_tryReader yX7_tryReader], w ∈ lw_g := a_ps [501, 102, 500, 7] rfl rfl
theorem hdX7_tryReader : yX7_tryReader.cls ≠ "java/lang/invoke/MethodHandle" ∧ yX7_tryReader.cls ≠ "java/lang/invoke/VarHandle" ∧ (parseMethodDescriptor yX7_tryReader.desc).map (fun d => d.parameters.length) = some 3 := by decide +kernel
set_option maxRecDepth 20000 in
theorem lkX7_60 : Cond.methodLink RX7 60 yX7_tryReader ∈ lw_g := a_p1 498 rfl rfl
set_option maxRecDepth 20000 in
theorem wkX7_tryExchange : ∀ w ∈ [Cond.code yX7_tryExchange cX7_tryExchange 7 none, .initialized yX7_tryExchange.cls, .instanceMethod yX7_tryExchange, .selects yX7_tryExchange.cls yX7_tryExchange yX7_tryExchange], w ∈ lw_g := a_ps [506, 102, 505, 8] rfl rfl
theorem hdX7_tryExchange : yX7_tryExchange.cls ≠ "java/lang/invoke/MethodHandle" ∧ yX7_tryExchange.cls ≠ "java/lang/invoke/VarHandle" ∧ (parseMethodDescriptor yX7_tryExchange.desc).map (fun d => d.parameters.length) = some 5 := by decide +kernel
set_option maxRecDepth 20000 in
theorem lkX7_74 : Cond.methodLink RX7 74 yX7_tryExchange ∈ lw_g := a_p1 503 rfl rfl
set_option maxRecDepth 20000 in
theorem wkX7_tryPlace : ∀ w ∈ [Cond.code yX7_tryPlace cX7_tryPlace 4 none, .initialized yX7_tryPlace.cls, .instanceMethod yX7_tryPlace, .selects yX7_tryPlace.cls yX7_tryPlace yX7_tryPlace], w ∈ lw_g := a_ps [489, 102, 488, 5] rfl rfl
theorem hdX7_tryPlace : yX7_tryPlace.cls ≠ "java/lang/invoke/MethodHandle" ∧ yX7_tryPlace.cls ≠ "java/lang/invoke/VarHandle" ∧ (parseMethodDescriptor yX7_tryPlace.desc).map (fun d => d.parameters.length) = some 2 := by decide +kernel
set_option maxRecDepth 20000 in
theorem lkX7_44 : Cond.methodLink RX7 44 yX7_tryPlace ∈ lw_g := a_p1 486 rfl rfl
set_option maxRecDepth 20000 in
theorem kfWK {l : Launch} {G : aG} (hZ : a_Z l G) : ∀ d : Nat, a_Con l G shp yX7_tryPlace (.code yX7_tryPlace cX7_tryPlace 4 none) (4 + d) (83 + 40 * d) (fWK d 0) ∧
    a_Con l G shp yX7_tryReader (.code yX7_tryReader cX7_tryReader 9 none) (4 + d) (83 + 40 * d) (fWK d 1) ∧
    a_Con l G shp yX7_tryExchange (.code yX7_tryExchange cX7_tryExchange 7 none) (4 + d) (83 + 40 * d) (fWK d 2)
  | 0 => ⟨(fun _ _ _ _ h => nomatch h), (fun _ _ _ _ h => nomatch h), (fun _ _ _ _ h => nomatch h)⟩
  | d + 1 => by
    have ih := kfWK hZ d
    refine ⟨?_, ?_, ?_⟩
    · exact a_mth none hZ.1 hZ.2.1 shp_len (fun _ h => nomatch h) hZ.2.2.1 (by decide +kernel) rfl (foX7 rfl) (a_cok_of trivial) (b_code [42,27,182,0,51,27,8,161,0,4,177,3,62,29,42,180,0,28,180,0,55,162,0,28,28,29,122,4,126,154,0,14,42,27,28,4,29,120,128,29,182,0,60,132,3,1,167,255,223,177] [] (by decide +kernel) (by decide +kernel) (by decide +kernel) (by decide +kernel)) rfl rfl (trivial) (⟨a_CQ_v hZ.2.1 (kX7_weigh hZ) lkX7_51 (a_CF_v TX7 9 wkX7_weigh lkX7_51 hdX7_weigh ⟨by decide, by decide⟩ rfl) (Nat.ble_eq_true_of_le (by omega)) (Nat.ble_eq_true_of_le (by omega)),
    ⟨a_CQ_v hZ.2.1 (ih.2.1) lkX7_60 (a_CF_v TX7 9 wkX7_tryReader lkX7_60 hdX7_tryReader ⟨by decide, by decide⟩ rfl) (Nat.ble_eq_true_of_le (by omega)) (Nat.ble_eq_true_of_le (by omega)),
    trivial⟩⟩)
    · exact a_mth none hZ.1 hZ.2.1 shp_len (fun _ h => nomatch h) hZ.2.2.1 (by decide +kernel) rfl (foX7 rfl) (a_cok_of trivial) (b_code [42,180,0,9,29,46,54,4,42,180,0,9,8,46,54,5,3,54,6,21,6,42,180,0,28,180,0,64,162,0,95,42,180,0,38,17,78,32,163,0,85,21,4,21,6,184,0,67,153,0,19,42,180,0,28,180,0,71,21,6,46,21,5,126,167,0,4,3,54,7,3,54,8,21,8,42,180,0,28,180,0,64,162,0,35,21,7,153,0,30,21,7,21,8,184,0,67,153,0,14,42,27,28,29,21,6,21,8,182,0,74,132,8,1,167,255,215,132,6,1,167,255,155,177] [] (by decide +kernel) (by decide +kernel) (by decide +kernel) (by decide +kernel)) rfl rfl (trivial) (⟨a_CQ_sn hZ.2.1 (kX8_holds hZ) (a_CF_sn wkX8_holds "StoutShelf" 502 rfl hdX8_holds) (a_fn_nt rfl rfl) (Nat.ble_eq_true_of_le (by omega)) (Nat.ble_eq_true_of_le (by omega)),
    ⟨a_CQ_v hZ.2.1 (ih.2.2) lkX7_74 (a_CF_v TX7 9 wkX7_tryExchange lkX7_74 hdX7_tryExchange ⟨by decide, by decide⟩ rfl) (Nat.ble_eq_true_of_le (by omega)) (Nat.ble_eq_true_of_le (by omega)),
    trivial⟩⟩)
    · exact a_mth none hZ.1 hZ.2.1 shp_len (fun _ h => nomatch h) hZ.2.2.1 (by decide +kernel) rfl (foX7 rfl) (a_cok_of trivial) (b_code [42,89,180,0,38,4,96,181,0,38,42,180,0,38,17,78,32,164,0,4,177,6,27,104,54,6,42,180,0,15,21,6,29,79,42,180,0,15,21,6,4,96,21,4,79,42,180,0,15,21,6,5,96,21,5,79,42,180,0,9,29,8,21,4,21,5,184,0,78,42,27,4,96,28,182,0,44,42,180,0,9,29,8,21,4,21,5,184,0,78,177] [] (by decide +kernel) (by decide +kernel) (by decide +kernel) (by decide +kernel)) rfl rfl (trivial) (⟨a_CQ_sn hZ.2.1 (kX8_trade hZ) (a_CF_sn wkX8_trade "StoutShelf" 507 rfl hdX8_trade) (a_fn_nt rfl rfl) (Nat.ble_eq_true_of_le (by omega)) (Nat.ble_eq_true_of_le (by omega)),
    ⟨a_CQ_v hZ.2.1 (ih.1) lkX7_44 (a_CF_v TX7 9 wkX7_tryPlace lkX7_44 hdX7_tryPlace ⟨by decide, by decide⟩ rfl) (Nat.ble_eq_true_of_le (by omega)) (Nat.ble_eq_true_of_le (by omega)),
    trivial⟩⟩)
noncomputable abbrev fX7_tryPlace : aMF := fWK 20 0
theorem kX7_tryPlace {l : Launch} {G : aG} (hZ : a_Z l G) : a_Con l G shp yX7_tryPlace (.code yX7_tryPlace cX7_tryPlace 4 none) 24 883 fX7_tryPlace := (kfWK hZ 20).1
noncomputable abbrev fX7_tryReader : aMF := fWK 20 1
theorem kX7_tryReader {l : Launch} {G : aG} (hZ : a_Z l G) : a_Con l G shp yX7_tryReader (.code yX7_tryReader cX7_tryReader 9 none) 24 883 fX7_tryReader := (kfWK hZ 20).2.1
noncomputable abbrev fX7_tryExchange : aMF := fWK 20 2
theorem kX7_tryExchange {l : Launch} {G : aG} (hZ : a_Z l G) : a_Con l G shp yX7_tryExchange (.code yX7_tryExchange cX7_tryExchange 7 none) 24 883 fX7_tryExchange := (kfWK hZ 20).2.2
noncomputable def pX7_plan : aPrg := ([(0, .aload_n 1, 0, 0, []),
  (1, .iconst 0, 0, 0, []),
  (2, .aload_n 0, 0, 0, []),
  (3, .getfield 9, 0, 0, []),
  (6, .iconst 0, 0, 0, []),
  (7, .bipush 6, 6, 0, []),
  (9, .invokestatic 32, 0, 0, []),
  (12, .aload_n 0, 0, 0, []),
  (13, .iconst 0, 0, 0, []),
  (14, .putfield 38, 0, 0, []),
  (17, .aload_n 0, 0, 0, []),
  (18, .iconst (-1), (-1), 0, []),
  (19, .putfield 41, 0, 0, []),
  (22, .aload_n 0, 0, 0, []),
  (23, .iconst 0, 0, 0, []),
  (24, .iconst 0, 0, 0, []),
  (25, .invokevirtual 44, 0, 0, []),
  (28, .aload_n 0, 0, 0, []),
  (29, .getfield 38, 0, 0, []),
  (32, .sipush 20000, 20000, 0, []),
  (35, .if_icmp .le 6, 0, 41, []),
  (38, .bipush (-2), (-2), 0, []),
  (40, .ireturn, 0, 0, []),
  (41, .aload_n 0, 0, 0, []),
  (42, .getfield 18, 0, 0, []),
  (45, .iconst 0, 0, 0, []),
  (46, .aload_n 0, 0, 0, []),
  (47, .getfield 21, 0, 0, []),
  (50, .iconst 0, 0, 0, []),
  (51, .bipush 15, 15, 0, []),
  (53, .invokestatic 32, 0, 0, []),
  (56, .aload_n 0, 0, 0, []),
  (57, .aload_n 0, 0, 0, []),
  (58, .getfield 48, 0, 0, []),
  (61, .putfield 24, 0, 0, []),
  (64, .aload_n 0, 0, 0, []),
  (65, .getfield 41, 0, 0, []),
  (68, .ireturn, 0, 0, [])],
  fdX7, [(32, a_acp, 5, 2000, 1), (44, fX7_tryPlace, 3, 7, 1)], [], [], [], 0)
noncomputable def fX7_plan : aMF := a_fn none shp pX7_plan 2 2
set_option maxRecDepth 20000 in
theorem kX7_plan {l : Launch} {G : aG} (hZ : a_Z l G) : a_Con l G shp yX7_plan (.code yX7_plan cX7_plan 2 (some .int)) 25 906 fX7_plan :=
  a_mth none hZ.1 hZ.2.1 shp_len (fun _ h => nomatch h) hZ.2.2.1 (by decide +kernel) rfl (foX7 rfl) (a_cok_of trivial) (b_code [43,3,42,180,0,9,3,16,6,184,0,32,42,3,181,0,38,42,2,181,0,41,42,3,3,182,0,44,42,180,0,38,17,78,32,164,0,6,16,254,172,42,180,0,18,3,42,180,0,21,3,16,15,184,0,32,42,42,180,0,48,181,0,24,42,180,0,41,172] [] (by decide +kernel) (by decide +kernel) (by decide +kernel) (by decide +kernel)) rfl rfl (trivial) (⟨q_acp hZ 483 rfl rfl rfl,
    ⟨a_CQ_v hZ.2.1 (kX7_tryPlace hZ) lkX7_44 (a_CF_v TX7 9 wkX7_tryPlace lkX7_44 hdX7_tryPlace ⟨by decide, by decide⟩ rfl) rfl rfl,
    trivial⟩⟩)
noncomputable def pX8_feed : aPrg := ([(0, .aload_n 0, 0, 0, []),
  (1, .getfield 12, 0, 0, []),
  (4, .getfield 78, 0, 0, []),
  (7, .sipush 680, 680, 0, []),
  (10, .if_icmp .le 5, 0, 15, []),
  (13, .iconst (-1), (-1), 0, []),
  (14, .ireturn, 0, 0, []),
  (15, .aload_n 0, 0, 0, []),
  (16, .getfield 12, 0, 0, []),
  (19, .iload_n 1, 0, 0, []),
  (20, .invokevirtual 81, 0, 0, []),
  (23, .aload_n 0, 0, 0, []),
  (24, .getfield 12, 0, 0, []),
  (27, .iload_n 2, 0, 0, []),
  (28, .invokevirtual 81, 0, 0, []),
  (31, .aload_n 0, 0, 0, []),
  (32, .getfield 12, 0, 0, []),
  (35, .iload_n 3, 0, 0, []),
  (36, .invokevirtual 81, 0, 0, []),
  (39, .aload_n 0, 0, 0, []),
  (40, .getfield 12, 0, 0, []),
  (43, .iload 4, 0, 0, []),
  (45, .invokevirtual 81, 0, 0, []),
  (48, .aload_n 0, 0, 0, []),
  (49, .getfield 12, 0, 0, []),
  (52, .iload 5, 0, 0, []),
  (54, .invokevirtual 81, 0, 0, []),
  (57, .aload_n 0, 0, 0, []),
  (58, .getfield 12, 0, 0, []),
  (61, .getfield 78, 0, 0, []),
  (64, .ireturn, 0, 0, [])],
  fdX8, [(81, fX5_put, 2, 5, 1)], [], [], [], 0)
noncomputable def fX8_feed : aMF := a_fn none shp pX8_feed 6 6
set_option maxRecDepth 20000 in
theorem wkX5_put : ∀ w ∈ [Cond.code yX5_put cX5_put 2 none, .initialized yX5_put.cls, .instanceMethod yX5_put, .selects yX5_put.cls yX5_put yX5_put], w ∈ lw_g := a_ps [414, 97, 412, 413] rfl rfl
theorem hdX5_put : yX5_put.cls ≠ "java/lang/invoke/MethodHandle" ∧ yX5_put.cls ≠ "java/lang/invoke/VarHandle" ∧ (parseMethodDescriptor yX5_put.desc).map (fun d => d.parameters.length) = some 1 := by decide +kernel
set_option maxRecDepth 20000 in
theorem lkX8_81 : Cond.methodLink RX8 81 yX5_put ∈ lw_g := a_p1 411 rfl rfl
set_option maxRecDepth 20000 in
theorem kX8_feed {l : Launch} {G : aG} (hZ : a_Z l G) : a_Con l G shp yX8_feed (.code yX8_feed cX8_feed 6 (some .int)) 2 37 fX8_feed :=
  a_mth none hZ.1 hZ.2.1 shp_len (fun _ h => nomatch h) hZ.2.2.1 (by decide +kernel) rfl (foX8 rfl) (a_cok_of trivial) (b_code [42,180,0,12,180,0,78,17,2,168,164,0,5,2,172,42,180,0,12,27,182,0,81,42,180,0,12,28,182,0,81,42,180,0,12,29,182,0,81,42,180,0,12,21,4,182,0,81,42,180,0,12,21,5,182,0,81,42,180,0,12,180,0,78,172] [] (by decide +kernel) (by decide +kernel) (by decide +kernel) (by decide +kernel)) rfl rfl (trivial) (⟨a_CQ_v hZ.2.1 (kX5_put hZ) lkX8_81 (a_CF_v TX5 7 wkX5_put lkX8_81 hdX5_put ⟨by decide, by decide⟩ rfl) rfl rfl,
    trivial⟩)
end
section
/-! ===== programs and contracts, written by wip/whole/gen.py ===== -/
noncomputable def pX8_library : aPrg := ([(0, .iload_n 1, 0, 0, []),
  (1, .ifCond .lt 14, 0, 15, []),
  (4, .iload_n 1, 0, 0, []),
  (5, .aload_n 0, 0, 0, []),
  (6, .getfield 12, 0, 0, []),
  (9, .getfield 78, 0, 0, []),
  (12, .if_icmp .le 13, 0, 25, []),
  (15, .new 85, 0, 0, []),
  (25, .aload_n 0, 0, 0, []),
  (26, .getfield 31, 0, 0, []),
  (29, .iload_n 1, 0, 0, []),
  (30, .invokevirtual 92, 0, 0, []),
  (33, .istore_n 2, 0, 0, []),
  (34, .aload_n 0, 0, 0, []),
  (35, .getfield 12, 0, 0, []),
  (38, .iconst 0, 0, 0, []),
  (39, .putfield 78, 0, 0, []),
  (42, .aload_n 0, 0, 0, []),
  (43, .aload_n 0, 0, 0, []),
  (44, .getfield 31, 0, 0, []),
  (47, .getfield 96, 0, 0, []),
  (50, .putfield 74, 0, 0, []),
  (53, .iload_n 2, 0, 0, []),
  (54, .ifCond .eq 15, 0, 69, []),
  (57, .aload_n 0, 0, 0, []),
  (58, .dup, 0, 0, []),
  (59, .getfield 99, 0, 0, []),
  (62, .iconst 1, 1, 0, []),
  (63, .iadd, 0, 0, []),
  (64, .putfield 99, 0, 0, []),
  (67, .iload_n 2, 0, 0, []),
  (68, .ireturn, 0, 0, []),
  (69, .aload_n 0, 0, 0, []),
  (70, .getfield 23, 0, 0, []),
  (73, .aload_n 0, 0, 0, []),
  (74, .getfield 19, 0, 0, []),
  (77, .invokevirtual 102, 0, 0, []),
  (80, .aload_n 0, 0, 0, []),
  (81, .getfield 23, 0, 0, []),
  (84, .invokevirtual 105, 0, 0, []),
  (87, .aload_n 0, 0, 0, []),
  (88, .getfield 38, 0, 0, []),
  (91, .aload_n 0, 0, 0, []),
  (92, .getfield 23, 0, 0, []),
  (95, .getfield 108, 0, 0, []),
  (98, .invokevirtual 111, 0, 0, []),
  (101, .aload_n 0, 0, 0, []),
  (102, .getfield 50, 0, 0, []),
  (105, .iconst (-1), (-1), 0, []),
  (106, .putfield 115, 0, 0, []),
  (109, .aload_n 0, 0, 0, []),
  (110, .iconst 0, 0, 0, []),
  (111, .putfield 118, 0, 0, []),
  (114, .iconst 0, 0, 0, []),
  (115, .ireturn, 0, 0, [])],
  fdX8, [(92, fX3_readAll, 2, 3, 0), (102, fX6_take, 2, 6, 1), (105, fX6_reckon, 1, 6, 1), (111, fX4_begin, 2, 4, 1)], [], [], [(15, 1)], 0)
noncomputable def fX8_library : aMF := a_fn none shp pX8_library 3 2
theorem tkX8_library_15 {l : Launch} {G : aG} (hZ : a_Z l G) : a_tok G RX8 cX8_library 81 3068 15 1 :=
  a_tok_s (own := RX8) (cc := cX8_library) (ik := 85) (is := 87) (ic := 89) (ix := 7) (rx := prog_16_method_2_code) (sa := g_ad G 1016) (text := "the tape has not so many bytes") rxX1 (by decide) ⟨by decide +kernel, by decide +kernel⟩ ⟨by decide +kernel, by decide +kernel, by decide +kernel⟩ clX1 inX1 (z_16 hZ) atX1 rfl rfl
set_option maxRecDepth 20000 in
theorem wkX3_readAll : ∀ w ∈ [Cond.code yX3_readAll cX3_readAll 4 (some .int), .initialized yX3_readAll.cls, .instanceMethod yX3_readAll, .selects yX3_readAll.cls yX3_readAll yX3_readAll], w ∈ lw_g := a_ps [654, 100, 652, 653] rfl rfl
theorem hdX3_readAll : yX3_readAll.cls ≠ "java/lang/invoke/MethodHandle" ∧ yX3_readAll.cls ≠ "java/lang/invoke/VarHandle" ∧ (parseMethodDescriptor yX3_readAll.desc).map (fun d => d.parameters.length) = some 1 := by decide +kernel
set_option maxRecDepth 20000 in
theorem lkX8_92 : Cond.methodLink RX8 92 yX3_readAll ∈ lw_g := a_p1 651 rfl rfl
set_option maxRecDepth 20000 in
theorem wkX6_take : ∀ w ∈ [Cond.code yX6_take cX6_take 2 none, .initialized yX6_take.cls, .instanceMethod yX6_take, .selects yX6_take.cls yX6_take yX6_take], w ∈ lw_g := a_ps [846, 98, 844, 845] rfl rfl
theorem hdX6_take : yX6_take.cls ≠ "java/lang/invoke/MethodHandle" ∧ yX6_take.cls ≠ "java/lang/invoke/VarHandle" ∧ (parseMethodDescriptor yX6_take.desc).map (fun d => d.parameters.length) = some 1 := by decide +kernel
set_option maxRecDepth 20000 in
theorem lkX8_102 : Cond.methodLink RX8 102 yX6_take ∈ lw_g := a_p1 843 rfl rfl
set_option maxRecDepth 20000 in
theorem wkX6_reckon : ∀ w ∈ [Cond.code yX6_reckon cX6_reckon 2 none, .initialized yX6_reckon.cls, .instanceMethod yX6_reckon, .selects yX6_reckon.cls yX6_reckon yX6_reckon], w ∈ lw_g := a_ps [856, 98, 854, 855] rfl rfl
theorem hdX6_reckon : yX6_reckon.cls ≠ "java/lang/invoke/MethodHandle" ∧ yX6_reckon.cls ≠ "java/lang/invoke/VarHandle" ∧ (parseMethodDescriptor yX6_reckon.desc).map (fun d => d.parameters.length) = some 0 := by decide +kernel
set_option maxRecDepth 20000 in
theorem lkX8_105 : Cond.methodLink RX8 105 yX6_reckon ∈ lw_g := a_p1 853 rfl rfl
set_option maxRecDepth 20000 in
theorem wkX4_begin : ∀ w ∈ [Cond.code yX4_begin cX4_begin 2 none, .initialized yX4_begin.cls, .instanceMethod yX4_begin, .selects yX4_begin.cls yX4_begin yX4_begin], w ∈ lw_g := a_ps [894, 101, 892, 893] rfl rfl
theorem hdX4_begin : yX4_begin.cls ≠ "java/lang/invoke/MethodHandle" ∧ yX4_begin.cls ≠ "java/lang/invoke/VarHandle" ∧ (parseMethodDescriptor yX4_begin.desc).map (fun d => d.parameters.length) = some 1 := by decide +kernel
set_option maxRecDepth 20000 in
theorem lkX8_111 : Cond.methodLink RX8 111 yX4_begin ∈ lw_g := a_p1 891 rfl rfl
set_option maxRecDepth 20000 in
theorem kX8_library {l : Launch} {G : aG} (hZ : a_Z l G) : a_Con l G shp yX8_library (.code yX8_library cX8_library 3 (some .int)) 81 3068 fX8_library :=
  a_mth none hZ.1 hZ.2.1 shp_len (fun _ h => nomatch h) hZ.2.2.1 (by decide +kernel) rfl (foX8 rfl) (a_cok_of trivial) (b_code [27,155,0,14,27,42,180,0,12,180,0,78,164,0,13,187,0,85,89,18,87,183,0,89,191,42,180,0,31,27,182,0,92,61,42,180,0,12,3,181,0,78,42,42,180,0,31,180,0,96,181,0,74,28,153,0,15,42,89,180,0,99,4,96,181,0,99,28,172,42,180,0,23,42,180,0,19,182,0,102,42,180,0,23,182,0,105,42,180,0,38,42,180,0,23,180,0,108,182,0,111,42,180,0,50,2,181,0,115,42,3,181,0,118,3,172] [] (by decide +kernel) (by decide +kernel) (by decide +kernel) (by decide +kernel)) rfl rfl (⟨tkX8_library_15 hZ, trivial⟩) (⟨a_CQ_v hZ.2.1 (kX3_readAll hZ) lkX8_92 (a_CF_v TX3 4 wkX3_readAll lkX8_92 hdX3_readAll ⟨by decide, by decide⟩ rfl) rfl rfl,
    ⟨a_CQ_v hZ.2.1 (kX6_take hZ) lkX8_102 (a_CF_v TX6 9 wkX6_take lkX8_102 hdX6_take ⟨by decide, by decide⟩ rfl) rfl rfl,
    ⟨a_CQ_v hZ.2.1 (kX6_reckon hZ) lkX8_105 (a_CF_v TX6 9 wkX6_reckon lkX8_105 hdX6_reckon ⟨by decide, by decide⟩ rfl) rfl rfl,
    ⟨a_CQ_v hZ.2.1 (kX4_begin hZ) lkX8_111 (a_CF_v TX4 5 wkX4_begin lkX8_111 hdX4_begin ⟨by decide, by decide⟩ rfl) rfl rfl,
    trivial⟩⟩⟩⟩)
noncomputable def pX8_fault : aPrg := ([(0, .aload_n 0, 0, 0, []),
  (1, .getfield 74, 0, 0, []),
  (4, .ireturn, 0, 0, [])],
  fdX8, [], [], [], [], 0)
noncomputable def fX8_fault : aMF := a_fn none shp pX8_fault 1 1
set_option maxRecDepth 20000 in
theorem kX8_fault {l : Launch} {G : aG} (hZ : a_Z l G) : a_Con l G shp yX8_fault (.code yX8_fault cX8_fault 1 (some .int)) 1 16 fX8_fault :=
  a_mth none hZ.1 hZ.2.1 shp_len (fun _ h => nomatch h) hZ.2.2.1 (by decide +kernel) rfl (foX8 rfl) (a_cok_of trivial) (b_code [42,180,0,74,172] [] (by decide +kernel) (by decide +kernel) (by decide +kernel) (by decide +kernel)) rfl rfl (trivial) (trivial)
noncomputable def pX8_count : aPrg := ([(0, .iload_n 1, 0, 0, []),
  (1, .tableswitch 123 0 8 #[51, 59, 67, 84, 92, 100, 108, 113, 118], 0, 124, [(0, 52), (1, 60), (2, 68), (3, 85), (4, 93), (5, 101), (6, 109), (7, 114), (8, 119)]),
  (52, .aload_n 0, 0, 0, []),
  (53, .getfield 23, 0, 0, []),
  (56, .getfield 122, 0, 0, []),
  (59, .ireturn, 0, 0, []),
  (60, .aload_n 0, 0, 0, []),
  (61, .getfield 23, 0, 0, []),
  (64, .getfield 125, 0, 0, []),
  (67, .ireturn, 0, 0, []),
  (68, .aload_n 0, 0, 0, []),
  (69, .getfield 23, 0, 0, []),
  (72, .aload_n 0, 0, 0, []),
  (73, .getfield 38, 0, 0, []),
  (76, .getfield 128, 0, 0, []),
  (79, .iconst 5, 5, 0, []),
  (80, .iaload, 0, 0, []),
  (81, .invokevirtual 131, 0, 0, []),
  (84, .ireturn, 0, 0, []),
  (85, .aload_n 0, 0, 0, []),
  (86, .getfield 38, 0, 0, []),
  (89, .getfield 134, 0, 0, []),
  (92, .ireturn, 0, 0, []),
  (93, .aload_n 0, 0, 0, []),
  (94, .getfield 38, 0, 0, []),
  (97, .getfield 137, 0, 0, []),
  (100, .ireturn, 0, 0, []),
  (101, .aload_n 0, 0, 0, []),
  (102, .getfield 12, 0, 0, []),
  (105, .getfield 78, 0, 0, []),
  (108, .ireturn, 0, 0, []),
  (109, .aload_n 0, 0, 0, []),
  (110, .getfield 99, 0, 0, []),
  (113, .ireturn, 0, 0, []),
  (114, .aload_n 0, 0, 0, []),
  (115, .getfield 140, 0, 0, []),
  (118, .ireturn, 0, 0, []),
  (119, .aload_n 0, 0, 0, []),
  (120, .getfield 143, 0, 0, []),
  (123, .ireturn, 0, 0, []),
  (124, .new 146, 0, 0, [])],
  fdX8, [(131, fX6_pagesTogether, 2, 6, 0)], [], [], [(124, 0)], 0)
noncomputable def fX8_count : aMF := a_fn none shp pX8_count 2 2
theorem tkX8_count_124 {l : Launch} {G : aG} (hZ : a_Z l G) : a_tok G RX8 cX8_count 6 90 124 0 :=
  a_tok_s (own := RX8) (cc := cX8_count) (ik := 146) (is := 148) (ic := 150) (ix := 13) (rx := prog_28_method_4_code) (sa := g_ad G 1017) (text := "no such count") rxX0 (by decide) ⟨by decide +kernel, by decide +kernel⟩ ⟨by decide +kernel, by decide +kernel, by decide +kernel⟩ clX0 inX0 (z_17 hZ) atX0 rfl rfl
set_option maxRecDepth 20000 in
theorem wkX6_pagesTogether : ∀ w ∈ [Cond.code yX6_pagesTogether cX6_pagesTogether 4 (some .int), .initialized yX6_pagesTogether.cls, .instanceMethod yX6_pagesTogether, .selects yX6_pagesTogether.cls yX6_pagesTogether yX6_pagesTogether], w ∈ lw_g := a_ps [906, 98, 904, 905] rfl rfl
theorem hdX6_pagesTogether : yX6_pagesTogether.cls ≠ "java/lang/invoke/MethodHandle" ∧ yX6_pagesTogether.cls ≠ "java/lang/invoke/VarHandle" ∧ (parseMethodDescriptor yX6_pagesTogether.desc).map (fun d => d.parameters.length) = some 1 := by decide +kernel
set_option maxRecDepth 20000 in
theorem lkX8_131 : Cond.methodLink RX8 131 yX6_pagesTogether ∈ lw_g := a_p1 903 rfl rfl
set_option maxRecDepth 20000 in
theorem kX8_count {l : Launch} {G : aG} (hZ : a_Z l G) : a_Con l G shp yX8_count (.code yX8_count cX8_count 2 (some .int)) 6 90 fX8_count :=
  a_mth none hZ.1 hZ.2.1 shp_len (fun _ h => nomatch h) hZ.2.2.1 (by decide +kernel) rfl (foX8 rfl) (a_cok_of trivial) (b_code [27,170,0,0,0,0,0,123,0,0,0,0,0,0,0,8,0,0,0,51,0,0,0,59,0,0,0,67,0,0,0,84,0,0,0,92,0,0,0,100,0,0,0,108,0,0,0,113,0,0,0,118,42,180,0,23,180,0,122,172,42,180,0,23,180,0,125,172,42,180,0,23,42,180,0,38,180,0,128,8,46,182,0,131,172,42,180,0,38,180,0,134,172,42,180,0,38,180,0,137,172,42,180,0,12,180,0,78,172,42,180,0,99,172,42,180,0,140,172,42,180,0,143,172,187,0,146,89,18,148,183,0,150,191] [(1, 51)] (by decide +kernel) (by decide +kernel) (by decide +kernel) (by decide +kernel)) rfl rfl (⟨tkX8_count_124 hZ, trivial⟩) (⟨a_CQ_v hZ.2.1 (kX6_pagesTogether hZ) lkX8_131 (a_CF_v TX6 9 wkX6_pagesTogether lkX8_131 hdX6_pagesTogether ⟨by decide, by decide⟩ rfl) rfl rfl,
    trivial⟩)
noncomputable def pX8_isBook : aPrg := ([(0, .iload_n 1, 0, 0, []),
  (1, .ifCond .lt 18, 0, 19, []),
  (4, .iload_n 1, 0, 0, []),
  (5, .aload_n 0, 0, 0, []),
  (6, .getfield 23, 0, 0, []),
  (9, .getfield 122, 0, 0, []),
  (12, .if_icmp .ge 7, 0, 19, []),
  (15, .iconst 1, 1, 0, []),
  (16, .goto 4, 0, 20, []),
  (19, .iconst 0, 0, 0, []),
  (20, .ireturn, 0, 0, [])],
  fdX8, [], [], [], [], 1)
noncomputable def fX8_isBook : aMF := a_fn none shp pX8_isBook 2 2
set_option maxRecDepth 20000 in
theorem kX8_isBook {l : Launch} {G : aG} (hZ : a_Z l G) : a_Con l G shp yX8_isBook (.code yX8_isBook cX8_isBook 2 (some .boolean)) 1 16 fX8_isBook :=
  a_mth none hZ.1 hZ.2.1 shp_len (fun _ h => nomatch h) hZ.2.2.1 (by decide +kernel) rfl (foX8 rfl) (a_cok_of trivial) (b_code [27,155,0,18,27,42,180,0,23,180,0,122,162,0,7,4,167,0,4,3,172] [] (by decide +kernel) (by decide +kernel) (by decide +kernel) (by decide +kernel)) rfl rfl (trivial) (trivial)
noncomputable def pX8_needBook : aPrg := ([(0, .aload_n 0, 0, 0, []),
  (1, .iload_n 1, 0, 0, []),
  (2, .invokevirtual 194, 0, 0, []),
  (5, .ifCond .ne 14, 0, 19, []),
  (8, .new 146, 0, 0, []),
  (19, .return_, 0, 0, [])],
  fdX8, [(194, fX8_isBook, 2, 8, 0)], [], [], [(8, 0)], 2)
noncomputable def fX8_needBook : aMF := a_fn none shp pX8_needBook 2 2
theorem tkX8_needBook_8 {l : Launch} {G : aG} (hZ : a_Z l G) : a_tok G RX8 cX8_needBook 6 90 8 0 :=
  a_tok_w (own := RX8) (cc := cX8_needBook) (ik := 146) (is := 294) (ic := 150) (ix := 13) (rx := prog_28_method_4_code) (sa := g_ad G 1026) (text := "no such book") rxX0 (by decide) ⟨by decide +kernel, by decide +kernel⟩ ⟨by decide +kernel, by decide +kernel, by decide +kernel⟩ clX0 inX0 (z_26 hZ) atX0 rfl rfl
set_option maxRecDepth 20000 in
theorem wkX8_isBook : ∀ w ∈ [Cond.code yX8_isBook cX8_isBook 2 (some .boolean), .initialized yX8_isBook.cls, .instanceMethod yX8_isBook, .selects yX8_isBook.cls yX8_isBook yX8_isBook], w ∈ lw_g := a_ps [434, 96, 433, 1] rfl rfl
theorem hdX8_isBook : yX8_isBook.cls ≠ "java/lang/invoke/MethodHandle" ∧ yX8_isBook.cls ≠ "java/lang/invoke/VarHandle" ∧ (parseMethodDescriptor yX8_isBook.desc).map (fun d => d.parameters.length) = some 1 := by decide +kernel
set_option maxRecDepth 20000 in
theorem lkX8_194 : Cond.methodLink RX8 194 yX8_isBook ∈ lw_g := a_p1 431 rfl rfl
set_option maxRecDepth 20000 in
theorem kX8_needBook {l : Launch} {G : aG} (hZ : a_Z l G) : a_Con l G shp yX8_needBook (.code yX8_needBook cX8_needBook 2 none) 6 90 fX8_needBook :=
  a_mth none hZ.1 hZ.2.1 shp_len (fun _ h => nomatch h) hZ.2.2.1 (by decide +kernel) rfl (foX8 rfl) (a_cok_of trivial) (b_code [42,27,182,0,194,154,0,14,187,0,146,89,19,1,38,183,0,150,191,177] [] (by decide +kernel) (by decide +kernel) (by decide +kernel) (by decide +kernel)) rfl rfl (⟨tkX8_needBook_8 hZ, trivial⟩) (⟨a_CQ_v hZ.2.1 (kX8_isBook hZ) lkX8_194 (a_CF_v TX8 15 wkX8_isBook lkX8_194 hdX8_isBook ⟨by decide, by decide⟩ rfl) rfl rfl,
    trivial⟩)
noncomputable def pX8_needWhat : aPrg := ([(0, .iload_n 0, 0, 0, []),
  (1, .ifCond .lt 8, 0, 9, []),
  (4, .iload_n 0, 0, 0, []),
  (5, .iload_n 1, 0, 0, []),
  (6, .if_icmp .lt 14, 0, 20, []),
  (9, .new 146, 0, 0, []),
  (20, .return_, 0, 0, [])],
  fdX8, [], [], [], [(9, 0)], 2)
noncomputable def fX8_needWhat : aMF := a_fn none shp pX8_needWhat 2 2
theorem tkX8_needWhat_9 {l : Launch} {G : aG} (hZ : a_Z l G) : a_tok G RX8 cX8_needWhat 6 90 9 0 :=
  a_tok_w (own := RX8) (cc := cX8_needWhat) (ik := 146) (is := 298) (ic := 150) (ix := 13) (rx := prog_28_method_4_code) (sa := g_ad G 1028) (text := "no such what") rxX0 (by decide) ⟨by decide +kernel, by decide +kernel⟩ ⟨by decide +kernel, by decide +kernel, by decide +kernel⟩ clX0 inX0 (z_28 hZ) atX0 rfl rfl
set_option maxRecDepth 20000 in
theorem kX8_needWhat {l : Launch} {G : aG} (hZ : a_Z l G) : a_Con l G shp yX8_needWhat (.code yX8_needWhat cX8_needWhat 2 none) 6 90 fX8_needWhat :=
  a_mth none hZ.1 hZ.2.1 shp_len (fun _ h => nomatch h) hZ.2.2.1 (by decide +kernel) rfl (foX8 rfl) (a_cok_of trivial) (b_code [26,155,0,8,26,27,161,0,14,187,0,146,89,19,1,42,183,0,150,191,177] [] (by decide +kernel) (by decide +kernel) (by decide +kernel) (by decide +kernel)) rfl rfl (⟨tkX8_needWhat_9 hZ, trivial⟩) (trivial)
noncomputable def pX8_placeOf : aPrg := ([(0, .iconst 0, 0, 0, []),
  (1, .istore_n 2, 0, 0, []),
  (2, .iload_n 2, 0, 0, []),
  (3, .iconst 5, 5, 0, []),
  (4, .if_icmp .ge 21, 0, 25, []),
  (7, .aload_n 0, 0, 0, []),
  (8, .iload_n 2, 0, 0, []),
  (9, .iaload, 0, 0, []),
  (10, .iload_n 1, 0, 0, []),
  (11, .invokestatic 212, 0, 0, []),
  (14, .ifCond .eq 5, 0, 19, []),
  (17, .iload_n 2, 0, 0, []),
  (18, .ireturn, 0, 0, []),
  (19, .iinc 2 1, 1, 0, []),
  (22, .goto (-20), 0, 2, []),
  (25, .iconst (-1), (-1), 0, []),
  (26, .ireturn, 0, 0, [])],
  fdX8, [(212, fX8_holds, 2, 2000, 0)], [], [], [], 0)
noncomputable def fX8_placeOf : aMF := a_fn none shp pX8_placeOf 3 2
set_option maxRecDepth 20000 in
theorem lkX8_212 : Cond.methodLink RX8 212 yX8_holds ∈ lw_g := a_p1 465 rfl rfl
set_option maxRecDepth 20000 in
theorem kX8_placeOf {l : Launch} {G : aG} (hZ : a_Z l G) : a_Con l G shp yX8_placeOf (.code yX8_placeOf cX8_placeOf 3 (some .int)) 2 37 fX8_placeOf :=
  a_mth none hZ.1 hZ.2.1 shp_len (fun _ h => nomatch h) hZ.2.2.1 (by decide +kernel) rfl (foX8 rfl) (a_cok_of trivial) (b_code [3,61,28,8,162,0,21,42,28,46,27,184,0,212,153,0,5,28,172,132,2,1,167,255,236,2,172] [] (by decide +kernel) (by decide +kernel) (by decide +kernel) (by decide +kernel)) rfl rfl (trivial) (⟨a_CQ_s hZ.2.1 (kX8_holds hZ) lkX8_212 (a_CF_s wkX8_holds lkX8_212 hdX8_holds) rfl rfl,
    trivial⟩)
noncomputable def pX8_book : aPrg := ([(0, .aload_n 0, 0, 0, []),
  (1, .iload_n 1, 0, 0, []),
  (2, .invokevirtual 151, 0, 0, []),
  (5, .iload_n 2, 0, 0, []),
  (6, .bipush 6, 6, 0, []),
  (8, .invokestatic 154, 0, 0, []),
  (11, .iload_n 2, 0, 0, []),
  (12, .iconst 4, 4, 0, []),
  (13, .if_icmp .ge 17, 0, 30, []),
  (16, .aload_n 0, 0, 0, []),
  (17, .getfield 23, 0, 0, []),
  (20, .getfield 158, 0, 0, []),
  (23, .iconst 4, 4, 0, []),
  (24, .iload_n 1, 0, 0, []),
  (25, .imul, 0, 0, []),
  (26, .iload_n 2, 0, 0, []),
  (27, .iadd, 0, 0, []),
  (28, .iaload, 0, 0, []),
  (29, .ireturn, 0, 0, []),
  (30, .iload_n 2, 0, 0, []),
  (31, .iconst 4, 4, 0, []),
  (32, .if_icmp .ne 15, 0, 47, []),
  (35, .aload_n 0, 0, 0, []),
  (36, .getfield 23, 0, 0, []),
  (39, .getfield 161, 0, 0, []),
  (42, .iload_n 1, 0, 0, []),
  (43, .iaload, 0, 0, []),
  (44, .goto 14, 0, 58, []),
  (47, .aload_n 0, 0, 0, []),
  (48, .getfield 38, 0, 0, []),
  (51, .getfield 128, 0, 0, []),
  (54, .iload_n 1, 0, 0, []),
  (55, .invokestatic 164, 0, 0, []),
  (58, .ireturn, 0, 0, [])],
  fdX8, [(151, fX8_needBook, 2, 8, 1), (154, fX8_needWhat, 2, 2000, 1), (164, fX8_placeOf, 2, 2000, 0)], [], [], [], 0)
noncomputable def fX8_book : aMF := a_fn none shp pX8_book 3 3
set_option maxRecDepth 20000 in
theorem wkX8_needBook : ∀ w ∈ [Cond.code yX8_needBook cX8_needBook 2 none, .initialized yX8_needBook.cls, .instanceMethod yX8_needBook, .selects yX8_needBook.cls yX8_needBook yX8_needBook], w ∈ lw_g := a_ps [933, 96, 932, 38] rfl rfl
theorem hdX8_needBook : yX8_needBook.cls ≠ "java/lang/invoke/MethodHandle" ∧ yX8_needBook.cls ≠ "java/lang/invoke/VarHandle" ∧ (parseMethodDescriptor yX8_needBook.desc).map (fun d => d.parameters.length) = some 1 := by decide +kernel
set_option maxRecDepth 20000 in
theorem lkX8_151 : Cond.methodLink RX8 151 yX8_needBook ∈ lw_g := a_p1 930 rfl rfl
set_option maxRecDepth 20000 in
theorem wkX8_needWhat : ∀ w ∈ [Cond.code yX8_needWhat cX8_needWhat 2 none, .initialized yX8_needWhat.cls, .static yX8_needWhat], w ∈ lw_g := a_ps [937, 96, 936] rfl rfl
theorem hdX8_needWhat : yX8_needWhat.cls ≠ "java/lang/invoke/MethodHandle" ∧ yX8_needWhat.cls ≠ "java/lang/invoke/VarHandle" ∧ (parseMethodDescriptor yX8_needWhat.desc).map (fun d => d.parameters.length) = some 2 := by decide +kernel
set_option maxRecDepth 20000 in
theorem lkX8_154 : Cond.methodLink RX8 154 yX8_needWhat ∈ lw_g := a_p1 935 rfl rfl
set_option maxRecDepth 20000 in
theorem wkX8_placeOf : ∀ w ∈ [Cond.code yX8_placeOf cX8_placeOf 3 (some .int), .initialized yX8_placeOf.cls, .static yX8_placeOf], w ∈ lw_g := a_ps [941, 96, 940] rfl rfl
theorem hdX8_placeOf : yX8_placeOf.cls ≠ "java/lang/invoke/MethodHandle" ∧ yX8_placeOf.cls ≠ "java/lang/invoke/VarHandle" ∧ (parseMethodDescriptor yX8_placeOf.desc).map (fun d => d.parameters.length) = some 2 := by decide +kernel
set_option maxRecDepth 20000 in
theorem lkX8_164 : Cond.methodLink RX8 164 yX8_placeOf ∈ lw_g := a_p1 939 rfl rfl
set_option maxRecDepth 20000 in
theorem kX8_book {l : Launch} {G : aG} (hZ : a_Z l G) : a_Con l G shp yX8_book (.code yX8_book cX8_book 3 (some .int)) 7 111 fX8_book :=
  a_mth none hZ.1 hZ.2.1 shp_len (fun _ h => nomatch h) hZ.2.2.1 (by decide +kernel) rfl (foX8 rfl) (a_cok_of trivial) (b_code [42,27,182,0,151,28,16,6,184,0,154,28,7,162,0,17,42,180,0,23,180,0,158,7,27,104,28,96,46,172,28,7,160,0,15,42,180,0,23,180,0,161,27,46,167,0,14,42,180,0,38,180,0,128,27,184,0,164,172] [] (by decide +kernel) (by decide +kernel) (by decide +kernel) (by decide +kernel)) rfl rfl (trivial) (⟨a_CQ_v hZ.2.1 (kX8_needBook hZ) lkX8_151 (a_CF_v TX8 15 wkX8_needBook lkX8_151 hdX8_needBook ⟨by decide, by decide⟩ rfl) rfl rfl,
    ⟨a_CQ_s hZ.2.1 (kX8_needWhat hZ) lkX8_154 (a_CF_s wkX8_needWhat lkX8_154 hdX8_needWhat) rfl rfl,
    ⟨a_CQ_s hZ.2.1 (kX8_placeOf hZ) lkX8_164 (a_CF_s wkX8_placeOf lkX8_164 hdX8_placeOf) rfl rfl,
    trivial⟩⟩⟩)
noncomputable def pX8_isReader : aPrg := ([(0, .iload_n 1, 0, 0, []),
  (1, .ifCond .lt 18, 0, 19, []),
  (4, .iload_n 1, 0, 0, []),
  (5, .aload_n 0, 0, 0, []),
  (6, .getfield 23, 0, 0, []),
  (9, .getfield 125, 0, 0, []),
  (12, .if_icmp .ge 7, 0, 19, []),
  (15, .iconst 1, 1, 0, []),
  (16, .goto 4, 0, 20, []),
  (19, .iconst 0, 0, 0, []),
  (20, .ireturn, 0, 0, [])],
  fdX8, [], [], [], [], 1)
noncomputable def fX8_isReader : aMF := a_fn none shp pX8_isReader 2 2
set_option maxRecDepth 20000 in
theorem kX8_isReader {l : Launch} {G : aG} (hZ : a_Z l G) : a_Con l G shp yX8_isReader (.code yX8_isReader cX8_isReader 2 (some .boolean)) 1 16 fX8_isReader :=
  a_mth none hZ.1 hZ.2.1 shp_len (fun _ h => nomatch h) hZ.2.2.1 (by decide +kernel) rfl (foX8 rfl) (a_cok_of trivial) (b_code [27,155,0,18,27,42,180,0,23,180,0,125,162,0,7,4,167,0,4,3,172] [] (by decide +kernel) (by decide +kernel) (by decide +kernel) (by decide +kernel)) rfl rfl (trivial) (trivial)
noncomputable def pX8_needReader : aPrg := ([(0, .aload_n 0, 0, 0, []),
  (1, .iload_n 1, 0, 0, []),
  (2, .invokevirtual 190, 0, 0, []),
  (5, .ifCond .ne 14, 0, 19, []),
  (8, .new 146, 0, 0, []),
  (19, .return_, 0, 0, [])],
  fdX8, [(190, fX8_isReader, 2, 8, 0)], [], [], [(8, 0)], 2)
noncomputable def fX8_needReader : aMF := a_fn none shp pX8_needReader 2 2
theorem tkX8_needReader_8 {l : Launch} {G : aG} (hZ : a_Z l G) : a_tok G RX8 cX8_needReader 6 90 8 0 :=
  a_tok_w (own := RX8) (cc := cX8_needReader) (ik := 146) (is := 296) (ic := 150) (ix := 13) (rx := prog_28_method_4_code) (sa := g_ad G 1027) (text := "no such reader") rxX0 (by decide) ⟨by decide +kernel, by decide +kernel⟩ ⟨by decide +kernel, by decide +kernel, by decide +kernel⟩ clX0 inX0 (z_27 hZ) atX0 rfl rfl
set_option maxRecDepth 20000 in
theorem wkX8_isReader : ∀ w ∈ [Cond.code yX8_isReader cX8_isReader 2 (some .boolean), .initialized yX8_isReader.cls, .instanceMethod yX8_isReader, .selects yX8_isReader.cls yX8_isReader yX8_isReader], w ∈ lw_g := a_ps [430, 96, 429, 0] rfl rfl
theorem hdX8_isReader : yX8_isReader.cls ≠ "java/lang/invoke/MethodHandle" ∧ yX8_isReader.cls ≠ "java/lang/invoke/VarHandle" ∧ (parseMethodDescriptor yX8_isReader.desc).map (fun d => d.parameters.length) = some 1 := by decide +kernel
set_option maxRecDepth 20000 in
theorem lkX8_190 : Cond.methodLink RX8 190 yX8_isReader ∈ lw_g := a_p1 427 rfl rfl
set_option maxRecDepth 20000 in
theorem kX8_needReader {l : Launch} {G : aG} (hZ : a_Z l G) : a_Con l G shp yX8_needReader (.code yX8_needReader cX8_needReader 2 none) 6 90 fX8_needReader :=
  a_mth none hZ.1 hZ.2.1 shp_len (fun _ h => nomatch h) hZ.2.2.1 (by decide +kernel) rfl (foX8 rfl) (a_cok_of trivial) (b_code [42,27,182,0,190,154,0,14,187,0,146,89,19,1,40,183,0,150,191,177] [] (by decide +kernel) (by decide +kernel) (by decide +kernel) (by decide +kernel)) rfl rfl (⟨tkX8_needReader_8 hZ, trivial⟩) (⟨a_CQ_v hZ.2.1 (kX8_isReader hZ) lkX8_190 (a_CF_v TX8 15 wkX8_isReader lkX8_190 hdX8_isReader ⟨by decide, by decide⟩ rfl) rfl rfl,
    trivial⟩)
noncomputable def pX8_reader : aPrg := ([(0, .aload_n 0, 0, 0, []),
  (1, .iload_n 1, 0, 0, []),
  (2, .invokevirtual 168, 0, 0, []),
  (5, .iload_n 2, 0, 0, []),
  (6, .iconst 3, 3, 0, []),
  (7, .invokestatic 154, 0, 0, []),
  (10, .iload_n 2, 0, 0, []),
  (11, .ifCond .ne 13, 0, 24, []),
  (14, .aload_n 0, 0, 0, []),
  (15, .getfield 23, 0, 0, []),
  (18, .getfield 171, 0, 0, []),
  (21, .iload_n 1, 0, 0, []),
  (22, .iaload, 0, 0, []),
  (23, .ireturn, 0, 0, []),
  (24, .iload_n 2, 0, 0, []),
  (25, .iconst 1, 1, 0, []),
  (26, .if_icmp .ne 13, 0, 39, []),
  (29, .aload_n 0, 0, 0, []),
  (30, .getfield 38, 0, 0, []),
  (33, .getfield 128, 0, 0, []),
  (36, .iload_n 1, 0, 0, []),
  (37, .iaload, 0, 0, []),
  (38, .ireturn, 0, 0, []),
  (39, .aload_n 0, 0, 0, []),
  (40, .getfield 23, 0, 0, []),
  (43, .aload_n 0, 0, 0, []),
  (44, .getfield 38, 0, 0, []),
  (47, .getfield 128, 0, 0, []),
  (50, .iload_n 1, 0, 0, []),
  (51, .invokevirtual 174, 0, 0, []),
  (54, .ifCond .eq 7, 0, 61, []),
  (57, .iconst 1, 1, 0, []),
  (58, .goto 4, 0, 62, []),
  (61, .iconst 0, 0, 0, []),
  (62, .ireturn, 0, 0, [])],
  fdX8, [(168, fX8_needReader, 2, 8, 1), (154, fX8_needWhat, 2, 2000, 1), (174, fX6_isServed, 3, 6, 0)], [], [], [], 0)
noncomputable def fX8_reader : aMF := a_fn none shp pX8_reader 3 3
set_option maxRecDepth 20000 in
theorem wkX8_needReader : ∀ w ∈ [Cond.code yX8_needReader cX8_needReader 2 none, .initialized yX8_needReader.cls, .instanceMethod yX8_needReader, .selects yX8_needReader.cls yX8_needReader yX8_needReader], w ∈ lw_g := a_ps [952, 96, 951, 39] rfl rfl
theorem hdX8_needReader : yX8_needReader.cls ≠ "java/lang/invoke/MethodHandle" ∧ yX8_needReader.cls ≠ "java/lang/invoke/VarHandle" ∧ (parseMethodDescriptor yX8_needReader.desc).map (fun d => d.parameters.length) = some 1 := by decide +kernel
set_option maxRecDepth 20000 in
theorem lkX8_168 : Cond.methodLink RX8 168 yX8_needReader ∈ lw_g := a_p1 949 rfl rfl
set_option maxRecDepth 20000 in
theorem lkX8_174 : Cond.methodLink RX8 174 yX6_isServed ∈ lw_g := a_p1 954 rfl rfl
set_option maxRecDepth 20000 in
theorem kX8_reader {l : Launch} {G : aG} (hZ : a_Z l G) : a_Con l G shp yX8_reader (.code yX8_reader cX8_reader 3 (some .int)) 7 111 fX8_reader :=
  a_mth none hZ.1 hZ.2.1 shp_len (fun _ h => nomatch h) hZ.2.2.1 (by decide +kernel) rfl (foX8 rfl) (a_cok_of trivial) (b_code [42,27,182,0,168,28,6,184,0,154,28,154,0,13,42,180,0,23,180,0,171,27,46,172,28,4,160,0,13,42,180,0,38,180,0,128,27,46,172,42,180,0,23,42,180,0,38,180,0,128,27,182,0,174,153,0,7,4,167,0,4,3,172] [] (by decide +kernel) (by decide +kernel) (by decide +kernel) (by decide +kernel)) rfl rfl (trivial) (⟨a_CQ_v hZ.2.1 (kX8_needReader hZ) lkX8_168 (a_CF_v TX8 15 wkX8_needReader lkX8_168 hdX8_needReader ⟨by decide, by decide⟩ rfl) rfl rfl,
    ⟨a_CQ_s hZ.2.1 (kX8_needWhat hZ) lkX8_154 (a_CF_s wkX8_needWhat lkX8_154 hdX8_needWhat) rfl rfl,
    ⟨a_CQ_v hZ.2.1 (kX6_isServed hZ) lkX8_174 (a_CF_v TX6 9 wkX6_isServed lkX8_174 hdX6_isServed ⟨by decide, by decide⟩ rfl) rfl rfl,
    trivial⟩⟩⟩)
noncomputable def pX8_judge : aPrg := ([(0, .aload_n 0, 0, 0, []),
  (1, .iload_n 1, 0, 0, []),
  (2, .invokevirtual 190, 0, 0, []),
  (5, .ifCond .eq 19, 0, 24, []),
  (8, .aload_n 0, 0, 0, []),
  (9, .iload_n 2, 0, 0, []),
  (10, .invokevirtual 194, 0, 0, []),
  (13, .ifCond .eq 11, 0, 24, []),
  (16, .aload_n 0, 0, 0, []),
  (17, .iload_n 3, 0, 0, []),
  (18, .invokevirtual 194, 0, 0, []),
  (21, .ifCond .ne 5, 0, 26, []),
  (24, .iconst 1, 1, 0, []),
  (25, .ireturn, 0, 0, []),
  (26, .aload_n 0, 0, 0, []),
  (27, .getfield 23, 0, 0, []),
  (30, .aload_n 0, 0, 0, []),
  (31, .getfield 38, 0, 0, []),
  (34, .getfield 128, 0, 0, []),
  (37, .iload_n 1, 0, 0, []),
  (38, .iload_n 2, 0, 0, []),
  (39, .iload_n 3, 0, 0, []),
  (40, .invokevirtual 197, 0, 0, []),
  (43, .ireturn, 0, 0, [])],
  fdX8, [(190, fX8_isReader, 2, 8, 0), (194, fX8_isBook, 2, 8, 0), (197, fX6_troubleOf, 5, 6, 0)], [], [], [], 0)
noncomputable def fX8_judge : aMF := a_fn none shp pX8_judge 4 4
set_option maxRecDepth 20000 in
theorem lkX8_197 : Cond.methodLink RX8 197 yX6_troubleOf ∈ lw_g := a_p1 435 rfl rfl
set_option maxRecDepth 20000 in
theorem kX8_judge {l : Launch} {G : aG} (hZ : a_Z l G) : a_Con l G shp yX8_judge (.code yX8_judge cX8_judge 4 (some .int)) 3 61 fX8_judge :=
  a_mth none hZ.1 hZ.2.1 shp_len (fun _ h => nomatch h) hZ.2.2.1 (by decide +kernel) rfl (foX8 rfl) (a_cok_of trivial) (b_code [42,27,182,0,190,153,0,19,42,28,182,0,194,153,0,11,42,29,182,0,194,154,0,5,4,172,42,180,0,23,42,180,0,38,180,0,128,27,28,29,182,0,197,172] [] (by decide +kernel) (by decide +kernel) (by decide +kernel) (by decide +kernel)) rfl rfl (trivial) (⟨a_CQ_v hZ.2.1 (kX8_isReader hZ) lkX8_190 (a_CF_v TX8 15 wkX8_isReader lkX8_190 hdX8_isReader ⟨by decide, by decide⟩ rfl) rfl rfl,
    ⟨a_CQ_v hZ.2.1 (kX8_isBook hZ) lkX8_194 (a_CF_v TX8 15 wkX8_isBook lkX8_194 hdX8_isBook ⟨by decide, by decide⟩ rfl) rfl rfl,
    ⟨a_CQ_v hZ.2.1 (kX6_troubleOf hZ) lkX8_197 (a_CF_v TX6 9 wkX6_troubleOf lkX8_197 hdX6_troubleOf ⟨by decide, by decide⟩ rfl) rfl rfl,
    trivial⟩⟩⟩)
noncomputable def pX8_settle : aPrg := ([(0, .iload_n 1, 0, 0, []),
  (1, .istore 6, 0, 0, []),
  (3, .iload 6, 0, 0, []),
  (5, .ifCond .ne 19, 0, 24, []),
  (8, .aload_n 0, 0, 0, []),
  (9, .getfield 38, 0, 0, []),
  (12, .getfield 134, 0, 0, []),
  (15, .sipush 200, 200, 0, []),
  (18, .if_icmp .lt 6, 0, 24, []),
  (21, .iconst 5, 5, 0, []),
  (22, .istore 6, 0, 0, []),
  (24, .iload 6, 0, 0, []),
  (26, .ifCond .ne 19, 0, 45, []),
  (29, .aload_n 0, 0, 0, []),
  (30, .getfield 38, 0, 0, []),
  (33, .iload_n 2, 0, 0, []),
  (34, .iload_n 3, 0, 0, []),
  (35, .iload 4, 0, 0, []),
  (37, .iload 5, 0, 0, []),
  (39, .invokevirtual 300, 0, 0, []),
  (42, .goto 13, 0, 55, []),
  (45, .aload_n 0, 0, 0, []),
  (46, .dup, 0, 0, []),
  (47, .getfield 140, 0, 0, []),
  (50, .iconst 1, 1, 0, []),
  (51, .iadd, 0, 0, []),
  (52, .putfield 140, 0, 0, []),
  (55, .iload 6, 0, 0, []),
  (57, .ireturn, 0, 0, [])],
  fdX8, [(300, fX4_writeMove, 5, 4, 1)], [], [], [], 0)
noncomputable def fX8_settle : aMF := a_fn none shp pX8_settle 7 6
set_option maxRecDepth 20000 in
theorem wkX4_writeMove : ∀ w ∈ [Cond.code yX4_writeMove cX4_writeMove 6 none, .initialized yX4_writeMove.cls, .instanceMethod yX4_writeMove, .selects yX4_writeMove.cls yX4_writeMove yX4_writeMove], w ∈ lw_g := a_ps [449, 101, 447, 448] rfl rfl
theorem hdX4_writeMove : yX4_writeMove.cls ≠ "java/lang/invoke/MethodHandle" ∧ yX4_writeMove.cls ≠ "java/lang/invoke/VarHandle" ∧ (parseMethodDescriptor yX4_writeMove.desc).map (fun d => d.parameters.length) = some 4 := by decide +kernel
set_option maxRecDepth 20000 in
theorem lkX8_300 : Cond.methodLink RX8 300 yX4_writeMove ∈ lw_g := a_p1 446 rfl rfl
set_option maxRecDepth 20000 in
theorem kX8_settle {l : Launch} {G : aG} (hZ : a_Z l G) : a_Con l G shp yX8_settle (.code yX8_settle cX8_settle 7 (some .int)) 4 88 fX8_settle :=
  a_mth none hZ.1 hZ.2.1 shp_len (fun _ h => nomatch h) hZ.2.2.1 (by decide +kernel) rfl (foX8 rfl) (a_cok_of trivial) (b_code [27,54,6,21,6,154,0,19,42,180,0,38,180,0,134,17,0,200,161,0,6,8,54,6,21,6,154,0,19,42,180,0,38,28,29,21,4,21,5,182,1,44,167,0,13,42,89,180,0,140,4,96,181,0,140,21,6,172] [] (by decide +kernel) (by decide +kernel) (by decide +kernel) (by decide +kernel)) rfl rfl (trivial) (⟨a_CQ_v hZ.2.1 (kX4_writeMove hZ) lkX8_300 (a_CF_v TX4 5 wkX4_writeMove lkX8_300 hdX4_writeMove ⟨by decide, by decide⟩ rfl) rfl rfl,
    trivial⟩)
noncomputable def pX8_exchange : aPrg := ([(0, .aload_n 0, 0, 0, []),
  (1, .aload_n 0, 0, 0, []),
  (2, .iload_n 1, 0, 0, []),
  (3, .iload_n 2, 0, 0, []),
  (4, .iload_n 3, 0, 0, []),
  (5, .invokevirtual 178, 0, 0, []),
  (8, .iload_n 1, 0, 0, []),
  (9, .iload_n 2, 0, 0, []),
  (10, .iload_n 3, 0, 0, []),
  (11, .iconst (-1), (-1), 0, []),
  (12, .invokevirtual 182, 0, 0, []),
  (15, .ireturn, 0, 0, [])],
  fdX8, [(178, fX8_judge, 4, 8, 0), (182, fX8_settle, 6, 8, 0)], [], [], [], 0)
noncomputable def fX8_exchange : aMF := a_fn none shp pX8_exchange 4 4
set_option maxRecDepth 20000 in
theorem wkX8_judge : ∀ w ∈ [Cond.code yX8_judge cX8_judge 4 (some .int), .initialized yX8_judge.cls, .instanceMethod yX8_judge, .selects yX8_judge.cls yX8_judge yX8_judge], w ∈ lw_g := a_ps [426, 96, 424, 425] rfl rfl
theorem hdX8_judge : yX8_judge.cls ≠ "java/lang/invoke/MethodHandle" ∧ yX8_judge.cls ≠ "java/lang/invoke/VarHandle" ∧ (parseMethodDescriptor yX8_judge.desc).map (fun d => d.parameters.length) = some 3 := by decide +kernel
set_option maxRecDepth 20000 in
theorem lkX8_178 : Cond.methodLink RX8 178 yX8_judge ∈ lw_g := a_p1 423 rfl rfl
set_option maxRecDepth 20000 in
theorem wkX8_settle : ∀ w ∈ [Cond.code yX8_settle cX8_settle 7 (some .int), .initialized yX8_settle.cls, .instanceMethod yX8_settle, .selects yX8_settle.cls yX8_settle yX8_settle], w ∈ lw_g := a_ps [445, 96, 444, 2] rfl rfl
theorem hdX8_settle : yX8_settle.cls ≠ "java/lang/invoke/MethodHandle" ∧ yX8_settle.cls ≠ "java/lang/invoke/VarHandle" ∧ (parseMethodDescriptor yX8_settle.desc).map (fun d => d.parameters.length) = some 5 := by decide +kernel
set_option maxRecDepth 20000 in
theorem lkX8_182 : Cond.methodLink RX8 182 yX8_settle ∈ lw_g := a_p1 442 rfl rfl
set_option maxRecDepth 20000 in
theorem kX8_exchange {l : Launch} {G : aG} (hZ : a_Z l G) : a_Con l G shp yX8_exchange (.code yX8_exchange cX8_exchange 4 (some .int)) 5 114 fX8_exchange :=
  a_mth none hZ.1 hZ.2.1 shp_len (fun _ h => nomatch h) hZ.2.2.1 (by decide +kernel) rfl (foX8 rfl) (a_cok_of trivial) (b_code [42,42,27,28,29,182,0,178,27,28,29,2,182,0,182,172] [] (by decide +kernel) (by decide +kernel) (by decide +kernel) (by decide +kernel)) rfl rfl (trivial) (⟨a_CQ_v hZ.2.1 (kX8_judge hZ) lkX8_178 (a_CF_v TX8 15 wkX8_judge lkX8_178 hdX8_judge ⟨by decide, by decide⟩ rfl) rfl rfl,
    ⟨a_CQ_v hZ.2.1 (kX8_settle hZ) lkX8_182 (a_CF_v TX8 15 wkX8_settle lkX8_182 hdX8_settle ⟨by decide, by decide⟩ rfl) rfl rfl,
    trivial⟩⟩)
noncomputable def pX8_troubleOfSwap : aPrg := ([(0, .aload_n 0, 0, 0, []),
  (1, .iload_n 1, 0, 0, []),
  (2, .invokevirtual 190, 0, 0, []),
  (5, .ifCond .eq 33, 0, 38, []),
  (8, .aload_n 0, 0, 0, []),
  (9, .iload_n 3, 0, 0, []),
  (10, .invokevirtual 190, 0, 0, []),
  (13, .ifCond .eq 25, 0, 38, []),
  (16, .aload_n 0, 0, 0, []),
  (17, .iload_n 2, 0, 0, []),
  (18, .invokevirtual 194, 0, 0, []),
  (21, .ifCond .eq 17, 0, 38, []),
  (24, .aload_n 0, 0, 0, []),
  (25, .iload 4, 0, 0, []),
  (27, .invokevirtual 194, 0, 0, []),
  (30, .ifCond .eq 8, 0, 38, []),
  (33, .iload_n 1, 0, 0, []),
  (34, .iload_n 3, 0, 0, []),
  (35, .if_icmp .ne 5, 0, 40, []),
  (38, .iconst 1, 1, 0, []),
  (39, .ireturn, 0, 0, []),
  (40, .aload_n 0, 0, 0, []),
  (41, .getfield 38, 0, 0, []),
  (44, .getfield 128, 0, 0, []),
  (47, .iload_n 1, 0, 0, []),
  (48, .iaload, 0, 0, []),
  (49, .iload_n 2, 0, 0, []),
  (50, .invokestatic 212, 0, 0, []),
  (53, .ifCond .ne 5, 0, 58, []),
  (56, .iconst 2, 2, 0, []),
  (57, .ireturn, 0, 0, []),
  (58, .aload_n 0, 0, 0, []),
  (59, .getfield 38, 0, 0, []),
  (62, .getfield 128, 0, 0, []),
  (65, .iload_n 3, 0, 0, []),
  (66, .iaload, 0, 0, []),
  (67, .iload 4, 0, 0, []),
  (69, .invokestatic 212, 0, 0, []),
  (72, .ifCond .eq 7, 0, 79, []),
  (75, .iconst 0, 0, 0, []),
  (76, .goto 4, 0, 80, []),
  (79, .iconst 3, 3, 0, []),
  (80, .ireturn, 0, 0, [])],
  fdX8, [(190, fX8_isReader, 2, 8, 0), (194, fX8_isBook, 2, 8, 0), (212, fX8_holds, 2, 2000, 0)], [], [], [], 0)
noncomputable def fX8_troubleOfSwap : aMF := a_fn none shp pX8_troubleOfSwap 5 5
set_option maxRecDepth 20000 in
theorem kX8_troubleOfSwap {l : Launch} {G : aG} (hZ : a_Z l G) : a_Con l G shp yX8_troubleOfSwap (.code yX8_troubleOfSwap cX8_troubleOfSwap 5 (some .int)) 2 37 fX8_troubleOfSwap :=
  a_mth none hZ.1 hZ.2.1 shp_len (fun _ h => nomatch h) hZ.2.2.1 (by decide +kernel) rfl (foX8 rfl) (a_cok_of trivial) (b_code [42,27,182,0,190,153,0,33,42,29,182,0,190,153,0,25,42,28,182,0,194,153,0,17,42,21,4,182,0,194,153,0,8,27,29,160,0,5,4,172,42,180,0,38,180,0,128,27,46,28,184,0,212,154,0,5,5,172,42,180,0,38,180,0,128,29,46,21,4,184,0,212,153,0,7,3,167,0,4,6,172] [] (by decide +kernel) (by decide +kernel) (by decide +kernel) (by decide +kernel)) rfl rfl (trivial) (⟨a_CQ_v hZ.2.1 (kX8_isReader hZ) lkX8_190 (a_CF_v TX8 15 wkX8_isReader lkX8_190 hdX8_isReader ⟨by decide, by decide⟩ rfl) rfl rfl,
    ⟨a_CQ_v hZ.2.1 (kX8_isBook hZ) lkX8_194 (a_CF_v TX8 15 wkX8_isBook lkX8_194 hdX8_isBook ⟨by decide, by decide⟩ rfl) rfl rfl,
    ⟨a_CQ_s hZ.2.1 (kX8_holds hZ) lkX8_212 (a_CF_s wkX8_holds lkX8_212 hdX8_holds) rfl rfl,
    trivial⟩⟩⟩)
noncomputable def pX8_swap : aPrg := ([(0, .aload_n 0, 0, 0, []),
  (1, .aload_n 0, 0, 0, []),
  (2, .iload_n 1, 0, 0, []),
  (3, .iload_n 2, 0, 0, []),
  (4, .iload_n 3, 0, 0, []),
  (5, .iload 4, 0, 0, []),
  (7, .invokevirtual 186, 0, 0, []),
  (10, .iload_n 1, 0, 0, []),
  (11, .iload_n 2, 0, 0, []),
  (12, .iload 4, 0, 0, []),
  (14, .iload_n 3, 0, 0, []),
  (15, .invokevirtual 182, 0, 0, []),
  (18, .ireturn, 0, 0, [])],
  fdX8, [(186, fX8_troubleOfSwap, 5, 8, 0), (182, fX8_settle, 6, 8, 0)], [], [], [], 0)
noncomputable def fX8_swap : aMF := a_fn none shp pX8_swap 5 5
set_option maxRecDepth 20000 in
theorem wkX8_troubleOfSwap : ∀ w ∈ [Cond.code yX8_troubleOfSwap cX8_troubleOfSwap 5 (some .int), .initialized yX8_troubleOfSwap.cls, .instanceMethod yX8_troubleOfSwap, .selects yX8_troubleOfSwap.cls yX8_troubleOfSwap yX8_troubleOfSwap], w ∈ lw_g := a_ps [464, 96, 463, 4] rfl rfl
theorem hdX8_troubleOfSwap : yX8_troubleOfSwap.cls ≠ "java/lang/invoke/MethodHandle" ∧ yX8_troubleOfSwap.cls ≠ "java/lang/invoke/VarHandle" ∧ (parseMethodDescriptor yX8_troubleOfSwap.desc).map (fun d => d.parameters.length) = some 4 := by decide +kernel
set_option maxRecDepth 20000 in
theorem lkX8_186 : Cond.methodLink RX8 186 yX8_troubleOfSwap ∈ lw_g := a_p1 461 rfl rfl
set_option maxRecDepth 20000 in
theorem kX8_swap {l : Launch} {G : aG} (hZ : a_Z l G) : a_Con l G shp yX8_swap (.code yX8_swap cX8_swap 5 (some .int)) 5 114 fX8_swap :=
  a_mth none hZ.1 hZ.2.1 shp_len (fun _ h => nomatch h) hZ.2.2.1 (by decide +kernel) rfl (foX8 rfl) (a_cok_of trivial) (b_code [42,42,27,28,29,21,4,182,0,186,27,28,21,4,29,182,0,182,172] [] (by decide +kernel) (by decide +kernel) (by decide +kernel) (by decide +kernel)) rfl rfl (trivial) (⟨a_CQ_v hZ.2.1 (kX8_troubleOfSwap hZ) lkX8_186 (a_CF_v TX8 15 wkX8_troubleOfSwap lkX8_186 hdX8_troubleOfSwap ⟨by decide, by decide⟩ rfl) rfl rfl,
    ⟨a_CQ_v hZ.2.1 (kX8_settle hZ) lkX8_182 (a_CF_v TX8 15 wkX8_settle lkX8_182 hdX8_settle ⟨by decide, by decide⟩ rfl) rfl rfl,
    trivial⟩⟩)
noncomputable def pX8_undo : aPrg := ([(0, .aload_n 0, 0, 0, []),
  (1, .getfield 38, 0, 0, []),
  (4, .getfield 134, 0, 0, []),
  (7, .ifCond .ne 5, 0, 12, []),
  (10, .iconst (-1), (-1), 0, []),
  (11, .ireturn, 0, 0, []),
  (12, .aload_n 0, 0, 0, []),
  (13, .getfield 38, 0, 0, []),
  (16, .invokevirtual 201, 0, 0, []),
  (19, .aload_n 0, 0, 0, []),
  (20, .getfield 38, 0, 0, []),
  (23, .getfield 134, 0, 0, []),
  (26, .ireturn, 0, 0, [])],
  fdX8, [(201, fX4_takeBackMove, 1, 4, 1)], [], [], [], 0)
noncomputable def fX8_undo : aMF := a_fn none shp pX8_undo 1 1
set_option maxRecDepth 20000 in
theorem wkX4_takeBackMove : ∀ w ∈ [Cond.code yX4_takeBackMove cX4_takeBackMove 1 none, .initialized yX4_takeBackMove.cls, .instanceMethod yX4_takeBackMove, .selects yX4_takeBackMove.cls yX4_takeBackMove yX4_takeBackMove], w ∈ lw_g := a_ps [474, 101, 472, 473] rfl rfl
theorem hdX4_takeBackMove : yX4_takeBackMove.cls ≠ "java/lang/invoke/MethodHandle" ∧ yX4_takeBackMove.cls ≠ "java/lang/invoke/VarHandle" ∧ (parseMethodDescriptor yX4_takeBackMove.desc).map (fun d => d.parameters.length) = some 0 := by decide +kernel
set_option maxRecDepth 20000 in
theorem lkX8_201 : Cond.methodLink RX8 201 yX4_takeBackMove ∈ lw_g := a_p1 471 rfl rfl
set_option maxRecDepth 20000 in
theorem kX8_undo {l : Launch} {G : aG} (hZ : a_Z l G) : a_Con l G shp yX8_undo (.code yX8_undo cX8_undo 1 (some .int)) 4 83 fX8_undo :=
  a_mth none hZ.1 hZ.2.1 shp_len (fun _ h => nomatch h) hZ.2.2.1 (by decide +kernel) rfl (foX8 rfl) (a_cok_of trivial) (b_code [42,180,0,38,180,0,134,154,0,5,2,172,42,180,0,38,182,0,201,42,180,0,38,180,0,134,172] [] (by decide +kernel) (by decide +kernel) (by decide +kernel) (by decide +kernel)) rfl rfl (trivial) (⟨a_CQ_v hZ.2.1 (kX4_takeBackMove hZ) lkX8_201 (a_CF_v TX4 5 wkX4_takeBackMove lkX8_201 hdX4_takeBackMove ⟨by decide, by decide⟩ rfl) rfl rfl,
    trivial⟩)
noncomputable def pX8_move : aPrg := ([(0, .iload_n 2, 0, 0, []),
  (1, .iconst 4, 4, 0, []),
  (2, .invokestatic 154, 0, 0, []),
  (5, .iload_n 1, 0, 0, []),
  (6, .ifCond .lt 14, 0, 20, []),
  (9, .iload_n 1, 0, 0, []),
  (10, .aload_n 0, 0, 0, []),
  (11, .getfield 38, 0, 0, []),
  (14, .getfield 134, 0, 0, []),
  (17, .if_icmp .lt 13, 0, 30, []),
  (20, .new 146, 0, 0, []),
  (30, .aload_n 0, 0, 0, []),
  (31, .getfield 38, 0, 0, []),
  (34, .getfield 206, 0, 0, []),
  (37, .iconst 4, 4, 0, []),
  (38, .iload_n 1, 0, 0, []),
  (39, .imul, 0, 0, []),
  (40, .iload_n 2, 0, 0, []),
  (41, .iadd, 0, 0, []),
  (42, .iaload, 0, 0, []),
  (43, .ireturn, 0, 0, [])],
  fdX8, [(154, fX8_needWhat, 2, 2000, 1)], [], [], [(20, 0)], 0)
noncomputable def fX8_move : aMF := a_fn none shp pX8_move 3 3
theorem tkX8_move_20 {l : Launch} {G : aG} (hZ : a_Z l G) : a_tok G RX8 cX8_move 7 111 20 0 :=
  a_tok_s (own := RX8) (cc := cX8_move) (ik := 146) (is := 204) (ic := 150) (ix := 13) (rx := prog_28_method_4_code) (sa := g_ad G 1018) (text := "no such move") rxX0 (by decide) ⟨by decide +kernel, by decide +kernel⟩ ⟨by decide +kernel, by decide +kernel, by decide +kernel⟩ clX0 inX0 (z_18 hZ) atX0 rfl rfl
set_option maxRecDepth 20000 in
theorem kX8_move {l : Launch} {G : aG} (hZ : a_Z l G) : a_Con l G shp yX8_move (.code yX8_move cX8_move 3 (some .int)) 7 111 fX8_move :=
  a_mth none hZ.1 hZ.2.1 shp_len (fun _ h => nomatch h) hZ.2.2.1 (by decide +kernel) rfl (foX8 rfl) (a_cok_of trivial) (b_code [28,7,184,0,154,27,155,0,14,27,42,180,0,38,180,0,134,161,0,13,187,0,146,89,18,204,183,0,150,191,42,180,0,38,180,0,206,7,27,104,28,96,46,172] [] (by decide +kernel) (by decide +kernel) (by decide +kernel) (by decide +kernel)) rfl rfl (⟨tkX8_move_20 hZ, trivial⟩) (⟨a_CQ_s hZ.2.1 (kX8_needWhat hZ) lkX8_154 (a_CF_s wkX8_needWhat lkX8_154 hdX8_needWhat) rfl rfl,
    trivial⟩)
noncomputable def pX8_reachNow : aPrg := ([(0, .aload_n 0, 0, 0, []),
  (1, .getfield 38, 0, 0, []),
  (4, .getfield 128, 0, 0, []),
  (7, .iload_n 1, 0, 0, []),
  (8, .iaload, 0, 0, []),
  (9, .istore_n 2, 0, 0, []),
  (10, .iload_n 2, 0, 0, []),
  (11, .aload_n 0, 0, 0, []),
  (12, .getfield 23, 0, 0, []),
  (15, .iload_n 2, 0, 0, []),
  (16, .invokevirtual 261, 0, 0, []),
  (19, .aload_n 0, 0, 0, []),
  (20, .getfield 38, 0, 0, []),
  (23, .getfield 128, 0, 0, []),
  (26, .iconst 5, 5, 0, []),
  (27, .iaload, 0, 0, []),
  (28, .iand, 0, 0, []),
  (29, .ior, 0, 0, []),
  (30, .ireturn, 0, 0, [])],
  fdX8, [(261, fX6_takeableFor, 2, 6, 0)], [], [], [], 0)
noncomputable def fX8_reachNow : aMF := a_fn none shp pX8_reachNow 3 2
set_option maxRecDepth 20000 in
theorem wkX6_takeableFor : ∀ w ∈ [Cond.code yX6_takeableFor cX6_takeableFor 4 (some .int), .initialized yX6_takeableFor.cls, .instanceMethod yX6_takeableFor, .selects yX6_takeableFor.cls yX6_takeableFor yX6_takeableFor], w ∈ lw_g := a_ps [977, 98, 975, 976] rfl rfl
theorem hdX6_takeableFor : yX6_takeableFor.cls ≠ "java/lang/invoke/MethodHandle" ∧ yX6_takeableFor.cls ≠ "java/lang/invoke/VarHandle" ∧ (parseMethodDescriptor yX6_takeableFor.desc).map (fun d => d.parameters.length) = some 1 := by decide +kernel
set_option maxRecDepth 20000 in
theorem lkX8_261 : Cond.methodLink RX8 261 yX6_takeableFor ∈ lw_g := a_p1 974 rfl rfl
set_option maxRecDepth 20000 in
theorem kX8_reachNow {l : Launch} {G : aG} (hZ : a_Z l G) : a_Con l G shp yX8_reachNow (.code yX8_reachNow cX8_reachNow 3 (some .int)) 3 60 fX8_reachNow :=
  a_mth none hZ.1 hZ.2.1 shp_len (fun _ h => nomatch h) hZ.2.2.1 (by decide +kernel) rfl (foX8 rfl) (a_cok_of trivial) (b_code [42,180,0,38,180,0,128,27,46,61,28,42,180,0,23,28,182,1,5,42,180,0,38,180,0,128,8,46,126,128,172] [] (by decide +kernel) (by decide +kernel) (by decide +kernel) (by decide +kernel)) rfl rfl (trivial) (⟨a_CQ_v hZ.2.1 (kX6_takeableFor hZ) lkX8_261 (a_CF_v TX6 9 wkX6_takeableFor lkX8_261 hdX6_takeableFor ⟨by decide, by decide⟩ rfl) rfl rfl,
    trivial⟩)
noncomputable def pX8_reach : aPrg := ([(0, .aload_n 0, 0, 0, []),
  (1, .iload_n 1, 0, 0, []),
  (2, .invokevirtual 168, 0, 0, []),
  (5, .aload_n 0, 0, 0, []),
  (6, .iload_n 1, 0, 0, []),
  (7, .invokevirtual 209, 0, 0, []),
  (10, .ireturn, 0, 0, [])],
  fdX8, [(168, fX8_needReader, 2, 8, 1), (209, fX8_reachNow, 2, 8, 0)], [], [], [], 0)
noncomputable def fX8_reach : aMF := a_fn none shp pX8_reach 2 2
set_option maxRecDepth 20000 in
theorem wkX8_reachNow : ∀ w ∈ [Cond.code yX8_reachNow cX8_reachNow 3 (some .int), .initialized yX8_reachNow.cls, .instanceMethod yX8_reachNow, .selects yX8_reachNow.cls yX8_reachNow yX8_reachNow], w ∈ lw_g := a_ps [973, 96, 972, 40] rfl rfl
theorem hdX8_reachNow : yX8_reachNow.cls ≠ "java/lang/invoke/MethodHandle" ∧ yX8_reachNow.cls ≠ "java/lang/invoke/VarHandle" ∧ (parseMethodDescriptor yX8_reachNow.desc).map (fun d => d.parameters.length) = some 1 := by decide +kernel
set_option maxRecDepth 20000 in
theorem lkX8_209 : Cond.methodLink RX8 209 yX8_reachNow ∈ lw_g := a_p1 970 rfl rfl
set_option maxRecDepth 20000 in
theorem kX8_reach {l : Launch} {G : aG} (hZ : a_Z l G) : a_Con l G shp yX8_reach (.code yX8_reach cX8_reach 2 (some .int)) 7 111 fX8_reach :=
  a_mth none hZ.1 hZ.2.1 shp_len (fun _ h => nomatch h) hZ.2.2.1 (by decide +kernel) rfl (foX8 rfl) (a_cok_of trivial) (b_code [42,27,182,0,168,42,27,182,0,209,172] [] (by decide +kernel) (by decide +kernel) (by decide +kernel) (by decide +kernel)) rfl rfl (trivial) (⟨a_CQ_v hZ.2.1 (kX8_needReader hZ) lkX8_168 (a_CF_v TX8 15 wkX8_needReader lkX8_168 hdX8_needReader ⟨by decide, by decide⟩ rfl) rfl rfl,
    ⟨a_CQ_v hZ.2.1 (kX8_reachNow hZ) lkX8_209 (a_CF_v TX8 15 wkX8_reachNow lkX8_209 hdX8_reachNow ⟨by decide, by decide⟩ rfl) rfl rfl,
    trivial⟩⟩)
noncomputable def pX8_way : aPrg := ([(0, .aload_n 0, 0, 0, []),
  (1, .iload_n 1, 0, 0, []),
  (2, .invokevirtual 168, 0, 0, []),
  (5, .aload_n 0, 0, 0, []),
  (6, .iload_n 2, 0, 0, []),
  (7, .invokevirtual 151, 0, 0, []),
  (10, .aload_n 0, 0, 0, []),
  (11, .getfield 38, 0, 0, []),
  (14, .getfield 128, 0, 0, []),
  (17, .iload_n 1, 0, 0, []),
  (18, .iaload, 0, 0, []),
  (19, .iload_n 2, 0, 0, []),
  (20, .invokestatic 212, 0, 0, []),
  (23, .ifCond .eq 5, 0, 28, []),
  (26, .iconst 0, 0, 0, []),
  (27, .ireturn, 0, 0, []),
  (28, .aload_n 0, 0, 0, []),
  (29, .iload_n 1, 0, 0, []),
  (30, .invokevirtual 209, 0, 0, []),
  (33, .iload_n 2, 0, 0, []),
  (34, .invokestatic 212, 0, 0, []),
  (37, .ifCond .eq 7, 0, 44, []),
  (40, .iconst 1, 1, 0, []),
  (41, .goto 4, 0, 45, []),
  (44, .iconst (-1), (-1), 0, []),
  (45, .ireturn, 0, 0, [])],
  fdX8, [(168, fX8_needReader, 2, 8, 1), (151, fX8_needBook, 2, 8, 1), (212, fX8_holds, 2, 2000, 0), (209, fX8_reachNow, 2, 8, 0)], [], [], [], 0)
noncomputable def fX8_way : aMF := a_fn none shp pX8_way 3 3
set_option maxRecDepth 20000 in
theorem kX8_way {l : Launch} {G : aG} (hZ : a_Z l G) : a_Con l G shp yX8_way (.code yX8_way cX8_way 3 (some .int)) 7 111 fX8_way :=
  a_mth none hZ.1 hZ.2.1 shp_len (fun _ h => nomatch h) hZ.2.2.1 (by decide +kernel) rfl (foX8 rfl) (a_cok_of trivial) (b_code [42,27,182,0,168,42,28,182,0,151,42,180,0,38,180,0,128,27,46,28,184,0,212,153,0,5,3,172,42,27,182,0,209,28,184,0,212,153,0,7,4,167,0,4,2,172] [] (by decide +kernel) (by decide +kernel) (by decide +kernel) (by decide +kernel)) rfl rfl (trivial) (⟨a_CQ_v hZ.2.1 (kX8_needReader hZ) lkX8_168 (a_CF_v TX8 15 wkX8_needReader lkX8_168 hdX8_needReader ⟨by decide, by decide⟩ rfl) rfl rfl,
    ⟨a_CQ_v hZ.2.1 (kX8_needBook hZ) lkX8_151 (a_CF_v TX8 15 wkX8_needBook lkX8_151 hdX8_needBook ⟨by decide, by decide⟩ rfl) rfl rfl,
    ⟨a_CQ_s hZ.2.1 (kX8_holds hZ) lkX8_212 (a_CF_s wkX8_holds lkX8_212 hdX8_holds) rfl rfl,
    ⟨a_CQ_v hZ.2.1 (kX8_reachNow hZ) lkX8_209 (a_CF_v TX8 15 wkX8_reachNow lkX8_209 hdX8_reachNow ⟨by decide, by decide⟩ rfl) rfl rfl,
    trivial⟩⟩⟩⟩)
noncomputable def pX8_together : aPrg := ([(0, .aload_n 0, 0, 0, []),
  (1, .iload_n 1, 0, 0, []),
  (2, .invokevirtual 168, 0, 0, []),
  (5, .aload_n 0, 0, 0, []),
  (6, .iload_n 2, 0, 0, []),
  (7, .invokevirtual 168, 0, 0, []),
  (10, .aload_n 0, 0, 0, []),
  (11, .iload_n 3, 0, 0, []),
  (12, .invokevirtual 151, 0, 0, []),
  (15, .iload_n 1, 0, 0, []),
  (16, .iload_n 2, 0, 0, []),
  (17, .if_icmp .ne 13, 0, 30, []),
  (20, .new 85, 0, 0, []),
  (30, .aload_n 0, 0, 0, []),
  (31, .getfield 57, 0, 0, []),
  (34, .aload_n 0, 0, 0, []),
  (35, .getfield 38, 0, 0, []),
  (38, .getfield 128, 0, 0, []),
  (41, .iload_n 1, 0, 0, []),
  (42, .iaload, 0, 0, []),
  (43, .aload_n 0, 0, 0, []),
  (44, .getfield 38, 0, 0, []),
  (47, .getfield 128, 0, 0, []),
  (50, .iload_n 2, 0, 0, []),
  (51, .iaload, 0, 0, []),
  (52, .aload_n 0, 0, 0, []),
  (53, .getfield 38, 0, 0, []),
  (56, .getfield 128, 0, 0, []),
  (59, .iconst 5, 5, 0, []),
  (60, .iaload, 0, 0, []),
  (61, .iload_n 3, 0, 0, []),
  (62, .invokevirtual 218, 0, 0, []),
  (65, .ireturn, 0, 0, [])],
  fdX8, [(168, fX8_needReader, 2, 8, 1), (151, fX8_needBook, 2, 8, 1), (218, fX2_fewestMoves, 5, 2, 0)], [], [], [(20, 1)], 0)
noncomputable def fX8_together : aMF := a_fn none shp pX8_together 4 4
theorem tkX8_together_20 {l : Launch} {G : aG} (hZ : a_Z l G) : a_tok G RX8 cX8_together 7 150 20 1 :=
  a_tok_s (own := RX8) (cc := cX8_together) (ik := 85) (is := 216) (ic := 89) (ix := 7) (rx := prog_16_method_2_code) (sa := g_ad G 1019) (text := "a friend is another reader") rxX1 (by decide) ⟨by decide +kernel, by decide +kernel⟩ ⟨by decide +kernel, by decide +kernel, by decide +kernel⟩ clX1 inX1 (z_19 hZ) atX1 rfl rfl
set_option maxRecDepth 20000 in
theorem wkX2_fewestMoves : ∀ w ∈ [Cond.code yX2_fewestMoves cX2_fewestMoves 11 (some .int), .initialized yX2_fewestMoves.cls, .instanceMethod yX2_fewestMoves, .selects yX2_fewestMoves.cls yX2_fewestMoves yX2_fewestMoves], w ∈ lw_g := a_ps [996, 103, 994, 995] rfl rfl
theorem hdX2_fewestMoves : yX2_fewestMoves.cls ≠ "java/lang/invoke/MethodHandle" ∧ yX2_fewestMoves.cls ≠ "java/lang/invoke/VarHandle" ∧ (parseMethodDescriptor yX2_fewestMoves.desc).map (fun d => d.parameters.length) = some 4 := by decide +kernel
set_option maxRecDepth 20000 in
theorem lkX8_218 : Cond.methodLink RX8 218 yX2_fewestMoves ∈ lw_g := a_p1 993 rfl rfl
set_option maxRecDepth 20000 in
theorem kX8_together {l : Launch} {G : aG} (hZ : a_Z l G) : a_Con l G shp yX8_together (.code yX8_together cX8_together 4 (some .int)) 7 150 fX8_together :=
  a_mth none hZ.1 hZ.2.1 shp_len (fun _ h => nomatch h) hZ.2.2.1 (by decide +kernel) rfl (foX8 rfl) (a_cok_of trivial) (b_code [42,27,182,0,168,42,28,182,0,168,42,29,182,0,151,27,28,160,0,13,187,0,85,89,18,216,183,0,89,191,42,180,0,57,42,180,0,38,180,0,128,27,46,42,180,0,38,180,0,128,28,46,42,180,0,38,180,0,128,8,46,29,182,0,218,172] [] (by decide +kernel) (by decide +kernel) (by decide +kernel) (by decide +kernel)) rfl rfl (⟨tkX8_together_20 hZ, trivial⟩) (⟨a_CQ_v hZ.2.1 (kX8_needReader hZ) lkX8_168 (a_CF_v TX8 15 wkX8_needReader lkX8_168 hdX8_needReader ⟨by decide, by decide⟩ rfl) rfl rfl,
    ⟨a_CQ_v hZ.2.1 (kX8_needBook hZ) lkX8_151 (a_CF_v TX8 15 wkX8_needBook lkX8_151 hdX8_needBook ⟨by decide, by decide⟩ rfl) rfl rfl,
    ⟨a_CQ_v hZ.2.1 (kX2_fewestMoves hZ) lkX8_218 (a_CF_v TX2 5 wkX2_fewestMoves lkX8_218 hdX2_fewestMoves ⟨by decide, by decide⟩ rfl) rfl rfl,
    trivial⟩⟩⟩)
noncomputable def pX8_week : aPrg := ([(0, .aload_n 0, 0, 0, []),
  (1, .getfield 50, 0, 0, []),
  (4, .aload_n 0, 0, 0, []),
  (5, .getfield 38, 0, 0, []),
  (8, .getfield 128, 0, 0, []),
  (11, .invokevirtual 221, 0, 0, []),
  (14, .ireturn, 0, 0, [])],
  fdX8, [(221, fX7_plan, 2, 7, 0)], [], [], [], 0)
noncomputable def fX8_week : aMF := a_fn none shp pX8_week 1 1
set_option maxRecDepth 20000 in
theorem wkX7_plan : ∀ w ∈ [Cond.code yX7_plan cX7_plan 2 (some .int), .initialized yX7_plan.cls, .instanceMethod yX7_plan, .selects yX7_plan.cls yX7_plan yX7_plan], w ∈ lw_g := a_ps [482, 102, 480, 481] rfl rfl
theorem hdX7_plan : yX7_plan.cls ≠ "java/lang/invoke/MethodHandle" ∧ yX7_plan.cls ≠ "java/lang/invoke/VarHandle" ∧ (parseMethodDescriptor yX7_plan.desc).map (fun d => d.parameters.length) = some 1 := by decide +kernel
set_option maxRecDepth 20000 in
theorem lkX8_221 : Cond.methodLink RX8 221 yX7_plan ∈ lw_g := a_p1 479 rfl rfl
set_option maxRecDepth 20000 in
theorem kX8_week {l : Launch} {G : aG} (hZ : a_Z l G) : a_Con l G shp yX8_week (.code yX8_week cX8_week 1 (some .int)) 26 927 fX8_week :=
  a_mth none hZ.1 hZ.2.1 shp_len (fun _ h => nomatch h) hZ.2.2.1 (by decide +kernel) rfl (foX8 rfl) (a_cok_of trivial) (b_code [42,180,0,50,42,180,0,38,180,0,128,182,0,221,172] [] (by decide +kernel) (by decide +kernel) (by decide +kernel) (by decide +kernel)) rfl rfl (trivial) (⟨a_CQ_v hZ.2.1 (kX7_plan hZ) lkX8_221 (a_CF_v TX7 9 wkX7_plan lkX8_221 hdX7_plan ⟨by decide, by decide⟩ rfl) rfl rfl,
    trivial⟩)
noncomputable def pX8_row : aPrg := ([(0, .aload_n 0, 0, 0, []),
  (1, .getfield 50, 0, 0, []),
  (4, .getfield 115, 0, 0, []),
  (7, .iconst (-1), (-1), 0, []),
  (8, .if_icmp .ne 13, 0, 21, []),
  (11, .new 146, 0, 0, []),
  (21, .iload_n 1, 0, 0, []),
  (22, .iconst (-1), (-1), 0, []),
  (23, .if_icmp .ne 11, 0, 34, []),
  (26, .aload_n 0, 0, 0, []),
  (27, .getfield 50, 0, 0, []),
  (30, .getfield 115, 0, 0, []),
  (33, .ireturn, 0, 0, []),
  (34, .iload_n 2, 0, 0, []),
  (35, .iconst 3, 3, 0, []),
  (36, .invokestatic 154, 0, 0, []),
  (39, .iload_n 1, 0, 0, []),
  (40, .ifCond .lt 14, 0, 54, []),
  (43, .iload_n 1, 0, 0, []),
  (44, .aload_n 0, 0, 0, []),
  (45, .getfield 50, 0, 0, []),
  (48, .getfield 115, 0, 0, []),
  (51, .if_icmp .lt 13, 0, 64, []),
  (54, .new 146, 0, 0, []),
  (64, .aload_n 0, 0, 0, []),
  (65, .getfield 50, 0, 0, []),
  (68, .getfield 229, 0, 0, []),
  (71, .iconst 3, 3, 0, []),
  (72, .iload_n 1, 0, 0, []),
  (73, .imul, 0, 0, []),
  (74, .iload_n 2, 0, 0, []),
  (75, .iadd, 0, 0, []),
  (76, .iaload, 0, 0, []),
  (77, .ireturn, 0, 0, [])],
  fdX8, [(154, fX8_needWhat, 2, 2000, 1)], [], [], [(11, 0), (54, 0)], 0)
noncomputable def fX8_row : aMF := a_fn none shp pX8_row 3 3
theorem tkX8_row_11 {l : Launch} {G : aG} (hZ : a_Z l G) : a_tok G RX8 cX8_row 7 111 11 0 :=
  a_tok_s (own := RX8) (cc := cX8_row) (ik := 146) (is := 225) (ic := 150) (ix := 13) (rx := prog_28_method_4_code) (sa := g_ad G 1020) (text := "no row is kept") rxX0 (by decide) ⟨by decide +kernel, by decide +kernel⟩ ⟨by decide +kernel, by decide +kernel, by decide +kernel⟩ clX0 inX0 (z_20 hZ) atX0 rfl rfl
theorem tkX8_row_54 {l : Launch} {G : aG} (hZ : a_Z l G) : a_tok G RX8 cX8_row 7 111 54 0 :=
  a_tok_s (own := RX8) (cc := cX8_row) (ik := 146) (is := 227) (ic := 150) (ix := 13) (rx := prog_28_method_4_code) (sa := g_ad G 1021) (text := "no such exchange in the row") rxX0 (by decide) ⟨by decide +kernel, by decide +kernel⟩ ⟨by decide +kernel, by decide +kernel, by decide +kernel⟩ clX0 inX0 (z_21 hZ) atX0 rfl rfl
set_option maxRecDepth 20000 in
theorem kX8_row {l : Launch} {G : aG} (hZ : a_Z l G) : a_Con l G shp yX8_row (.code yX8_row cX8_row 3 (some .int)) 7 111 fX8_row :=
  a_mth none hZ.1 hZ.2.1 shp_len (fun _ h => nomatch h) hZ.2.2.1 (by decide +kernel) rfl (foX8 rfl) (a_cok_of trivial) (b_code [42,180,0,50,180,0,115,2,160,0,13,187,0,146,89,18,225,183,0,150,191,27,2,160,0,11,42,180,0,50,180,0,115,172,28,6,184,0,154,27,155,0,14,27,42,180,0,50,180,0,115,161,0,13,187,0,146,89,18,227,183,0,150,191,42,180,0,50,180,0,229,6,27,104,28,96,46,172] [] (by decide +kernel) (by decide +kernel) (by decide +kernel) (by decide +kernel)) rfl rfl (⟨tkX8_row_11 hZ, ⟨tkX8_row_54 hZ, trivial⟩⟩) (⟨a_CQ_s hZ.2.1 (kX8_needWhat hZ) lkX8_154 (a_CF_s wkX8_needWhat lkX8_154 hdX8_needWhat) rfl rfl,
    trivial⟩)
noncomputable def pX8_isLost : aPrg := ([(0, .aload_n 0, 0, 0, []),
  (1, .getfield 38, 0, 0, []),
  (4, .getfield 128, 0, 0, []),
  (7, .iconst 5, 5, 0, []),
  (8, .iaload, 0, 0, []),
  (9, .iload_n 1, 0, 0, []),
  (10, .invokestatic 212, 0, 0, []),
  (13, .ifCond .ne 5, 0, 18, []),
  (16, .iconst 0, 0, 0, []),
  (17, .ireturn, 0, 0, []),
  (18, .iconst 0, 0, 0, []),
  (19, .istore_n 2, 0, 0, []),
  (20, .iload_n 2, 0, 0, []),
  (21, .aload_n 0, 0, 0, []),
  (22, .getfield 23, 0, 0, []),
  (25, .getfield 125, 0, 0, []),
  (28, .if_icmp .ge 34, 0, 62, []),
  (31, .aload_n 0, 0, 0, []),
  (32, .getfield 23, 0, 0, []),
  (35, .aload_n 0, 0, 0, []),
  (36, .getfield 38, 0, 0, []),
  (39, .getfield 128, 0, 0, []),
  (42, .iload_n 2, 0, 0, []),
  (43, .iaload, 0, 0, []),
  (44, .invokevirtual 261, 0, 0, []),
  (47, .iload_n 1, 0, 0, []),
  (48, .invokestatic 212, 0, 0, []),
  (51, .ifCond .eq 5, 0, 56, []),
  (54, .iconst 0, 0, 0, []),
  (55, .ireturn, 0, 0, []),
  (56, .iinc 2 1, 1, 0, []),
  (59, .goto (-39), 0, 20, []),
  (62, .iconst 1, 1, 0, []),
  (63, .ireturn, 0, 0, [])],
  fdX8, [(212, fX8_holds, 2, 2000, 0), (261, fX6_takeableFor, 2, 6, 0)], [], [], [], 1)
noncomputable def fX8_isLost : aMF := a_fn none shp pX8_isLost 3 2
set_option maxRecDepth 20000 in
theorem kX8_isLost {l : Launch} {G : aG} (hZ : a_Z l G) : a_Con l G shp yX8_isLost (.code yX8_isLost cX8_isLost 3 (some .boolean)) 3 60 fX8_isLost :=
  a_mth none hZ.1 hZ.2.1 shp_len (fun _ h => nomatch h) hZ.2.2.1 (by decide +kernel) rfl (foX8 rfl) (a_cok_of trivial) (b_code [42,180,0,38,180,0,128,8,46,27,184,0,212,154,0,5,3,172,3,61,28,42,180,0,23,180,0,125,162,0,34,42,180,0,23,42,180,0,38,180,0,128,28,46,182,1,5,27,184,0,212,153,0,5,3,172,132,2,1,167,255,217,4,172] [] (by decide +kernel) (by decide +kernel) (by decide +kernel) (by decide +kernel)) rfl rfl (trivial) (⟨a_CQ_s hZ.2.1 (kX8_holds hZ) lkX8_212 (a_CF_s wkX8_holds lkX8_212 hdX8_holds) rfl rfl,
    ⟨a_CQ_v hZ.2.1 (kX6_takeableFor hZ) lkX8_261 (a_CF_v TX6 9 wkX6_takeableFor lkX8_261 hdX6_takeableFor ⟨by decide, by decide⟩ rfl) rfl rfl,
    trivial⟩⟩)
noncomputable def pX8_freedBy : aPrg := ([(0, .iconst 0, 0, 0, []),
  (1, .istore_n 3, 0, 0, []),
  (2, .iload_n 3, 0, 0, []),
  (3, .aload_n 0, 0, 0, []),
  (4, .getfield 23, 0, 0, []),
  (7, .getfield 122, 0, 0, []),
  (10, .if_icmp .ge 48, 0, 58, []),
  (13, .aload_n 0, 0, 0, []),
  (14, .getfield 38, 0, 0, []),
  (17, .getfield 128, 0, 0, []),
  (20, .iconst 5, 5, 0, []),
  (21, .iaload, 0, 0, []),
  (22, .iload_n 3, 0, 0, []),
  (23, .invokestatic 212, 0, 0, []),
  (26, .ifCond .ne 26, 0, 52, []),
  (29, .aload_n 0, 0, 0, []),
  (30, .getfield 23, 0, 0, []),
  (33, .iload_n 3, 0, 0, []),
  (34, .iload_n 2, 0, 0, []),
  (35, .invokevirtual 240, 0, 0, []),
  (38, .aload_n 0, 0, 0, []),
  (39, .getfield 23, 0, 0, []),
  (42, .getfield 161, 0, 0, []),
  (45, .iload_n 1, 0, 0, []),
  (46, .iaload, 0, 0, []),
  (47, .if_icmp .le 5, 0, 52, []),
  (50, .iload_n 3, 0, 0, []),
  (51, .ireturn, 0, 0, []),
  (52, .iinc 3 1, 1, 0, []),
  (55, .goto (-53), 0, 2, []),
  (58, .iconst (-1), (-1), 0, []),
  (59, .ireturn, 0, 0, [])],
  fdX8, [(212, fX8_holds, 2, 2000, 0), (240, fX6_pagesWithMore, 3, 6, 0)], [], [], [], 0)
noncomputable def fX8_freedBy : aMF := a_fn none shp pX8_freedBy 4 3
set_option maxRecDepth 20000 in
theorem lkX8_240 : Cond.methodLink RX8 240 yX6_pagesWithMore ∈ lw_g := a_p1 1041 rfl rfl
set_option maxRecDepth 20000 in
theorem kX8_freedBy {l : Launch} {G : aG} (hZ : a_Z l G) : a_Con l G shp yX8_freedBy (.code yX8_freedBy cX8_freedBy 4 (some .int)) 6 128 fX8_freedBy :=
  a_mth none hZ.1 hZ.2.1 shp_len (fun _ h => nomatch h) hZ.2.2.1 (by decide +kernel) rfl (foX8 rfl) (a_cok_of trivial) (b_code [3,62,29,42,180,0,23,180,0,122,162,0,48,42,180,0,38,180,0,128,8,46,29,184,0,212,154,0,26,42,180,0,23,29,28,182,0,240,42,180,0,23,180,0,161,27,46,164,0,5,29,172,132,3,1,167,255,203,2,172] [] (by decide +kernel) (by decide +kernel) (by decide +kernel) (by decide +kernel)) rfl rfl (trivial) (⟨a_CQ_s hZ.2.1 (kX8_holds hZ) lkX8_212 (a_CF_s wkX8_holds lkX8_212 hdX8_holds) rfl rfl,
    ⟨a_CQ_v hZ.2.1 (kX6_pagesWithMore hZ) lkX8_240 (a_CF_v TX6 9 wkX6_pagesWithMore lkX8_240 hdX6_pagesWithMore ⟨by decide, by decide⟩ rfl) rfl rfl,
    trivial⟩⟩)
noncomputable def pX8_lost : aPrg := ([(0, .aload_n 0, 0, 0, []),
  (1, .iload_n 1, 0, 0, []),
  (2, .invokevirtual 151, 0, 0, []),
  (5, .iload_n 2, 0, 0, []),
  (6, .iconst 2, 2, 0, []),
  (7, .invokestatic 154, 0, 0, []),
  (10, .aload_n 0, 0, 0, []),
  (11, .iload_n 1, 0, 0, []),
  (12, .invokevirtual 231, 0, 0, []),
  (15, .ifCond .ne 13, 0, 28, []),
  (18, .iload_n 2, 0, 0, []),
  (19, .ifCond .ne 7, 0, 26, []),
  (22, .iconst 0, 0, 0, []),
  (23, .goto 4, 0, 27, []),
  (26, .iconst (-1), (-1), 0, []),
  (27, .ireturn, 0, 0, []),
  (28, .iconst 1, 1, 0, []),
  (29, .istore_n 3, 0, 0, []),
  (30, .iload_n 3, 0, 0, []),
  (31, .bipush 99, 99, 0, []),
  (33, .if_icmp .gt 34, 0, 67, []),
  (36, .aload_n 0, 0, 0, []),
  (37, .iload_n 1, 0, 0, []),
  (38, .iload_n 3, 0, 0, []),
  (39, .invokevirtual 234, 0, 0, []),
  (42, .istore 4, 0, 0, []),
  (44, .iload 4, 0, 0, []),
  (46, .iconst (-1), (-1), 0, []),
  (47, .if_icmp .eq 14, 0, 61, []),
  (50, .iload_n 2, 0, 0, []),
  (51, .ifCond .ne 7, 0, 58, []),
  (54, .iload_n 3, 0, 0, []),
  (55, .goto 5, 0, 60, []),
  (58, .iload 4, 0, 0, []),
  (60, .ireturn, 0, 0, []),
  (61, .iinc 3 1, 1, 0, []),
  (64, .goto (-34), 0, 30, []),
  (67, .iconst (-1), (-1), 0, []),
  (68, .ireturn, 0, 0, [])],
  fdX8, [(151, fX8_needBook, 2, 8, 1), (154, fX8_needWhat, 2, 2000, 1), (231, fX8_isLost, 2, 8, 0), (234, fX8_freedBy, 3, 8, 0)], [], [], [], 0)
noncomputable def fX8_lost : aMF := a_fn none shp pX8_lost 5 3
set_option maxRecDepth 20000 in
theorem wkX8_isLost : ∀ w ∈ [Cond.code yX8_isLost cX8_isLost 3 (some .boolean), .initialized yX8_isLost.cls, .instanceMethod yX8_isLost, .selects yX8_isLost.cls yX8_isLost yX8_isLost], w ∈ lw_g := a_ps [1036, 96, 1035, 45] rfl rfl
theorem hdX8_isLost : yX8_isLost.cls ≠ "java/lang/invoke/MethodHandle" ∧ yX8_isLost.cls ≠ "java/lang/invoke/VarHandle" ∧ (parseMethodDescriptor yX8_isLost.desc).map (fun d => d.parameters.length) = some 1 := by decide +kernel
set_option maxRecDepth 20000 in
theorem lkX8_231 : Cond.methodLink RX8 231 yX8_isLost ∈ lw_g := a_p1 1033 rfl rfl
set_option maxRecDepth 20000 in
theorem wkX8_freedBy : ∀ w ∈ [Cond.code yX8_freedBy cX8_freedBy 4 (some .int), .initialized yX8_freedBy.cls, .instanceMethod yX8_freedBy, .selects yX8_freedBy.cls yX8_freedBy yX8_freedBy], w ∈ lw_g := a_ps [1040, 96, 1039, 46] rfl rfl
theorem hdX8_freedBy : yX8_freedBy.cls ≠ "java/lang/invoke/MethodHandle" ∧ yX8_freedBy.cls ≠ "java/lang/invoke/VarHandle" ∧ (parseMethodDescriptor yX8_freedBy.desc).map (fun d => d.parameters.length) = some 2 := by decide +kernel
set_option maxRecDepth 20000 in
theorem lkX8_234 : Cond.methodLink RX8 234 yX8_freedBy ∈ lw_g := a_p1 1037 rfl rfl
set_option maxRecDepth 20000 in
theorem kX8_lost {l : Launch} {G : aG} (hZ : a_Z l G) : a_Con l G shp yX8_lost (.code yX8_lost cX8_lost 5 (some .int)) 7 151 fX8_lost :=
  a_mth none hZ.1 hZ.2.1 shp_len (fun _ h => nomatch h) hZ.2.2.1 (by decide +kernel) rfl (foX8 rfl) (a_cok_of trivial) (b_code [42,27,182,0,151,28,5,184,0,154,42,27,182,0,231,154,0,13,28,154,0,7,3,167,0,4,2,172,4,62,29,16,99,163,0,34,42,27,29,182,0,234,54,4,21,4,2,159,0,14,28,154,0,7,29,167,0,5,21,4,172,132,3,1,167,255,222,2,172] [] (by decide +kernel) (by decide +kernel) (by decide +kernel) (by decide +kernel)) rfl rfl (trivial) (⟨a_CQ_v hZ.2.1 (kX8_needBook hZ) lkX8_151 (a_CF_v TX8 15 wkX8_needBook lkX8_151 hdX8_needBook ⟨by decide, by decide⟩ rfl) rfl rfl,
    ⟨a_CQ_s hZ.2.1 (kX8_needWhat hZ) lkX8_154 (a_CF_s wkX8_needWhat lkX8_154 hdX8_needWhat) rfl rfl,
    ⟨a_CQ_v hZ.2.1 (kX8_isLost hZ) lkX8_231 (a_CF_v TX8 15 wkX8_isLost lkX8_231 hdX8_isLost ⟨by decide, by decide⟩ rfl) rfl rfl,
    ⟨a_CQ_v hZ.2.1 (kX8_freedBy hZ) lkX8_234 (a_CF_v TX8 15 wkX8_freedBy lkX8_234 hdX8_freedBy ⟨by decide, by decide⟩ rfl) rfl rfl,
    trivial⟩⟩⟩⟩)
noncomputable def pX8_reachIf : aPrg := ([(0, .aload_n 0, 0, 0, []),
  (1, .getfield 23, 0, 0, []),
  (4, .iload_n 1, 0, 0, []),
  (5, .iconst 1, 1, 0, []),
  (6, .iload_n 2, 0, 0, []),
  (7, .ishl, 0, 0, []),
  (8, .iconst (-1), (-1), 0, []),
  (9, .ixor, 0, 0, []),
  (10, .iand, 0, 0, []),
  (11, .invokevirtual 261, 0, 0, []),
  (14, .aload_n 0, 0, 0, []),
  (15, .getfield 23, 0, 0, []),
  (18, .iload_n 3, 0, 0, []),
  (19, .invokevirtual 304, 0, 0, []),
  (22, .ior, 0, 0, []),
  (23, .istore 4, 0, 0, []),
  (25, .iload_n 1, 0, 0, []),
  (26, .iload 4, 0, 0, []),
  (28, .aload_n 0, 0, 0, []),
  (29, .getfield 38, 0, 0, []),
  (32, .getfield 128, 0, 0, []),
  (35, .iconst 5, 5, 0, []),
  (36, .iaload, 0, 0, []),
  (37, .iand, 0, 0, []),
  (38, .ior, 0, 0, []),
  (39, .ireturn, 0, 0, [])],
  fdX8, [(261, fX6_takeableFor, 2, 6, 0), (304, fX6_booksUnder, 2, 6, 0)], [], [], [], 0)
noncomputable def fX8_reachIf : aMF := a_fn none shp pX8_reachIf 5 4
set_option maxRecDepth 20000 in
theorem lkX8_304 : Cond.methodLink RX8 304 yX6_booksUnder ∈ lw_g := a_p1 1054 rfl rfl
set_option maxRecDepth 20000 in
theorem kX8_reachIf {l : Launch} {G : aG} (hZ : a_Z l G) : a_Con l G shp yX8_reachIf (.code yX8_reachIf cX8_reachIf 5 (some .int)) 3 60 fX8_reachIf :=
  a_mth none hZ.1 hZ.2.1 shp_len (fun _ h => nomatch h) hZ.2.2.1 (by decide +kernel) rfl (foX8 rfl) (a_cok_of trivial) (b_code [42,180,0,23,27,4,28,120,2,130,126,182,1,5,42,180,0,23,29,182,1,48,128,54,4,27,21,4,42,180,0,38,180,0,128,8,46,126,128,172] [] (by decide +kernel) (by decide +kernel) (by decide +kernel) (by decide +kernel)) rfl rfl (trivial) (⟨a_CQ_v hZ.2.1 (kX6_takeableFor hZ) lkX8_261 (a_CF_v TX6 9 wkX6_takeableFor lkX8_261 hdX6_takeableFor ⟨by decide, by decide⟩ rfl) rfl rfl,
    ⟨a_CQ_v hZ.2.1 (kX6_booksUnder hZ) lkX8_304 (a_CF_v TX6 9 wkX6_booksUnder lkX8_304 hdX6_booksUnder ⟨by decide, by decide⟩ rfl) rfl rfl,
    trivial⟩⟩)
noncomputable def pX8_worth : aPrg := ([(0, .aload_n 0, 0, 0, []),
  (1, .iload_n 1, 0, 0, []),
  (2, .invokevirtual 151, 0, 0, []),
  (5, .aload_n 0, 0, 0, []),
  (6, .getfield 38, 0, 0, []),
  (9, .getfield 128, 0, 0, []),
  (12, .iload_n 1, 0, 0, []),
  (13, .invokestatic 164, 0, 0, []),
  (16, .istore_n 2, 0, 0, []),
  (17, .iload_n 2, 0, 0, []),
  (18, .ifCond .lt 8, 0, 26, []),
  (21, .iload_n 2, 0, 0, []),
  (22, .iconst 5, 5, 0, []),
  (23, .if_icmp .lt 13, 0, 36, []),
  (26, .new 85, 0, 0, []),
  (36, .aload_n 0, 0, 0, []),
  (37, .getfield 38, 0, 0, []),
  (40, .getfield 128, 0, 0, []),
  (43, .iload_n 2, 0, 0, []),
  (44, .iaload, 0, 0, []),
  (45, .istore_n 3, 0, 0, []),
  (46, .aload_n 0, 0, 0, []),
  (47, .iload_n 3, 0, 0, []),
  (48, .iload_n 1, 0, 0, []),
  (49, .aload_n 0, 0, 0, []),
  (50, .getfield 23, 0, 0, []),
  (53, .iload_n 1, 0, 0, []),
  (54, .iconst 1, 1, 0, []),
  (55, .invokevirtual 240, 0, 0, []),
  (58, .invokevirtual 243, 0, 0, []),
  (61, .istore 4, 0, 0, []),
  (63, .iload 4, 0, 0, []),
  (65, .invokestatic 246, 0, 0, []),
  (68, .aload_n 0, 0, 0, []),
  (69, .iload_n 2, 0, 0, []),
  (70, .invokevirtual 209, 0, 0, []),
  (73, .invokestatic 246, 0, 0, []),
  (76, .isub, 0, 0, []),
  (77, .ireturn, 0, 0, [])],
  fdX8, [(151, fX8_needBook, 2, 8, 1), (164, fX8_placeOf, 2, 2000, 0), (240, fX6_pagesWithMore, 3, 6, 0), (243, fX8_reachIf, 4, 8, 0), (246, fJ6_bitCount_0f7a4, 1, 2000, 0), (209, fX8_reachNow, 2, 8, 0)], [], [], [(26, 1)], 0)
noncomputable def fX8_worth : aMF := a_fn none shp pX8_worth 5 2
theorem tkX8_worth_26 {l : Launch} {G : aG} (hZ : a_Z l G) : a_tok G RX8 cX8_worth 7 128 26 1 :=
  a_tok_s (own := RX8) (cc := cX8_worth) (ik := 85) (is := 238) (ic := 89) (ix := 7) (rx := prog_16_method_2_code) (sa := g_ad G 1022) (text := "no reader has the book") rxX1 (by decide) ⟨by decide +kernel, by decide +kernel⟩ ⟨by decide +kernel, by decide +kernel, by decide +kernel⟩ clX1 inX1 (z_22 hZ) atX1 rfl rfl
set_option maxRecDepth 20000 in
theorem wkX8_reachIf : ∀ w ∈ [Cond.code yX8_reachIf cX8_reachIf 5 (some .int), .initialized yX8_reachIf.cls, .instanceMethod yX8_reachIf, .selects yX8_reachIf.cls yX8_reachIf yX8_reachIf], w ∈ lw_g := a_ps [1053, 96, 1052, 47] rfl rfl
theorem hdX8_reachIf : yX8_reachIf.cls ≠ "java/lang/invoke/MethodHandle" ∧ yX8_reachIf.cls ≠ "java/lang/invoke/VarHandle" ∧ (parseMethodDescriptor yX8_reachIf.desc).map (fun d => d.parameters.length) = some 3 := by decide +kernel
set_option maxRecDepth 20000 in
theorem lkX8_243 : Cond.methodLink RX8 243 yX8_reachIf ∈ lw_g := a_p1 1050 rfl rfl
set_option maxRecDepth 20000 in
theorem lkX8_246 : Cond.methodLink RX8 246 yJ6_bitCount_0f7a4 ∈ lw_g := a_p1 1055 rfl rfl
set_option maxRecDepth 20000 in
theorem kX8_worth {l : Launch} {G : aG} (hZ : a_Z l G) : a_Con l G shp yX8_worth (.code yX8_worth cX8_worth 5 (some .int)) 7 128 fX8_worth :=
  a_mth none hZ.1 hZ.2.1 shp_len (fun _ h => nomatch h) hZ.2.2.1 (by decide +kernel) rfl (foX8 rfl) (a_cok_of trivial) (b_code [42,27,182,0,151,42,180,0,38,180,0,128,27,184,0,164,61,28,155,0,8,28,8,161,0,13,187,0,85,89,18,238,183,0,89,191,42,180,0,38,180,0,128,28,46,62,42,29,27,42,180,0,23,27,4,182,0,240,182,0,243,54,4,21,4,184,0,246,42,28,182,0,209,184,0,246,100,172] [] (by decide +kernel) (by decide +kernel) (by decide +kernel) (by decide +kernel)) rfl rfl (⟨tkX8_worth_26 hZ, trivial⟩) (⟨a_CQ_v hZ.2.1 (kX8_needBook hZ) lkX8_151 (a_CF_v TX8 15 wkX8_needBook lkX8_151 hdX8_needBook ⟨by decide, by decide⟩ rfl) rfl rfl,
    ⟨a_CQ_s hZ.2.1 (kX8_placeOf hZ) lkX8_164 (a_CF_s wkX8_placeOf lkX8_164 hdX8_placeOf) rfl rfl,
    ⟨a_CQ_v hZ.2.1 (kX6_pagesWithMore hZ) lkX8_240 (a_CF_v TX6 9 wkX6_pagesWithMore lkX8_240 hdX6_pagesWithMore ⟨by decide, by decide⟩ rfl) rfl rfl,
    ⟨a_CQ_v hZ.2.1 (kX8_reachIf hZ) lkX8_243 (a_CF_v TX8 15 wkX8_reachIf lkX8_243 hdX8_reachIf ⟨by decide, by decide⟩ rfl) rfl rfl,
    ⟨a_CQ_s hZ.2.1 (kJ6_bitCount_0f7a4 hZ) lkX8_246 (a_CF_s wkJ6_bitCount_0f7a4 lkX8_246 hdJ6_bitCount_0f7a4) rfl rfl,
    ⟨a_CQ_v hZ.2.1 (kX8_reachNow hZ) lkX8_209 (a_CF_v TX8 15 wkX8_reachNow lkX8_209 hdX8_reachNow ⟨by decide, by decide⟩ rfl) rfl rfl,
    trivial⟩⟩⟩⟩⟩⟩)
noncomputable def pX8_bindingPays : aPrg := ([(0, .aload_n 0, 0, 0, []),
  (1, .getfield 38, 0, 0, []),
  (4, .getfield 128, 0, 0, []),
  (7, .iload_n 1, 0, 0, []),
  (8, .iaload, 0, 0, []),
  (9, .iconst 1, 1, 0, []),
  (10, .iload_n 3, 0, 0, []),
  (11, .ishl, 0, 0, []),
  (12, .iconst (-1), (-1), 0, []),
  (13, .ixor, 0, 0, []),
  (14, .iand, 0, 0, []),
  (15, .istore 4, 0, 0, []),
  (17, .aload_n 0, 0, 0, []),
  (18, .iload 4, 0, 0, []),
  (20, .iload_n 2, 0, 0, []),
  (21, .aload_n 0, 0, 0, []),
  (22, .getfield 23, 0, 0, []),
  (25, .iload_n 2, 0, 0, []),
  (26, .iload_n 3, 0, 0, []),
  (27, .invokevirtual 307, 0, 0, []),
  (30, .invokevirtual 243, 0, 0, []),
  (33, .istore 5, 0, 0, []),
  (35, .iload 5, 0, 0, []),
  (37, .invokestatic 246, 0, 0, []),
  (40, .aload_n 0, 0, 0, []),
  (41, .iload_n 1, 0, 0, []),
  (42, .invokevirtual 209, 0, 0, []),
  (45, .invokestatic 246, 0, 0, []),
  (48, .isub, 0, 0, []),
  (49, .iconst 1, 1, 0, []),
  (50, .iadd, 0, 0, []),
  (51, .ireturn, 0, 0, [])],
  fdX8, [(307, fX6_pagesBound, 3, 6, 0), (243, fX8_reachIf, 4, 8, 0), (246, fJ6_bitCount_0f7a4, 1, 2000, 0), (209, fX8_reachNow, 2, 8, 0)], [], [], [], 0)
noncomputable def fX8_bindingPays : aMF := a_fn none shp pX8_bindingPays 6 4
set_option maxRecDepth 20000 in
theorem wkX6_pagesBound : ∀ w ∈ [Cond.code yX6_pagesBound cX6_pagesBound 5 (some .int), .initialized yX6_pagesBound.cls, .instanceMethod yX6_pagesBound, .selects yX6_pagesBound.cls yX6_pagesBound yX6_pagesBound], w ∈ lw_g := a_ps [1070, 98, 1068, 1069] rfl rfl
theorem hdX6_pagesBound : yX6_pagesBound.cls ≠ "java/lang/invoke/MethodHandle" ∧ yX6_pagesBound.cls ≠ "java/lang/invoke/VarHandle" ∧ (parseMethodDescriptor yX6_pagesBound.desc).map (fun d => d.parameters.length) = some 2 := by decide +kernel
set_option maxRecDepth 20000 in
theorem lkX8_307 : Cond.methodLink RX8 307 yX6_pagesBound ∈ lw_g := a_p1 1067 rfl rfl
set_option maxRecDepth 20000 in
theorem kX8_bindingPays {l : Launch} {G : aG} (hZ : a_Z l G) : a_Con l G shp yX8_bindingPays (.code yX8_bindingPays cX8_bindingPays 6 (some .int)) 6 129 fX8_bindingPays :=
  a_mth none hZ.1 hZ.2.1 shp_len (fun _ h => nomatch h) hZ.2.2.1 (by decide +kernel) rfl (foX8 rfl) (a_cok_of trivial) (b_code [42,180,0,38,180,0,128,27,46,4,29,120,2,130,126,54,4,42,21,4,28,42,180,0,23,28,29,182,1,51,182,0,243,54,5,21,5,184,0,246,42,27,182,0,209,184,0,246,100,4,96,172] [] (by decide +kernel) (by decide +kernel) (by decide +kernel) (by decide +kernel)) rfl rfl (trivial) (⟨a_CQ_v hZ.2.1 (kX6_pagesBound hZ) lkX8_307 (a_CF_v TX6 9 wkX6_pagesBound lkX8_307 hdX6_pagesBound ⟨by decide, by decide⟩ rfl) rfl rfl,
    ⟨a_CQ_v hZ.2.1 (kX8_reachIf hZ) lkX8_243 (a_CF_v TX8 15 wkX8_reachIf lkX8_243 hdX8_reachIf ⟨by decide, by decide⟩ rfl) rfl rfl,
    ⟨a_CQ_s hZ.2.1 (kJ6_bitCount_0f7a4 hZ) lkX8_246 (a_CF_s wkJ6_bitCount_0f7a4 lkX8_246 hdJ6_bitCount_0f7a4) rfl rfl,
    ⟨a_CQ_v hZ.2.1 (kX8_reachNow hZ) lkX8_209 (a_CF_v TX8 15 wkX8_reachNow lkX8_209 hdX8_reachNow ⟨by decide, by decide⟩ rfl) rfl rfl,
    trivial⟩⟩⟩⟩)
noncomputable def pX8_bind : aPrg := ([(0, .aload_n 0, 0, 0, []),
  (1, .iload_n 1, 0, 0, []),
  (2, .invokevirtual 168, 0, 0, []),
  (5, .iload_n 2, 0, 0, []),
  (6, .iconst 2, 2, 0, []),
  (7, .invokestatic 154, 0, 0, []),
  (10, .iconst (-1), (-1), 0, []),
  (11, .istore_n 3, 0, 0, []),
  (12, .iconst 0, 0, 0, []),
  (13, .istore 4, 0, 0, []),
  (15, .iconst 0, 0, 0, []),
  (16, .istore 5, 0, 0, []),
  (18, .iload 5, 0, 0, []),
  (20, .aload_n 0, 0, 0, []),
  (21, .getfield 23, 0, 0, []),
  (24, .getfield 122, 0, 0, []),
  (27, .if_icmp .ge 103, 0, 130, []),
  (30, .iload 5, 0, 0, []),
  (32, .iconst 1, 1, 0, []),
  (33, .iadd, 0, 0, []),
  (34, .istore 6, 0, 0, []),
  (36, .iload 6, 0, 0, []),
  (38, .aload_n 0, 0, 0, []),
  (39, .getfield 23, 0, 0, []),
  (42, .getfield 122, 0, 0, []),
  (45, .if_icmp .ge 79, 0, 124, []),
  (48, .aload_n 0, 0, 0, []),
  (49, .getfield 38, 0, 0, []),
  (52, .getfield 128, 0, 0, []),
  (55, .iload_n 1, 0, 0, []),
  (56, .iaload, 0, 0, []),
  (57, .iload 5, 0, 0, []),
  (59, .invokestatic 212, 0, 0, []),
  (62, .ifCond .eq 56, 0, 118, []),
  (65, .aload_n 0, 0, 0, []),
  (66, .getfield 38, 0, 0, []),
  (69, .getfield 128, 0, 0, []),
  (72, .iload_n 1, 0, 0, []),
  (73, .iaload, 0, 0, []),
  (74, .iload 6, 0, 0, []),
  (76, .invokestatic 212, 0, 0, []),
  (79, .ifCond .eq 39, 0, 118, []),
  (82, .aload_n 0, 0, 0, []),
  (83, .iload_n 1, 0, 0, []),
  (84, .iload 5, 0, 0, []),
  (86, .iload 6, 0, 0, []),
  (88, .invokevirtual 251, 0, 0, []),
  (91, .istore 7, 0, 0, []),
  (93, .iload_n 3, 0, 0, []),
  (94, .iconst (-1), (-1), 0, []),
  (95, .if_icmp .eq 10, 0, 105, []),
  (98, .iload 7, 0, 0, []),
  (100, .iload 4, 0, 0, []),
  (102, .if_icmp .le 16, 0, 118, []),
  (105, .bipush 16, 16, 0, []),
  (107, .iload 5, 0, 0, []),
  (109, .imul, 0, 0, []),
  (110, .iload 6, 0, 0, []),
  (112, .iadd, 0, 0, []),
  (113, .istore_n 3, 0, 0, []),
  (114, .iload 7, 0, 0, []),
  (116, .istore 4, 0, 0, []),
  (118, .iinc 6 1, 1, 0, []),
  (121, .goto (-85), 0, 36, []),
  (124, .iinc 5 1, 1, 0, []),
  (127, .goto (-109), 0, 18, []),
  (130, .iload_n 2, 0, 0, []),
  (131, .ifCond .ne 7, 0, 138, []),
  (134, .iload_n 3, 0, 0, []),
  (135, .goto 5, 0, 140, []),
  (138, .iload 4, 0, 0, []),
  (140, .ireturn, 0, 0, [])],
  fdX8, [(168, fX8_needReader, 2, 8, 1), (154, fX8_needWhat, 2, 2000, 1), (212, fX8_holds, 2, 2000, 0), (251, fX8_bindingPays, 4, 8, 0)], [], [], [], 0)
noncomputable def fX8_bind : aMF := a_fn none shp pX8_bind 8 3
set_option maxRecDepth 20000 in
theorem wkX8_bindingPays : ∀ w ∈ [Cond.code yX8_bindingPays cX8_bindingPays 6 (some .int), .initialized yX8_bindingPays.cls, .instanceMethod yX8_bindingPays, .selects yX8_bindingPays.cls yX8_bindingPays yX8_bindingPays], w ∈ lw_g := a_ps [1066, 96, 1065, 48] rfl rfl
theorem hdX8_bindingPays : yX8_bindingPays.cls ≠ "java/lang/invoke/MethodHandle" ∧ yX8_bindingPays.cls ≠ "java/lang/invoke/VarHandle" ∧ (parseMethodDescriptor yX8_bindingPays.desc).map (fun d => d.parameters.length) = some 3 := by decide +kernel
set_option maxRecDepth 20000 in
theorem lkX8_251 : Cond.methodLink RX8 251 yX8_bindingPays ∈ lw_g := a_p1 1063 rfl rfl
set_option maxRecDepth 20000 in
theorem kX8_bind {l : Launch} {G : aG} (hZ : a_Z l G) : a_Con l G shp yX8_bind (.code yX8_bind cX8_bind 8 (some .int)) 7 154 fX8_bind :=
  a_mth none hZ.1 hZ.2.1 shp_len (fun _ h => nomatch h) hZ.2.2.1 (by decide +kernel) rfl (foX8 rfl) (a_cok_of trivial) (b_code [42,27,182,0,168,28,5,184,0,154,2,62,3,54,4,3,54,5,21,5,42,180,0,23,180,0,122,162,0,103,21,5,4,96,54,6,21,6,42,180,0,23,180,0,122,162,0,79,42,180,0,38,180,0,128,27,46,21,5,184,0,212,153,0,56,42,180,0,38,180,0,128,27,46,21,6,184,0,212,153,0,39,42,27,21,5,21,6,182,0,251,54,7,29,2,159,0,10,21,7,21,4,164,0,16,16,16,21,5,104,21,6,96,62,21,7,54,4,132,6,1,167,255,171,132,5,1,167,255,147,28,154,0,7,29,167,0,5,21,4,172] [] (by decide +kernel) (by decide +kernel) (by decide +kernel) (by decide +kernel)) rfl rfl (trivial) (⟨a_CQ_v hZ.2.1 (kX8_needReader hZ) lkX8_168 (a_CF_v TX8 15 wkX8_needReader lkX8_168 hdX8_needReader ⟨by decide, by decide⟩ rfl) rfl rfl,
    ⟨a_CQ_s hZ.2.1 (kX8_needWhat hZ) lkX8_154 (a_CF_s wkX8_needWhat lkX8_154 hdX8_needWhat) rfl rfl,
    ⟨a_CQ_s hZ.2.1 (kX8_holds hZ) lkX8_212 (a_CF_s wkX8_holds lkX8_212 hdX8_holds) rfl rfl,
    ⟨a_CQ_v hZ.2.1 (kX8_bindingPays hZ) lkX8_251 (a_CF_v TX8 15 wkX8_bindingPays lkX8_251 hdX8_bindingPays ⟨by decide, by decide⟩ rfl) rfl rfl,
    trivial⟩⟩⟩⟩)
noncomputable def pX8_readersAbleWith : aPrg := ([(0, .iconst 0, 0, 0, []),
  (1, .istore_n 2, 0, 0, []),
  (2, .iconst 0, 0, 0, []),
  (3, .istore_n 3, 0, 0, []),
  (4, .iload_n 3, 0, 0, []),
  (5, .aload_n 0, 0, 0, []),
  (6, .getfield 23, 0, 0, []),
  (9, .getfield 125, 0, 0, []),
  (12, .if_icmp .ge 23, 0, 35, []),
  (15, .aload_n 0, 0, 0, []),
  (16, .getfield 70, 0, 0, []),
  (19, .iload_n 3, 0, 0, []),
  (20, .iaload, 0, 0, []),
  (21, .iload_n 1, 0, 0, []),
  (22, .iand, 0, 0, []),
  (23, .ifCond .eq 6, 0, 29, []),
  (26, .iinc 2 1, 1, 0, []),
  (29, .iinc 3 1, 1, 0, []),
  (32, .goto (-28), 0, 4, []),
  (35, .iload_n 2, 0, 0, []),
  (36, .ireturn, 0, 0, [])],
  fdX8, [], [], [], [], 0)
noncomputable def fX8_readersAbleWith : aMF := a_fn none shp pX8_readersAbleWith 4 2
set_option maxRecDepth 20000 in
theorem kX8_readersAbleWith {l : Launch} {G : aG} (hZ : a_Z l G) : a_Con l G shp yX8_readersAbleWith (.code yX8_readersAbleWith cX8_readersAbleWith 4 (some .int)) 1 16 fX8_readersAbleWith :=
  a_mth none hZ.1 hZ.2.1 shp_len (fun _ h => nomatch h) hZ.2.2.1 (by decide +kernel) rfl (foX8 rfl) (a_cok_of trivial) (b_code [3,61,3,62,29,42,180,0,23,180,0,125,162,0,23,42,180,0,70,29,46,27,126,153,0,6,132,2,1,132,3,1,167,255,228,28,172] [] (by decide +kernel) (by decide +kernel) (by decide +kernel) (by decide +kernel)) rfl rfl (trivial) (trivial)
noncomputable def pX8_fire : aPrg := ([(0, .iload_n 1, 0, 0, []),
  (1, .ifCond .lt 9, 0, 10, []),
  (4, .iload_n 1, 0, 0, []),
  (5, .bipush 12, 12, 0, []),
  (7, .if_icmp .le 13, 0, 20, []),
  (10, .new 85, 0, 0, []),
  (20, .aload_n 0, 0, 0, []),
  (21, .getfield 38, 0, 0, []),
  (24, .getfield 128, 0, 0, []),
  (27, .iconst 5, 5, 0, []),
  (28, .iaload, 0, 0, []),
  (29, .istore_n 2, 0, 0, []),
  (30, .iload_n 1, 0, 0, []),
  (31, .iload_n 2, 0, 0, []),
  (32, .invokestatic 246, 0, 0, []),
  (35, .invokestatic 256, 0, 0, []),
  (38, .istore_n 3, 0, 0, []),
  (39, .iconst 0, 0, 0, []),
  (40, .istore 4, 0, 0, []),
  (42, .iload 4, 0, 0, []),
  (44, .aload_n 0, 0, 0, []),
  (45, .getfield 23, 0, 0, []),
  (48, .getfield 125, 0, 0, []),
  (51, .if_icmp .ge 33, 0, 84, []),
  (54, .aload_n 0, 0, 0, []),
  (55, .getfield 70, 0, 0, []),
  (58, .iload 4, 0, 0, []),
  (60, .aload_n 0, 0, 0, []),
  (61, .getfield 23, 0, 0, []),
  (64, .aload_n 0, 0, 0, []),
  (65, .getfield 38, 0, 0, []),
  (68, .getfield 128, 0, 0, []),
  (71, .iload 4, 0, 0, []),
  (73, .iaload, 0, 0, []),
  (74, .invokevirtual 261, 0, 0, []),
  (77, .iastore, 0, 0, []),
  (78, .iinc 4 1, 1, 0, []),
  (81, .goto (-39), 0, 42, []),
  (84, .iconst 0, 0, 0, []),
  (85, .istore 4, 0, 0, []),
  (87, .iconst (-1), (-1), 0, []),
  (88, .istore 5, 0, 0, []),
  (90, .iconst 0, 0, 0, []),
  (91, .istore 6, 0, 0, []),
  (93, .iload 6, 0, 0, []),
  (95, .iload_n 2, 0, 0, []),
  (96, .if_icmp .gt 50, 0, 146, []),
  (99, .iload 6, 0, 0, []),
  (101, .iload_n 2, 0, 0, []),
  (102, .iconst (-1), (-1), 0, []),
  (103, .ixor, 0, 0, []),
  (104, .iand, 0, 0, []),
  (105, .ifCond .ne 35, 0, 140, []),
  (108, .iload 6, 0, 0, []),
  (110, .invokestatic 246, 0, 0, []),
  (113, .iload_n 3, 0, 0, []),
  (114, .if_icmp .ne 26, 0, 140, []),
  (117, .aload_n 0, 0, 0, []),
  (118, .iload 6, 0, 0, []),
  (120, .invokevirtual 264, 0, 0, []),
  (123, .istore 7, 0, 0, []),
  (125, .iload 7, 0, 0, []),
  (127, .iload 5, 0, 0, []),
  (129, .if_icmp .le 11, 0, 140, []),
  (132, .iload 7, 0, 0, []),
  (134, .istore 5, 0, 0, []),
  (136, .iload 6, 0, 0, []),
  (138, .istore 4, 0, 0, []),
  (140, .iinc 6 1, 1, 0, []),
  (143, .goto (-50), 0, 93, []),
  (146, .iload 4, 0, 0, []),
  (148, .ireturn, 0, 0, [])],
  fdX8, [(246, fJ6_bitCount_0f7a4, 1, 2000, 0), (256, fJ9_min_7cf53, 2, 2000, 0), (261, fX6_takeableFor, 2, 6, 0), (264, fX8_readersAbleWith, 2, 8, 0)], [], [], [(10, 1)], 0)
noncomputable def fX8_fire : aMF := a_fn none shp pX8_fire 8 2
theorem tkX8_fire_10 {l : Launch} {G : aG} (hZ : a_Z l G) : a_tok G RX8 cX8_fire 6 90 10 1 :=
  a_tok_s (own := RX8) (cc := cX8_fire) (ik := 85) (is := 254) (ic := 89) (ix := 7) (rx := prog_16_method_2_code) (sa := g_ad G 1023) (text := "a fire leaves 0 to 12 books") rxX1 (by decide) ⟨by decide +kernel, by decide +kernel⟩ ⟨by decide +kernel, by decide +kernel, by decide +kernel⟩ clX1 inX1 (z_23 hZ) atX1 rfl rfl
set_option maxRecDepth 20000 in
theorem lkX8_256 : Cond.methodLink RX8 256 yJ9_min_7cf53 ∈ lw_g := a_p1 1079 rfl rfl
set_option maxRecDepth 20000 in
theorem wkX8_readersAbleWith : ∀ w ∈ [Cond.code yX8_readersAbleWith cX8_readersAbleWith 4 (some .int), .initialized yX8_readersAbleWith.cls, .instanceMethod yX8_readersAbleWith, .selects yX8_readersAbleWith.cls yX8_readersAbleWith yX8_readersAbleWith], w ∈ lw_g := a_ps [1083, 96, 1082, 49] rfl rfl
theorem hdX8_readersAbleWith : yX8_readersAbleWith.cls ≠ "java/lang/invoke/MethodHandle" ∧ yX8_readersAbleWith.cls ≠ "java/lang/invoke/VarHandle" ∧ (parseMethodDescriptor yX8_readersAbleWith.desc).map (fun d => d.parameters.length) = some 1 := by decide +kernel
set_option maxRecDepth 20000 in
theorem lkX8_264 : Cond.methodLink RX8 264 yX8_readersAbleWith ∈ lw_g := a_p1 1080 rfl rfl
set_option maxRecDepth 20000 in
theorem kX8_fire {l : Launch} {G : aG} (hZ : a_Z l G) : a_Con l G shp yX8_fire (.code yX8_fire cX8_fire 8 (some .int)) 6 90 fX8_fire :=
  a_mth none hZ.1 hZ.2.1 shp_len (fun _ h => nomatch h) hZ.2.2.1 (by decide +kernel) rfl (foX8 rfl) (a_cok_of trivial) (b_code [27,155,0,9,27,16,12,164,0,13,187,0,85,89,18,254,183,0,89,191,42,180,0,38,180,0,128,8,46,61,27,28,184,0,246,184,1,0,62,3,54,4,21,4,42,180,0,23,180,0,125,162,0,33,42,180,0,70,21,4,42,180,0,23,42,180,0,38,180,0,128,21,4,46,182,1,5,79,132,4,1,167,255,217,3,54,4,2,54,5,3,54,6,21,6,28,163,0,50,21,6,28,2,130,126,154,0,35,21,6,184,0,246,29,160,0,26,42,21,6,182,1,8,54,7,21,7,21,5,164,0,11,21,7,54,5,21,6,54,4,132,6,1,167,255,206,21,4,172] [] (by decide +kernel) (by decide +kernel) (by decide +kernel) (by decide +kernel)) rfl rfl (⟨tkX8_fire_10 hZ, trivial⟩) (⟨a_CQ_s hZ.2.1 (kJ6_bitCount_0f7a4 hZ) lkX8_246 (a_CF_s wkJ6_bitCount_0f7a4 lkX8_246 hdJ6_bitCount_0f7a4) rfl rfl,
    ⟨a_CQ_s hZ.2.1 (kJ9_min_7cf53 hZ) lkX8_256 (a_CF_s wkJ9_min_7cf53 lkX8_256 hdJ9_min_7cf53) rfl rfl,
    ⟨a_CQ_v hZ.2.1 (kX6_takeableFor hZ) lkX8_261 (a_CF_v TX6 9 wkX6_takeableFor lkX8_261 hdX6_takeableFor ⟨by decide, by decide⟩ rfl) rfl rfl,
    ⟨a_CQ_v hZ.2.1 (kX8_readersAbleWith hZ) lkX8_264 (a_CF_v TX8 15 wkX8_readersAbleWith lkX8_264 hdX8_readersAbleWith ⟨by decide, by decide⟩ rfl) rfl rfl,
    trivial⟩⟩⟩⟩)
noncomputable def pX8_event : aPrg := ([(0, .aload_n 0, 0, 0, []),
  (1, .iload_n 1, 0, 0, []),
  (2, .invokevirtual 190, 0, 0, []),
  (5, .ifCond .eq 23, 0, 28, []),
  (8, .aload_n 0, 0, 0, []),
  (9, .iload_n 2, 0, 0, []),
  (10, .invokevirtual 194, 0, 0, []),
  (13, .ifCond .eq 15, 0, 28, []),
  (16, .aload_n 0, 0, 0, []),
  (17, .iload_n 3, 0, 0, []),
  (18, .invokevirtual 194, 0, 0, []),
  (21, .ifCond .eq 7, 0, 28, []),
  (24, .iconst 1, 1, 0, []),
  (25, .goto 4, 0, 29, []),
  (28, .iconst 0, 0, 0, []),
  (29, .istore 4, 0, 0, []),
  (31, .iload 4, 0, 0, []),
  (33, .ifCond .eq 20, 0, 53, []),
  (36, .iload_n 2, 0, 0, []),
  (37, .iload_n 3, 0, 0, []),
  (38, .if_icmp .eq 15, 0, 53, []),
  (41, .aload_n 0, 0, 0, []),
  (42, .getfield 38, 0, 0, []),
  (45, .getfield 137, 0, 0, []),
  (48, .bipush 8, 8, 0, []),
  (50, .if_icmp .lt 15, 0, 65, []),
  (53, .aload_n 0, 0, 0, []),
  (54, .dup, 0, 0, []),
  (55, .getfield 143, 0, 0, []),
  (58, .iconst 1, 1, 0, []),
  (59, .iadd, 0, 0, []),
  (60, .putfield 143, 0, 0, []),
  (63, .iconst (-1), (-1), 0, []),
  (64, .ireturn, 0, 0, []),
  (65, .aload_n 0, 0, 0, []),
  (66, .getfield 38, 0, 0, []),
  (69, .iload_n 1, 0, 0, []),
  (70, .iload_n 2, 0, 0, []),
  (71, .iload_n 3, 0, 0, []),
  (72, .invokevirtual 267, 0, 0, []),
  (75, .aload_n 0, 0, 0, []),
  (76, .getfield 38, 0, 0, []),
  (79, .getfield 137, 0, 0, []),
  (82, .ireturn, 0, 0, [])],
  fdX8, [(190, fX8_isReader, 2, 8, 0), (194, fX8_isBook, 2, 8, 0), (267, fX4_writeEvent, 4, 4, 1)], [], [], [], 0)
noncomputable def fX8_event : aMF := a_fn none shp pX8_event 5 4
set_option maxRecDepth 20000 in
theorem wkX4_writeEvent : ∀ w ∈ [Cond.code yX4_writeEvent cX4_writeEvent 5 none, .initialized yX4_writeEvent.cls, .instanceMethod yX4_writeEvent, .selects yX4_writeEvent.cls yX4_writeEvent yX4_writeEvent], w ∈ lw_g := a_ps [515, 101, 513, 514] rfl rfl
theorem hdX4_writeEvent : yX4_writeEvent.cls ≠ "java/lang/invoke/MethodHandle" ∧ yX4_writeEvent.cls ≠ "java/lang/invoke/VarHandle" ∧ (parseMethodDescriptor yX4_writeEvent.desc).map (fun d => d.parameters.length) = some 3 := by decide +kernel
set_option maxRecDepth 20000 in
theorem lkX8_267 : Cond.methodLink RX8 267 yX4_writeEvent ∈ lw_g := a_p1 512 rfl rfl
set_option maxRecDepth 20000 in
theorem kX8_event {l : Launch} {G : aG} (hZ : a_Z l G) : a_Con l G shp yX8_event (.code yX8_event cX8_event 5 (some .int)) 2 40 fX8_event :=
  a_mth none hZ.1 hZ.2.1 shp_len (fun _ h => nomatch h) hZ.2.2.1 (by decide +kernel) rfl (foX8 rfl) (a_cok_of trivial) (b_code [42,27,182,0,190,153,0,23,42,28,182,0,194,153,0,15,42,29,182,0,194,153,0,7,4,167,0,4,3,54,4,21,4,153,0,20,28,29,159,0,15,42,180,0,38,180,0,137,16,8,161,0,15,42,89,180,0,143,4,96,181,0,143,2,172,42,180,0,38,27,28,29,182,1,11,42,180,0,38,180,0,137,172] [] (by decide +kernel) (by decide +kernel) (by decide +kernel) (by decide +kernel)) rfl rfl (trivial) (⟨a_CQ_v hZ.2.1 (kX8_isReader hZ) lkX8_190 (a_CF_v TX8 15 wkX8_isReader lkX8_190 hdX8_isReader ⟨by decide, by decide⟩ rfl) rfl rfl,
    ⟨a_CQ_v hZ.2.1 (kX8_isBook hZ) lkX8_194 (a_CF_v TX8 15 wkX8_isBook lkX8_194 hdX8_isBook ⟨by decide, by decide⟩ rfl) rfl rfl,
    ⟨a_CQ_v hZ.2.1 (kX4_writeEvent hZ) lkX8_267 (a_CF_v TX4 5 wkX4_writeEvent lkX8_267 hdX4_writeEvent ⟨by decide, by decide⟩ rfl) rfl rfl,
    trivial⟩⟩⟩)
end
section
/-! ===== programs and contracts, written by wip/whole/gen.py ===== -/
noncomputable def pX8_forget : aPrg := ([(0, .aload_n 0, 0, 0, []),
  (1, .getfield 38, 0, 0, []),
  (4, .getfield 137, 0, 0, []),
  (7, .ifCond .ne 5, 0, 12, []),
  (10, .iconst (-1), (-1), 0, []),
  (11, .ireturn, 0, 0, []),
  (12, .aload_n 0, 0, 0, []),
  (13, .getfield 38, 0, 0, []),
  (16, .dup, 0, 0, []),
  (17, .getfield 137, 0, 0, []),
  (20, .iconst 1, 1, 0, []),
  (21, .isub, 0, 0, []),
  (22, .putfield 137, 0, 0, []),
  (25, .aload_n 0, 0, 0, []),
  (26, .getfield 38, 0, 0, []),
  (29, .getfield 137, 0, 0, []),
  (32, .ireturn, 0, 0, [])],
  fdX8, [], [], [], [], 0)
noncomputable def fX8_forget : aMF := a_fn none shp pX8_forget 1 1
set_option maxRecDepth 20000 in
theorem kX8_forget {l : Launch} {G : aG} (hZ : a_Z l G) : a_Con l G shp yX8_forget (.code yX8_forget cX8_forget 1 (some .int)) 1 16 fX8_forget :=
  a_mth none hZ.1 hZ.2.1 shp_len (fun _ h => nomatch h) hZ.2.2.1 (by decide +kernel) rfl (foX8 rfl) (a_cok_of trivial) (b_code [42,180,0,38,180,0,137,154,0,5,2,172,42,180,0,38,89,180,0,137,4,100,181,0,137,42,180,0,38,180,0,137,172] [] (by decide +kernel) (by decide +kernel) (by decide +kernel) (by decide +kernel)) rfl rfl (trivial) (trivial)
noncomputable def pX8_orders : aPrg := ([(0, .aload_n 0, 0, 0, []),
  (1, .getfield 66, 0, 0, []),
  (4, .invokevirtual 271, 0, 0, []),
  (7, .ireturn, 0, 0, [])],
  fdX8, [(271, fX0_ordersOfAll, 1, 0, 0)], [], [], [], 0)
noncomputable def fX8_orders : aMF := a_fn none shp pX8_orders 1 1
set_option maxRecDepth 20000 in
theorem wkX0_ordersOfAll : ∀ w ∈ [Cond.code yX0_ordersOfAll cX0_ordersOfAll 2 (some .int), .initialized yX0_ordersOfAll.cls, .instanceMethod yX0_ordersOfAll, .selects yX0_ordersOfAll.cls yX0_ordersOfAll yX0_ordersOfAll], w ∈ lw_g := a_ps [527, 104, 525, 526] rfl rfl
theorem hdX0_ordersOfAll : yX0_ordersOfAll.cls ≠ "java/lang/invoke/MethodHandle" ∧ yX0_ordersOfAll.cls ≠ "java/lang/invoke/VarHandle" ∧ (parseMethodDescriptor yX0_ordersOfAll.desc).map (fun d => d.parameters.length) = some 0 := by decide +kernel
set_option maxRecDepth 20000 in
theorem lkX8_271 : Cond.methodLink RX8 271 yX0_ordersOfAll ∈ lw_g := a_p1 524 rfl rfl
set_option maxRecDepth 20000 in
theorem kX8_orders {l : Launch} {G : aG} (hZ : a_Z l G) : a_Con l G shp yX8_orders (.code yX8_orders cX8_orders 1 (some .int)) 6 128 fX8_orders :=
  a_mth none hZ.1 hZ.2.1 shp_len (fun _ h => nomatch h) hZ.2.2.1 (by decide +kernel) rfl (foX8 rfl) (a_cok_of trivial) (b_code [42,180,0,66,182,1,15,172] [] (by decide +kernel) (by decide +kernel) (by decide +kernel) (by decide +kernel)) rfl rfl (trivial) (⟨a_CQ_v hZ.2.1 (kX0_ordersOfAll hZ) lkX8_271 (a_CF_v TX0 5 wkX0_ordersOfAll lkX8_271 hdX0_ordersOfAll ⟨by decide, by decide⟩ rfl) rfl rfl,
    trivial⟩)
noncomputable def pX8_there : aPrg := ([(0, .aload_n 0, 0, 0, []),
  (1, .iload_n 1, 0, 0, []),
  (2, .invokevirtual 151, 0, 0, []),
  (5, .iload_n 2, 0, 0, []),
  (6, .ifCond .lt 14, 0, 20, []),
  (9, .iload_n 2, 0, 0, []),
  (10, .aload_n 0, 0, 0, []),
  (11, .getfield 38, 0, 0, []),
  (14, .getfield 137, 0, 0, []),
  (17, .if_icmp .le 14, 0, 31, []),
  (20, .new 85, 0, 0, []),
  (31, .aload_n 0, 0, 0, []),
  (32, .getfield 66, 0, 0, []),
  (35, .iload_n 1, 0, 0, []),
  (36, .iload_n 2, 0, 0, []),
  (37, .invokevirtual 277, 0, 0, []),
  (40, .ireturn, 0, 0, [])],
  fdX8, [(151, fX8_needBook, 2, 8, 1), (277, fX0_ordersWith, 3, 0, 0)], [], [], [(20, 1)], 0)
noncomputable def fX8_there : aMF := a_fn none shp pX8_there 3 3
theorem tkX8_there_20 {l : Launch} {G : aG} (hZ : a_Z l G) : a_tok G RX8 cX8_there 7 132 20 1 :=
  a_tok_w (own := RX8) (cc := cX8_there) (ik := 85) (is := 275) (ic := 89) (ix := 7) (rx := prog_16_method_2_code) (sa := g_ad G 1024) (text := "there are not so many events") rxX1 (by decide) ⟨by decide +kernel, by decide +kernel⟩ ⟨by decide +kernel, by decide +kernel, by decide +kernel⟩ clX1 inX1 (z_24 hZ) atX1 rfl rfl
set_option maxRecDepth 20000 in
theorem wkX0_ordersWith : ∀ w ∈ [Cond.code yX0_ordersWith cX0_ordersWith 6 (some .int), .initialized yX0_ordersWith.cls, .instanceMethod yX0_ordersWith, .selects yX0_ordersWith.cls yX0_ordersWith yX0_ordersWith], w ∈ lw_g := a_ps [1095, 104, 1093, 1094] rfl rfl
theorem hdX0_ordersWith : yX0_ordersWith.cls ≠ "java/lang/invoke/MethodHandle" ∧ yX0_ordersWith.cls ≠ "java/lang/invoke/VarHandle" ∧ (parseMethodDescriptor yX0_ordersWith.desc).map (fun d => d.parameters.length) = some 2 := by decide +kernel
set_option maxRecDepth 20000 in
theorem lkX8_277 : Cond.methodLink RX8 277 yX0_ordersWith ∈ lw_g := a_p1 1092 rfl rfl
set_option maxRecDepth 20000 in
theorem kX8_there {l : Launch} {G : aG} (hZ : a_Z l G) : a_Con l G shp yX8_there (.code yX8_there cX8_there 3 (some .int)) 7 132 fX8_there :=
  a_mth none hZ.1 hZ.2.1 shp_len (fun _ h => nomatch h) hZ.2.2.1 (by decide +kernel) rfl (foX8 rfl) (a_cok_of trivial) (b_code [42,27,182,0,151,28,155,0,14,28,42,180,0,38,180,0,137,164,0,14,187,0,85,89,19,1,19,183,0,89,191,42,180,0,66,27,28,182,1,21,172] [] (by decide +kernel) (by decide +kernel) (by decide +kernel) (by decide +kernel)) rfl rfl (⟨tkX8_there_20 hZ, trivial⟩) (⟨a_CQ_v hZ.2.1 (kX8_needBook hZ) lkX8_151 (a_CF_v TX8 15 wkX8_needBook lkX8_151 hdX8_needBook ⟨by decide, by decide⟩ rfl) rfl rfl,
    ⟨a_CQ_v hZ.2.1 (kX0_ordersWith hZ) lkX8_277 (a_CF_v TX0 5 wkX0_ordersWith lkX8_277 hdX0_ordersWith ⟨by decide, by decide⟩ rfl) rfl rfl,
    trivial⟩⟩)
noncomputable def pX8_knot : aPrg := ([(0, .aload_n 0, 0, 0, []),
  (1, .getfield 66, 0, 0, []),
  (4, .invokevirtual 280, 0, 0, []),
  (7, .ireturn, 0, 0, [])],
  fdX8, [(280, fX0_smallestKnot, 1, 0, 0)], [], [], [], 0)
noncomputable def fX8_knot : aMF := a_fn none shp pX8_knot 1 1
set_option maxRecDepth 20000 in
theorem wkX0_smallestKnot : ∀ w ∈ [Cond.code yX0_smallestKnot cX0_smallestKnot 5 (some .int), .initialized yX0_smallestKnot.cls, .instanceMethod yX0_smallestKnot, .selects yX0_smallestKnot.cls yX0_smallestKnot yX0_smallestKnot], w ∈ lw_g := a_ps [557, 104, 555, 556] rfl rfl
theorem hdX0_smallestKnot : yX0_smallestKnot.cls ≠ "java/lang/invoke/MethodHandle" ∧ yX0_smallestKnot.cls ≠ "java/lang/invoke/VarHandle" ∧ (parseMethodDescriptor yX0_smallestKnot.desc).map (fun d => d.parameters.length) = some 0 := by decide +kernel
set_option maxRecDepth 20000 in
theorem lkX8_280 : Cond.methodLink RX8 280 yX0_smallestKnot ∈ lw_g := a_p1 554 rfl rfl
set_option maxRecDepth 20000 in
theorem kX8_knot {l : Launch} {G : aG} (hZ : a_Z l G) : a_Con l G shp yX8_knot (.code yX8_knot cX8_knot 1 (some .int)) 6 131 fX8_knot :=
  a_mth none hZ.1 hZ.2.1 shp_len (fun _ h => nomatch h) hZ.2.2.1 (by decide +kernel) rfl (foX8 rfl) (a_cok_of trivial) (b_code [42,180,0,66,182,1,24,172] [] (by decide +kernel) (by decide +kernel) (by decide +kernel) (by decide +kernel)) rfl rfl (trivial) (⟨a_CQ_v hZ.2.1 (kX0_smallestKnot hZ) lkX8_280 (a_CF_v TX0 5 wkX0_smallestKnot lkX8_280 hdX0_smallestKnot ⟨by decide, by decide⟩ rfl) rfl rfl,
    trivial⟩)
noncomputable def pX8_hands : aPrg := ([(0, .aload_n 0, 0, 0, []),
  (1, .iload_n 1, 0, 0, []),
  (2, .invokevirtual 151, 0, 0, []),
  (5, .iload_n 2, 0, 0, []),
  (6, .iconst (-1), (-1), 0, []),
  (7, .if_icmp .ne 14, 0, 21, []),
  (10, .iconst 1, 1, 0, []),
  (11, .aload_n 0, 0, 0, []),
  (12, .getfield 38, 0, 0, []),
  (15, .iload_n 1, 0, 0, []),
  (16, .invokevirtual 283, 0, 0, []),
  (19, .iadd, 0, 0, []),
  (20, .ireturn, 0, 0, []),
  (21, .iload_n 2, 0, 0, []),
  (22, .ifCond .lt 15, 0, 37, []),
  (25, .iload_n 2, 0, 0, []),
  (26, .aload_n 0, 0, 0, []),
  (27, .getfield 38, 0, 0, []),
  (30, .iload_n 1, 0, 0, []),
  (31, .invokevirtual 283, 0, 0, []),
  (34, .if_icmp .le 14, 0, 48, []),
  (37, .new 146, 0, 0, []),
  (48, .iload_n 2, 0, 0, []),
  (49, .ifCond .ne 17, 0, 66, []),
  (52, .aload_n 0, 0, 0, []),
  (53, .getfield 23, 0, 0, []),
  (56, .getfield 108, 0, 0, []),
  (59, .iload_n 1, 0, 0, []),
  (60, .invokestatic 164, 0, 0, []),
  (63, .goto 12, 0, 75, []),
  (66, .aload_n 0, 0, 0, []),
  (67, .getfield 38, 0, 0, []),
  (70, .iload_n 1, 0, 0, []),
  (71, .iload_n 2, 0, 0, []),
  (72, .invokevirtual 288, 0, 0, []),
  (75, .ireturn, 0, 0, [])],
  fdX8, [(151, fX8_needBook, 2, 8, 1), (283, fX4_changesOf, 2, 4, 0), (164, fX8_placeOf, 2, 2000, 0), (288, fX4_placeAfterChange, 3, 4, 0)], [], [], [(37, 0)], 0)
noncomputable def fX8_hands : aMF := a_fn none shp pX8_hands 3 3
theorem tkX8_hands_37 {l : Launch} {G : aG} (hZ : a_Z l G) : a_tok G RX8 cX8_hands 7 111 37 0 :=
  a_tok_w (own := RX8) (cc := cX8_hands) (ik := 146) (is := 286) (ic := 150) (ix := 13) (rx := prog_28_method_4_code) (sa := g_ad G 1025) (text := "it went through fewer hands") rxX0 (by decide) ⟨by decide +kernel, by decide +kernel⟩ ⟨by decide +kernel, by decide +kernel, by decide +kernel⟩ clX0 inX0 (z_25 hZ) atX0 rfl rfl
set_option maxRecDepth 20000 in
theorem wkX4_changesOf : ∀ w ∈ [Cond.code yX4_changesOf cX4_changesOf 4 (some .int), .initialized yX4_changesOf.cls, .instanceMethod yX4_changesOf, .selects yX4_changesOf.cls yX4_changesOf yX4_changesOf], w ∈ lw_g := a_ps [1111, 101, 1109, 1110] rfl rfl
theorem hdX4_changesOf : yX4_changesOf.cls ≠ "java/lang/invoke/MethodHandle" ∧ yX4_changesOf.cls ≠ "java/lang/invoke/VarHandle" ∧ (parseMethodDescriptor yX4_changesOf.desc).map (fun d => d.parameters.length) = some 1 := by decide +kernel
set_option maxRecDepth 20000 in
theorem lkX8_283 : Cond.methodLink RX8 283 yX4_changesOf ∈ lw_g := a_p1 1108 rfl rfl
set_option maxRecDepth 20000 in
theorem wkX4_placeAfterChange : ∀ w ∈ [Cond.code yX4_placeAfterChange cX4_placeAfterChange 6 (some .int), .initialized yX4_placeAfterChange.cls, .instanceMethod yX4_placeAfterChange, .selects yX4_placeAfterChange.cls yX4_placeAfterChange yX4_placeAfterChange], w ∈ lw_g := a_ps [1120, 101, 1118, 1119] rfl rfl
theorem hdX4_placeAfterChange : yX4_placeAfterChange.cls ≠ "java/lang/invoke/MethodHandle" ∧ yX4_placeAfterChange.cls ≠ "java/lang/invoke/VarHandle" ∧ (parseMethodDescriptor yX4_placeAfterChange.desc).map (fun d => d.parameters.length) = some 2 := by decide +kernel
set_option maxRecDepth 20000 in
theorem lkX8_288 : Cond.methodLink RX8 288 yX4_placeAfterChange ∈ lw_g := a_p1 1117 rfl rfl
set_option maxRecDepth 20000 in
theorem kX8_hands {l : Launch} {G : aG} (hZ : a_Z l G) : a_Con l G shp yX8_hands (.code yX8_hands cX8_hands 3 (some .int)) 7 111 fX8_hands :=
  a_mth none hZ.1 hZ.2.1 shp_len (fun _ h => nomatch h) hZ.2.2.1 (by decide +kernel) rfl (foX8 rfl) (a_cok_of trivial) (b_code [42,27,182,0,151,28,2,160,0,14,4,42,180,0,38,27,182,1,27,96,172,28,155,0,15,28,42,180,0,38,27,182,1,27,164,0,14,187,0,146,89,19,1,30,183,0,150,191,28,154,0,17,42,180,0,23,180,0,108,27,184,0,164,167,0,12,42,180,0,38,27,28,182,1,32,172] [] (by decide +kernel) (by decide +kernel) (by decide +kernel) (by decide +kernel)) rfl rfl (⟨tkX8_hands_37 hZ, trivial⟩) (⟨a_CQ_v hZ.2.1 (kX8_needBook hZ) lkX8_151 (a_CF_v TX8 15 wkX8_needBook lkX8_151 hdX8_needBook ⟨by decide, by decide⟩ rfl) rfl rfl,
    ⟨a_CQ_v hZ.2.1 (kX4_changesOf hZ) lkX8_283 (a_CF_v TX4 5 wkX4_changesOf lkX8_283 hdX4_changesOf ⟨by decide, by decide⟩ rfl) rfl rfl,
    ⟨a_CQ_s hZ.2.1 (kX8_placeOf hZ) lkX8_164 (a_CF_s wkX8_placeOf lkX8_164 hdX8_placeOf) rfl rfl,
    ⟨a_CQ_v hZ.2.1 (kX4_placeAfterChange hZ) lkX8_288 (a_CF_v TX4 5 wkX4_placeAfterChange lkX8_288 hdX4_placeAfterChange ⟨by decide, by decide⟩ rfl) rfl rfl,
    trivial⟩⟩⟩⟩)
noncomputable def pX8_image : aPrg := ([(0, .aload_n 0, 0, 0, []),
  (1, .getfield 42, 0, 0, []),
  (4, .aload_n 0, 0, 0, []),
  (5, .getfield 38, 0, 0, []),
  (8, .invokevirtual 291, 0, 0, []),
  (11, .aload_n 0, 0, 0, []),
  (12, .iconst 1, 1, 0, []),
  (13, .putfield 118, 0, 0, []),
  (16, .return_, 0, 0, [])],
  fdX8, [(291, fX4_take, 2, 4, 1)], [], [], [], 2)
noncomputable def fX8_image : aMF := a_fn none shp pX8_image 1 1
set_option maxRecDepth 20000 in
theorem wkX4_take : ∀ w ∈ [Cond.code yX4_take cX4_take 2 none, .initialized yX4_take.cls, .instanceMethod yX4_take, .selects yX4_take.cls yX4_take yX4_take], w ∈ lw_g := a_ps [571, 101, 569, 570] rfl rfl
theorem hdX4_take : yX4_take.cls ≠ "java/lang/invoke/MethodHandle" ∧ yX4_take.cls ≠ "java/lang/invoke/VarHandle" ∧ (parseMethodDescriptor yX4_take.desc).map (fun d => d.parameters.length) = some 1 := by decide +kernel
set_option maxRecDepth 20000 in
theorem lkX8_291 : Cond.methodLink RX8 291 yX4_take ∈ lw_g := a_p1 568 rfl rfl
set_option maxRecDepth 20000 in
theorem kX8_image {l : Launch} {G : aG} (hZ : a_Z l G) : a_Con l G shp yX8_image (.code yX8_image cX8_image 1 none) 3 81 fX8_image :=
  a_mth none hZ.1 hZ.2.1 shp_len (fun _ h => nomatch h) hZ.2.2.1 (by decide +kernel) rfl (foX8 rfl) (a_cok_of trivial) (b_code [42,180,0,42,42,180,0,38,182,1,35,42,4,181,0,118,177] [] (by decide +kernel) (by decide +kernel) (by decide +kernel) (by decide +kernel)) rfl rfl (trivial) (⟨a_CQ_v hZ.2.1 (kX4_take hZ) lkX8_291 (a_CF_v TX4 5 wkX4_take lkX8_291 hdX4_take ⟨by decide, by decide⟩ rfl) rfl rfl,
    trivial⟩)
noncomputable def pX8_restore : aPrg := ([(0, .aload_n 0, 0, 0, []),
  (1, .getfield 118, 0, 0, []),
  (4, .ifCond .eq 14, 0, 18, []),
  (7, .aload_n 0, 0, 0, []),
  (8, .getfield 38, 0, 0, []),
  (11, .aload_n 0, 0, 0, []),
  (12, .getfield 42, 0, 0, []),
  (15, .invokevirtual 291, 0, 0, []),
  (18, .aload_n 0, 0, 0, []),
  (19, .getfield 118, 0, 0, []),
  (22, .ireturn, 0, 0, [])],
  fdX8, [(291, fX4_take, 2, 4, 1)], [], [], [], 1)
noncomputable def fX8_restore : aMF := a_fn none shp pX8_restore 1 1
set_option maxRecDepth 20000 in
theorem kX8_restore {l : Launch} {G : aG} (hZ : a_Z l G) : a_Con l G shp yX8_restore (.code yX8_restore cX8_restore 1 (some .boolean)) 3 81 fX8_restore :=
  a_mth none hZ.1 hZ.2.1 shp_len (fun _ h => nomatch h) hZ.2.2.1 (by decide +kernel) rfl (foX8 rfl) (a_cok_of trivial) (b_code [42,180,0,118,153,0,14,42,180,0,38,42,180,0,42,182,1,35,42,180,0,118,172] [] (by decide +kernel) (by decide +kernel) (by decide +kernel) (by decide +kernel)) rfl rfl (trivial) (⟨a_CQ_v hZ.2.1 (kX4_take hZ) lkX8_291 (a_CF_v TX4 5 wkX4_take lkX8_291 hdX4_take ⟨by decide, by decide⟩ rfl) rfl rfl,
    trivial⟩)
noncomputable def pX9_thrown : aPrg := ([(0, .aload_n 0, 0, 0, []),
  (1, .getfield 105, 0, 0, []),
  (4, .ireturn, 0, 0, [])],
  fdX9, [], [], [], [], 0)
noncomputable def fX9_thrown : aMF := a_fn none shp pX9_thrown 1 1
set_option maxRecDepth 20000 in
theorem kX9_thrown {l : Launch} {G : aG} (hZ : a_Z l G) : a_Con l G shp yX9_thrown (.code yX9_thrown cX9_thrown 1 (some .int)) 1 16 fX9_thrown :=
  a_mth none hZ.1 hZ.2.1 shp_len (fun _ h => nomatch h) hZ.2.2.1 (by decide +kernel) rfl (foX9 rfl) (a_cok_of trivial) (b_code [42,180,0,105,172] [] (by decide +kernel) (by decide +kernel) (by decide +kernel) (by decide +kernel)) rfl rfl (trivial) (trivial)
noncomputable def pX9_right : aPrg := ([(0, .aload_n 0, 0, 0, []),
  (1, .getfield 105, 0, 0, []),
  (4, .ifCond .ne 12, 0, 16, []),
  (7, .iload_n 1, 0, 0, []),
  (8, .ifCond .ne 8, 0, 16, []),
  (11, .aload_n 0, 0, 0, []),
  (12, .iload_n 2, 0, 0, []),
  (13, .putfield 105, 0, 0, []),
  (16, .aload_n 0, 0, 0, []),
  (17, .getfield 105, 0, 0, []),
  (20, .ifCond .ne 7, 0, 27, []),
  (23, .iconst 1, 1, 0, []),
  (24, .goto 4, 0, 28, []),
  (27, .iconst 0, 0, 0, []),
  (28, .ireturn, 0, 0, [])],
  fdX9, [], [], [], [], 1)
noncomputable def fX9_right : aMF := a_fn none shp pX9_right 3 3
set_option maxRecDepth 20000 in
theorem kX9_right {l : Launch} {G : aG} (hZ : a_Z l G) : a_Con l G shp yX9_right (.code yX9_right cX9_right 3 (some .boolean)) 1 16 fX9_right :=
  a_mth none hZ.1 hZ.2.1 shp_len (fun _ h => nomatch h) hZ.2.2.1 (by decide +kernel) rfl (foX9 rfl) (a_cok_of trivial) (b_code [42,180,0,105,154,0,12,27,154,0,8,42,28,181,0,105,42,180,0,105,154,0,7,4,167,0,4,3,172] [] (by decide +kernel) (by decide +kernel) (by decide +kernel) (by decide +kernel)) rfl rfl (trivial) (trivial)
noncomputable def pX9_within : aPrg := ([(0, .iload_n 0, 0, 0, []),
  (1, .iload_n 1, 0, 0, []),
  (2, .if_icmp .lt 12, 0, 14, []),
  (5, .iload_n 0, 0, 0, []),
  (6, .iload_n 2, 0, 0, []),
  (7, .if_icmp .gt 7, 0, 14, []),
  (10, .iconst 1, 1, 0, []),
  (11, .goto 4, 0, 15, []),
  (14, .iconst 0, 0, 0, []),
  (15, .ireturn, 0, 0, [])],
  fdX9, [], [], [], [], 1)
noncomputable def fX9_within : aMF := a_fn none shp pX9_within 3 3
set_option maxRecDepth 20000 in
theorem kX9_within {l : Launch} {G : aG} (hZ : a_Z l G) : a_Con l G shp yX9_within (.code yX9_within cX9_within 3 (some .boolean)) 1 16 fX9_within :=
  a_mth none hZ.1 hZ.2.1 shp_len (fun _ h => nomatch h) hZ.2.2.1 (by decide +kernel) rfl (foX9 rfl) (a_cok_of trivial) (b_code [26,27,161,0,12,26,28,163,0,7,4,167,0,4,3,172] [] (by decide +kernel) (by decide +kernel) (by decide +kernel) (by decide +kernel)) rfl rfl (trivial) (trivial)
noncomputable def pX9_bits : aPrg := ([(0, .iconst 0, 0, 0, []),
  (1, .istore_n 1, 0, 0, []),
  (2, .iconst 0, 0, 0, []),
  (3, .istore_n 2, 0, 0, []),
  (4, .iload_n 2, 0, 0, []),
  (5, .bipush 12, 12, 0, []),
  (7, .if_icmp .ge 17, 0, 24, []),
  (10, .iload_n 1, 0, 0, []),
  (11, .iload_n 0, 0, 0, []),
  (12, .iload_n 2, 0, 0, []),
  (13, .ishr, 0, 0, []),
  (14, .iconst 1, 1, 0, []),
  (15, .iand, 0, 0, []),
  (16, .iadd, 0, 0, []),
  (17, .istore_n 1, 0, 0, []),
  (18, .iinc 2 1, 1, 0, []),
  (21, .goto (-17), 0, 4, []),
  (24, .iload_n 1, 0, 0, []),
  (25, .ireturn, 0, 0, [])],
  fdX9, [], [], [], [], 0)
noncomputable def fX9_bits : aMF := a_fn none shp pX9_bits 3 1
set_option maxRecDepth 20000 in
theorem kX9_bits {l : Launch} {G : aG} (hZ : a_Z l G) : a_Con l G shp yX9_bits (.code yX9_bits cX9_bits 3 (some .int)) 1 16 fX9_bits :=
  a_mth none hZ.1 hZ.2.1 shp_len (fun _ h => nomatch h) hZ.2.2.1 (by decide +kernel) rfl (foX9 rfl) (a_cok_of trivial) (b_code [3,60,3,61,28,16,12,162,0,17,27,26,28,122,4,126,96,60,132,2,1,167,255,239,27,172] [] (by decide +kernel) (by decide +kernel) (by decide +kernel) (by decide +kernel)) rfl rfl (trivial) (trivial)
noncomputable def pX9_copies : aPrg := ([(0, .iconst 0, 0, 0, []),
  (1, .istore_n 3, 0, 0, []),
  (2, .iload_n 3, 0, 0, []),
  (3, .aload_n 1, 0, 0, []),
  (4, .arraylength, 0, 0, []),
  (5, .if_icmp .ge 15, 0, 20, []),
  (8, .aload_n 2, 0, 0, []),
  (9, .iload_n 3, 0, 0, []),
  (10, .aload_n 1, 0, 0, []),
  (11, .iload_n 3, 0, 0, []),
  (12, .iaload, 0, 0, []),
  (13, .iastore, 0, 0, []),
  (14, .iinc 3 1, 1, 0, []),
  (17, .goto (-15), 0, 2, []),
  (20, .return_, 0, 0, [])],
  fdX9, [], [], [], [], 2)
noncomputable def fX9_copies : aMF := a_fn none shp pX9_copies 4 3
set_option maxRecDepth 20000 in
theorem kX9_copies {l : Launch} {G : aG} (hZ : a_Z l G) : a_Con l G shp yX9_copies (.code yX9_copies cX9_copies 4 none) 1 16 fX9_copies :=
  a_mth none hZ.1 hZ.2.1 shp_len (fun _ h => nomatch h) hZ.2.2.1 (by decide +kernel) rfl (foX9 rfl) (a_cok_of trivial) (b_code [3,62,29,43,190,162,0,15,44,29,43,29,46,79,132,3,1,167,255,241,177] [] (by decide +kernel) (by decide +kernel) (by decide +kernel) (by decide +kernel)) rfl rfl (trivial) (trivial)
noncomputable def pX9_lays : aPrg := ([(0, .bipush 24, 24, 0, []),
  (2, .istore_n 2, 0, 0, []),
  (3, .iload_n 2, 0, 0, []),
  (4, .ifCond .lt 35, 0, 39, []),
  (7, .aload_n 0, 0, 0, []),
  (8, .getfield 28, 0, 0, []),
  (11, .aload_n 0, 0, 0, []),
  (12, .getfield 108, 0, 0, []),
  (15, .iload_n 1, 0, 0, []),
  (16, .iload_n 2, 0, 0, []),
  (17, .ishr, 0, 0, []),
  (18, .sipush 255, 255, 0, []),
  (21, .iand, 0, 0, []),
  (22, .iastore, 0, 0, []),
  (23, .aload_n 0, 0, 0, []),
  (24, .dup, 0, 0, []),
  (25, .getfield 108, 0, 0, []),
  (28, .iconst 1, 1, 0, []),
  (29, .iadd, 0, 0, []),
  (30, .putfield 108, 0, 0, []),
  (33, .iinc 2 (-8), (-8), 0, []),
  (36, .goto (-33), 0, 3, []),
  (39, .return_, 0, 0, [])],
  fdX9, [], [], [], [], 2)
noncomputable def fX9_lays : aMF := a_fn none shp pX9_lays 3 2
set_option maxRecDepth 20000 in
theorem kX9_lays {l : Launch} {G : aG} (hZ : a_Z l G) : a_Con l G shp yX9_lays (.code yX9_lays cX9_lays 3 none) 1 16 fX9_lays :=
  a_mth none hZ.1 hZ.2.1 shp_len (fun _ h => nomatch h) hZ.2.2.1 (by decide +kernel) rfl (foX9 rfl) (a_cok_of trivial) (b_code [16,24,61,28,155,0,35,42,180,0,28,42,180,0,108,27,28,122,17,0,255,126,79,42,89,180,0,108,4,96,181,0,108,132,2,248,167,255,223,177] [] (by decide +kernel) (by decide +kernel) (by decide +kernel) (by decide +kernel)) rfl rfl (trivial) (trivial)
noncomputable def pX9_feed : aPrg := ([(0, .aload_n 0, 0, 0, []),
  (1, .iconst 0, 0, 0, []),
  (2, .putfield 105, 0, 0, []),
  (5, .aload_n 0, 0, 0, []),
  (6, .getfield 108, 0, 0, []),
  (9, .bipush 20, 20, 0, []),
  (11, .iadd, 0, 0, []),
  (12, .sipush 700, 700, 0, []),
  (15, .if_icmp .le 5, 0, 20, []),
  (18, .iconst (-1), (-1), 0, []),
  (19, .ireturn, 0, 0, []),
  (20, .aload_n 0, 0, 0, []),
  (21, .iload_n 1, 0, 0, []),
  (22, .invokevirtual 111, 0, 0, []),
  (25, .aload_n 0, 0, 0, []),
  (26, .iload_n 2, 0, 0, []),
  (27, .invokevirtual 111, 0, 0, []),
  (30, .aload_n 0, 0, 0, []),
  (31, .iload_n 3, 0, 0, []),
  (32, .invokevirtual 111, 0, 0, []),
  (35, .aload_n 0, 0, 0, []),
  (36, .iload 4, 0, 0, []),
  (38, .invokevirtual 111, 0, 0, []),
  (41, .aload_n 0, 0, 0, []),
  (42, .iload 5, 0, 0, []),
  (44, .invokevirtual 111, 0, 0, []),
  (47, .aload_n 0, 0, 0, []),
  (48, .getfield 108, 0, 0, []),
  (51, .ireturn, 0, 0, [])],
  fdX9, [(111, fX9_lays, 2, 9, 1)], [], [], [], 0)
noncomputable def fX9_feed : aMF := a_fn none shp pX9_feed 6 6
set_option maxRecDepth 20000 in
theorem wkX9_lays : ∀ w ∈ [Cond.code yX9_lays cX9_lays 3 none, .initialized yX9_lays.cls, .instanceMethod yX9_lays, .selects yX9_lays.cls yX9_lays yX9_lays], w ∈ lw_g := a_ps [1326, 105, 1325, 52] rfl rfl
theorem hdX9_lays : yX9_lays.cls ≠ "java/lang/invoke/MethodHandle" ∧ yX9_lays.cls ≠ "java/lang/invoke/VarHandle" ∧ (parseMethodDescriptor yX9_lays.desc).map (fun d => d.parameters.length) = some 1 := by decide +kernel
set_option maxRecDepth 20000 in
theorem lkX9_111 : Cond.methodLink RX9 111 yX9_lays ∈ lw_g := a_p1 1323 rfl rfl
set_option maxRecDepth 20000 in
theorem kX9_feed {l : Launch} {G : aG} (hZ : a_Z l G) : a_Con l G shp yX9_feed (.code yX9_feed cX9_feed 6 (some .int)) 2 38 fX9_feed :=
  a_mth none hZ.1 hZ.2.1 shp_len (fun _ h => nomatch h) hZ.2.2.1 (by decide +kernel) rfl (foX9 rfl) (a_cok_of trivial) (b_code [42,3,181,0,105,42,180,0,108,16,20,96,17,2,188,164,0,5,2,172,42,27,182,0,111,42,28,182,0,111,42,29,182,0,111,42,21,4,182,0,111,42,21,5,182,0,111,42,180,0,108,172] [] (by decide +kernel) (by decide +kernel) (by decide +kernel) (by decide +kernel)) rfl rfl (trivial) (⟨a_CQ_v hZ.2.1 (kX9_lays hZ) lkX9_111 (a_CF_v TX9 62 wkX9_lays lkX9_111 hdX9_lays ⟨by decide, by decide⟩ rfl) rfl rfl,
    trivial⟩)
noncomputable def pX9_byteAt : aPrg := ([(0, .iload_n 1, 0, 0, []),
  (1, .aload_n 0, 0, 0, []),
  (2, .getfield 115, 0, 0, []),
  (5, .if_icmp .ge 12, 0, 17, []),
  (8, .aload_n 0, 0, 0, []),
  (9, .getfield 28, 0, 0, []),
  (12, .iload_n 1, 0, 0, []),
  (13, .iaload, 0, 0, []),
  (14, .goto 4, 0, 18, []),
  (17, .iconst 0, 0, 0, []),
  (18, .ireturn, 0, 0, [])],
  fdX9, [], [], [], [], 0)
noncomputable def fX9_byteAt : aMF := a_fn none shp pX9_byteAt 2 2
set_option maxRecDepth 20000 in
theorem kX9_byteAt {l : Launch} {G : aG} (hZ : a_Z l G) : a_Con l G shp yX9_byteAt (.code yX9_byteAt cX9_byteAt 2 (some .int)) 1 16 fX9_byteAt :=
  a_mth none hZ.1 hZ.2.1 shp_len (fun _ h => nomatch h) hZ.2.2.1 (by decide +kernel) rfl (foX9 rfl) (a_cok_of trivial) (b_code [27,42,180,0,115,162,0,12,42,180,0,28,27,46,167,0,4,3,172] [] (by decide +kernel) (by decide +kernel) (by decide +kernel) (by decide +kernel)) rfl rfl (trivial) (trivial)
noncomputable def pX9_isLetter : aPrg := ([(0, .iload_n 0, 0, 0, []),
  (1, .bipush 97, 97, 0, []),
  (3, .if_icmp .lt 13, 0, 16, []),
  (6, .iload_n 0, 0, 0, []),
  (7, .bipush 122, 122, 0, []),
  (9, .if_icmp .gt 7, 0, 16, []),
  (12, .iconst 1, 1, 0, []),
  (13, .goto 4, 0, 17, []),
  (16, .iconst 0, 0, 0, []),
  (17, .ireturn, 0, 0, [])],
  fdX9, [], [], [], [], 1)
noncomputable def fX9_isLetter : aMF := a_fn none shp pX9_isLetter 1 1
set_option maxRecDepth 20000 in
theorem kX9_isLetter {l : Launch} {G : aG} (hZ : a_Z l G) : a_Con l G shp yX9_isLetter (.code yX9_isLetter cX9_isLetter 1 (some .boolean)) 1 16 fX9_isLetter :=
  a_mth none hZ.1 hZ.2.1 shp_len (fun _ h => nomatch h) hZ.2.2.1 (by decide +kernel) rfl (foX9 rfl) (a_cok_of trivial) (b_code [26,16,97,161,0,13,26,16,122,163,0,7,4,167,0,4,3,172] [] (by decide +kernel) (by decide +kernel) (by decide +kernel) (by decide +kernel)) rfl rfl (trivial) (trivial)
noncomputable def pX9_isDigit : aPrg := ([(0, .iload_n 0, 0, 0, []),
  (1, .bipush 48, 48, 0, []),
  (3, .if_icmp .lt 13, 0, 16, []),
  (6, .iload_n 0, 0, 0, []),
  (7, .bipush 57, 57, 0, []),
  (9, .if_icmp .gt 7, 0, 16, []),
  (12, .iconst 1, 1, 0, []),
  (13, .goto 4, 0, 17, []),
  (16, .iconst 0, 0, 0, []),
  (17, .ireturn, 0, 0, [])],
  fdX9, [], [], [], [], 1)
noncomputable def fX9_isDigit : aMF := a_fn none shp pX9_isDigit 1 1
set_option maxRecDepth 20000 in
theorem kX9_isDigit {l : Launch} {G : aG} (hZ : a_Z l G) : a_Con l G shp yX9_isDigit (.code yX9_isDigit cX9_isDigit 1 (some .boolean)) 1 16 fX9_isDigit :=
  a_mth none hZ.1 hZ.2.1 shp_len (fun _ h => nomatch h) hZ.2.2.1 (by decide +kernel) rfl (foX9 rfl) (a_cok_of trivial) (b_code [26,16,48,161,0,13,26,16,57,163,0,7,4,167,0,4,3,172] [] (by decide +kernel) (by decide +kernel) (by decide +kernel) (by decide +kernel)) rfl rfl (trivial) (trivial)
noncomputable def pX9_goes : aPrg := ([(0, .aload_n 0, 0, 0, []),
  (1, .getfield 118, 0, 0, []),
  (4, .aload_n 0, 0, 0, []),
  (5, .getfield 115, 0, 0, []),
  (8, .if_icmp .ge 42, 0, 50, []),
  (11, .aload_n 0, 0, 0, []),
  (12, .aload_n 0, 0, 0, []),
  (13, .getfield 118, 0, 0, []),
  (16, .invokevirtual 121, 0, 0, []),
  (19, .bipush 32, 32, 0, []),
  (21, .if_icmp .eq 16, 0, 37, []),
  (24, .aload_n 0, 0, 0, []),
  (25, .aload_n 0, 0, 0, []),
  (26, .getfield 118, 0, 0, []),
  (29, .invokevirtual 121, 0, 0, []),
  (32, .bipush 10, 10, 0, []),
  (34, .if_icmp .ne 16, 0, 50, []),
  (37, .aload_n 0, 0, 0, []),
  (38, .dup, 0, 0, []),
  (39, .getfield 118, 0, 0, []),
  (42, .iconst 1, 1, 0, []),
  (43, .iadd, 0, 0, []),
  (44, .putfield 118, 0, 0, []),
  (47, .goto (-47), 0, 0, []),
  (50, .aload_n 0, 0, 0, []),
  (51, .aload_n 0, 0, 0, []),
  (52, .getfield 118, 0, 0, []),
  (55, .putfield 125, 0, 0, []),
  (58, .aload_n 0, 0, 0, []),
  (59, .lconst 0, 0, 0, []),
  (60, .putfield 128, 0, 0, []),
  (63, .aload_n 0, 0, 0, []),
  (64, .iconst 0, 0, 0, []),
  (65, .putfield 132, 0, 0, []),
  (68, .aload_n 0, 0, 0, []),
  (69, .aload_n 0, 0, 0, []),
  (70, .getfield 118, 0, 0, []),
  (73, .invokevirtual 121, 0, 0, []),
  (76, .istore_n 1, 0, 0, []),
  (77, .aload_n 0, 0, 0, []),
  (78, .iload_n 1, 0, 0, []),
  (79, .putfield 135, 0, 0, []),
  (82, .aload_n 0, 0, 0, []),
  (83, .getfield 118, 0, 0, []),
  (86, .aload_n 0, 0, 0, []),
  (87, .getfield 115, 0, 0, []),
  (90, .if_icmp .lt 11, 0, 101, []),
  (93, .aload_n 0, 0, 0, []),
  (94, .iconst 0, 0, 0, []),
  (95, .putfield 138, 0, 0, []),
  (98, .goto 233, 0, 331, []),
  (101, .iload_n 1, 0, 0, []),
  (102, .invokestatic 141, 0, 0, []),
  (105, .ifCond .eq 75, 0, 180, []),
  (108, .aload_n 0, 0, 0, []),
  (109, .aload_n 0, 0, 0, []),
  (110, .getfield 118, 0, 0, []),
  (113, .invokevirtual 121, 0, 0, []),
  (116, .invokestatic 141, 0, 0, []),
  (119, .ifCond .eq 53, 0, 172, []),
  (122, .aload_n 0, 0, 0, []),
  (123, .getfield 118, 0, 0, []),
  (126, .aload_n 0, 0, 0, []),
  (127, .getfield 125, 0, 0, []),
  (130, .isub, 0, 0, []),
  (131, .bipush 6, 6, 0, []),
  (133, .if_icmp .ge 26, 0, 159, []),
  (136, .aload_n 0, 0, 0, []),
  (137, .aload_n 0, 0, 0, []),
  (138, .getfield 128, 0, 0, []),
  (141, .iconst 5, 5, 0, []),
  (142, .lshl, 0, 0, []),
  (143, .aload_n 0, 0, 0, []),
  (144, .aload_n 0, 0, 0, []),
  (145, .getfield 118, 0, 0, []),
  (148, .invokevirtual 121, 0, 0, []),
  (151, .bipush 96, 96, 0, []),
  (153, .isub, 0, 0, []),
  (154, .i2l, 0, 0, []),
  (155, .lor, 0, 0, []),
  (156, .putfield 128, 0, 0, []),
  (159, .aload_n 0, 0, 0, []),
  (160, .dup, 0, 0, []),
  (161, .getfield 118, 0, 0, []),
  (164, .iconst 1, 1, 0, []),
  (165, .iadd, 0, 0, []),
  (166, .putfield 118, 0, 0, []),
  (169, .goto (-61), 0, 108, []),
  (172, .aload_n 0, 0, 0, []),
  (173, .iconst 1, 1, 0, []),
  (174, .putfield 138, 0, 0, []),
  (177, .goto 154, 0, 331, []),
  (180, .iload_n 1, 0, 0, []),
  (181, .invokestatic 145, 0, 0, []),
  (184, .ifCond .eq 74, 0, 258, []),
  (187, .aload_n 0, 0, 0, []),
  (188, .aload_n 0, 0, 0, []),
  (189, .getfield 118, 0, 0, []),
  (192, .invokevirtual 121, 0, 0, []),
  (195, .invokestatic 145, 0, 0, []),
  (198, .ifCond .eq 52, 0, 250, []),
  (201, .aload_n 0, 0, 0, []),
  (202, .getfield 118, 0, 0, []),
  (205, .aload_n 0, 0, 0, []),
  (206, .getfield 125, 0, 0, []),
  (209, .isub, 0, 0, []),
  (210, .iconst 4, 4, 0, []),
  (211, .if_icmp .ge 26, 0, 237, []),
  (214, .aload_n 0, 0, 0, []),
  (215, .bipush 10, 10, 0, []),
  (217, .aload_n 0, 0, 0, []),
  (218, .getfield 132, 0, 0, []),
  (221, .imul, 0, 0, []),
  (222, .aload_n 0, 0, 0, []),
  (223, .aload_n 0, 0, 0, []),
  (224, .getfield 118, 0, 0, []),
  (227, .invokevirtual 121, 0, 0, []),
  (230, .iadd, 0, 0, []),
  (231, .bipush 48, 48, 0, []),
  (233, .isub, 0, 0, []),
  (234, .putfield 132, 0, 0, []),
  (237, .aload_n 0, 0, 0, []),
  (238, .dup, 0, 0, []),
  (239, .getfield 118, 0, 0, []),
  (242, .iconst 1, 1, 0, []),
  (243, .iadd, 0, 0, []),
  (244, .putfield 118, 0, 0, []),
  (247, .goto (-60), 0, 187, []),
  (250, .aload_n 0, 0, 0, []),
  (251, .iconst 2, 2, 0, []),
  (252, .putfield 138, 0, 0, []),
  (255, .goto 76, 0, 331, []),
  (258, .aload_n 0, 0, 0, []),
  (259, .dup, 0, 0, []),
  (260, .getfield 118, 0, 0, []),
  (263, .iconst 1, 1, 0, []),
  (264, .iadd, 0, 0, []),
  (265, .putfield 118, 0, 0, []),
  (268, .aload_n 0, 0, 0, []),
  (269, .iload_n 1, 0, 0, []),
  (270, .bipush 59, 59, 0, []),
  (272, .if_icmp .eq 51, 0, 323, []),
  (275, .iload_n 1, 0, 0, []),
  (276, .bipush 40, 40, 0, []),
  (278, .if_icmp .eq 45, 0, 323, []),
  (281, .iload_n 1, 0, 0, []),
  (282, .bipush 41, 41, 0, []),
  (284, .if_icmp .eq 39, 0, 323, []),
  (287, .iload_n 1, 0, 0, []),
  (288, .bipush 43, 43, 0, []),
  (290, .if_icmp .eq 33, 0, 323, []),
  (293, .iload_n 1, 0, 0, []),
  (294, .bipush 45, 45, 0, []),
  (296, .if_icmp .eq 27, 0, 323, []),
  (299, .iload_n 1, 0, 0, []),
  (300, .bipush 42, 42, 0, []),
  (302, .if_icmp .eq 21, 0, 323, []),
  (305, .iload_n 1, 0, 0, []),
  (306, .bipush 47, 47, 0, []),
  (308, .if_icmp .eq 15, 0, 323, []),
  (311, .iload_n 1, 0, 0, []),
  (312, .bipush 60, 60, 0, []),
  (314, .if_icmp .eq 9, 0, 323, []),
  (317, .iload_n 1, 0, 0, []),
  (318, .bipush 61, 61, 0, []),
  (320, .if_icmp .ne 7, 0, 327, []),
  (323, .iconst 3, 3, 0, []),
  (324, .goto 4, 0, 328, []),
  (327, .iconst 4, 4, 0, []),
  (328, .putfield 138, 0, 0, []),
  (331, .aload_n 0, 0, 0, []),
  (332, .aload_n 0, 0, 0, []),
  (333, .getfield 118, 0, 0, []),
  (336, .aload_n 0, 0, 0, []),
  (337, .getfield 125, 0, 0, []),
  (340, .isub, 0, 0, []),
  (341, .putfield 148, 0, 0, []),
  (344, .return_, 0, 0, [])],
  fdX9, [(121, fX9_byteAt, 2, 9, 0), (141, fX9_isLetter, 1, 2000, 0), (145, fX9_isDigit, 1, 2000, 0)], [], [], [], 2)
noncomputable def fX9_goes : aMF := a_fn none shp pX9_goes 2 1
set_option maxRecDepth 20000 in
theorem wkX9_byteAt : ∀ w ∈ [Cond.code yX9_byteAt cX9_byteAt 2 (some .int), .initialized yX9_byteAt.cls, .instanceMethod yX9_byteAt, .selects yX9_byteAt.cls yX9_byteAt yX9_byteAt], w ∈ lw_g := a_ps [1342, 105, 1341, 55] rfl rfl
theorem hdX9_byteAt : yX9_byteAt.cls ≠ "java/lang/invoke/MethodHandle" ∧ yX9_byteAt.cls ≠ "java/lang/invoke/VarHandle" ∧ (parseMethodDescriptor yX9_byteAt.desc).map (fun d => d.parameters.length) = some 1 := by decide +kernel
set_option maxRecDepth 20000 in
theorem lkX9_121 : Cond.methodLink RX9 121 yX9_byteAt ∈ lw_g := a_p1 1339 rfl rfl
set_option maxRecDepth 20000 in
theorem wkX9_isLetter : ∀ w ∈ [Cond.code yX9_isLetter cX9_isLetter 1 (some .boolean), .initialized yX9_isLetter.cls, .static yX9_isLetter], w ∈ lw_g := a_ps [1345, 105, 1344] rfl rfl
theorem hdX9_isLetter : yX9_isLetter.cls ≠ "java/lang/invoke/MethodHandle" ∧ yX9_isLetter.cls ≠ "java/lang/invoke/VarHandle" ∧ (parseMethodDescriptor yX9_isLetter.desc).map (fun d => d.parameters.length) = some 1 := by decide +kernel
set_option maxRecDepth 20000 in
theorem lkX9_141 : Cond.methodLink RX9 141 yX9_isLetter ∈ lw_g := a_p1 1343 rfl rfl
set_option maxRecDepth 20000 in
theorem wkX9_isDigit : ∀ w ∈ [Cond.code yX9_isDigit cX9_isDigit 1 (some .boolean), .initialized yX9_isDigit.cls, .static yX9_isDigit], w ∈ lw_g := a_ps [1348, 105, 1347] rfl rfl
theorem hdX9_isDigit : yX9_isDigit.cls ≠ "java/lang/invoke/MethodHandle" ∧ yX9_isDigit.cls ≠ "java/lang/invoke/VarHandle" ∧ (parseMethodDescriptor yX9_isDigit.desc).map (fun d => d.parameters.length) = some 1 := by decide +kernel
set_option maxRecDepth 20000 in
theorem lkX9_145 : Cond.methodLink RX9 145 yX9_isDigit ∈ lw_g := a_p1 1346 rfl rfl
set_option maxRecDepth 20000 in
theorem kX9_goes {l : Launch} {G : aG} (hZ : a_Z l G) : a_Con l G shp yX9_goes (.code yX9_goes cX9_goes 2 none) 2 37 fX9_goes :=
  a_mth none hZ.1 hZ.2.1 shp_len (fun _ h => nomatch h) hZ.2.2.1 (by decide +kernel) rfl (foX9 rfl) (a_cok_of trivial) (b_code [42,180,0,118,42,180,0,115,162,0,42,42,42,180,0,118,182,0,121,16,32,159,0,16,42,42,180,0,118,182,0,121,16,10,160,0,16,42,89,180,0,118,4,96,181,0,118,167,255,209,42,42,180,0,118,181,0,125,42,9,181,0,128,42,3,181,0,132,42,42,180,0,118,182,0,121,60,42,27,181,0,135,42,180,0,118,42,180,0,115,161,0,11,42,3,181,0,138,167,0,233,27,184,0,141,153,0,75,42,42,180,0,118,182,0,121,184,0,141,153,0,53,42,180,0,118,42,180,0,125,100,16,6,162,0,26,42,42,180,0,128,8,121,42,42,180,0,118,182,0,121,16,96,100,133,129,181,0,128,42,89,180,0,118,4,96,181,0,118,167,255,195,42,4,181,0,138,167,0,154,27,184,0,145,153,0,74,42,42,180,0,118,182,0,121,184,0,145,153,0,52,42,180,0,118,42,180,0,125,100,7,162,0,26,42,16,10,42,180,0,132,104,42,42,180,0,118,182,0,121,96,16,48,100,181,0,132,42,89,180,0,118,4,96,181,0,118,167,255,196,42,5,181,0,138,167,0,76,42,89,180,0,118,4,96,181,0,118,42,27,16,59,159,0,51,27,16,40,159,0,45,27,16,41,159,0,39,27,16,43,159,0,33,27,16,45,159,0,27,27,16,42,159,0,21,27,16,47,159,0,15,27,16,60,159,0,9,27,16,61,160,0,7,6,167,0,4,7,181,0,138,42,42,180,0,118,42,180,0,125,100,181,0,148,177] [] (by decide +kernel) (by decide +kernel) (by decide +kernel) (by decide +kernel)) rfl rfl (trivial) (⟨a_CQ_v hZ.2.1 (kX9_byteAt hZ) lkX9_121 (a_CF_v TX9 62 wkX9_byteAt lkX9_121 hdX9_byteAt ⟨by decide, by decide⟩ rfl) rfl rfl,
    ⟨a_CQ_s hZ.2.1 (kX9_isLetter hZ) lkX9_141 (a_CF_s wkX9_isLetter lkX9_141 hdX9_isLetter) rfl rfl,
    ⟨a_CQ_s hZ.2.1 (kX9_isDigit hZ) lkX9_145 (a_CF_s wkX9_isDigit lkX9_145 hdX9_isDigit) rfl rfl,
    trivial⟩⟩⟩)
noncomputable def pX9_spelled : aPrg := ([(0, .iload_n 0, 0, 0, []),
  (1, .i2l, 0, 0, []),
  (2, .ldc2_w 151, 0, 0, []),
  (5, .lsub, 0, 0, []),
  (6, .iconst 5, 5, 0, []),
  (7, .lshl, 0, 0, []),
  (8, .iload_n 1, 0, 0, []),
  (9, .bipush 96, 96, 0, []),
  (11, .isub, 0, 0, []),
  (12, .i2l, 0, 0, []),
  (13, .lor, 0, 0, []),
  (14, .lstore 6, 0, 0, []),
  (16, .iload_n 2, 0, 0, []),
  (17, .ifCond .eq 15, 0, 32, []),
  (20, .lload 6, 0, 0, []),
  (22, .iconst 5, 5, 0, []),
  (23, .lshl, 0, 0, []),
  (24, .iload_n 2, 0, 0, []),
  (25, .bipush 96, 96, 0, []),
  (27, .isub, 0, 0, []),
  (28, .i2l, 0, 0, []),
  (29, .lor, 0, 0, []),
  (30, .lstore 6, 0, 0, []),
  (32, .iload_n 3, 0, 0, []),
  (33, .ifCond .eq 15, 0, 48, []),
  (36, .lload 6, 0, 0, []),
  (38, .iconst 5, 5, 0, []),
  (39, .lshl, 0, 0, []),
  (40, .iload_n 3, 0, 0, []),
  (41, .bipush 96, 96, 0, []),
  (43, .isub, 0, 0, []),
  (44, .i2l, 0, 0, []),
  (45, .lor, 0, 0, []),
  (46, .lstore 6, 0, 0, []),
  (48, .iload 4, 0, 0, []),
  (50, .ifCond .eq 16, 0, 66, []),
  (53, .lload 6, 0, 0, []),
  (55, .iconst 5, 5, 0, []),
  (56, .lshl, 0, 0, []),
  (57, .iload 4, 0, 0, []),
  (59, .bipush 96, 96, 0, []),
  (61, .isub, 0, 0, []),
  (62, .i2l, 0, 0, []),
  (63, .lor, 0, 0, []),
  (64, .lstore 6, 0, 0, []),
  (66, .iload 5, 0, 0, []),
  (68, .ifCond .eq 16, 0, 84, []),
  (71, .lload 6, 0, 0, []),
  (73, .iconst 5, 5, 0, []),
  (74, .lshl, 0, 0, []),
  (75, .iload 5, 0, 0, []),
  (77, .bipush 96, 96, 0, []),
  (79, .isub, 0, 0, []),
  (80, .i2l, 0, 0, []),
  (81, .lor, 0, 0, []),
  (82, .lstore 6, 0, 0, []),
  (84, .lload 6, 0, 0, []),
  (86, .lreturn, 0, 0, [])],
  fdX9, [], [(151, .long (96 : Int64))], [], [], 3)
noncomputable def fX9_spelled : aMF := a_fn none shp pX9_spelled 8 6
set_option maxRecDepth 20000 in
theorem kX9_spelled {l : Launch} {G : aG} (hZ : a_Z l G) : a_Con l G shp yX9_spelled (.code yX9_spelled cX9_spelled 8 (some .long)) 1 16 fX9_spelled :=
  a_mth none hZ.1 hZ.2.1 shp_len (fun _ h => nomatch h) hZ.2.2.1 (by decide +kernel) rfl (foX9 rfl) (a_cok_of ⟨a_p1 1367 rfl rfl, trivial⟩) (b_code [26,133,20,0,151,101,8,121,27,16,96,100,133,129,55,6,28,153,0,15,22,6,8,121,28,16,96,100,133,129,55,6,29,153,0,15,22,6,8,121,29,16,96,100,133,129,55,6,21,4,153,0,16,22,6,8,121,21,4,16,96,100,133,129,55,6,21,5,153,0,16,22,6,8,121,21,5,16,96,100,133,129,55,6,22,6,173] [] (by decide +kernel) (by decide +kernel) (by decide +kernel) (by decide +kernel)) rfl rfl (trivial) (trivial)
noncomputable def pX9_letters : aPrg := ([(0, .iload_n 0, 0, 0, []),
  (1, .tableswitch 285 0 14 #[75, 91, 107, 123, 137, 153, 167, 182, 195, 207, 220, 232, 245, 257, 271], 0, 286, [(0, 76), (1, 92), (2, 108), (3, 124), (4, 138), (5, 154), (6, 168), (7, 183), (8, 196), (9, 208), (10, 221), (11, 233), (12, 246), (13, 258), (14, 272)]),
  (76, .bipush 108, 108, 0, []),
  (78, .bipush 101, 101, 0, []),
  (80, .bipush 97, 97, 0, []),
  (82, .bipush 118, 118, 0, []),
  (84, .bipush 101, 101, 0, []),
  (86, .bipush 115, 115, 0, []),
  (88, .invokestatic 153, 0, 0, []),
  (91, .lreturn, 0, 0, []),
  (92, .bipush 98, 98, 0, []),
  (94, .bipush 108, 108, 0, []),
  (96, .bipush 97, 97, 0, []),
  (98, .bipush 110, 110, 0, []),
  (100, .bipush 107, 107, 0, []),
  (102, .bipush 115, 115, 0, []),
  (104, .invokestatic 153, 0, 0, []),
  (107, .lreturn, 0, 0, []),
  (108, .bipush 112, 112, 0, []),
  (110, .bipush 108, 108, 0, []),
  (112, .bipush 97, 97, 0, []),
  (114, .bipush 116, 116, 0, []),
  (116, .bipush 101, 101, 0, []),
  (118, .bipush 115, 115, 0, []),
  (120, .invokestatic 153, 0, 0, []),
  (123, .lreturn, 0, 0, []),
  (124, .bipush 116, 116, 0, []),
  (126, .bipush 111, 111, 0, []),
  (128, .bipush 114, 114, 0, []),
  (130, .bipush 110, 110, 0, []),
  (132, .iconst 0, 0, 0, []),
  (133, .iconst 0, 0, 0, []),
  (134, .invokestatic 153, 0, 0, []),
  (137, .lreturn, 0, 0, []),
  (138, .bipush 114, 114, 0, []),
  (140, .bipush 101, 101, 0, []),
  (142, .bipush 97, 97, 0, []),
  (144, .bipush 100, 100, 0, []),
  (146, .bipush 101, 101, 0, []),
  (148, .bipush 114, 114, 0, []),
  (150, .invokestatic 153, 0, 0, []),
  (153, .lreturn, 0, 0, []),
  (154, .bipush 98, 98, 0, []),
  (156, .bipush 111, 111, 0, []),
  (158, .bipush 111, 111, 0, []),
  (160, .bipush 107, 107, 0, []),
  (162, .iconst 0, 0, 0, []),
  (163, .iconst 0, 0, 0, []),
  (164, .invokestatic 153, 0, 0, []),
  (167, .lreturn, 0, 0, []),
  (168, .bipush 119, 119, 0, []),
  (170, .bipush 97, 97, 0, []),
  (172, .bipush 110, 110, 0, []),
  (174, .bipush 116, 116, 0, []),
  (176, .bipush 115, 115, 0, []),
  (178, .iconst 0, 0, 0, []),
  (179, .invokestatic 153, 0, 0, []),
  (182, .lreturn, 0, 0, []),
  (183, .bipush 108, 108, 0, []),
  (185, .bipush 97, 97, 0, []),
  (187, .bipush 119, 119, 0, []),
  (189, .iconst 0, 0, 0, []),
  (190, .iconst 0, 0, 0, []),
  (191, .iconst 0, 0, 0, []),
  (192, .invokestatic 153, 0, 0, []),
  (195, .lreturn, 0, 0, []),
  (196, .bipush 111, 111, 0, []),
  (198, .bipush 102, 102, 0, []),
  (200, .iconst 0, 0, 0, []),
  (201, .iconst 0, 0, 0, []),
  (202, .iconst 0, 0, 0, []),
  (203, .iconst 0, 0, 0, []),
  (204, .invokestatic 153, 0, 0, []),
  (207, .lreturn, 0, 0, []),
  (208, .bipush 97, 97, 0, []),
  (210, .bipush 110, 110, 0, []),
  (212, .bipush 100, 100, 0, []),
  (214, .iconst 0, 0, 0, []),
  (215, .iconst 0, 0, 0, []),
  (216, .iconst 0, 0, 0, []),
  (217, .invokestatic 153, 0, 0, []),
  (220, .lreturn, 0, 0, []),
  (221, .bipush 111, 111, 0, []),
  (223, .bipush 114, 114, 0, []),
  (225, .iconst 0, 0, 0, []),
  (226, .iconst 0, 0, 0, []),
  (227, .iconst 0, 0, 0, []),
  (228, .iconst 0, 0, 0, []),
  (229, .invokestatic 153, 0, 0, []),
  (232, .lreturn, 0, 0, []),
  (233, .bipush 110, 110, 0, []),
  (235, .bipush 111, 111, 0, []),
  (237, .bipush 116, 116, 0, []),
  (239, .iconst 0, 0, 0, []),
  (240, .iconst 0, 0, 0, []),
  (241, .iconst 0, 0, 0, []),
  (242, .invokestatic 153, 0, 0, []),
  (245, .lreturn, 0, 0, []),
  (246, .bipush 105, 105, 0, []),
  (248, .bipush 102, 102, 0, []),
  (250, .iconst 0, 0, 0, []),
  (251, .iconst 0, 0, 0, []),
  (252, .iconst 0, 0, 0, []),
  (253, .iconst 0, 0, 0, []),
  (254, .invokestatic 153, 0, 0, []),
  (257, .lreturn, 0, 0, []),
  (258, .bipush 116, 116, 0, []),
  (260, .bipush 104, 104, 0, []),
  (262, .bipush 101, 101, 0, []),
  (264, .bipush 110, 110, 0, []),
  (266, .iconst 0, 0, 0, []),
  (267, .iconst 0, 0, 0, []),
  (268, .invokestatic 153, 0, 0, []),
  (271, .lreturn, 0, 0, []),
  (272, .bipush 101, 101, 0, []),
  (274, .bipush 108, 108, 0, []),
  (276, .bipush 115, 115, 0, []),
  (278, .bipush 101, 101, 0, []),
  (280, .iconst 0, 0, 0, []),
  (281, .iconst 0, 0, 0, []),
  (282, .invokestatic 153, 0, 0, []),
  (285, .lreturn, 0, 0, []),
  (286, .bipush 101, 101, 0, []),
  (288, .bipush 110, 110, 0, []),
  (290, .bipush 100, 100, 0, []),
  (292, .iconst 0, 0, 0, []),
  (293, .iconst 0, 0, 0, []),
  (294, .iconst 0, 0, 0, []),
  (295, .invokestatic 153, 0, 0, []),
  (298, .lreturn, 0, 0, [])],
  fdX9, [(153, fX9_spelled, 6, 2000, 2)], [], [], [], 3)
noncomputable def fX9_letters : aMF := a_fn none shp pX9_letters 1 1
set_option maxRecDepth 20000 in
theorem wkX9_spelled : ∀ w ∈ [Cond.code yX9_spelled cX9_spelled 8 (some .long), .initialized yX9_spelled.cls, .static yX9_spelled], w ∈ lw_g := a_ps [1366, 105, 1365] rfl rfl
theorem hdX9_spelled : yX9_spelled.cls ≠ "java/lang/invoke/MethodHandle" ∧ yX9_spelled.cls ≠ "java/lang/invoke/VarHandle" ∧ (parseMethodDescriptor yX9_spelled.desc).map (fun d => d.parameters.length) = some 6 := by decide +kernel
set_option maxRecDepth 20000 in
theorem lkX9_153 : Cond.methodLink RX9 153 yX9_spelled ∈ lw_g := a_p1 1364 rfl rfl
set_option maxRecDepth 20000 in
theorem kX9_letters {l : Launch} {G : aG} (hZ : a_Z l G) : a_Con l G shp yX9_letters (.code yX9_letters cX9_letters 1 (some .long)) 2 43 fX9_letters :=
  a_mth none hZ.1 hZ.2.1 shp_len (fun _ h => nomatch h) hZ.2.2.1 (by decide +kernel) rfl (foX9 rfl) (a_cok_of trivial) (b_code [26,170,0,0,0,0,1,29,0,0,0,0,0,0,0,14,0,0,0,75,0,0,0,91,0,0,0,107,0,0,0,123,0,0,0,137,0,0,0,153,0,0,0,167,0,0,0,182,0,0,0,195,0,0,0,207,0,0,0,220,0,0,0,232,0,0,0,245,0,0,1,1,0,0,1,15,16,108,16,101,16,97,16,118,16,101,16,115,184,0,153,173,16,98,16,108,16,97,16,110,16,107,16,115,184,0,153,173,16,112,16,108,16,97,16,116,16,101,16,115,184,0,153,173,16,116,16,111,16,114,16,110,3,3,184,0,153,173,16,114,16,101,16,97,16,100,16,101,16,114,184,0,153,173,16,98,16,111,16,111,16,107,3,3,184,0,153,173,16,119,16,97,16,110,16,116,16,115,3,184,0,153,173,16,108,16,97,16,119,3,3,3,184,0,153,173,16,111,16,102,3,3,3,3,184,0,153,173,16,97,16,110,16,100,3,3,3,184,0,153,173,16,111,16,114,3,3,3,3,184,0,153,173,16,110,16,111,16,116,3,3,3,184,0,153,173,16,105,16,102,3,3,3,3,184,0,153,173,16,116,16,104,16,101,16,110,3,3,184,0,153,173,16,101,16,108,16,115,16,101,3,3,184,0,153,173,16,101,16,110,16,100,3,3,3,184,0,153,173] [(1, 75)] (by decide +kernel) (by decide +kernel) (by decide +kernel) (by decide +kernel)) rfl rfl (trivial) (⟨a_CQ_s hZ.2.1 (kX9_spelled hZ) lkX9_153 (a_CF_s wkX9_spelled lkX9_153 hdX9_spelled) rfl rfl,
    trivial⟩)
noncomputable def pX9_knownWord : aPrg := ([(0, .aload_n 0, 0, 0, []),
  (1, .getfield 138, 0, 0, []),
  (4, .iconst 1, 1, 0, []),
  (5, .if_icmp .ne 12, 0, 17, []),
  (8, .aload_n 0, 0, 0, []),
  (9, .getfield 148, 0, 0, []),
  (12, .bipush 6, 6, 0, []),
  (14, .if_icmp .le 5, 0, 19, []),
  (17, .iconst (-1), (-1), 0, []),
  (18, .ireturn, 0, 0, []),
  (19, .iconst 0, 0, 0, []),
  (20, .istore_n 1, 0, 0, []),
  (21, .iload_n 1, 0, 0, []),
  (22, .bipush 16, 16, 0, []),
  (24, .if_icmp .ge 23, 0, 47, []),
  (27, .iload_n 1, 0, 0, []),
  (28, .invokestatic 157, 0, 0, []),
  (31, .aload_n 0, 0, 0, []),
  (32, .getfield 128, 0, 0, []),
  (35, .lcmp, 0, 0, []),
  (36, .ifCond .ne 5, 0, 41, []),
  (39, .iload_n 1, 0, 0, []),
  (40, .ireturn, 0, 0, []),
  (41, .iinc 1 1, 1, 0, []),
  (44, .goto (-23), 0, 21, []),
  (47, .iconst (-1), (-1), 0, []),
  (48, .ireturn, 0, 0, [])],
  fdX9, [(157, fX9_letters, 1, 2000, 2)], [], [], [], 0)
noncomputable def fX9_knownWord : aMF := a_fn none shp pX9_knownWord 2 1
set_option maxRecDepth 20000 in
theorem wkX9_letters : ∀ w ∈ [Cond.code yX9_letters cX9_letters 1 (some .long), .initialized yX9_letters.cls, .static yX9_letters], w ∈ lw_g := a_ps [1363, 105, 1362] rfl rfl
theorem hdX9_letters : yX9_letters.cls ≠ "java/lang/invoke/MethodHandle" ∧ yX9_letters.cls ≠ "java/lang/invoke/VarHandle" ∧ (parseMethodDescriptor yX9_letters.desc).map (fun d => d.parameters.length) = some 1 := by decide +kernel
set_option maxRecDepth 20000 in
theorem lkX9_157 : Cond.methodLink RX9 157 yX9_letters ∈ lw_g := a_p1 1361 rfl rfl
set_option maxRecDepth 20000 in
theorem kX9_knownWord {l : Launch} {G : aG} (hZ : a_Z l G) : a_Con l G shp yX9_knownWord (.code yX9_knownWord cX9_knownWord 2 (some .int)) 3 63 fX9_knownWord :=
  a_mth none hZ.1 hZ.2.1 shp_len (fun _ h => nomatch h) hZ.2.2.1 (by decide +kernel) rfl (foX9 rfl) (a_cok_of trivial) (b_code [42,180,0,138,4,160,0,12,42,180,0,148,16,6,164,0,5,2,172,3,60,27,16,16,162,0,23,27,184,0,157,42,180,0,128,148,154,0,5,27,172,132,1,1,167,255,233,2,172] [] (by decide +kernel) (by decide +kernel) (by decide +kernel) (by decide +kernel)) rfl rfl (trivial) (⟨a_CQ_s hZ.2.1 (kX9_letters hZ) lkX9_157 (a_CF_s wkX9_letters lkX9_157 hdX9_letters) rfl rfl,
    trivial⟩)
noncomputable def pX9_wrong : aPrg := ([(0, .aload_n 0, 0, 0, []),
  (1, .getfield 161, 0, 0, []),
  (4, .ifCond .eq 4, 0, 8, []),
  (7, .return_, 0, 0, []),
  (8, .aload_n 0, 0, 0, []),
  (9, .iload_n 1, 0, 0, []),
  (10, .putfield 161, 0, 0, []),
  (13, .aload_n 0, 0, 0, []),
  (14, .aload_n 0, 0, 0, []),
  (15, .getfield 125, 0, 0, []),
  (18, .putfield 31, 0, 0, []),
  (21, .return_, 0, 0, [])],
  fdX9, [], [], [], [], 2)
noncomputable def fX9_wrong : aMF := a_fn none shp pX9_wrong 2 2
set_option maxRecDepth 20000 in
theorem kX9_wrong {l : Launch} {G : aG} (hZ : a_Z l G) : a_Con l G shp yX9_wrong (.code yX9_wrong cX9_wrong 2 none) 1 16 fX9_wrong :=
  a_mth none hZ.1 hZ.2.1 shp_len (fun _ h => nomatch h) hZ.2.2.1 (by decide +kernel) rfl (foX9 rfl) (a_cok_of trivial) (b_code [42,180,0,161,153,0,4,177,42,27,181,0,161,42,42,180,0,125,181,0,31,177] [] (by decide +kernel) (by decide +kernel) (by decide +kernel) (by decide +kernel)) rfl rfl (trivial) (trivial)
noncomputable def pX9_isGood : aPrg := ([(0, .aload_n 0, 0, 0, []),
  (1, .getfield 161, 0, 0, []),
  (4, .ifCond .ne 7, 0, 11, []),
  (7, .iconst 1, 1, 0, []),
  (8, .goto 4, 0, 12, []),
  (11, .iconst 0, 0, 0, []),
  (12, .ireturn, 0, 0, [])],
  fdX9, [], [], [], [], 1)
noncomputable def fX9_isGood : aMF := a_fn none shp pX9_isGood 1 1
set_option maxRecDepth 20000 in
theorem kX9_isGood {l : Launch} {G : aG} (hZ : a_Z l G) : a_Con l G shp yX9_isGood (.code yX9_isGood cX9_isGood 1 (some .boolean)) 1 16 fX9_isGood :=
  a_mth none hZ.1 hZ.2.1 shp_len (fun _ h => nomatch h) hZ.2.2.1 (by decide +kernel) rfl (foX9 rfl) (a_cok_of trivial) (b_code [42,180,0,161,154,0,7,4,167,0,4,3,172] [] (by decide +kernel) (by decide +kernel) (by decide +kernel) (by decide +kernel)) rfl rfl (trivial) (trivial)
noncomputable def pX9_isSign : aPrg := ([(0, .aload_n 0, 0, 0, []),
  (1, .getfield 138, 0, 0, []),
  (4, .iconst 3, 3, 0, []),
  (5, .if_icmp .ne 15, 0, 20, []),
  (8, .aload_n 0, 0, 0, []),
  (9, .getfield 135, 0, 0, []),
  (12, .iload_n 1, 0, 0, []),
  (13, .if_icmp .ne 7, 0, 20, []),
  (16, .iconst 1, 1, 0, []),
  (17, .goto 4, 0, 21, []),
  (20, .iconst 0, 0, 0, []),
  (21, .ireturn, 0, 0, [])],
  fdX9, [], [], [], [], 1)
noncomputable def fX9_isSign : aMF := a_fn none shp pX9_isSign 2 2
set_option maxRecDepth 20000 in
theorem kX9_isSign {l : Launch} {G : aG} (hZ : a_Z l G) : a_Con l G shp yX9_isSign (.code yX9_isSign cX9_isSign 2 (some .boolean)) 1 16 fX9_isSign :=
  a_mth none hZ.1 hZ.2.1 shp_len (fun _ h => nomatch h) hZ.2.2.1 (by decide +kernel) rfl (foX9 rfl) (a_cok_of trivial) (b_code [42,180,0,138,6,160,0,15,42,180,0,135,27,160,0,7,4,167,0,4,3,172] [] (by decide +kernel) (by decide +kernel) (by decide +kernel) (by decide +kernel)) rfl rfl (trivial) (trivial)
noncomputable def pX9_need : aPrg := ([(0, .aload_n 0, 0, 0, []),
  (1, .invokevirtual 164, 0, 0, []),
  (4, .ifCond .ne 4, 0, 8, []),
  (7, .return_, 0, 0, []),
  (8, .iload_n 1, 0, 0, []),
  (9, .ifCond .eq 10, 0, 19, []),
  (12, .aload_n 0, 0, 0, []),
  (13, .invokevirtual 168, 0, 0, []),
  (16, .goto 8, 0, 24, []),
  (19, .aload_n 0, 0, 0, []),
  (20, .iconst 1, 1, 0, []),
  (21, .invokevirtual 171, 0, 0, []),
  (24, .return_, 0, 0, [])],
  fdX9, [(164, fX9_isGood, 1, 9, 0), (168, fX9_goes, 1, 9, 1), (171, fX9_wrong, 2, 9, 1)], [], [], [], 2)
noncomputable def fX9_need : aMF := a_fn none shp pX9_need 2 2
set_option maxRecDepth 20000 in
theorem wkX9_isGood : ∀ w ∈ [Cond.code yX9_isGood cX9_isGood 1 (some .boolean), .initialized yX9_isGood.cls, .instanceMethod yX9_isGood, .selects yX9_isGood.cls yX9_isGood yX9_isGood], w ∈ lw_g := a_ps [1352, 105, 1351, 56] rfl rfl
theorem hdX9_isGood : yX9_isGood.cls ≠ "java/lang/invoke/MethodHandle" ∧ yX9_isGood.cls ≠ "java/lang/invoke/VarHandle" ∧ (parseMethodDescriptor yX9_isGood.desc).map (fun d => d.parameters.length) = some 0 := by decide +kernel
set_option maxRecDepth 20000 in
theorem lkX9_164 : Cond.methodLink RX9 164 yX9_isGood ∈ lw_g := a_p1 1349 rfl rfl
set_option maxRecDepth 20000 in
theorem wkX9_goes : ∀ w ∈ [Cond.code yX9_goes cX9_goes 2 none, .initialized yX9_goes.cls, .instanceMethod yX9_goes, .selects yX9_goes.cls yX9_goes yX9_goes], w ∈ lw_g := a_ps [1338, 105, 1337, 54] rfl rfl
theorem hdX9_goes : yX9_goes.cls ≠ "java/lang/invoke/MethodHandle" ∧ yX9_goes.cls ≠ "java/lang/invoke/VarHandle" ∧ (parseMethodDescriptor yX9_goes.desc).map (fun d => d.parameters.length) = some 0 := by decide +kernel
set_option maxRecDepth 20000 in
theorem lkX9_168 : Cond.methodLink RX9 168 yX9_goes ∈ lw_g := a_p1 1335 rfl rfl
set_option maxRecDepth 20000 in
theorem wkX9_wrong : ∀ w ∈ [Cond.code yX9_wrong cX9_wrong 2 none, .initialized yX9_wrong.cls, .instanceMethod yX9_wrong, .selects yX9_wrong.cls yX9_wrong yX9_wrong], w ∈ lw_g := a_ps [1371, 105, 1370, 59] rfl rfl
theorem hdX9_wrong : yX9_wrong.cls ≠ "java/lang/invoke/MethodHandle" ∧ yX9_wrong.cls ≠ "java/lang/invoke/VarHandle" ∧ (parseMethodDescriptor yX9_wrong.desc).map (fun d => d.parameters.length) = some 1 := by decide +kernel
set_option maxRecDepth 20000 in
theorem lkX9_171 : Cond.methodLink RX9 171 yX9_wrong ∈ lw_g := a_p1 1368 rfl rfl
set_option maxRecDepth 20000 in
theorem kX9_need {l : Launch} {G : aG} (hZ : a_Z l G) : a_Con l G shp yX9_need (.code yX9_need cX9_need 2 none) 3 58 fX9_need :=
  a_mth none hZ.1 hZ.2.1 shp_len (fun _ h => nomatch h) hZ.2.2.1 (by decide +kernel) rfl (foX9 rfl) (a_cok_of trivial) (b_code [42,182,0,164,154,0,4,177,27,153,0,10,42,182,0,168,167,0,8,42,4,182,0,171,177] [] (by decide +kernel) (by decide +kernel) (by decide +kernel) (by decide +kernel)) rfl rfl (trivial) (⟨a_CQ_v hZ.2.1 (kX9_isGood hZ) lkX9_164 (a_CF_v TX9 62 wkX9_isGood lkX9_164 hdX9_isGood ⟨by decide, by decide⟩ rfl) rfl rfl,
    ⟨a_CQ_v hZ.2.1 (kX9_goes hZ) lkX9_168 (a_CF_v TX9 62 wkX9_goes lkX9_168 hdX9_goes ⟨by decide, by decide⟩ rfl) rfl rfl,
    ⟨a_CQ_v hZ.2.1 (kX9_wrong hZ) lkX9_171 (a_CF_v TX9 62 wkX9_wrong lkX9_171 hdX9_wrong ⟨by decide, by decide⟩ rfl) rfl rfl,
    trivial⟩⟩⟩)
noncomputable def pX9_number : aPrg := ([(0, .aload_n 0, 0, 0, []),
  (1, .invokevirtual 164, 0, 0, []),
  (4, .ifCond .ne 5, 0, 9, []),
  (7, .iconst 0, 0, 0, []),
  (8, .ireturn, 0, 0, []),
  (9, .aload_n 0, 0, 0, []),
  (10, .getfield 138, 0, 0, []),
  (13, .iconst 2, 2, 0, []),
  (14, .if_icmp .eq 11, 0, 25, []),
  (17, .aload_n 0, 0, 0, []),
  (18, .iconst 1, 1, 0, []),
  (19, .invokevirtual 171, 0, 0, []),
  (22, .goto 32, 0, 54, []),
  (25, .aload_n 0, 0, 0, []),
  (26, .getfield 148, 0, 0, []),
  (29, .iconst 4, 4, 0, []),
  (30, .if_icmp .gt 19, 0, 49, []),
  (33, .aload_n 0, 0, 0, []),
  (34, .getfield 132, 0, 0, []),
  (37, .iload_n 1, 0, 0, []),
  (38, .if_icmp .lt 11, 0, 49, []),
  (41, .aload_n 0, 0, 0, []),
  (42, .getfield 132, 0, 0, []),
  (45, .iload_n 2, 0, 0, []),
  (46, .if_icmp .le 8, 0, 54, []),
  (49, .aload_n 0, 0, 0, []),
  (50, .iconst 2, 2, 0, []),
  (51, .invokevirtual 171, 0, 0, []),
  (54, .aload_n 0, 0, 0, []),
  (55, .getfield 132, 0, 0, []),
  (58, .istore_n 3, 0, 0, []),
  (59, .aload_n 0, 0, 0, []),
  (60, .invokevirtual 164, 0, 0, []),
  (63, .ifCond .eq 7, 0, 70, []),
  (66, .aload_n 0, 0, 0, []),
  (67, .invokevirtual 168, 0, 0, []),
  (70, .iload_n 3, 0, 0, []),
  (71, .ireturn, 0, 0, [])],
  fdX9, [(164, fX9_isGood, 1, 9, 0), (171, fX9_wrong, 2, 9, 1), (168, fX9_goes, 1, 9, 1)], [], [], [], 0)
noncomputable def fX9_number : aMF := a_fn none shp pX9_number 4 3
set_option maxRecDepth 20000 in
theorem kX9_number {l : Launch} {G : aG} (hZ : a_Z l G) : a_Con l G shp yX9_number (.code yX9_number cX9_number 4 (some .int)) 3 58 fX9_number :=
  a_mth none hZ.1 hZ.2.1 shp_len (fun _ h => nomatch h) hZ.2.2.1 (by decide +kernel) rfl (foX9 rfl) (a_cok_of trivial) (b_code [42,182,0,164,154,0,5,3,172,42,180,0,138,5,159,0,11,42,4,182,0,171,167,0,32,42,180,0,148,7,163,0,19,42,180,0,132,27,161,0,11,42,180,0,132,28,164,0,8,42,5,182,0,171,42,180,0,132,62,42,182,0,164,153,0,7,42,182,0,168,29,172] [] (by decide +kernel) (by decide +kernel) (by decide +kernel) (by decide +kernel)) rfl rfl (trivial) (⟨a_CQ_v hZ.2.1 (kX9_isGood hZ) lkX9_164 (a_CF_v TX9 62 wkX9_isGood lkX9_164 hdX9_isGood ⟨by decide, by decide⟩ rfl) rfl rfl,
    ⟨a_CQ_v hZ.2.1 (kX9_wrong hZ) lkX9_171 (a_CF_v TX9 62 wkX9_wrong lkX9_171 hdX9_wrong ⟨by decide, by decide⟩ rfl) rfl rfl,
    ⟨a_CQ_v hZ.2.1 (kX9_goes hZ) lkX9_168 (a_CF_v TX9 62 wkX9_goes lkX9_168 hdX9_goes ⟨by decide, by decide⟩ rfl) rfl rfl,
    trivial⟩⟩⟩)
noncomputable def pX9_perhaps : aPrg := ([(0, .aload_n 0, 0, 0, []),
  (1, .invokevirtual 164, 0, 0, []),
  (4, .ifCond .eq 11, 0, 15, []),
  (7, .aload_n 0, 0, 0, []),
  (8, .invokevirtual 174, 0, 0, []),
  (11, .iload_n 1, 0, 0, []),
  (12, .if_icmp .eq 5, 0, 17, []),
  (15, .iconst 0, 0, 0, []),
  (16, .ireturn, 0, 0, []),
  (17, .aload_n 0, 0, 0, []),
  (18, .invokevirtual 168, 0, 0, []),
  (21, .aload_n 0, 0, 0, []),
  (22, .iconst 0, 0, 0, []),
  (23, .bipush 99, 99, 0, []),
  (25, .invokevirtual 178, 0, 0, []),
  (28, .ireturn, 0, 0, [])],
  fdX9, [(164, fX9_isGood, 1, 9, 0), (174, fX9_knownWord, 1, 9, 0), (168, fX9_goes, 1, 9, 1), (178, fX9_number, 3, 9, 0)], [], [], [], 0)
noncomputable def fX9_perhaps : aMF := a_fn none shp pX9_perhaps 2 2
set_option maxRecDepth 20000 in
theorem wkX9_knownWord : ∀ w ∈ [Cond.code yX9_knownWord cX9_knownWord 2 (some .int), .initialized yX9_knownWord.cls, .instanceMethod yX9_knownWord, .selects yX9_knownWord.cls yX9_knownWord yX9_knownWord], w ∈ lw_g := a_ps [1360, 105, 1359, 58] rfl rfl
theorem hdX9_knownWord : yX9_knownWord.cls ≠ "java/lang/invoke/MethodHandle" ∧ yX9_knownWord.cls ≠ "java/lang/invoke/VarHandle" ∧ (parseMethodDescriptor yX9_knownWord.desc).map (fun d => d.parameters.length) = some 0 := by decide +kernel
set_option maxRecDepth 20000 in
theorem lkX9_174 : Cond.methodLink RX9 174 yX9_knownWord ∈ lw_g := a_p1 1357 rfl rfl
set_option maxRecDepth 20000 in
theorem wkX9_number : ∀ w ∈ [Cond.code yX9_number cX9_number 4 (some .int), .initialized yX9_number.cls, .instanceMethod yX9_number, .selects yX9_number.cls yX9_number yX9_number], w ∈ lw_g := a_ps [1375, 105, 1374, 60] rfl rfl
theorem hdX9_number : yX9_number.cls ≠ "java/lang/invoke/MethodHandle" ∧ yX9_number.cls ≠ "java/lang/invoke/VarHandle" ∧ (parseMethodDescriptor yX9_number.desc).map (fun d => d.parameters.length) = some 2 := by decide +kernel
set_option maxRecDepth 20000 in
theorem lkX9_178 : Cond.methodLink RX9 178 yX9_number ∈ lw_g := a_p1 1372 rfl rfl
set_option maxRecDepth 20000 in
theorem kX9_perhaps {l : Launch} {G : aG} (hZ : a_Z l G) : a_Con l G shp yX9_perhaps (.code yX9_perhaps cX9_perhaps 2 (some .int)) 4 84 fX9_perhaps :=
  a_mth none hZ.1 hZ.2.1 shp_len (fun _ h => nomatch h) hZ.2.2.1 (by decide +kernel) rfl (foX9 rfl) (a_cok_of trivial) (b_code [42,182,0,164,153,0,11,42,182,0,174,27,159,0,5,3,172,42,182,0,168,42,3,16,99,182,0,178,172] [] (by decide +kernel) (by decide +kernel) (by decide +kernel) (by decide +kernel)) rfl rfl (trivial) (⟨a_CQ_v hZ.2.1 (kX9_isGood hZ) lkX9_164 (a_CF_v TX9 62 wkX9_isGood lkX9_164 hdX9_isGood ⟨by decide, by decide⟩ rfl) rfl rfl,
    ⟨a_CQ_v hZ.2.1 (kX9_knownWord hZ) lkX9_174 (a_CF_v TX9 62 wkX9_knownWord lkX9_174 hdX9_knownWord ⟨by decide, by decide⟩ rfl) rfl rfl,
    ⟨a_CQ_v hZ.2.1 (kX9_goes hZ) lkX9_168 (a_CF_v TX9 62 wkX9_goes lkX9_168 hdX9_goes ⟨by decide, by decide⟩ rfl) rfl rfl,
    ⟨a_CQ_v hZ.2.1 (kX9_number hZ) lkX9_178 (a_CF_v TX9 62 wkX9_number lkX9_178 hdX9_number ⟨by decide, by decide⟩ rfl) rfl rfl,
    trivial⟩⟩⟩⟩)
noncomputable def pX9_amongHere : aPrg := ([(0, .aload_n 0, 0, 0, []),
  (1, .invokevirtual 164, 0, 0, []),
  (4, .ifCond .ne 5, 0, 9, []),
  (7, .iconst 0, 0, 0, []),
  (8, .ireturn, 0, 0, []),
  (9, .aload_n 0, 0, 0, []),
  (10, .getfield 138, 0, 0, []),
  (13, .iconst 2, 2, 0, []),
  (14, .if_icmp .eq 11, 0, 25, []),
  (17, .aload_n 0, 0, 0, []),
  (18, .iconst 1, 1, 0, []),
  (19, .invokevirtual 171, 0, 0, []),
  (22, .goto 32, 0, 54, []),
  (25, .aload_n 0, 0, 0, []),
  (26, .getfield 148, 0, 0, []),
  (29, .iconst 4, 4, 0, []),
  (30, .if_icmp .le 11, 0, 41, []),
  (33, .aload_n 0, 0, 0, []),
  (34, .iconst 2, 2, 0, []),
  (35, .invokevirtual 171, 0, 0, []),
  (38, .goto 16, 0, 54, []),
  (41, .aload_n 0, 0, 0, []),
  (42, .getfield 132, 0, 0, []),
  (45, .iload_n 1, 0, 0, []),
  (46, .if_icmp .lt 8, 0, 54, []),
  (49, .aload_n 0, 0, 0, []),
  (50, .iconst 3, 3, 0, []),
  (51, .invokevirtual 171, 0, 0, []),
  (54, .aload_n 0, 0, 0, []),
  (55, .invokevirtual 164, 0, 0, []),
  (58, .ireturn, 0, 0, [])],
  fdX9, [(164, fX9_isGood, 1, 9, 0), (171, fX9_wrong, 2, 9, 1)], [], [], [], 1)
noncomputable def fX9_amongHere : aMF := a_fn none shp pX9_amongHere 2 2
set_option maxRecDepth 20000 in
theorem kX9_amongHere {l : Launch} {G : aG} (hZ : a_Z l G) : a_Con l G shp yX9_amongHere (.code yX9_amongHere cX9_amongHere 2 (some .boolean)) 2 37 fX9_amongHere :=
  a_mth none hZ.1 hZ.2.1 shp_len (fun _ h => nomatch h) hZ.2.2.1 (by decide +kernel) rfl (foX9 rfl) (a_cok_of trivial) (b_code [42,182,0,164,154,0,5,3,172,42,180,0,138,5,159,0,11,42,4,182,0,171,167,0,32,42,180,0,148,7,164,0,11,42,5,182,0,171,167,0,16,42,180,0,132,27,161,0,8,42,6,182,0,171,42,182,0,164,172] [] (by decide +kernel) (by decide +kernel) (by decide +kernel) (by decide +kernel)) rfl rfl (trivial) (⟨a_CQ_v hZ.2.1 (kX9_isGood hZ) lkX9_164 (a_CF_v TX9 62 wkX9_isGood lkX9_164 hdX9_isGood ⟨by decide, by decide⟩ rfl) rfl rfl,
    ⟨a_CQ_v hZ.2.1 (kX9_wrong hZ) lkX9_171 (a_CF_v TX9 62 wkX9_wrong lkX9_171 hdX9_wrong ⟨by decide, by decide⟩ rfl) rfl rfl,
    trivial⟩⟩)
noncomputable def pX9_among : aPrg := ([(0, .aload_n 0, 0, 0, []),
  (1, .iload_n 1, 0, 0, []),
  (2, .invokevirtual 182, 0, 0, []),
  (5, .ifCond .eq 10, 0, 15, []),
  (8, .aload_n 0, 0, 0, []),
  (9, .getfield 132, 0, 0, []),
  (12, .goto 4, 0, 16, []),
  (15, .iconst 0, 0, 0, []),
  (16, .istore_n 2, 0, 0, []),
  (17, .aload_n 0, 0, 0, []),
  (18, .invokevirtual 164, 0, 0, []),
  (21, .ifCond .eq 7, 0, 28, []),
  (24, .aload_n 0, 0, 0, []),
  (25, .invokevirtual 168, 0, 0, []),
  (28, .iload_n 2, 0, 0, []),
  (29, .ireturn, 0, 0, [])],
  fdX9, [(182, fX9_amongHere, 2, 9, 0), (164, fX9_isGood, 1, 9, 0), (168, fX9_goes, 1, 9, 1)], [], [], [], 0)
noncomputable def fX9_among : aMF := a_fn none shp pX9_among 3 2
set_option maxRecDepth 20000 in
theorem wkX9_amongHere : ∀ w ∈ [Cond.code yX9_amongHere cX9_amongHere 2 (some .boolean), .initialized yX9_amongHere.cls, .instanceMethod yX9_amongHere, .selects yX9_amongHere.cls yX9_amongHere yX9_amongHere], w ∈ lw_g := a_ps [1387, 105, 1386, 63] rfl rfl
theorem hdX9_amongHere : yX9_amongHere.cls ≠ "java/lang/invoke/MethodHandle" ∧ yX9_amongHere.cls ≠ "java/lang/invoke/VarHandle" ∧ (parseMethodDescriptor yX9_amongHere.desc).map (fun d => d.parameters.length) = some 1 := by decide +kernel
set_option maxRecDepth 20000 in
theorem lkX9_182 : Cond.methodLink RX9 182 yX9_amongHere ∈ lw_g := a_p1 1384 rfl rfl
set_option maxRecDepth 20000 in
theorem kX9_among {l : Launch} {G : aG} (hZ : a_Z l G) : a_Con l G shp yX9_among (.code yX9_among cX9_among 3 (some .int)) 3 58 fX9_among :=
  a_mth none hZ.1 hZ.2.1 shp_len (fun _ h => nomatch h) hZ.2.2.1 (by decide +kernel) rfl (foX9 rfl) (a_cok_of trivial) (b_code [42,27,182,0,182,153,0,10,42,180,0,132,167,0,4,3,61,42,182,0,164,153,0,7,42,182,0,168,28,172] [] (by decide +kernel) (by decide +kernel) (by decide +kernel) (by decide +kernel)) rfl rfl (trivial) (⟨a_CQ_v hZ.2.1 (kX9_amongHere hZ) lkX9_182 (a_CF_v TX9 62 wkX9_amongHere lkX9_182 hdX9_amongHere ⟨by decide, by decide⟩ rfl) rfl rfl,
    ⟨a_CQ_v hZ.2.1 (kX9_isGood hZ) lkX9_164 (a_CF_v TX9 62 wkX9_isGood lkX9_164 hdX9_isGood ⟨by decide, by decide⟩ rfl) rfl rfl,
    ⟨a_CQ_v hZ.2.1 (kX9_goes hZ) lkX9_168 (a_CF_v TX9 62 wkX9_goes lkX9_168 hdX9_goes ⟨by decide, by decide⟩ rfl) rfl rfl,
    trivial⟩⟩⟩)
noncomputable def pX9_puts : aPrg := ([(0, .aload_n 0, 0, 0, []),
  (1, .getfield 47, 0, 0, []),
  (4, .aload_n 0, 0, 0, []),
  (5, .getfield 185, 0, 0, []),
  (8, .iload_n 1, 0, 0, []),
  (9, .iastore, 0, 0, []),
  (10, .aload_n 0, 0, 0, []),
  (11, .dup, 0, 0, []),
  (12, .getfield 185, 0, 0, []),
  (15, .iconst 1, 1, 0, []),
  (16, .iadd, 0, 0, []),
  (17, .putfield 185, 0, 0, []),
  (20, .return_, 0, 0, [])],
  fdX9, [], [], [], [], 2)
noncomputable def fX9_puts : aMF := a_fn none shp pX9_puts 2 2
set_option maxRecDepth 20000 in
theorem kX9_puts {l : Launch} {G : aG} (hZ : a_Z l G) : a_Con l G shp yX9_puts (.code yX9_puts cX9_puts 2 none) 1 16 fX9_puts :=
  a_mth none hZ.1 hZ.2.1 shp_len (fun _ h => nomatch h) hZ.2.2.1 (by decide +kernel) rfl (foX9 rfl) (a_cok_of trivial) (b_code [42,180,0,47,42,180,0,185,27,79,42,89,180,0,185,4,96,181,0,185,177] [] (by decide +kernel) (by decide +kernel) (by decide +kernel) (by decide +kernel)) rfl rfl (trivial) (trivial)
noncomputable def pX9_isOpen : aPrg := ([(0, .iload_n 0, 0, 0, []),
  (1, .bipush 14, 14, 0, []),
  (3, .if_icmp .lt 7, 0, 10, []),
  (6, .iconst 1, 1, 0, []),
  (7, .goto 4, 0, 11, []),
  (10, .iconst 0, 0, 0, []),
  (11, .ireturn, 0, 0, [])],
  fdX9, [], [], [], [], 1)
noncomputable def fX9_isOpen : aMF := a_fn none shp pX9_isOpen 1 1
set_option maxRecDepth 20000 in
theorem kX9_isOpen {l : Launch} {G : aG} (hZ : a_Z l G) : a_Con l G shp yX9_isOpen (.code yX9_isOpen cX9_isOpen 1 (some .boolean)) 1 16 fX9_isOpen :=
  a_mth none hZ.1 hZ.2.1 shp_len (fun _ h => nomatch h) hZ.2.2.1 (by decide +kernel) rfl (foX9 rfl) (a_cok_of trivial) (b_code [26,16,14,161,0,7,4,167,0,4,3,172] [] (by decide +kernel) (by decide +kernel) (by decide +kernel) (by decide +kernel)) rfl rfl (trivial) (trivial)
noncomputable def pX9_strength : aPrg := ([(0, .iload_n 0, 0, 0, []),
  (1, .iconst 5, 5, 0, []),
  (2, .if_icmp .ne 7, 0, 9, []),
  (5, .iconst 1, 1, 0, []),
  (6, .goto 55, 0, 61, []),
  (9, .iload_n 0, 0, 0, []),
  (10, .iconst 4, 4, 0, []),
  (11, .if_icmp .ne 7, 0, 18, []),
  (14, .iconst 2, 2, 0, []),
  (15, .goto 46, 0, 61, []),
  (18, .iload_n 0, 0, 0, []),
  (19, .iconst 3, 3, 0, []),
  (20, .if_icmp .ne 7, 0, 27, []),
  (23, .iconst 3, 3, 0, []),
  (24, .goto 37, 0, 61, []),
  (27, .iload_n 0, 0, 0, []),
  (28, .bipush 6, 6, 0, []),
  (30, .if_icmp .eq 9, 0, 39, []),
  (33, .iload_n 0, 0, 0, []),
  (34, .bipush 7, 7, 0, []),
  (36, .if_icmp .ne 7, 0, 43, []),
  (39, .iconst 4, 4, 0, []),
  (40, .goto 21, 0, 61, []),
  (43, .iload_n 0, 0, 0, []),
  (44, .bipush 8, 8, 0, []),
  (46, .if_icmp .eq 9, 0, 55, []),
  (49, .iload_n 0, 0, 0, []),
  (50, .bipush 9, 9, 0, []),
  (52, .if_icmp .ne 7, 0, 59, []),
  (55, .iconst 5, 5, 0, []),
  (56, .goto 5, 0, 61, []),
  (59, .bipush 6, 6, 0, []),
  (61, .ireturn, 0, 0, [])],
  fdX9, [], [], [], [], 0)
noncomputable def fX9_strength : aMF := a_fn none shp pX9_strength 1 1
set_option maxRecDepth 20000 in
theorem kX9_strength {l : Launch} {G : aG} (hZ : a_Z l G) : a_Con l G shp yX9_strength (.code yX9_strength cX9_strength 1 (some .int)) 1 16 fX9_strength :=
  a_mth none hZ.1 hZ.2.1 shp_len (fun _ h => nomatch h) hZ.2.2.1 (by decide +kernel) rfl (foX9 rfl) (a_cok_of trivial) (b_code [26,8,160,0,7,4,167,0,55,26,7,160,0,7,5,167,0,46,26,6,160,0,7,6,167,0,37,26,16,6,159,0,9,26,16,7,160,0,7,7,167,0,21,26,16,8,159,0,9,26,16,9,160,0,7,8,167,0,5,16,6,172] [] (by decide +kernel) (by decide +kernel) (by decide +kernel) (by decide +kernel)) rfl rfl (trivial) (trivial)
noncomputable def pX9_drops : aPrg := ([(0, .aload_n 0, 0, 0, []),
  (1, .getfield 188, 0, 0, []),
  (4, .ifCond .le 64, 0, 68, []),
  (7, .aload_n 0, 0, 0, []),
  (8, .getfield 50, 0, 0, []),
  (11, .aload_n 0, 0, 0, []),
  (12, .getfield 188, 0, 0, []),
  (15, .iconst 1, 1, 0, []),
  (16, .isub, 0, 0, []),
  (17, .iaload, 0, 0, []),
  (18, .invokestatic 191, 0, 0, []),
  (21, .ifCond .ne 47, 0, 68, []),
  (24, .aload_n 0, 0, 0, []),
  (25, .getfield 50, 0, 0, []),
  (28, .aload_n 0, 0, 0, []),
  (29, .getfield 188, 0, 0, []),
  (32, .iconst 1, 1, 0, []),
  (33, .isub, 0, 0, []),
  (34, .iaload, 0, 0, []),
  (35, .invokestatic 194, 0, 0, []),
  (38, .iload_n 1, 0, 0, []),
  (39, .if_icmp .lt 29, 0, 68, []),
  (42, .aload_n 0, 0, 0, []),
  (43, .dup, 0, 0, []),
  (44, .getfield 188, 0, 0, []),
  (47, .iconst 1, 1, 0, []),
  (48, .isub, 0, 0, []),
  (49, .putfield 188, 0, 0, []),
  (52, .aload_n 0, 0, 0, []),
  (53, .aload_n 0, 0, 0, []),
  (54, .getfield 50, 0, 0, []),
  (57, .aload_n 0, 0, 0, []),
  (58, .getfield 188, 0, 0, []),
  (61, .iaload, 0, 0, []),
  (62, .invokevirtual 197, 0, 0, []),
  (65, .goto (-65), 0, 0, []),
  (68, .return_, 0, 0, [])],
  fdX9, [(191, fX9_isOpen, 1, 2000, 0), (194, fX9_strength, 1, 2000, 0), (197, fX9_puts, 2, 9, 1)], [], [], [], 2)
noncomputable def fX9_drops : aMF := a_fn none shp pX9_drops 2 2
set_option maxRecDepth 20000 in
theorem wkX9_isOpen : ∀ w ∈ [Cond.code yX9_isOpen cX9_isOpen 1 (some .boolean), .initialized yX9_isOpen.cls, .static yX9_isOpen], w ∈ lw_g := a_ps [1422, 105, 1421] rfl rfl
theorem hdX9_isOpen : yX9_isOpen.cls ≠ "java/lang/invoke/MethodHandle" ∧ yX9_isOpen.cls ≠ "java/lang/invoke/VarHandle" ∧ (parseMethodDescriptor yX9_isOpen.desc).map (fun d => d.parameters.length) = some 1 := by decide +kernel
set_option maxRecDepth 20000 in
theorem lkX9_191 : Cond.methodLink RX9 191 yX9_isOpen ∈ lw_g := a_p1 1420 rfl rfl
set_option maxRecDepth 20000 in
theorem wkX9_strength : ∀ w ∈ [Cond.code yX9_strength cX9_strength 1 (some .int), .initialized yX9_strength.cls, .static yX9_strength], w ∈ lw_g := a_ps [1425, 105, 1424] rfl rfl
theorem hdX9_strength : yX9_strength.cls ≠ "java/lang/invoke/MethodHandle" ∧ yX9_strength.cls ≠ "java/lang/invoke/VarHandle" ∧ (parseMethodDescriptor yX9_strength.desc).map (fun d => d.parameters.length) = some 1 := by decide +kernel
set_option maxRecDepth 20000 in
theorem lkX9_194 : Cond.methodLink RX9 194 yX9_strength ∈ lw_g := a_p1 1423 rfl rfl
set_option maxRecDepth 20000 in
theorem wkX9_puts : ∀ w ∈ [Cond.code yX9_puts cX9_puts 2 none, .initialized yX9_puts.cls, .instanceMethod yX9_puts, .selects yX9_puts.cls yX9_puts yX9_puts], w ∈ lw_g := a_ps [1415, 105, 1414, 70] rfl rfl
theorem hdX9_puts : yX9_puts.cls ≠ "java/lang/invoke/MethodHandle" ∧ yX9_puts.cls ≠ "java/lang/invoke/VarHandle" ∧ (parseMethodDescriptor yX9_puts.desc).map (fun d => d.parameters.length) = some 1 := by decide +kernel
set_option maxRecDepth 20000 in
theorem lkX9_197 : Cond.methodLink RX9 197 yX9_puts ∈ lw_g := a_p1 1412 rfl rfl
set_option maxRecDepth 20000 in
theorem kX9_drops {l : Launch} {G : aG} (hZ : a_Z l G) : a_Con l G shp yX9_drops (.code yX9_drops cX9_drops 2 none) 2 37 fX9_drops :=
  a_mth none hZ.1 hZ.2.1 shp_len (fun _ h => nomatch h) hZ.2.2.1 (by decide +kernel) rfl (foX9 rfl) (a_cok_of trivial) (b_code [42,180,0,188,158,0,64,42,180,0,50,42,180,0,188,4,100,46,184,0,191,154,0,47,42,180,0,50,42,180,0,188,4,100,46,184,0,194,27,161,0,29,42,89,180,0,188,4,100,181,0,188,42,42,180,0,50,42,180,0,188,46,182,0,197,167,255,191,177] [] (by decide +kernel) (by decide +kernel) (by decide +kernel) (by decide +kernel)) rfl rfl (trivial) (⟨a_CQ_s hZ.2.1 (kX9_isOpen hZ) lkX9_191 (a_CF_s wkX9_isOpen lkX9_191 hdX9_isOpen) rfl rfl,
    ⟨a_CQ_s hZ.2.1 (kX9_strength hZ) lkX9_194 (a_CF_s wkX9_strength lkX9_194 hdX9_strength) rfl rfl,
    ⟨a_CQ_v hZ.2.1 (kX9_puts hZ) lkX9_197 (a_CF_v TX9 62 wkX9_puts lkX9_197 hdX9_puts ⟨by decide, by decide⟩ rfl) rfl rfl,
    trivial⟩⟩⟩)
noncomputable def pX9_waitsFor : aPrg := ([(0, .aload_n 0, 0, 0, []),
  (1, .getfield 50, 0, 0, []),
  (4, .aload_n 0, 0, 0, []),
  (5, .getfield 188, 0, 0, []),
  (8, .iload_n 1, 0, 0, []),
  (9, .iastore, 0, 0, []),
  (10, .aload_n 0, 0, 0, []),
  (11, .dup, 0, 0, []),
  (12, .getfield 188, 0, 0, []),
  (15, .iconst 1, 1, 0, []),
  (16, .iadd, 0, 0, []),
  (17, .putfield 188, 0, 0, []),
  (20, .return_, 0, 0, [])],
  fdX9, [], [], [], [], 2)
noncomputable def fX9_waitsFor : aMF := a_fn none shp pX9_waitsFor 2 2
set_option maxRecDepth 20000 in
theorem kX9_waitsFor {l : Launch} {G : aG} (hZ : a_Z l G) : a_Con l G shp yX9_waitsFor (.code yX9_waitsFor cX9_waitsFor 2 none) 1 16 fX9_waitsFor :=
  a_mth none hZ.1 hZ.2.1 shp_len (fun _ h => nomatch h) hZ.2.2.1 (by decide +kernel) rfl (foX9 rfl) (a_cok_of trivial) (b_code [42,180,0,50,42,180,0,188,27,79,42,89,180,0,188,4,96,181,0,188,177] [] (by decide +kernel) (by decide +kernel) (by decide +kernel) (by decide +kernel)) rfl rfl (trivial) (trivial)
noncomputable def pX9_part : aPrg := ([(0, .aload_n 0, 0, 0, []),
  (1, .invokevirtual 164, 0, 0, []),
  (4, .ifCond .ne 4, 0, 8, []),
  (7, .return_, 0, 0, []),
  (8, .aload_n 0, 0, 0, []),
  (9, .getfield 138, 0, 0, []),
  (12, .iconst 2, 2, 0, []),
  (13, .if_icmp .ne 32, 0, 45, []),
  (16, .aload_n 0, 0, 0, []),
  (17, .getfield 148, 0, 0, []),
  (20, .iconst 4, 4, 0, []),
  (21, .if_icmp .le 8, 0, 29, []),
  (24, .aload_n 0, 0, 0, []),
  (25, .iconst 2, 2, 0, []),
  (26, .invokevirtual 171, 0, 0, []),
  (29, .aload_n 0, 0, 0, []),
  (30, .iconst 1, 1, 0, []),
  (31, .invokevirtual 197, 0, 0, []),
  (34, .aload_n 0, 0, 0, []),
  (35, .aload_n 0, 0, 0, []),
  (36, .getfield 132, 0, 0, []),
  (39, .invokevirtual 197, 0, 0, []),
  (42, .goto 48, 0, 90, []),
  (45, .aload_n 0, 0, 0, []),
  (46, .getfield 138, 0, 0, []),
  (49, .iconst 1, 1, 0, []),
  (50, .if_icmp .ne 35, 0, 85, []),
  (53, .aload_n 0, 0, 0, []),
  (54, .invokevirtual 174, 0, 0, []),
  (57, .istore_n 1, 0, 0, []),
  (58, .iload_n 1, 0, 0, []),
  (59, .ifCond .lt 8, 0, 67, []),
  (62, .iload_n 1, 0, 0, []),
  (63, .iconst 3, 3, 0, []),
  (64, .if_icmp .le 8, 0, 72, []),
  (67, .aload_n 0, 0, 0, []),
  (68, .iconst 3, 3, 0, []),
  (69, .invokevirtual 171, 0, 0, []),
  (72, .aload_n 0, 0, 0, []),
  (73, .iconst 2, 2, 0, []),
  (74, .invokevirtual 197, 0, 0, []),
  (77, .aload_n 0, 0, 0, []),
  (78, .iload_n 1, 0, 0, []),
  (79, .invokevirtual 197, 0, 0, []),
  (82, .goto 8, 0, 90, []),
  (85, .aload_n 0, 0, 0, []),
  (86, .iconst 1, 1, 0, []),
  (87, .invokevirtual 171, 0, 0, []),
  (90, .aload_n 0, 0, 0, []),
  (91, .invokevirtual 164, 0, 0, []),
  (94, .ifCond .eq 7, 0, 101, []),
  (97, .aload_n 0, 0, 0, []),
  (98, .invokevirtual 168, 0, 0, []),
  (101, .return_, 0, 0, [])],
  fdX9, [(164, fX9_isGood, 1, 9, 0), (171, fX9_wrong, 2, 9, 1), (197, fX9_puts, 2, 9, 1), (174, fX9_knownWord, 1, 9, 0), (168, fX9_goes, 1, 9, 1)], [], [], [], 2)
noncomputable def fX9_part : aMF := a_fn none shp pX9_part 2 1
set_option maxRecDepth 20000 in
theorem kX9_part {l : Launch} {G : aG} (hZ : a_Z l G) : a_Con l G shp yX9_part (.code yX9_part cX9_part 2 none) 4 84 fX9_part :=
  a_mth none hZ.1 hZ.2.1 shp_len (fun _ h => nomatch h) hZ.2.2.1 (by decide +kernel) rfl (foX9 rfl) (a_cok_of trivial) (b_code [42,182,0,164,154,0,4,177,42,180,0,138,5,160,0,32,42,180,0,148,7,164,0,8,42,5,182,0,171,42,4,182,0,197,42,42,180,0,132,182,0,197,167,0,48,42,180,0,138,4,160,0,35,42,182,0,174,60,27,155,0,8,27,6,164,0,8,42,6,182,0,171,42,5,182,0,197,42,27,182,0,197,167,0,8,42,4,182,0,171,42,182,0,164,153,0,7,42,182,0,168,177] [] (by decide +kernel) (by decide +kernel) (by decide +kernel) (by decide +kernel)) rfl rfl (trivial) (⟨a_CQ_v hZ.2.1 (kX9_isGood hZ) lkX9_164 (a_CF_v TX9 62 wkX9_isGood lkX9_164 hdX9_isGood ⟨by decide, by decide⟩ rfl) rfl rfl,
    ⟨a_CQ_v hZ.2.1 (kX9_wrong hZ) lkX9_171 (a_CF_v TX9 62 wkX9_wrong lkX9_171 hdX9_wrong ⟨by decide, by decide⟩ rfl) rfl rfl,
    ⟨a_CQ_v hZ.2.1 (kX9_puts hZ) lkX9_197 (a_CF_v TX9 62 wkX9_puts lkX9_197 hdX9_puts ⟨by decide, by decide⟩ rfl) rfl rfl,
    ⟨a_CQ_v hZ.2.1 (kX9_knownWord hZ) lkX9_174 (a_CF_v TX9 62 wkX9_knownWord lkX9_174 hdX9_knownWord ⟨by decide, by decide⟩ rfl) rfl rfl,
    ⟨a_CQ_v hZ.2.1 (kX9_goes hZ) lkX9_168 (a_CF_v TX9 62 wkX9_goes lkX9_168 hdX9_goes ⟨by decide, by decide⟩ rfl) rfl rfl,
    trivial⟩⟩⟩⟩⟩)
end
section
/-! ===== programs and contracts, written by wip/whole/gen.py ===== -/
noncomputable def pX9_deeper : aPrg := ([(0, .aload_n 0, 0, 0, []),
  (1, .getfield 200, 0, 0, []),
  (4, .bipush 6, 6, 0, []),
  (6, .if_icmp .ge 24, 0, 30, []),
  (9, .aload_n 0, 0, 0, []),
  (10, .dup, 0, 0, []),
  (11, .getfield 200, 0, 0, []),
  (14, .iconst 1, 1, 0, []),
  (15, .iadd, 0, 0, []),
  (16, .putfield 200, 0, 0, []),
  (19, .aload_n 0, 0, 0, []),
  (20, .getfield 53, 0, 0, []),
  (23, .aload_n 0, 0, 0, []),
  (24, .getfield 200, 0, 0, []),
  (27, .iconst 0, 0, 0, []),
  (28, .bastore, 0, 0, []),
  (29, .return_, 0, 0, []),
  (30, .aload_n 0, 0, 0, []),
  (31, .aload_n 0, 0, 0, []),
  (32, .getfield 138, 0, 0, []),
  (35, .iconst 2, 2, 0, []),
  (36, .if_icmp .eq 20, 0, 56, []),
  (39, .aload_n 0, 0, 0, []),
  (40, .getfield 138, 0, 0, []),
  (43, .iconst 1, 1, 0, []),
  (44, .if_icmp .eq 12, 0, 56, []),
  (47, .aload_n 0, 0, 0, []),
  (48, .bipush 40, 40, 0, []),
  (50, .invokevirtual 203, 0, 0, []),
  (53, .ifCond .eq 7, 0, 60, []),
  (56, .iconst 2, 2, 0, []),
  (57, .goto 4, 0, 61, []),
  (60, .iconst 1, 1, 0, []),
  (61, .invokevirtual 171, 0, 0, []),
  (64, .return_, 0, 0, [])],
  fdX9, [(203, fX9_isSign, 2, 9, 0), (171, fX9_wrong, 2, 9, 1)], [], [], [], 2)
noncomputable def fX9_deeper : aMF := a_fn none shp pX9_deeper 1 1
set_option maxRecDepth 20000 in
theorem wkX9_isSign : ∀ w ∈ [Cond.code yX9_isSign cX9_isSign 2 (some .boolean), .initialized yX9_isSign.cls, .instanceMethod yX9_isSign, .selects yX9_isSign.cls yX9_isSign yX9_isSign], w ∈ lw_g := a_ps [1399, 105, 1398, 66] rfl rfl
theorem hdX9_isSign : yX9_isSign.cls ≠ "java/lang/invoke/MethodHandle" ∧ yX9_isSign.cls ≠ "java/lang/invoke/VarHandle" ∧ (parseMethodDescriptor yX9_isSign.desc).map (fun d => d.parameters.length) = some 1 := by decide +kernel
set_option maxRecDepth 20000 in
theorem lkX9_203 : Cond.methodLink RX9 203 yX9_isSign ∈ lw_g := a_p1 1396 rfl rfl
set_option maxRecDepth 20000 in
theorem kX9_deeper {l : Launch} {G : aG} (hZ : a_Z l G) : a_Con l G shp yX9_deeper (.code yX9_deeper cX9_deeper 1 none) 2 37 fX9_deeper :=
  a_mth none hZ.1 hZ.2.1 shp_len (fun _ h => nomatch h) hZ.2.2.1 (by decide +kernel) rfl (foX9 rfl) (a_cok_of trivial) (b_code [42,180,0,200,16,6,162,0,24,42,89,180,0,200,4,96,181,0,200,42,180,0,53,42,180,0,200,3,84,177,42,42,180,0,138,5,159,0,20,42,180,0,138,4,159,0,12,42,16,40,182,0,203,153,0,7,5,167,0,4,4,182,0,171,177] [] (by decide +kernel) (by decide +kernel) (by decide +kernel) (by decide +kernel)) rfl rfl (trivial) (⟨a_CQ_v hZ.2.1 (kX9_isSign hZ) lkX9_203 (a_CF_v TX9 62 wkX9_isSign lkX9_203 hdX9_isSign ⟨by decide, by decide⟩ rfl) rfl rfl,
    ⟨a_CQ_v hZ.2.1 (kX9_wrong hZ) lkX9_171 (a_CF_v TX9 62 wkX9_wrong lkX9_171 hdX9_wrong ⟨by decide, by decide⟩ rfl) rfl rfl,
    trivial⟩⟩)
noncomputable def pX9_operand : aPrg := ([(0, .iload_n 1, 0, 0, []),
  (1, .istore_n 2, 0, 0, []),
  (2, .iconst 1, 1, 0, []),
  (3, .istore_n 3, 0, 0, []),
  (4, .iload_n 3, 0, 0, []),
  (5, .ifCond .eq 138, 0, 143, []),
  (8, .aload_n 0, 0, 0, []),
  (9, .invokevirtual 164, 0, 0, []),
  (12, .ifCond .eq 131, 0, 143, []),
  (15, .iconst 0, 0, 0, []),
  (16, .istore 4, 0, 0, []),
  (18, .aload_n 0, 0, 0, []),
  (19, .invokevirtual 164, 0, 0, []),
  (22, .ifCond .eq 53, 0, 75, []),
  (25, .iload_n 2, 0, 0, []),
  (26, .ifCond .eq 49, 0, 75, []),
  (29, .aload_n 0, 0, 0, []),
  (30, .invokevirtual 174, 0, 0, []),
  (33, .bipush 11, 11, 0, []),
  (35, .if_icmp .ne 40, 0, 75, []),
  (38, .iload 4, 0, 0, []),
  (40, .bipush 6, 6, 0, []),
  (42, .if_icmp .ne 8, 0, 50, []),
  (45, .aload_n 0, 0, 0, []),
  (46, .iconst 2, 2, 0, []),
  (47, .invokevirtual 171, 0, 0, []),
  (50, .iinc 4 1, 1, 0, []),
  (53, .aload_n 0, 0, 0, []),
  (54, .invokevirtual 164, 0, 0, []),
  (57, .ifCond .ne 6, 0, 63, []),
  (60, .goto (-42), 0, 18, []),
  (63, .aload_n 0, 0, 0, []),
  (64, .iconst 3, 3, 0, []),
  (65, .invokevirtual 206, 0, 0, []),
  (68, .aload_n 0, 0, 0, []),
  (69, .invokevirtual 168, 0, 0, []),
  (72, .goto (-54), 0, 18, []),
  (75, .aload_n 0, 0, 0, []),
  (76, .invokevirtual 164, 0, 0, []),
  (79, .ifCond .eq 25, 0, 104, []),
  (82, .aload_n 0, 0, 0, []),
  (83, .bipush 40, 40, 0, []),
  (85, .invokevirtual 203, 0, 0, []),
  (88, .ifCond .ne 12, 0, 100, []),
  (91, .aload_n 0, 0, 0, []),
  (92, .invokevirtual 174, 0, 0, []),
  (95, .bipush 12, 12, 0, []),
  (97, .if_icmp .ne 7, 0, 104, []),
  (100, .iconst 1, 1, 0, []),
  (101, .goto 4, 0, 105, []),
  (104, .iconst 0, 0, 0, []),
  (105, .istore_n 3, 0, 0, []),
  (106, .iload_n 3, 0, 0, []),
  (107, .ifCond .eq 33, 0, 140, []),
  (110, .aload_n 0, 0, 0, []),
  (111, .aload_n 0, 0, 0, []),
  (112, .bipush 40, 40, 0, []),
  (114, .invokevirtual 203, 0, 0, []),
  (117, .ifCond .eq 8, 0, 125, []),
  (120, .bipush 14, 14, 0, []),
  (122, .goto 5, 0, 127, []),
  (125, .bipush 15, 15, 0, []),
  (127, .invokevirtual 206, 0, 0, []),
  (130, .aload_n 0, 0, 0, []),
  (131, .invokevirtual 168, 0, 0, []),
  (134, .aload_n 0, 0, 0, []),
  (135, .invokevirtual 209, 0, 0, []),
  (138, .iconst 1, 1, 0, []),
  (139, .istore_n 2, 0, 0, []),
  (140, .goto (-136), 0, 4, []),
  (143, .aload_n 0, 0, 0, []),
  (144, .invokevirtual 212, 0, 0, []),
  (147, .return_, 0, 0, [])],
  fdX9, [(164, fX9_isGood, 1, 9, 0), (174, fX9_knownWord, 1, 9, 0), (171, fX9_wrong, 2, 9, 1), (206, fX9_waitsFor, 2, 9, 1), (168, fX9_goes, 1, 9, 1), (203, fX9_isSign, 2, 9, 0), (209, fX9_deeper, 1, 9, 1), (212, fX9_part, 1, 9, 1)], [], [], [], 2)
noncomputable def fX9_operand : aMF := a_fn none shp pX9_operand 5 2
set_option maxRecDepth 20000 in
theorem wkX9_waitsFor : ∀ w ∈ [Cond.code yX9_waitsFor cX9_waitsFor 2 none, .initialized yX9_waitsFor.cls, .instanceMethod yX9_waitsFor, .selects yX9_waitsFor.cls yX9_waitsFor yX9_waitsFor], w ∈ lw_g := a_ps [1407, 105, 1406, 68] rfl rfl
theorem hdX9_waitsFor : yX9_waitsFor.cls ≠ "java/lang/invoke/MethodHandle" ∧ yX9_waitsFor.cls ≠ "java/lang/invoke/VarHandle" ∧ (parseMethodDescriptor yX9_waitsFor.desc).map (fun d => d.parameters.length) = some 1 := by decide +kernel
set_option maxRecDepth 20000 in
theorem lkX9_206 : Cond.methodLink RX9 206 yX9_waitsFor ∈ lw_g := a_p1 1404 rfl rfl
set_option maxRecDepth 20000 in
theorem wkX9_deeper : ∀ w ∈ [Cond.code yX9_deeper cX9_deeper 1 none, .initialized yX9_deeper.cls, .instanceMethod yX9_deeper, .selects yX9_deeper.cls yX9_deeper yX9_deeper], w ∈ lw_g := a_ps [1395, 105, 1394, 65] rfl rfl
theorem hdX9_deeper : yX9_deeper.cls ≠ "java/lang/invoke/MethodHandle" ∧ yX9_deeper.cls ≠ "java/lang/invoke/VarHandle" ∧ (parseMethodDescriptor yX9_deeper.desc).map (fun d => d.parameters.length) = some 0 := by decide +kernel
set_option maxRecDepth 20000 in
theorem lkX9_209 : Cond.methodLink RX9 209 yX9_deeper ∈ lw_g := a_p1 1392 rfl rfl
set_option maxRecDepth 20000 in
theorem wkX9_part : ∀ w ∈ [Cond.code yX9_part cX9_part 2 none, .initialized yX9_part.cls, .instanceMethod yX9_part, .selects yX9_part.cls yX9_part yX9_part], w ∈ lw_g := a_ps [1411, 105, 1410, 69] rfl rfl
theorem hdX9_part : yX9_part.cls ≠ "java/lang/invoke/MethodHandle" ∧ yX9_part.cls ≠ "java/lang/invoke/VarHandle" ∧ (parseMethodDescriptor yX9_part.desc).map (fun d => d.parameters.length) = some 0 := by decide +kernel
set_option maxRecDepth 20000 in
theorem lkX9_212 : Cond.methodLink RX9 212 yX9_part ∈ lw_g := a_p1 1408 rfl rfl
set_option maxRecDepth 20000 in
theorem kX9_operand {l : Launch} {G : aG} (hZ : a_Z l G) : a_Con l G shp yX9_operand (.code yX9_operand cX9_operand 5 none) 5 105 fX9_operand :=
  a_mth none hZ.1 hZ.2.1 shp_len (fun _ h => nomatch h) hZ.2.2.1 (by decide +kernel) rfl (foX9 rfl) (a_cok_of trivial) (b_code [27,61,4,62,29,153,0,138,42,182,0,164,153,0,131,3,54,4,42,182,0,164,153,0,53,28,153,0,49,42,182,0,174,16,11,160,0,40,21,4,16,6,160,0,8,42,5,182,0,171,132,4,1,42,182,0,164,154,0,6,167,255,214,42,6,182,0,206,42,182,0,168,167,255,202,42,182,0,164,153,0,25,42,16,40,182,0,203,154,0,12,42,182,0,174,16,12,160,0,7,4,167,0,4,3,62,29,153,0,33,42,42,16,40,182,0,203,153,0,8,16,14,167,0,5,16,15,182,0,206,42,182,0,168,42,182,0,209,4,61,167,255,120,42,182,0,212,177] [] (by decide +kernel) (by decide +kernel) (by decide +kernel) (by decide +kernel)) rfl rfl (trivial) (⟨a_CQ_v hZ.2.1 (kX9_isGood hZ) lkX9_164 (a_CF_v TX9 62 wkX9_isGood lkX9_164 hdX9_isGood ⟨by decide, by decide⟩ rfl) rfl rfl,
    ⟨a_CQ_v hZ.2.1 (kX9_knownWord hZ) lkX9_174 (a_CF_v TX9 62 wkX9_knownWord lkX9_174 hdX9_knownWord ⟨by decide, by decide⟩ rfl) rfl rfl,
    ⟨a_CQ_v hZ.2.1 (kX9_wrong hZ) lkX9_171 (a_CF_v TX9 62 wkX9_wrong lkX9_171 hdX9_wrong ⟨by decide, by decide⟩ rfl) rfl rfl,
    ⟨a_CQ_v hZ.2.1 (kX9_waitsFor hZ) lkX9_206 (a_CF_v TX9 62 wkX9_waitsFor lkX9_206 hdX9_waitsFor ⟨by decide, by decide⟩ rfl) rfl rfl,
    ⟨a_CQ_v hZ.2.1 (kX9_goes hZ) lkX9_168 (a_CF_v TX9 62 wkX9_goes lkX9_168 hdX9_goes ⟨by decide, by decide⟩ rfl) rfl rfl,
    ⟨a_CQ_v hZ.2.1 (kX9_isSign hZ) lkX9_203 (a_CF_v TX9 62 wkX9_isSign lkX9_203 hdX9_isSign ⟨by decide, by decide⟩ rfl) rfl rfl,
    ⟨a_CQ_v hZ.2.1 (kX9_deeper hZ) lkX9_209 (a_CF_v TX9 62 wkX9_deeper lkX9_209 hdX9_deeper ⟨by decide, by decide⟩ rfl) rfl rfl,
    ⟨a_CQ_v hZ.2.1 (kX9_part hZ) lkX9_212 (a_CF_v TX9 62 wkX9_part lkX9_212 hdX9_part ⟨by decide, by decide⟩ rfl) rfl rfl,
    trivial⟩⟩⟩⟩⟩⟩⟩⟩)
noncomputable def pX9_opened : aPrg := ([(0, .aload_n 0, 0, 0, []),
  (1, .getfield 188, 0, 0, []),
  (4, .iconst 1, 1, 0, []),
  (5, .isub, 0, 0, []),
  (6, .istore_n 1, 0, 0, []),
  (7, .iload_n 1, 0, 0, []),
  (8, .ifCond .lt 21, 0, 29, []),
  (11, .aload_n 0, 0, 0, []),
  (12, .getfield 50, 0, 0, []),
  (15, .iload_n 1, 0, 0, []),
  (16, .iaload, 0, 0, []),
  (17, .invokestatic 191, 0, 0, []),
  (20, .ifCond .ne 9, 0, 29, []),
  (23, .iinc 1 (-1), (-1), 0, []),
  (26, .goto (-19), 0, 7, []),
  (29, .iload_n 1, 0, 0, []),
  (30, .ifCond .ge 7, 0, 37, []),
  (33, .iconst (-1), (-1), 0, []),
  (34, .goto 9, 0, 43, []),
  (37, .aload_n 0, 0, 0, []),
  (38, .getfield 50, 0, 0, []),
  (41, .iload_n 1, 0, 0, []),
  (42, .iaload, 0, 0, []),
  (43, .ireturn, 0, 0, [])],
  fdX9, [(191, fX9_isOpen, 1, 2000, 0)], [], [], [], 0)
noncomputable def fX9_opened : aMF := a_fn none shp pX9_opened 2 1
set_option maxRecDepth 20000 in
theorem kX9_opened {l : Launch} {G : aG} (hZ : a_Z l G) : a_Con l G shp yX9_opened (.code yX9_opened cX9_opened 2 (some .int)) 2 36 fX9_opened :=
  a_mth none hZ.1 hZ.2.1 shp_len (fun _ h => nomatch h) hZ.2.2.1 (by decide +kernel) rfl (foX9 rfl) (a_cok_of trivial) (b_code [42,180,0,188,4,100,60,27,155,0,21,42,180,0,50,27,46,184,0,191,154,0,9,132,1,255,167,255,237,27,156,0,7,2,167,0,9,42,180,0,50,27,46,172] [] (by decide +kernel) (by decide +kernel) (by decide +kernel) (by decide +kernel)) rfl rfl (trivial) (⟨a_CQ_s hZ.2.1 (kX9_isOpen hZ) lkX9_191 (a_CF_s wkX9_isOpen lkX9_191 hdX9_isOpen) rfl rfl,
    trivial⟩)
noncomputable def pX9_turns : aPrg := ([(0, .aload_n 0, 0, 0, []),
  (1, .iconst 0, 0, 0, []),
  (2, .invokevirtual 215, 0, 0, []),
  (5, .aload_n 0, 0, 0, []),
  (6, .getfield 50, 0, 0, []),
  (9, .aload_n 0, 0, 0, []),
  (10, .getfield 188, 0, 0, []),
  (13, .iconst 1, 1, 0, []),
  (14, .isub, 0, 0, []),
  (15, .iload_n 1, 0, 0, []),
  (16, .iastore, 0, 0, []),
  (17, .aload_n 0, 0, 0, []),
  (18, .getfield 53, 0, 0, []),
  (21, .aload_n 0, 0, 0, []),
  (22, .getfield 200, 0, 0, []),
  (25, .iconst 0, 0, 0, []),
  (26, .bastore, 0, 0, []),
  (27, .aload_n 0, 0, 0, []),
  (28, .invokevirtual 168, 0, 0, []),
  (31, .aload_n 0, 0, 0, []),
  (32, .getfield 138, 0, 0, []),
  (35, .iconst 2, 2, 0, []),
  (36, .if_icmp .eq 25, 0, 61, []),
  (39, .aload_n 0, 0, 0, []),
  (40, .getfield 138, 0, 0, []),
  (43, .iconst 1, 1, 0, []),
  (44, .if_icmp .eq 17, 0, 61, []),
  (47, .aload_n 0, 0, 0, []),
  (48, .bipush 40, 40, 0, []),
  (50, .invokevirtual 203, 0, 0, []),
  (53, .ifCond .ne 8, 0, 61, []),
  (56, .aload_n 0, 0, 0, []),
  (57, .iconst 1, 1, 0, []),
  (58, .invokevirtual 171, 0, 0, []),
  (61, .aload_n 0, 0, 0, []),
  (62, .iconst 1, 1, 0, []),
  (63, .invokevirtual 218, 0, 0, []),
  (66, .return_, 0, 0, [])],
  fdX9, [(215, fX9_drops, 2, 9, 1), (168, fX9_goes, 1, 9, 1), (203, fX9_isSign, 2, 9, 0), (171, fX9_wrong, 2, 9, 1), (218, fX9_operand, 2, 9, 1)], [], [], [], 2)
noncomputable def fX9_turns : aMF := a_fn none shp pX9_turns 2 2
set_option maxRecDepth 20000 in
theorem wkX9_drops : ∀ w ∈ [Cond.code yX9_drops cX9_drops 2 none, .initialized yX9_drops.cls, .instanceMethod yX9_drops, .selects yX9_drops.cls yX9_drops yX9_drops], w ∈ lw_g := a_ps [1419, 105, 1418, 71] rfl rfl
theorem hdX9_drops : yX9_drops.cls ≠ "java/lang/invoke/MethodHandle" ∧ yX9_drops.cls ≠ "java/lang/invoke/VarHandle" ∧ (parseMethodDescriptor yX9_drops.desc).map (fun d => d.parameters.length) = some 1 := by decide +kernel
set_option maxRecDepth 20000 in
theorem lkX9_215 : Cond.methodLink RX9 215 yX9_drops ∈ lw_g := a_p1 1416 rfl rfl
set_option maxRecDepth 20000 in
theorem wkX9_operand : ∀ w ∈ [Cond.code yX9_operand cX9_operand 5 none, .initialized yX9_operand.cls, .instanceMethod yX9_operand, .selects yX9_operand.cls yX9_operand yX9_operand], w ∈ lw_g := a_ps [1403, 105, 1402, 67] rfl rfl
theorem hdX9_operand : yX9_operand.cls ≠ "java/lang/invoke/MethodHandle" ∧ yX9_operand.cls ≠ "java/lang/invoke/VarHandle" ∧ (parseMethodDescriptor yX9_operand.desc).map (fun d => d.parameters.length) = some 1 := by decide +kernel
set_option maxRecDepth 20000 in
theorem lkX9_218 : Cond.methodLink RX9 218 yX9_operand ∈ lw_g := a_p1 1400 rfl rfl
set_option maxRecDepth 20000 in
theorem kX9_turns {l : Launch} {G : aG} (hZ : a_Z l G) : a_Con l G shp yX9_turns (.code yX9_turns cX9_turns 2 none) 6 129 fX9_turns :=
  a_mth none hZ.1 hZ.2.1 shp_len (fun _ h => nomatch h) hZ.2.2.1 (by decide +kernel) rfl (foX9 rfl) (a_cok_of trivial) (b_code [42,3,182,0,215,42,180,0,50,42,180,0,188,4,100,27,79,42,180,0,53,42,180,0,200,3,84,42,182,0,168,42,180,0,138,5,159,0,25,42,180,0,138,4,159,0,17,42,16,40,182,0,203,154,0,8,42,4,182,0,171,42,4,182,0,218,177] [] (by decide +kernel) (by decide +kernel) (by decide +kernel) (by decide +kernel)) rfl rfl (trivial) (⟨a_CQ_v hZ.2.1 (kX9_drops hZ) lkX9_215 (a_CF_v TX9 62 wkX9_drops lkX9_215 hdX9_drops ⟨by decide, by decide⟩ rfl) rfl rfl,
    ⟨a_CQ_v hZ.2.1 (kX9_goes hZ) lkX9_168 (a_CF_v TX9 62 wkX9_goes lkX9_168 hdX9_goes ⟨by decide, by decide⟩ rfl) rfl rfl,
    ⟨a_CQ_v hZ.2.1 (kX9_isSign hZ) lkX9_203 (a_CF_v TX9 62 wkX9_isSign lkX9_203 hdX9_isSign ⟨by decide, by decide⟩ rfl) rfl rfl,
    ⟨a_CQ_v hZ.2.1 (kX9_wrong hZ) lkX9_171 (a_CF_v TX9 62 wkX9_wrong lkX9_171 hdX9_wrong ⟨by decide, by decide⟩ rfl) rfl rfl,
    ⟨a_CQ_v hZ.2.1 (kX9_operand hZ) lkX9_218 (a_CF_v TX9 62 wkX9_operand lkX9_218 hdX9_operand ⟨by decide, by decide⟩ rfl) rfl rfl,
    trivial⟩⟩⟩⟩⟩)
noncomputable def pX9_closes : aPrg := ([(0, .aload_n 0, 0, 0, []),
  (1, .iconst 0, 0, 0, []),
  (2, .invokevirtual 215, 0, 0, []),
  (5, .aload_n 0, 0, 0, []),
  (6, .dup, 0, 0, []),
  (7, .getfield 188, 0, 0, []),
  (10, .iconst 1, 1, 0, []),
  (11, .isub, 0, 0, []),
  (12, .putfield 188, 0, 0, []),
  (15, .aload_n 0, 0, 0, []),
  (16, .dup, 0, 0, []),
  (17, .getfield 200, 0, 0, []),
  (20, .iconst 1, 1, 0, []),
  (21, .isub, 0, 0, []),
  (22, .putfield 200, 0, 0, []),
  (25, .aload_n 0, 0, 0, []),
  (26, .invokevirtual 168, 0, 0, []),
  (29, .return_, 0, 0, [])],
  fdX9, [(215, fX9_drops, 2, 9, 1), (168, fX9_goes, 1, 9, 1)], [], [], [], 2)
noncomputable def fX9_closes : aMF := a_fn none shp pX9_closes 1 1
set_option maxRecDepth 20000 in
theorem kX9_closes {l : Launch} {G : aG} (hZ : a_Z l G) : a_Con l G shp yX9_closes (.code yX9_closes cX9_closes 1 none) 3 58 fX9_closes :=
  a_mth none hZ.1 hZ.2.1 shp_len (fun _ h => nomatch h) hZ.2.2.1 (by decide +kernel) rfl (foX9 rfl) (a_cok_of trivial) (b_code [42,3,182,0,215,42,89,180,0,188,4,100,181,0,188,42,89,180,0,200,4,100,181,0,200,42,182,0,168,177] [] (by decide +kernel) (by decide +kernel) (by decide +kernel) (by decide +kernel)) rfl rfl (trivial) (⟨a_CQ_v hZ.2.1 (kX9_drops hZ) lkX9_215 (a_CF_v TX9 62 wkX9_drops lkX9_215 hdX9_drops ⟨by decide, by decide⟩ rfl) rfl rfl,
    ⟨a_CQ_v hZ.2.1 (kX9_goes hZ) lkX9_168 (a_CF_v TX9 62 wkX9_goes lkX9_168 hdX9_goes ⟨by decide, by decide⟩ rfl) rfl rfl,
    trivial⟩⟩)
noncomputable def pX9_expression : aPrg := ([(0, .aload_n 0, 0, 0, []),
  (1, .invokevirtual 164, 0, 0, []),
  (4, .ifCond .ne 4, 0, 8, []),
  (7, .return_, 0, 0, []),
  (8, .aload_n 0, 0, 0, []),
  (9, .iconst 0, 0, 0, []),
  (10, .putfield 188, 0, 0, []),
  (13, .aload_n 0, 0, 0, []),
  (14, .iconst 0, 0, 0, []),
  (15, .putfield 200, 0, 0, []),
  (18, .aload_n 0, 0, 0, []),
  (19, .invokevirtual 209, 0, 0, []),
  (22, .aload_n 0, 0, 0, []),
  (23, .iconst 1, 1, 0, []),
  (24, .invokevirtual 218, 0, 0, []),
  (27, .iconst 1, 1, 0, []),
  (28, .istore_n 1, 0, 0, []),
  (29, .iload_n 1, 0, 0, []),
  (30, .ifCond .eq 373, 0, 403, []),
  (33, .aload_n 0, 0, 0, []),
  (34, .invokevirtual 164, 0, 0, []),
  (37, .ifCond .eq 366, 0, 403, []),
  (40, .aload_n 0, 0, 0, []),
  (41, .invokevirtual 174, 0, 0, []),
  (44, .istore_n 2, 0, 0, []),
  (45, .iload_n 2, 0, 0, []),
  (46, .bipush 9, 9, 0, []),
  (48, .if_icmp .eq 9, 0, 57, []),
  (51, .iload_n 2, 0, 0, []),
  (52, .bipush 10, 10, 0, []),
  (54, .if_icmp .ne 55, 0, 109, []),
  (57, .aload_n 0, 0, 0, []),
  (58, .iload_n 2, 0, 0, []),
  (59, .bipush 9, 9, 0, []),
  (61, .if_icmp .ne 7, 0, 68, []),
  (64, .iconst 2, 2, 0, []),
  (65, .goto 4, 0, 69, []),
  (68, .iconst 1, 1, 0, []),
  (69, .invokevirtual 215, 0, 0, []),
  (72, .aload_n 0, 0, 0, []),
  (73, .iload_n 2, 0, 0, []),
  (74, .bipush 9, 9, 0, []),
  (76, .if_icmp .ne 7, 0, 83, []),
  (79, .iconst 4, 4, 0, []),
  (80, .goto 4, 0, 84, []),
  (83, .iconst 5, 5, 0, []),
  (84, .invokevirtual 206, 0, 0, []),
  (87, .aload_n 0, 0, 0, []),
  (88, .getfield 53, 0, 0, []),
  (91, .aload_n 0, 0, 0, []),
  (92, .getfield 200, 0, 0, []),
  (95, .iconst 0, 0, 0, []),
  (96, .bastore, 0, 0, []),
  (97, .aload_n 0, 0, 0, []),
  (98, .invokevirtual 168, 0, 0, []),
  (101, .aload_n 0, 0, 0, []),
  (102, .iconst 1, 1, 0, []),
  (103, .invokevirtual 218, 0, 0, []),
  (106, .goto 294, 0, 400, []),
  (109, .aload_n 0, 0, 0, []),
  (110, .bipush 60, 60, 0, []),
  (112, .invokevirtual 203, 0, 0, []),
  (115, .ifCond .ne 12, 0, 127, []),
  (118, .aload_n 0, 0, 0, []),
  (119, .bipush 61, 61, 0, []),
  (121, .invokevirtual 203, 0, 0, []),
  (124, .ifCond .eq 62, 0, 186, []),
  (127, .aload_n 0, 0, 0, []),
  (128, .getfield 53, 0, 0, []),
  (131, .aload_n 0, 0, 0, []),
  (132, .getfield 200, 0, 0, []),
  (135, .baload, 0, 0, []),
  (136, .ifCond .ne 50, 0, 186, []),
  (139, .aload_n 0, 0, 0, []),
  (140, .iconst 4, 4, 0, []),
  (141, .invokevirtual 215, 0, 0, []),
  (144, .aload_n 0, 0, 0, []),
  (145, .aload_n 0, 0, 0, []),
  (146, .bipush 60, 60, 0, []),
  (148, .invokevirtual 203, 0, 0, []),
  (151, .ifCond .eq 8, 0, 159, []),
  (154, .bipush 6, 6, 0, []),
  (156, .goto 5, 0, 161, []),
  (159, .bipush 7, 7, 0, []),
  (161, .invokevirtual 206, 0, 0, []),
  (164, .aload_n 0, 0, 0, []),
  (165, .getfield 53, 0, 0, []),
  (168, .aload_n 0, 0, 0, []),
  (169, .getfield 200, 0, 0, []),
  (172, .iconst 1, 1, 0, []),
  (173, .bastore, 0, 0, []),
  (174, .aload_n 0, 0, 0, []),
  (175, .invokevirtual 168, 0, 0, []),
  (178, .aload_n 0, 0, 0, []),
  (179, .iconst 0, 0, 0, []),
  (180, .invokevirtual 218, 0, 0, []),
  (183, .goto 217, 0, 400, []),
  (186, .aload_n 0, 0, 0, []),
  (187, .bipush 43, 43, 0, []),
  (189, .invokevirtual 203, 0, 0, []),
  (192, .ifCond .ne 12, 0, 204, []),
  (195, .aload_n 0, 0, 0, []),
  (196, .bipush 45, 45, 0, []),
  (198, .invokevirtual 203, 0, 0, []),
  (201, .ifCond .eq 40, 0, 241, []),
  (204, .aload_n 0, 0, 0, []),
  (205, .iconst 5, 5, 0, []),
  (206, .invokevirtual 215, 0, 0, []),
  (209, .aload_n 0, 0, 0, []),
  (210, .aload_n 0, 0, 0, []),
  (211, .bipush 43, 43, 0, []),
  (213, .invokevirtual 203, 0, 0, []),
  (216, .ifCond .eq 8, 0, 224, []),
  (219, .bipush 8, 8, 0, []),
  (221, .goto 5, 0, 226, []),
  (224, .bipush 9, 9, 0, []),
  (226, .invokevirtual 206, 0, 0, []),
  (229, .aload_n 0, 0, 0, []),
  (230, .invokevirtual 168, 0, 0, []),
  (233, .aload_n 0, 0, 0, []),
  (234, .iconst 0, 0, 0, []),
  (235, .invokevirtual 218, 0, 0, []),
  (238, .goto 162, 0, 400, []),
  (241, .aload_n 0, 0, 0, []),
  (242, .bipush 42, 42, 0, []),
  (244, .invokevirtual 203, 0, 0, []),
  (247, .ifCond .ne 12, 0, 259, []),
  (250, .aload_n 0, 0, 0, []),
  (251, .bipush 47, 47, 0, []),
  (253, .invokevirtual 203, 0, 0, []),
  (256, .ifCond .eq 41, 0, 297, []),
  (259, .aload_n 0, 0, 0, []),
  (260, .bipush 6, 6, 0, []),
  (262, .invokevirtual 215, 0, 0, []),
  (265, .aload_n 0, 0, 0, []),
  (266, .aload_n 0, 0, 0, []),
  (267, .bipush 42, 42, 0, []),
  (269, .invokevirtual 203, 0, 0, []),
  (272, .ifCond .eq 8, 0, 280, []),
  (275, .bipush 10, 10, 0, []),
  (277, .goto 5, 0, 282, []),
  (280, .bipush 11, 11, 0, []),
  (282, .invokevirtual 206, 0, 0, []),
  (285, .aload_n 0, 0, 0, []),
  (286, .invokevirtual 168, 0, 0, []),
  (289, .aload_n 0, 0, 0, []),
  (290, .iconst 0, 0, 0, []),
  (291, .invokevirtual 218, 0, 0, []),
  (294, .goto 106, 0, 400, []),
  (297, .aload_n 0, 0, 0, []),
  (298, .bipush 41, 41, 0, []),
  (300, .invokevirtual 203, 0, 0, []),
  (303, .ifCond .eq 19, 0, 322, []),
  (306, .aload_n 0, 0, 0, []),
  (307, .invokevirtual 222, 0, 0, []),
  (310, .bipush 14, 14, 0, []),
  (312, .if_icmp .ne 10, 0, 322, []),
  (315, .aload_n 0, 0, 0, []),
  (316, .invokevirtual 225, 0, 0, []),
  (319, .goto 81, 0, 400, []),
  (322, .iload_n 2, 0, 0, []),
  (323, .bipush 13, 13, 0, []),
  (325, .if_icmp .ne 21, 0, 346, []),
  (328, .aload_n 0, 0, 0, []),
  (329, .invokevirtual 222, 0, 0, []),
  (332, .bipush 15, 15, 0, []),
  (334, .if_icmp .ne 12, 0, 346, []),
  (337, .aload_n 0, 0, 0, []),
  (338, .bipush 16, 16, 0, []),
  (340, .invokevirtual 228, 0, 0, []),
  (343, .goto 57, 0, 400, []),
  (346, .iload_n 2, 0, 0, []),
  (347, .bipush 14, 14, 0, []),
  (349, .if_icmp .ne 21, 0, 370, []),
  (352, .aload_n 0, 0, 0, []),
  (353, .invokevirtual 222, 0, 0, []),
  (356, .bipush 16, 16, 0, []),
  (358, .if_icmp .ne 12, 0, 370, []),
  (361, .aload_n 0, 0, 0, []),
  (362, .bipush 17, 17, 0, []),
  (364, .invokevirtual 228, 0, 0, []),
  (367, .goto 33, 0, 400, []),
  (370, .iload_n 2, 0, 0, []),
  (371, .bipush 15, 15, 0, []),
  (373, .if_icmp .ne 25, 0, 398, []),
  (376, .aload_n 0, 0, 0, []),
  (377, .invokevirtual 222, 0, 0, []),
  (380, .bipush 17, 17, 0, []),
  (382, .if_icmp .ne 16, 0, 398, []),
  (385, .aload_n 0, 0, 0, []),
  (386, .invokevirtual 225, 0, 0, []),
  (389, .aload_n 0, 0, 0, []),
  (390, .bipush 13, 13, 0, []),
  (392, .invokevirtual 197, 0, 0, []),
  (395, .goto 5, 0, 400, []),
  (398, .iconst 0, 0, 0, []),
  (399, .istore_n 1, 0, 0, []),
  (400, .goto (-371), 0, 29, []),
  (403, .aload_n 0, 0, 0, []),
  (404, .invokevirtual 164, 0, 0, []),
  (407, .ifCond .eq 16, 0, 423, []),
  (410, .aload_n 0, 0, 0, []),
  (411, .getfield 200, 0, 0, []),
  (414, .iconst 1, 1, 0, []),
  (415, .if_icmp .le 8, 0, 423, []),
  (418, .aload_n 0, 0, 0, []),
  (419, .iconst 1, 1, 0, []),
  (420, .invokevirtual 171, 0, 0, []),
  (423, .aload_n 0, 0, 0, []),
  (424, .iconst 0, 0, 0, []),
  (425, .invokevirtual 215, 0, 0, []),
  (428, .aload_n 0, 0, 0, []),
  (429, .iconst 0, 0, 0, []),
  (430, .invokevirtual 197, 0, 0, []),
  (433, .return_, 0, 0, [])],
  fdX9, [(164, fX9_isGood, 1, 9, 0), (209, fX9_deeper, 1, 9, 1), (218, fX9_operand, 2, 9, 1), (174, fX9_knownWord, 1, 9, 0), (215, fX9_drops, 2, 9, 1), (206, fX9_waitsFor, 2, 9, 1), (168, fX9_goes, 1, 9, 1), (203, fX9_isSign, 2, 9, 0), (222, fX9_opened, 1, 9, 0), (225, fX9_closes, 1, 9, 1), (228, fX9_turns, 2, 9, 1), (197, fX9_puts, 2, 9, 1), (171, fX9_wrong, 2, 9, 1)], [], [], [], 2)
noncomputable def fX9_expression : aMF := a_fn none shp pX9_expression 3 1
set_option maxRecDepth 20000 in
theorem wkX9_opened : ∀ w ∈ [Cond.code yX9_opened cX9_opened 2 (some .int), .initialized yX9_opened.cls, .instanceMethod yX9_opened, .selects yX9_opened.cls yX9_opened yX9_opened], w ∈ lw_g := a_ps [1429, 105, 1428, 72] rfl rfl
theorem hdX9_opened : yX9_opened.cls ≠ "java/lang/invoke/MethodHandle" ∧ yX9_opened.cls ≠ "java/lang/invoke/VarHandle" ∧ (parseMethodDescriptor yX9_opened.desc).map (fun d => d.parameters.length) = some 0 := by decide +kernel
set_option maxRecDepth 20000 in
theorem lkX9_222 : Cond.methodLink RX9 222 yX9_opened ∈ lw_g := a_p1 1426 rfl rfl
set_option maxRecDepth 20000 in
theorem wkX9_closes : ∀ w ∈ [Cond.code yX9_closes cX9_closes 1 none, .initialized yX9_closes.cls, .instanceMethod yX9_closes, .selects yX9_closes.cls yX9_closes yX9_closes], w ∈ lw_g := a_ps [1433, 105, 1432, 73] rfl rfl
theorem hdX9_closes : yX9_closes.cls ≠ "java/lang/invoke/MethodHandle" ∧ yX9_closes.cls ≠ "java/lang/invoke/VarHandle" ∧ (parseMethodDescriptor yX9_closes.desc).map (fun d => d.parameters.length) = some 0 := by decide +kernel
set_option maxRecDepth 20000 in
theorem lkX9_225 : Cond.methodLink RX9 225 yX9_closes ∈ lw_g := a_p1 1430 rfl rfl
set_option maxRecDepth 20000 in
theorem wkX9_turns : ∀ w ∈ [Cond.code yX9_turns cX9_turns 2 none, .initialized yX9_turns.cls, .instanceMethod yX9_turns, .selects yX9_turns.cls yX9_turns yX9_turns], w ∈ lw_g := a_ps [1437, 105, 1436, 74] rfl rfl
theorem hdX9_turns : yX9_turns.cls ≠ "java/lang/invoke/MethodHandle" ∧ yX9_turns.cls ≠ "java/lang/invoke/VarHandle" ∧ (parseMethodDescriptor yX9_turns.desc).map (fun d => d.parameters.length) = some 1 := by decide +kernel
set_option maxRecDepth 20000 in
theorem lkX9_228 : Cond.methodLink RX9 228 yX9_turns ∈ lw_g := a_p1 1434 rfl rfl
set_option maxRecDepth 20000 in
theorem kX9_expression {l : Launch} {G : aG} (hZ : a_Z l G) : a_Con l G shp yX9_expression (.code yX9_expression cX9_expression 3 none) 7 150 fX9_expression :=
  a_mth none hZ.1 hZ.2.1 shp_len (fun _ h => nomatch h) hZ.2.2.1 (by decide +kernel) rfl (foX9 rfl) (a_cok_of trivial) (b_code [42,182,0,164,154,0,4,177,42,3,181,0,188,42,3,181,0,200,42,182,0,209,42,4,182,0,218,4,60,27,153,1,117,42,182,0,164,153,1,110,42,182,0,174,61,28,16,9,159,0,9,28,16,10,160,0,55,42,28,16,9,160,0,7,5,167,0,4,4,182,0,215,42,28,16,9,160,0,7,7,167,0,4,8,182,0,206,42,180,0,53,42,180,0,200,3,84,42,182,0,168,42,4,182,0,218,167,1,38,42,16,60,182,0,203,154,0,12,42,16,61,182,0,203,153,0,62,42,180,0,53,42,180,0,200,51,154,0,50,42,7,182,0,215,42,42,16,60,182,0,203,153,0,8,16,6,167,0,5,16,7,182,0,206,42,180,0,53,42,180,0,200,4,84,42,182,0,168,42,3,182,0,218,167,0,217,42,16,43,182,0,203,154,0,12,42,16,45,182,0,203,153,0,40,42,8,182,0,215,42,42,16,43,182,0,203,153,0,8,16,8,167,0,5,16,9,182,0,206,42,182,0,168,42,3,182,0,218,167,0,162,42,16,42,182,0,203,154,0,12,42,16,47,182,0,203,153,0,41,42,16,6,182,0,215,42,42,16,42,182,0,203,153,0,8,16,10,167,0,5,16,11,182,0,206,42,182,0,168,42,3,182,0,218,167,0,106,42,16,41,182,0,203,153,0,19,42,182,0,222,16,14,160,0,10,42,182,0,225,167,0,81,28,16,13,160,0,21,42,182,0,222,16,15,160,0,12,42,16,16,182,0,228,167,0,57,28,16,14,160,0,21,42,182,0,222,16,16,160,0,12,42,16,17,182,0,228,167,0,33,28,16,15,160,0,25,42,182,0,222,16,17,160,0,16,42,182,0,225,42,16,13,182,0,197,167,0,5,3,60,167,254,141,42,182,0,164,153,0,16,42,180,0,200,4,164,0,8,42,4,182,0,171,42,3,182,0,215,42,3,182,0,197,177] [] (by decide +kernel) (by decide +kernel) (by decide +kernel) (by decide +kernel)) rfl rfl (trivial) (⟨a_CQ_v hZ.2.1 (kX9_isGood hZ) lkX9_164 (a_CF_v TX9 62 wkX9_isGood lkX9_164 hdX9_isGood ⟨by decide, by decide⟩ rfl) rfl rfl,
    ⟨a_CQ_v hZ.2.1 (kX9_deeper hZ) lkX9_209 (a_CF_v TX9 62 wkX9_deeper lkX9_209 hdX9_deeper ⟨by decide, by decide⟩ rfl) rfl rfl,
    ⟨a_CQ_v hZ.2.1 (kX9_operand hZ) lkX9_218 (a_CF_v TX9 62 wkX9_operand lkX9_218 hdX9_operand ⟨by decide, by decide⟩ rfl) rfl rfl,
    ⟨a_CQ_v hZ.2.1 (kX9_knownWord hZ) lkX9_174 (a_CF_v TX9 62 wkX9_knownWord lkX9_174 hdX9_knownWord ⟨by decide, by decide⟩ rfl) rfl rfl,
    ⟨a_CQ_v hZ.2.1 (kX9_drops hZ) lkX9_215 (a_CF_v TX9 62 wkX9_drops lkX9_215 hdX9_drops ⟨by decide, by decide⟩ rfl) rfl rfl,
    ⟨a_CQ_v hZ.2.1 (kX9_waitsFor hZ) lkX9_206 (a_CF_v TX9 62 wkX9_waitsFor lkX9_206 hdX9_waitsFor ⟨by decide, by decide⟩ rfl) rfl rfl,
    ⟨a_CQ_v hZ.2.1 (kX9_goes hZ) lkX9_168 (a_CF_v TX9 62 wkX9_goes lkX9_168 hdX9_goes ⟨by decide, by decide⟩ rfl) rfl rfl,
    ⟨a_CQ_v hZ.2.1 (kX9_isSign hZ) lkX9_203 (a_CF_v TX9 62 wkX9_isSign lkX9_203 hdX9_isSign ⟨by decide, by decide⟩ rfl) rfl rfl,
    ⟨a_CQ_v hZ.2.1 (kX9_opened hZ) lkX9_222 (a_CF_v TX9 62 wkX9_opened lkX9_222 hdX9_opened ⟨by decide, by decide⟩ rfl) rfl rfl,
    ⟨a_CQ_v hZ.2.1 (kX9_closes hZ) lkX9_225 (a_CF_v TX9 62 wkX9_closes lkX9_225 hdX9_closes ⟨by decide, by decide⟩ rfl) rfl rfl,
    ⟨a_CQ_v hZ.2.1 (kX9_turns hZ) lkX9_228 (a_CF_v TX9 62 wkX9_turns lkX9_228 hdX9_turns ⟨by decide, by decide⟩ rfl) rfl rfl,
    ⟨a_CQ_v hZ.2.1 (kX9_puts hZ) lkX9_197 (a_CF_v TX9 62 wkX9_puts lkX9_197 hdX9_puts ⟨by decide, by decide⟩ rfl) rfl rfl,
    ⟨a_CQ_v hZ.2.1 (kX9_wrong hZ) lkX9_171 (a_CF_v TX9 62 wkX9_wrong lkX9_171 hdX9_wrong ⟨by decide, by decide⟩ rfl) rfl rfl,
    trivial⟩⟩⟩⟩⟩⟩⟩⟩⟩⟩⟩⟩⟩)
noncomputable def pX9_line : aPrg := ([(0, .aload_n 0, 0, 0, []),
  (1, .invokevirtual 174, 0, 0, []),
  (4, .istore_n 1, 0, 0, []),
  (5, .iload_n 1, 0, 0, []),
  (6, .iconst 4, 4, 0, []),
  (7, .if_icmp .ne 51, 0, 58, []),
  (10, .aload_n 0, 0, 0, []),
  (11, .getfield 231, 0, 0, []),
  (14, .iconst 5, 5, 0, []),
  (15, .if_icmp .ne 8, 0, 23, []),
  (18, .aload_n 0, 0, 0, []),
  (19, .iconst 2, 2, 0, []),
  (20, .invokevirtual 171, 0, 0, []),
  (23, .aload_n 0, 0, 0, []),
  (24, .invokevirtual 164, 0, 0, []),
  (27, .ifCond .ne 4, 0, 31, []),
  (30, .return_, 0, 0, []),
  (31, .aload_n 0, 0, 0, []),
  (32, .invokevirtual 168, 0, 0, []),
  (35, .aload_n 0, 0, 0, []),
  (36, .getfield 44, 0, 0, []),
  (39, .aload_n 0, 0, 0, []),
  (40, .getfield 231, 0, 0, []),
  (43, .iconst (-1), (-1), 0, []),
  (44, .iastore, 0, 0, []),
  (45, .aload_n 0, 0, 0, []),
  (46, .dup, 0, 0, []),
  (47, .getfield 231, 0, 0, []),
  (50, .iconst 1, 1, 0, []),
  (51, .iadd, 0, 0, []),
  (52, .putfield 231, 0, 0, []),
  (55, .goto 306, 0, 361, []),
  (58, .iload_n 1, 0, 0, []),
  (59, .iconst 5, 5, 0, []),
  (60, .if_icmp .ne 168, 0, 228, []),
  (63, .aload_n 0, 0, 0, []),
  (64, .getfield 234, 0, 0, []),
  (67, .bipush 12, 12, 0, []),
  (69, .if_icmp .ne 8, 0, 77, []),
  (72, .aload_n 0, 0, 0, []),
  (73, .iconst 2, 2, 0, []),
  (74, .invokevirtual 171, 0, 0, []),
  (77, .aload_n 0, 0, 0, []),
  (78, .invokevirtual 164, 0, 0, []),
  (81, .ifCond .ne 4, 0, 85, []),
  (84, .return_, 0, 0, []),
  (85, .aload_n 0, 0, 0, []),
  (86, .invokevirtual 168, 0, 0, []),
  (89, .aload_n 0, 0, 0, []),
  (90, .getfield 38, 0, 0, []),
  (93, .iconst 4, 4, 0, []),
  (94, .aload_n 0, 0, 0, []),
  (95, .getfield 234, 0, 0, []),
  (98, .imul, 0, 0, []),
  (99, .aload_n 0, 0, 0, []),
  (100, .iconst 1, 1, 0, []),
  (101, .bipush 99, 99, 0, []),
  (103, .invokevirtual 178, 0, 0, []),
  (106, .iastore, 0, 0, []),
  (107, .aload_n 0, 0, 0, []),
  (108, .getfield 38, 0, 0, []),
  (111, .iconst 4, 4, 0, []),
  (112, .aload_n 0, 0, 0, []),
  (113, .getfield 234, 0, 0, []),
  (116, .imul, 0, 0, []),
  (117, .iconst 1, 1, 0, []),
  (118, .iadd, 0, 0, []),
  (119, .aload_n 0, 0, 0, []),
  (120, .iconst 1, 1, 0, []),
  (121, .invokevirtual 237, 0, 0, []),
  (124, .iastore, 0, 0, []),
  (125, .aload_n 0, 0, 0, []),
  (126, .getfield 38, 0, 0, []),
  (129, .iconst 4, 4, 0, []),
  (130, .aload_n 0, 0, 0, []),
  (131, .getfield 234, 0, 0, []),
  (134, .imul, 0, 0, []),
  (135, .iconst 2, 2, 0, []),
  (136, .iadd, 0, 0, []),
  (137, .aload_n 0, 0, 0, []),
  (138, .iconst 2, 2, 0, []),
  (139, .invokevirtual 237, 0, 0, []),
  (142, .iastore, 0, 0, []),
  (143, .aload_n 0, 0, 0, []),
  (144, .getfield 38, 0, 0, []),
  (147, .iconst 4, 4, 0, []),
  (148, .aload_n 0, 0, 0, []),
  (149, .getfield 234, 0, 0, []),
  (152, .imul, 0, 0, []),
  (153, .iconst 3, 3, 0, []),
  (154, .iadd, 0, 0, []),
  (155, .aload_n 0, 0, 0, []),
  (156, .iconst 3, 3, 0, []),
  (157, .invokevirtual 237, 0, 0, []),
  (160, .iastore, 0, 0, []),
  (161, .aload_n 0, 0, 0, []),
  (162, .getfield 41, 0, 0, []),
  (165, .aload_n 0, 0, 0, []),
  (166, .getfield 234, 0, 0, []),
  (169, .iconst (-1), (-1), 0, []),
  (170, .iastore, 0, 0, []),
  (171, .aload_n 0, 0, 0, []),
  (172, .invokevirtual 164, 0, 0, []),
  (175, .ifCond .eq 33, 0, 208, []),
  (178, .aload_n 0, 0, 0, []),
  (179, .invokevirtual 174, 0, 0, []),
  (182, .bipush 8, 8, 0, []),
  (184, .if_icmp .ne 24, 0, 208, []),
  (187, .aload_n 0, 0, 0, []),
  (188, .invokevirtual 168, 0, 0, []),
  (191, .aload_n 0, 0, 0, []),
  (192, .getfield 41, 0, 0, []),
  (195, .aload_n 0, 0, 0, []),
  (196, .getfield 234, 0, 0, []),
  (199, .aload_n 0, 0, 0, []),
  (200, .aload_n 0, 0, 0, []),
  (201, .getfield 231, 0, 0, []),
  (204, .invokevirtual 240, 0, 0, []),
  (207, .iastore, 0, 0, []),
  (208, .aload_n 0, 0, 0, []),
  (209, .invokevirtual 164, 0, 0, []),
  (212, .ifCond .eq 149, 0, 361, []),
  (215, .aload_n 0, 0, 0, []),
  (216, .dup, 0, 0, []),
  (217, .getfield 234, 0, 0, []),
  (220, .iconst 1, 1, 0, []),
  (221, .iadd, 0, 0, []),
  (222, .putfield 234, 0, 0, []),
  (225, .goto 136, 0, 361, []),
  (228, .iload_n 1, 0, 0, []),
  (229, .bipush 6, 6, 0, []),
  (231, .if_icmp .ne 78, 0, 309, []),
  (234, .aload_n 0, 0, 0, []),
  (235, .invokevirtual 168, 0, 0, []),
  (238, .aload_n 0, 0, 0, []),
  (239, .aload_n 0, 0, 0, []),
  (240, .getfield 231, 0, 0, []),
  (243, .invokevirtual 182, 0, 0, []),
  (246, .ifCond .eq 21, 0, 267, []),
  (249, .aload_n 0, 0, 0, []),
  (250, .getfield 44, 0, 0, []),
  (253, .aload_n 0, 0, 0, []),
  (254, .getfield 132, 0, 0, []),
  (257, .iaload, 0, 0, []),
  (258, .iconst (-1), (-1), 0, []),
  (259, .if_icmp .eq 8, 0, 267, []),
  (262, .aload_n 0, 0, 0, []),
  (263, .iconst 4, 4, 0, []),
  (264, .invokevirtual 171, 0, 0, []),
  (267, .aload_n 0, 0, 0, []),
  (268, .getfield 132, 0, 0, []),
  (271, .istore_n 2, 0, 0, []),
  (272, .aload_n 0, 0, 0, []),
  (273, .invokevirtual 164, 0, 0, []),
  (276, .ifCond .eq 7, 0, 283, []),
  (279, .aload_n 0, 0, 0, []),
  (280, .invokevirtual 168, 0, 0, []),
  (283, .aload_n 0, 0, 0, []),
  (284, .aload_n 0, 0, 0, []),
  (285, .getfield 234, 0, 0, []),
  (288, .invokevirtual 240, 0, 0, []),
  (291, .istore_n 3, 0, 0, []),
  (292, .aload_n 0, 0, 0, []),
  (293, .invokevirtual 164, 0, 0, []),
  (296, .ifCond .eq 10, 0, 306, []),
  (299, .aload_n 0, 0, 0, []),
  (300, .getfield 44, 0, 0, []),
  (303, .iload_n 2, 0, 0, []),
  (304, .iload_n 3, 0, 0, []),
  (305, .iastore, 0, 0, []),
  (306, .goto 55, 0, 361, []),
  (309, .iload_n 1, 0, 0, []),
  (310, .bipush 7, 7, 0, []),
  (312, .if_icmp .ne 44, 0, 356, []),
  (315, .aload_n 0, 0, 0, []),
  (316, .getfield 243, 0, 0, []),
  (319, .ifCond .eq 8, 0, 327, []),
  (322, .aload_n 0, 0, 0, []),
  (323, .iconst 4, 4, 0, []),
  (324, .invokevirtual 171, 0, 0, []),
  (327, .aload_n 0, 0, 0, []),
  (328, .invokevirtual 164, 0, 0, []),
  (331, .ifCond .ne 4, 0, 335, []),
  (334, .return_, 0, 0, []),
  (335, .aload_n 0, 0, 0, []),
  (336, .iconst 1, 1, 0, []),
  (337, .putfield 243, 0, 0, []),
  (340, .aload_n 0, 0, 0, []),
  (341, .invokevirtual 168, 0, 0, []),
  (344, .aload_n 0, 0, 0, []),
  (345, .iconst 0, 0, 0, []),
  (346, .putfield 185, 0, 0, []),
  (349, .aload_n 0, 0, 0, []),
  (350, .invokevirtual 247, 0, 0, []),
  (353, .goto 8, 0, 361, []),
  (356, .aload_n 0, 0, 0, []),
  (357, .iconst 1, 1, 0, []),
  (358, .invokevirtual 171, 0, 0, []),
  (361, .aload_n 0, 0, 0, []),
  (362, .aload_n 0, 0, 0, []),
  (363, .bipush 59, 59, 0, []),
  (365, .invokevirtual 203, 0, 0, []),
  (368, .invokevirtual 250, 0, 0, []),
  (371, .return_, 0, 0, [])],
  fdX9, [(174, fX9_knownWord, 1, 9, 0), (171, fX9_wrong, 2, 9, 1), (164, fX9_isGood, 1, 9, 0), (168, fX9_goes, 1, 9, 1), (178, fX9_number, 3, 9, 0), (237, fX9_perhaps, 2, 9, 0), (240, fX9_among, 2, 9, 0), (182, fX9_amongHere, 2, 9, 0), (247, fX9_expression, 1, 9, 1), (203, fX9_isSign, 2, 9, 0), (250, fX9_need, 2, 9, 1)], [], [], [], 2)
noncomputable def fX9_line : aMF := a_fn none shp pX9_line 4 1
set_option maxRecDepth 20000 in
theorem wkX9_perhaps : ∀ w ∈ [Cond.code yX9_perhaps cX9_perhaps 2 (some .int), .initialized yX9_perhaps.cls, .instanceMethod yX9_perhaps, .selects yX9_perhaps.cls yX9_perhaps yX9_perhaps], w ∈ lw_g := a_ps [1379, 105, 1378, 61] rfl rfl
theorem hdX9_perhaps : yX9_perhaps.cls ≠ "java/lang/invoke/MethodHandle" ∧ yX9_perhaps.cls ≠ "java/lang/invoke/VarHandle" ∧ (parseMethodDescriptor yX9_perhaps.desc).map (fun d => d.parameters.length) = some 1 := by decide +kernel
set_option maxRecDepth 20000 in
theorem lkX9_237 : Cond.methodLink RX9 237 yX9_perhaps ∈ lw_g := a_p1 1376 rfl rfl
set_option maxRecDepth 20000 in
theorem wkX9_among : ∀ w ∈ [Cond.code yX9_among cX9_among 3 (some .int), .initialized yX9_among.cls, .instanceMethod yX9_among, .selects yX9_among.cls yX9_among yX9_among], w ∈ lw_g := a_ps [1383, 105, 1382, 62] rfl rfl
theorem hdX9_among : yX9_among.cls ≠ "java/lang/invoke/MethodHandle" ∧ yX9_among.cls ≠ "java/lang/invoke/VarHandle" ∧ (parseMethodDescriptor yX9_among.desc).map (fun d => d.parameters.length) = some 1 := by decide +kernel
set_option maxRecDepth 20000 in
theorem lkX9_240 : Cond.methodLink RX9 240 yX9_among ∈ lw_g := a_p1 1380 rfl rfl
set_option maxRecDepth 20000 in
theorem wkX9_expression : ∀ w ∈ [Cond.code yX9_expression cX9_expression 3 none, .initialized yX9_expression.cls, .instanceMethod yX9_expression, .selects yX9_expression.cls yX9_expression yX9_expression], w ∈ lw_g := a_ps [1391, 105, 1390, 64] rfl rfl
theorem hdX9_expression : yX9_expression.cls ≠ "java/lang/invoke/MethodHandle" ∧ yX9_expression.cls ≠ "java/lang/invoke/VarHandle" ∧ (parseMethodDescriptor yX9_expression.desc).map (fun d => d.parameters.length) = some 0 := by decide +kernel
set_option maxRecDepth 20000 in
theorem lkX9_247 : Cond.methodLink RX9 247 yX9_expression ∈ lw_g := a_p1 1388 rfl rfl
set_option maxRecDepth 20000 in
theorem wkX9_need : ∀ w ∈ [Cond.code yX9_need cX9_need 2 none, .initialized yX9_need.cls, .instanceMethod yX9_need, .selects yX9_need.cls yX9_need yX9_need], w ∈ lw_g := a_ps [1441, 105, 1440, 75] rfl rfl
theorem hdX9_need : yX9_need.cls ≠ "java/lang/invoke/MethodHandle" ∧ yX9_need.cls ≠ "java/lang/invoke/VarHandle" ∧ (parseMethodDescriptor yX9_need.desc).map (fun d => d.parameters.length) = some 1 := by decide +kernel
set_option maxRecDepth 20000 in
theorem lkX9_250 : Cond.methodLink RX9 250 yX9_need ∈ lw_g := a_p1 1438 rfl rfl
set_option maxRecDepth 20000 in
theorem kX9_line {l : Launch} {G : aG} (hZ : a_Z l G) : a_Con l G shp yX9_line (.code yX9_line cX9_line 4 none) 8 172 fX9_line :=
  a_mth none hZ.1 hZ.2.1 shp_len (fun _ h => nomatch h) hZ.2.2.1 (by decide +kernel) rfl (foX9 rfl) (a_cok_of trivial) (b_code [42,182,0,174,60,27,7,160,0,51,42,180,0,231,8,160,0,8,42,5,182,0,171,42,182,0,164,154,0,4,177,42,182,0,168,42,180,0,44,42,180,0,231,2,79,42,89,180,0,231,4,96,181,0,231,167,1,50,27,8,160,0,168,42,180,0,234,16,12,160,0,8,42,5,182,0,171,42,182,0,164,154,0,4,177,42,182,0,168,42,180,0,38,7,42,180,0,234,104,42,4,16,99,182,0,178,79,42,180,0,38,7,42,180,0,234,104,4,96,42,4,182,0,237,79,42,180,0,38,7,42,180,0,234,104,5,96,42,5,182,0,237,79,42,180,0,38,7,42,180,0,234,104,6,96,42,6,182,0,237,79,42,180,0,41,42,180,0,234,2,79,42,182,0,164,153,0,33,42,182,0,174,16,8,160,0,24,42,182,0,168,42,180,0,41,42,180,0,234,42,42,180,0,231,182,0,240,79,42,182,0,164,153,0,149,42,89,180,0,234,4,96,181,0,234,167,0,136,27,16,6,160,0,78,42,182,0,168,42,42,180,0,231,182,0,182,153,0,21,42,180,0,44,42,180,0,132,46,2,159,0,8,42,7,182,0,171,42,180,0,132,61,42,182,0,164,153,0,7,42,182,0,168,42,42,180,0,234,182,0,240,62,42,182,0,164,153,0,10,42,180,0,44,28,29,79,167,0,55,27,16,7,160,0,44,42,180,0,243,153,0,8,42,7,182,0,171,42,182,0,164,154,0,4,177,42,4,181,0,243,42,182,0,168,42,3,181,0,185,42,182,0,247,167,0,8,42,4,182,0,171,42,42,16,59,182,0,203,182,0,250,177] [] (by decide +kernel) (by decide +kernel) (by decide +kernel) (by decide +kernel)) rfl rfl (trivial) (⟨a_CQ_v hZ.2.1 (kX9_knownWord hZ) lkX9_174 (a_CF_v TX9 62 wkX9_knownWord lkX9_174 hdX9_knownWord ⟨by decide, by decide⟩ rfl) rfl rfl,
    ⟨a_CQ_v hZ.2.1 (kX9_wrong hZ) lkX9_171 (a_CF_v TX9 62 wkX9_wrong lkX9_171 hdX9_wrong ⟨by decide, by decide⟩ rfl) rfl rfl,
    ⟨a_CQ_v hZ.2.1 (kX9_isGood hZ) lkX9_164 (a_CF_v TX9 62 wkX9_isGood lkX9_164 hdX9_isGood ⟨by decide, by decide⟩ rfl) rfl rfl,
    ⟨a_CQ_v hZ.2.1 (kX9_goes hZ) lkX9_168 (a_CF_v TX9 62 wkX9_goes lkX9_168 hdX9_goes ⟨by decide, by decide⟩ rfl) rfl rfl,
    ⟨a_CQ_v hZ.2.1 (kX9_number hZ) lkX9_178 (a_CF_v TX9 62 wkX9_number lkX9_178 hdX9_number ⟨by decide, by decide⟩ rfl) rfl rfl,
    ⟨a_CQ_v hZ.2.1 (kX9_perhaps hZ) lkX9_237 (a_CF_v TX9 62 wkX9_perhaps lkX9_237 hdX9_perhaps ⟨by decide, by decide⟩ rfl) rfl rfl,
    ⟨a_CQ_v hZ.2.1 (kX9_among hZ) lkX9_240 (a_CF_v TX9 62 wkX9_among lkX9_240 hdX9_among ⟨by decide, by decide⟩ rfl) rfl rfl,
    ⟨a_CQ_v hZ.2.1 (kX9_amongHere hZ) lkX9_182 (a_CF_v TX9 62 wkX9_amongHere lkX9_182 hdX9_amongHere ⟨by decide, by decide⟩ rfl) rfl rfl,
    ⟨a_CQ_v hZ.2.1 (kX9_expression hZ) lkX9_247 (a_CF_v TX9 62 wkX9_expression lkX9_247 hdX9_expression ⟨by decide, by decide⟩ rfl) rfl rfl,
    ⟨a_CQ_v hZ.2.1 (kX9_isSign hZ) lkX9_203 (a_CF_v TX9 62 wkX9_isSign lkX9_203 hdX9_isSign ⟨by decide, by decide⟩ rfl) rfl rfl,
    ⟨a_CQ_v hZ.2.1 (kX9_need hZ) lkX9_250 (a_CF_v TX9 62 wkX9_need lkX9_250 hdX9_need ⟨by decide, by decide⟩ rfl) rfl rfl,
    trivial⟩⟩⟩⟩⟩⟩⟩⟩⟩⟩⟩)
noncomputable def pX9_works : aPrg := ([(0, .iload_n 0, 0, 0, []),
  (1, .tableswitch 105 4 10 #[43, 57, 71, 82, 93, 97, 101], 0, 106, [(4, 44), (5, 58), (6, 72), (7, 83), (8, 94), (9, 98), (10, 102)]),
  (44, .iload_n 1, 0, 0, []),
  (45, .ifCond .eq 11, 0, 56, []),
  (48, .iload_n 2, 0, 0, []),
  (49, .ifCond .eq 7, 0, 56, []),
  (52, .iconst 1, 1, 0, []),
  (53, .goto 4, 0, 57, []),
  (56, .iconst 0, 0, 0, []),
  (57, .ireturn, 0, 0, []),
  (58, .iload_n 1, 0, 0, []),
  (59, .ifCond .ne 7, 0, 66, []),
  (62, .iload_n 2, 0, 0, []),
  (63, .ifCond .eq 7, 0, 70, []),
  (66, .iconst 1, 1, 0, []),
  (67, .goto 4, 0, 71, []),
  (70, .iconst 0, 0, 0, []),
  (71, .ireturn, 0, 0, []),
  (72, .iload_n 1, 0, 0, []),
  (73, .iload_n 2, 0, 0, []),
  (74, .if_icmp .ge 7, 0, 81, []),
  (77, .iconst 1, 1, 0, []),
  (78, .goto 4, 0, 82, []),
  (81, .iconst 0, 0, 0, []),
  (82, .ireturn, 0, 0, []),
  (83, .iload_n 1, 0, 0, []),
  (84, .iload_n 2, 0, 0, []),
  (85, .if_icmp .ne 7, 0, 92, []),
  (88, .iconst 1, 1, 0, []),
  (89, .goto 4, 0, 93, []),
  (92, .iconst 0, 0, 0, []),
  (93, .ireturn, 0, 0, []),
  (94, .iload_n 1, 0, 0, []),
  (95, .iload_n 2, 0, 0, []),
  (96, .iadd, 0, 0, []),
  (97, .ireturn, 0, 0, []),
  (98, .iload_n 1, 0, 0, []),
  (99, .iload_n 2, 0, 0, []),
  (100, .isub, 0, 0, []),
  (101, .ireturn, 0, 0, []),
  (102, .iload_n 1, 0, 0, []),
  (103, .iload_n 2, 0, 0, []),
  (104, .imul, 0, 0, []),
  (105, .ireturn, 0, 0, []),
  (106, .iload_n 2, 0, 0, []),
  (107, .ifCond .ne 7, 0, 114, []),
  (110, .iconst 0, 0, 0, []),
  (111, .goto 6, 0, 117, []),
  (114, .iload_n 1, 0, 0, []),
  (115, .iload_n 2, 0, 0, []),
  (116, .idiv, 0, 0, []),
  (117, .ireturn, 0, 0, [])],
  fdX9, [], [], [], [], 0)
noncomputable def fX9_works : aMF := a_fn none shp pX9_works 3 3
set_option maxRecDepth 20000 in
theorem kX9_works {l : Launch} {G : aG} (hZ : a_Z l G) : a_Con l G shp yX9_works (.code yX9_works cX9_works 3 (some .int)) 1 16 fX9_works :=
  a_mth none hZ.1 hZ.2.1 shp_len (fun _ h => nomatch h) hZ.2.2.1 (by decide +kernel) rfl (foX9 rfl) (a_cok_of trivial) (b_code [26,170,0,0,0,0,0,105,0,0,0,4,0,0,0,10,0,0,0,43,0,0,0,57,0,0,0,71,0,0,0,82,0,0,0,93,0,0,0,97,0,0,0,101,27,153,0,11,28,153,0,7,4,167,0,4,3,172,27,154,0,7,28,153,0,7,4,167,0,4,3,172,27,28,162,0,7,4,167,0,4,3,172,27,28,160,0,7,4,167,0,4,3,172,27,28,96,172,27,28,100,172,27,28,104,172,28,154,0,7,3,167,0,6,27,28,108,172] [(1, 43)] (by decide +kernel) (by decide +kernel) (by decide +kernel) (by decide +kernel)) rfl rfl (trivial) (trivial)
noncomputable def pX9_reckons : aPrg := ([(0, .iconst 0, 0, 0, []),
  (1, .istore 5, 0, 0, []),
  (3, .iconst 0, 0, 0, []),
  (4, .istore 6, 0, 0, []),
  (6, .aload_n 0, 0, 0, []),
  (7, .getfield 22, 0, 0, []),
  (10, .iload 6, 0, 0, []),
  (12, .iaload, 0, 0, []),
  (13, .ifCond .eq 218, 0, 231, []),
  (16, .aload_n 0, 0, 0, []),
  (17, .getfield 22, 0, 0, []),
  (20, .iload 6, 0, 0, []),
  (22, .iaload, 0, 0, []),
  (23, .istore 7, 0, 0, []),
  (25, .iinc 6 1, 1, 0, []),
  (28, .iload 7, 0, 0, []),
  (30, .iconst 1, 1, 0, []),
  (31, .if_icmp .eq 9, 0, 40, []),
  (34, .iload 7, 0, 0, []),
  (36, .iconst 2, 2, 0, []),
  (37, .if_icmp .ne 70, 0, 107, []),
  (40, .aload_n 0, 0, 0, []),
  (41, .getfield 22, 0, 0, []),
  (44, .iload 6, 0, 0, []),
  (46, .iaload, 0, 0, []),
  (47, .istore 8, 0, 0, []),
  (49, .aload_n 0, 0, 0, []),
  (50, .getfield 57, 0, 0, []),
  (53, .iload 5, 0, 0, []),
  (55, .iload 7, 0, 0, []),
  (57, .iconst 1, 1, 0, []),
  (58, .if_icmp .ne 8, 0, 66, []),
  (61, .iload 8, 0, 0, []),
  (63, .goto 34, 0, 97, []),
  (66, .iload 8, 0, 0, []),
  (68, .ifCond .ne 7, 0, 75, []),
  (71, .iload_n 1, 0, 0, []),
  (72, .goto 25, 0, 97, []),
  (75, .iload 8, 0, 0, []),
  (77, .iconst 1, 1, 0, []),
  (78, .if_icmp .ne 7, 0, 85, []),
  (81, .iload_n 2, 0, 0, []),
  (82, .goto 15, 0, 97, []),
  (85, .iload 8, 0, 0, []),
  (87, .iconst 2, 2, 0, []),
  (88, .if_icmp .ne 7, 0, 95, []),
  (91, .iload_n 3, 0, 0, []),
  (92, .goto 5, 0, 97, []),
  (95, .iload 4, 0, 0, []),
  (97, .iastore, 0, 0, []),
  (98, .iinc 6 1, 1, 0, []),
  (101, .iinc 5 1, 1, 0, []),
  (104, .goto 124, 0, 228, []),
  (107, .iload 7, 0, 0, []),
  (109, .iconst 3, 3, 0, []),
  (110, .if_icmp .ne 32, 0, 142, []),
  (113, .aload_n 0, 0, 0, []),
  (114, .getfield 57, 0, 0, []),
  (117, .iload 5, 0, 0, []),
  (119, .iconst 1, 1, 0, []),
  (120, .isub, 0, 0, []),
  (121, .aload_n 0, 0, 0, []),
  (122, .getfield 57, 0, 0, []),
  (125, .iload 5, 0, 0, []),
  (127, .iconst 1, 1, 0, []),
  (128, .isub, 0, 0, []),
  (129, .iaload, 0, 0, []),
  (130, .ifCond .ne 7, 0, 137, []),
  (133, .iconst 1, 1, 0, []),
  (134, .goto 4, 0, 138, []),
  (137, .iconst 0, 0, 0, []),
  (138, .iastore, 0, 0, []),
  (139, .goto 89, 0, 228, []),
  (142, .iload 7, 0, 0, []),
  (144, .bipush 13, 13, 0, []),
  (146, .if_icmp .ne 49, 0, 195, []),
  (149, .iinc 5 (-2), (-2), 0, []),
  (152, .aload_n 0, 0, 0, []),
  (153, .getfield 57, 0, 0, []),
  (156, .iload 5, 0, 0, []),
  (158, .iconst 1, 1, 0, []),
  (159, .isub, 0, 0, []),
  (160, .aload_n 0, 0, 0, []),
  (161, .getfield 57, 0, 0, []),
  (164, .iload 5, 0, 0, []),
  (166, .iconst 1, 1, 0, []),
  (167, .isub, 0, 0, []),
  (168, .iaload, 0, 0, []),
  (169, .ifCond .eq 13, 0, 182, []),
  (172, .aload_n 0, 0, 0, []),
  (173, .getfield 57, 0, 0, []),
  (176, .iload 5, 0, 0, []),
  (178, .iaload, 0, 0, []),
  (179, .goto 12, 0, 191, []),
  (182, .aload_n 0, 0, 0, []),
  (183, .getfield 57, 0, 0, []),
  (186, .iload 5, 0, 0, []),
  (188, .iconst 1, 1, 0, []),
  (189, .iadd, 0, 0, []),
  (190, .iaload, 0, 0, []),
  (191, .iastore, 0, 0, []),
  (192, .goto 36, 0, 228, []),
  (195, .iinc 5 (-1), (-1), 0, []),
  (198, .aload_n 0, 0, 0, []),
  (199, .getfield 57, 0, 0, []),
  (202, .iload 5, 0, 0, []),
  (204, .iconst 1, 1, 0, []),
  (205, .isub, 0, 0, []),
  (206, .iload 7, 0, 0, []),
  (208, .aload_n 0, 0, 0, []),
  (209, .getfield 57, 0, 0, []),
  (212, .iload 5, 0, 0, []),
  (214, .iconst 1, 1, 0, []),
  (215, .isub, 0, 0, []),
  (216, .iaload, 0, 0, []),
  (217, .aload_n 0, 0, 0, []),
  (218, .getfield 57, 0, 0, []),
  (221, .iload 5, 0, 0, []),
  (223, .iaload, 0, 0, []),
  (224, .invokestatic 286, 0, 0, []),
  (227, .iastore, 0, 0, []),
  (228, .goto (-222), 0, 6, []),
  (231, .aload_n 0, 0, 0, []),
  (232, .getfield 57, 0, 0, []),
  (235, .iconst 0, 0, 0, []),
  (236, .iaload, 0, 0, []),
  (237, .ireturn, 0, 0, [])],
  fdX9, [(286, fX9_works, 3, 2000, 0)], [], [], [], 0)
noncomputable def fX9_reckons : aMF := a_fn none shp pX9_reckons 9 5
set_option maxRecDepth 20000 in
theorem wkX9_works : ∀ w ∈ [Cond.code yX9_works cX9_works 3 (some .int), .initialized yX9_works.cls, .static yX9_works], w ∈ lw_g := a_ps [1452, 105, 1451] rfl rfl
theorem hdX9_works : yX9_works.cls ≠ "java/lang/invoke/MethodHandle" ∧ yX9_works.cls ≠ "java/lang/invoke/VarHandle" ∧ (parseMethodDescriptor yX9_works.desc).map (fun d => d.parameters.length) = some 3 := by decide +kernel
set_option maxRecDepth 20000 in
theorem lkX9_286 : Cond.methodLink RX9 286 yX9_works ∈ lw_g := a_p1 1450 rfl rfl
set_option maxRecDepth 20000 in
theorem kX9_reckons {l : Launch} {G : aG} (hZ : a_Z l G) : a_Con l G shp yX9_reckons (.code yX9_reckons cX9_reckons 9 (some .int)) 2 38 fX9_reckons :=
  a_mth none hZ.1 hZ.2.1 shp_len (fun _ h => nomatch h) hZ.2.2.1 (by decide +kernel) rfl (foX9 rfl) (a_cok_of trivial) (b_code [3,54,5,3,54,6,42,180,0,22,21,6,46,153,0,218,42,180,0,22,21,6,46,54,7,132,6,1,21,7,4,159,0,9,21,7,5,160,0,70,42,180,0,22,21,6,46,54,8,42,180,0,57,21,5,21,7,4,160,0,8,21,8,167,0,34,21,8,154,0,7,27,167,0,25,21,8,4,160,0,7,28,167,0,15,21,8,5,160,0,7,29,167,0,5,21,4,79,132,6,1,132,5,1,167,0,124,21,7,6,160,0,32,42,180,0,57,21,5,4,100,42,180,0,57,21,5,4,100,46,154,0,7,4,167,0,4,3,79,167,0,89,21,7,16,13,160,0,49,132,5,254,42,180,0,57,21,5,4,100,42,180,0,57,21,5,4,100,46,153,0,13,42,180,0,57,21,5,46,167,0,12,42,180,0,57,21,5,4,96,46,79,167,0,36,132,5,255,42,180,0,57,21,5,4,100,21,7,42,180,0,57,21,5,4,100,46,42,180,0,57,21,5,46,184,1,30,79,167,255,34,42,180,0,57,3,46,172] [] (by decide +kernel) (by decide +kernel) (by decide +kernel) (by decide +kernel)) rfl rfl (trivial) (⟨a_CQ_s hZ.2.1 (kX9_works hZ) lkX9_286 (a_CF_s wkX9_works lkX9_286 hdX9_works) rfl rfl,
    trivial⟩)
noncomputable def pX9_library : aPrg := ([(0, .aload_n 0, 0, 0, []),
  (1, .iconst 0, 0, 0, []),
  (2, .putfield 105, 0, 0, []),
  (5, .aload_n 0, 0, 0, []),
  (6, .iload_n 1, 0, 0, []),
  (7, .ifCond .lt 15, 0, 22, []),
  (10, .iload_n 1, 0, 0, []),
  (11, .aload_n 0, 0, 0, []),
  (12, .getfield 108, 0, 0, []),
  (15, .if_icmp .gt 7, 0, 22, []),
  (18, .iconst 1, 1, 0, []),
  (19, .goto 4, 0, 23, []),
  (22, .iconst 0, 0, 0, []),
  (23, .iconst 1, 1, 0, []),
  (24, .invokevirtual 253, 0, 0, []),
  (27, .ifCond .ne 5, 0, 32, []),
  (30, .iconst 0, 0, 0, []),
  (31, .ireturn, 0, 0, []),
  (32, .aload_n 0, 0, 0, []),
  (33, .iconst 0, 0, 0, []),
  (34, .putfield 108, 0, 0, []),
  (37, .aload_n 0, 0, 0, []),
  (38, .iconst (-1), (-1), 0, []),
  (39, .putfield 31, 0, 0, []),
  (42, .aload_n 0, 0, 0, []),
  (43, .iconst 0, 0, 0, []),
  (44, .putfield 161, 0, 0, []),
  (47, .aload_n 0, 0, 0, []),
  (48, .iload_n 1, 0, 0, []),
  (49, .putfield 115, 0, 0, []),
  (52, .aload_n 0, 0, 0, []),
  (53, .iconst 0, 0, 0, []),
  (54, .putfield 118, 0, 0, []),
  (57, .aload_n 0, 0, 0, []),
  (58, .iconst 0, 0, 0, []),
  (59, .putfield 234, 0, 0, []),
  (62, .aload_n 0, 0, 0, []),
  (63, .iconst 0, 0, 0, []),
  (64, .putfield 231, 0, 0, []),
  (67, .aload_n 0, 0, 0, []),
  (68, .iconst 0, 0, 0, []),
  (69, .putfield 243, 0, 0, []),
  (72, .aload_n 0, 0, 0, []),
  (73, .getfield 47, 0, 0, []),
  (76, .iconst 0, 0, 0, []),
  (77, .iconst 2, 2, 0, []),
  (78, .iastore, 0, 0, []),
  (79, .aload_n 0, 0, 0, []),
  (80, .getfield 47, 0, 0, []),
  (83, .iconst 1, 1, 0, []),
  (84, .iconst 0, 0, 0, []),
  (85, .iastore, 0, 0, []),
  (86, .aload_n 0, 0, 0, []),
  (87, .getfield 47, 0, 0, []),
  (90, .iconst 2, 2, 0, []),
  (91, .iconst 0, 0, 0, []),
  (92, .iastore, 0, 0, []),
  (93, .aload_n 0, 0, 0, []),
  (94, .invokevirtual 168, 0, 0, []),
  (97, .aload_n 0, 0, 0, []),
  (98, .invokevirtual 164, 0, 0, []),
  (101, .ifCond .eq 17, 0, 118, []),
  (104, .aload_n 0, 0, 0, []),
  (105, .getfield 138, 0, 0, []),
  (108, .ifCond .eq 10, 0, 118, []),
  (111, .aload_n 0, 0, 0, []),
  (112, .invokevirtual 257, 0, 0, []),
  (115, .goto (-18), 0, 97, []),
  (118, .aload_n 0, 0, 0, []),
  (119, .invokevirtual 164, 0, 0, []),
  (122, .ifCond .ne 18, 0, 140, []),
  (125, .aload_n 0, 0, 0, []),
  (126, .getfield 35, 0, 0, []),
  (129, .iconst 0, 0, 0, []),
  (130, .dup2, 0, 0, []),
  (131, .iaload, 0, 0, []),
  (132, .iconst 1, 1, 0, []),
  (133, .iadd, 0, 0, []),
  (134, .iastore, 0, 0, []),
  (135, .aload_n 0, 0, 0, []),
  (136, .getfield 161, 0, 0, []),
  (139, .ireturn, 0, 0, []),
  (140, .aload_n 0, 0, 0, []),
  (141, .aload_n 0, 0, 0, []),
  (142, .getfield 234, 0, 0, []),
  (145, .putfield 260, 0, 0, []),
  (148, .aload_n 0, 0, 0, []),
  (149, .aload_n 0, 0, 0, []),
  (150, .getfield 231, 0, 0, []),
  (153, .putfield 263, 0, 0, []),
  (156, .aload_n 0, 0, 0, []),
  (157, .aload_n 0, 0, 0, []),
  (158, .getfield 38, 0, 0, []),
  (161, .aload_n 0, 0, 0, []),
  (162, .getfield 7, 0, 0, []),
  (165, .invokevirtual 266, 0, 0, []),
  (168, .aload_n 0, 0, 0, []),
  (169, .aload_n 0, 0, 0, []),
  (170, .getfield 41, 0, 0, []),
  (173, .aload_n 0, 0, 0, []),
  (174, .getfield 13, 0, 0, []),
  (177, .invokevirtual 266, 0, 0, []),
  (180, .aload_n 0, 0, 0, []),
  (181, .aload_n 0, 0, 0, []),
  (182, .getfield 41, 0, 0, []),
  (185, .aload_n 0, 0, 0, []),
  (186, .getfield 16, 0, 0, []),
  (189, .invokevirtual 266, 0, 0, []),
  (192, .aload_n 0, 0, 0, []),
  (193, .aload_n 0, 0, 0, []),
  (194, .getfield 44, 0, 0, []),
  (197, .aload_n 0, 0, 0, []),
  (198, .getfield 19, 0, 0, []),
  (201, .invokevirtual 266, 0, 0, []),
  (204, .aload_n 0, 0, 0, []),
  (205, .aload_n 0, 0, 0, []),
  (206, .getfield 47, 0, 0, []),
  (209, .aload_n 0, 0, 0, []),
  (210, .getfield 22, 0, 0, []),
  (213, .invokevirtual 266, 0, 0, []),
  (216, .iconst 0, 0, 0, []),
  (217, .istore_n 2, 0, 0, []),
  (218, .iload_n 2, 0, 0, []),
  (219, .aload_n 0, 0, 0, []),
  (220, .getfield 260, 0, 0, []),
  (223, .if_icmp .ge 57, 0, 280, []),
  (226, .aload_n 0, 0, 0, []),
  (227, .getfield 25, 0, 0, []),
  (230, .iload_n 2, 0, 0, []),
  (231, .aload_n 0, 0, 0, []),
  (232, .aload_n 0, 0, 0, []),
  (233, .getfield 7, 0, 0, []),
  (236, .iconst 4, 4, 0, []),
  (237, .iload_n 2, 0, 0, []),
  (238, .imul, 0, 0, []),
  (239, .iaload, 0, 0, []),
  (240, .aload_n 0, 0, 0, []),
  (241, .getfield 7, 0, 0, []),
  (244, .iconst 4, 4, 0, []),
  (245, .iload_n 2, 0, 0, []),
  (246, .imul, 0, 0, []),
  (247, .iconst 1, 1, 0, []),
  (248, .iadd, 0, 0, []),
  (249, .iaload, 0, 0, []),
  (250, .aload_n 0, 0, 0, []),
  (251, .getfield 7, 0, 0, []),
  (254, .iconst 4, 4, 0, []),
  (255, .iload_n 2, 0, 0, []),
  (256, .imul, 0, 0, []),
  (257, .iconst 2, 2, 0, []),
  (258, .iadd, 0, 0, []),
  (259, .iaload, 0, 0, []),
  (260, .aload_n 0, 0, 0, []),
  (261, .getfield 7, 0, 0, []),
  (264, .iconst 4, 4, 0, []),
  (265, .iload_n 2, 0, 0, []),
  (266, .imul, 0, 0, []),
  (267, .iconst 3, 3, 0, []),
  (268, .iadd, 0, 0, []),
  (269, .iaload, 0, 0, []),
  (270, .invokevirtual 270, 0, 0, []),
  (273, .iastore, 0, 0, []),
  (274, .iinc 2 1, 1, 0, []),
  (277, .goto (-59), 0, 218, []),
  (280, .aload_n 0, 0, 0, []),
  (281, .iconst 0, 0, 0, []),
  (282, .putfield 274, 0, 0, []),
  (285, .aload_n 0, 0, 0, []),
  (286, .iconst 0, 0, 0, []),
  (287, .putfield 277, 0, 0, []),
  (290, .aload_n 0, 0, 0, []),
  (291, .iconst 0, 0, 0, []),
  (292, .putfield 280, 0, 0, []),
  (295, .aload_n 0, 0, 0, []),
  (296, .iconst 0, 0, 0, []),
  (297, .putfield 283, 0, 0, []),
  (300, .iconst 0, 0, 0, []),
  (301, .ireturn, 0, 0, [])],
  fdX9, [(253, fX9_right, 3, 9, 0), (168, fX9_goes, 1, 9, 1), (164, fX9_isGood, 1, 9, 0), (257, fX9_line, 1, 9, 1), (266, fX9_copies, 3, 9, 1), (270, fX9_reckons, 5, 9, 0)], [], [], [], 0)
noncomputable def fX9_library : aMF := a_fn none shp pX9_library 3 2
set_option maxRecDepth 20000 in
theorem wkX9_right : ∀ w ∈ [Cond.code yX9_right cX9_right 3 (some .boolean), .initialized yX9_right.cls, .instanceMethod yX9_right, .selects yX9_right.cls yX9_right yX9_right], w ∈ lw_g := a_ps [1334, 105, 1333, 53] rfl rfl
theorem hdX9_right : yX9_right.cls ≠ "java/lang/invoke/MethodHandle" ∧ yX9_right.cls ≠ "java/lang/invoke/VarHandle" ∧ (parseMethodDescriptor yX9_right.desc).map (fun d => d.parameters.length) = some 2 := by decide +kernel
set_option maxRecDepth 20000 in
theorem lkX9_253 : Cond.methodLink RX9 253 yX9_right ∈ lw_g := a_p1 1331 rfl rfl
set_option maxRecDepth 20000 in
theorem wkX9_line : ∀ w ∈ [Cond.code yX9_line cX9_line 4 none, .initialized yX9_line.cls, .instanceMethod yX9_line, .selects yX9_line.cls yX9_line yX9_line], w ∈ lw_g := a_ps [1356, 105, 1355, 57] rfl rfl
theorem hdX9_line : yX9_line.cls ≠ "java/lang/invoke/MethodHandle" ∧ yX9_line.cls ≠ "java/lang/invoke/VarHandle" ∧ (parseMethodDescriptor yX9_line.desc).map (fun d => d.parameters.length) = some 0 := by decide +kernel
set_option maxRecDepth 20000 in
theorem lkX9_257 : Cond.methodLink RX9 257 yX9_line ∈ lw_g := a_p1 1353 rfl rfl
set_option maxRecDepth 20000 in
theorem wkX9_copies : ∀ w ∈ [Cond.code yX9_copies cX9_copies 4 none, .initialized yX9_copies.cls, .instanceMethod yX9_copies, .selects yX9_copies.cls yX9_copies yX9_copies], w ∈ lw_g := a_ps [1445, 105, 1444, 76] rfl rfl
theorem hdX9_copies : yX9_copies.cls ≠ "java/lang/invoke/MethodHandle" ∧ yX9_copies.cls ≠ "java/lang/invoke/VarHandle" ∧ (parseMethodDescriptor yX9_copies.desc).map (fun d => d.parameters.length) = some 2 := by decide +kernel
set_option maxRecDepth 20000 in
theorem lkX9_266 : Cond.methodLink RX9 266 yX9_copies ∈ lw_g := a_p1 1442 rfl rfl
set_option maxRecDepth 20000 in
theorem wkX9_reckons : ∀ w ∈ [Cond.code yX9_reckons cX9_reckons 9 (some .int), .initialized yX9_reckons.cls, .instanceMethod yX9_reckons, .selects yX9_reckons.cls yX9_reckons yX9_reckons], w ∈ lw_g := a_ps [1449, 105, 1448, 77] rfl rfl
theorem hdX9_reckons : yX9_reckons.cls ≠ "java/lang/invoke/MethodHandle" ∧ yX9_reckons.cls ≠ "java/lang/invoke/VarHandle" ∧ (parseMethodDescriptor yX9_reckons.desc).map (fun d => d.parameters.length) = some 4 := by decide +kernel
set_option maxRecDepth 20000 in
theorem lkX9_270 : Cond.methodLink RX9 270 yX9_reckons ∈ lw_g := a_p1 1446 rfl rfl
set_option maxRecDepth 20000 in
theorem kX9_library {l : Launch} {G : aG} (hZ : a_Z l G) : a_Con l G shp yX9_library (.code yX9_library cX9_library 3 (some .int)) 9 195 fX9_library :=
  a_mth none hZ.1 hZ.2.1 shp_len (fun _ h => nomatch h) hZ.2.2.1 (by decide +kernel) rfl (foX9 rfl) (a_cok_of trivial) (b_code [42,3,181,0,105,42,27,155,0,15,27,42,180,0,108,163,0,7,4,167,0,4,3,4,182,0,253,154,0,5,3,172,42,3,181,0,108,42,2,181,0,31,42,3,181,0,161,42,27,181,0,115,42,3,181,0,118,42,3,181,0,234,42,3,181,0,231,42,3,181,0,243,42,180,0,47,3,5,79,42,180,0,47,4,3,79,42,180,0,47,5,3,79,42,182,0,168,42,182,0,164,153,0,17,42,180,0,138,153,0,10,42,182,1,1,167,255,238,42,182,0,164,154,0,18,42,180,0,35,3,92,46,4,96,79,42,180,0,161,172,42,42,180,0,234,181,1,4,42,42,180,0,231,181,1,7,42,42,180,0,38,42,180,0,7,182,1,10,42,42,180,0,41,42,180,0,13,182,1,10,42,42,180,0,41,42,180,0,16,182,1,10,42,42,180,0,44,42,180,0,19,182,1,10,42,42,180,0,47,42,180,0,22,182,1,10,3,61,28,42,180,1,4,162,0,57,42,180,0,25,28,42,42,180,0,7,7,28,104,46,42,180,0,7,7,28,104,4,96,46,42,180,0,7,7,28,104,5,96,46,42,180,0,7,7,28,104,6,96,46,182,1,14,79,132,2,1,167,255,197,42,3,181,1,18,42,3,181,1,21,42,3,181,1,24,42,3,181,1,27,3,172] [] (by decide +kernel) (by decide +kernel) (by decide +kernel) (by decide +kernel)) rfl rfl (trivial) (⟨a_CQ_v hZ.2.1 (kX9_right hZ) lkX9_253 (a_CF_v TX9 62 wkX9_right lkX9_253 hdX9_right ⟨by decide, by decide⟩ rfl) rfl rfl,
    ⟨a_CQ_v hZ.2.1 (kX9_goes hZ) lkX9_168 (a_CF_v TX9 62 wkX9_goes lkX9_168 hdX9_goes ⟨by decide, by decide⟩ rfl) rfl rfl,
    ⟨a_CQ_v hZ.2.1 (kX9_isGood hZ) lkX9_164 (a_CF_v TX9 62 wkX9_isGood lkX9_164 hdX9_isGood ⟨by decide, by decide⟩ rfl) rfl rfl,
    ⟨a_CQ_v hZ.2.1 (kX9_line hZ) lkX9_257 (a_CF_v TX9 62 wkX9_line lkX9_257 hdX9_line ⟨by decide, by decide⟩ rfl) rfl rfl,
    ⟨a_CQ_v hZ.2.1 (kX9_copies hZ) lkX9_266 (a_CF_v TX9 62 wkX9_copies lkX9_266 hdX9_copies ⟨by decide, by decide⟩ rfl) rfl rfl,
    ⟨a_CQ_v hZ.2.1 (kX9_reckons hZ) lkX9_270 (a_CF_v TX9 62 wkX9_reckons lkX9_270 hdX9_reckons ⟨by decide, by decide⟩ rfl) rfl rfl,
    trivial⟩⟩⟩⟩⟩⟩)
end
section
/-! ===== programs and contracts, written by wip/whole/gen.py ===== -/
noncomputable def pX9_fault : aPrg := ([(0, .aload_n 0, 0, 0, []),
  (1, .iconst 0, 0, 0, []),
  (2, .putfield 105, 0, 0, []),
  (5, .aload_n 0, 0, 0, []),
  (6, .getfield 31, 0, 0, []),
  (9, .ireturn, 0, 0, [])],
  fdX9, [], [], [], [], 0)
noncomputable def fX9_fault : aMF := a_fn none shp pX9_fault 1 1
set_option maxRecDepth 20000 in
theorem kX9_fault {l : Launch} {G : aG} (hZ : a_Z l G) : a_Con l G shp yX9_fault (.code yX9_fault cX9_fault 1 (some .int)) 1 16 fX9_fault :=
  a_mth none hZ.1 hZ.2.1 shp_len (fun _ h => nomatch h) hZ.2.2.1 (by decide +kernel) rfl (foX9 rfl) (a_cok_of trivial) (b_code [42,3,181,0,105,42,180,0,31,172] [] (by decide +kernel) (by decide +kernel) (by decide +kernel) (by decide +kernel)) rfl rfl (trivial) (trivial)
noncomputable def pX9_hasOf : aPrg := ([(0, .iconst 0, 0, 0, []),
  (1, .istore_n 2, 0, 0, []),
  (2, .iconst 0, 0, 0, []),
  (3, .istore_n 3, 0, 0, []),
  (4, .iload_n 3, 0, 0, []),
  (5, .aload_n 0, 0, 0, []),
  (6, .getfield 260, 0, 0, []),
  (9, .if_icmp .ge 29, 0, 38, []),
  (12, .iload_n 2, 0, 0, []),
  (13, .aload_n 0, 0, 0, []),
  (14, .getfield 13, 0, 0, []),
  (17, .iload_n 3, 0, 0, []),
  (18, .iaload, 0, 0, []),
  (19, .iload_n 1, 0, 0, []),
  (20, .if_icmp .ne 9, 0, 29, []),
  (23, .iconst 1, 1, 0, []),
  (24, .iload_n 3, 0, 0, []),
  (25, .ishl, 0, 0, []),
  (26, .goto 4, 0, 30, []),
  (29, .iconst 0, 0, 0, []),
  (30, .ior, 0, 0, []),
  (31, .istore_n 2, 0, 0, []),
  (32, .iinc 3 1, 1, 0, []),
  (35, .goto (-31), 0, 4, []),
  (38, .iload_n 2, 0, 0, []),
  (39, .ireturn, 0, 0, [])],
  fdX9, [], [], [], [], 0)
noncomputable def fX9_hasOf : aMF := a_fn none shp pX9_hasOf 4 2
set_option maxRecDepth 20000 in
theorem kX9_hasOf {l : Launch} {G : aG} (hZ : a_Z l G) : a_Con l G shp yX9_hasOf (.code yX9_hasOf cX9_hasOf 4 (some .int)) 1 16 fX9_hasOf :=
  a_mth none hZ.1 hZ.2.1 shp_len (fun _ h => nomatch h) hZ.2.2.1 (by decide +kernel) rfl (foX9 rfl) (a_cok_of trivial) (b_code [3,61,3,62,29,42,180,1,4,162,0,29,28,42,180,0,13,29,46,27,160,0,9,4,29,120,167,0,4,3,128,61,132,3,1,167,255,225,28,172] [] (by decide +kernel) (by decide +kernel) (by decide +kernel) (by decide +kernel)) rfl rfl (trivial) (trivial)
noncomputable def pX9_count : aPrg := ([(0, .aload_n 0, 0, 0, []),
  (1, .iconst 0, 0, 0, []),
  (2, .putfield 105, 0, 0, []),
  (5, .aload_n 0, 0, 0, []),
  (6, .iload_n 1, 0, 0, []),
  (7, .iconst 0, 0, 0, []),
  (8, .bipush 8, 8, 0, []),
  (10, .invokestatic 290, 0, 0, []),
  (13, .iconst 1, 1, 0, []),
  (14, .invokevirtual 253, 0, 0, []),
  (17, .ifCond .ne 5, 0, 22, []),
  (20, .iconst 0, 0, 0, []),
  (21, .ireturn, 0, 0, []),
  (22, .iconst 0, 0, 0, []),
  (23, .istore_n 2, 0, 0, []),
  (24, .iconst 0, 0, 0, []),
  (25, .istore_n 3, 0, 0, []),
  (26, .iload_n 3, 0, 0, []),
  (27, .aload_n 0, 0, 0, []),
  (28, .getfield 260, 0, 0, []),
  (31, .if_icmp .ge 32, 0, 63, []),
  (34, .iload_n 2, 0, 0, []),
  (35, .aload_n 0, 0, 0, []),
  (36, .getfield 13, 0, 0, []),
  (39, .iload_n 3, 0, 0, []),
  (40, .iaload, 0, 0, []),
  (41, .iconst (-1), (-1), 0, []),
  (42, .if_icmp .ne 12, 0, 54, []),
  (45, .aload_n 0, 0, 0, []),
  (46, .getfield 25, 0, 0, []),
  (49, .iload_n 3, 0, 0, []),
  (50, .iaload, 0, 0, []),
  (51, .goto 4, 0, 55, []),
  (54, .iconst 0, 0, 0, []),
  (55, .iadd, 0, 0, []),
  (56, .istore_n 2, 0, 0, []),
  (57, .iinc 3 1, 1, 0, []),
  (60, .goto (-34), 0, 26, []),
  (63, .iload_n 1, 0, 0, []),
  (64, .tableswitch 67 0 5 #[40, 45, 50, 52, 57, 62], 0, 131, [(0, 104), (1, 109), (2, 114), (3, 116), (4, 121), (5, 126)]),
  (104, .aload_n 0, 0, 0, []),
  (105, .getfield 260, 0, 0, []),
  (108, .ireturn, 0, 0, []),
  (109, .aload_n 0, 0, 0, []),
  (110, .getfield 263, 0, 0, []),
  (113, .ireturn, 0, 0, []),
  (114, .iload_n 2, 0, 0, []),
  (115, .ireturn, 0, 0, []),
  (116, .aload_n 0, 0, 0, []),
  (117, .getfield 274, 0, 0, []),
  (120, .ireturn, 0, 0, []),
  (121, .aload_n 0, 0, 0, []),
  (122, .getfield 277, 0, 0, []),
  (125, .ireturn, 0, 0, []),
  (126, .aload_n 0, 0, 0, []),
  (127, .getfield 108, 0, 0, []),
  (130, .ireturn, 0, 0, []),
  (131, .aload_n 0, 0, 0, []),
  (132, .getfield 35, 0, 0, []),
  (135, .iload_n 1, 0, 0, []),
  (136, .bipush 6, 6, 0, []),
  (138, .isub, 0, 0, []),
  (139, .iaload, 0, 0, []),
  (140, .ireturn, 0, 0, [])],
  fdX9, [(290, fX9_within, 3, 2000, 0), (253, fX9_right, 3, 9, 0)], [], [], [], 0)
noncomputable def fX9_count : aMF := a_fn none shp pX9_count 4 2
set_option maxRecDepth 20000 in
theorem wkX9_within : ∀ w ∈ [Cond.code yX9_within cX9_within 3 (some .boolean), .initialized yX9_within.cls, .static yX9_within], w ∈ lw_g := a_ps [1463, 105, 1462] rfl rfl
theorem hdX9_within : yX9_within.cls ≠ "java/lang/invoke/MethodHandle" ∧ yX9_within.cls ≠ "java/lang/invoke/VarHandle" ∧ (parseMethodDescriptor yX9_within.desc).map (fun d => d.parameters.length) = some 3 := by decide +kernel
set_option maxRecDepth 20000 in
theorem lkX9_290 : Cond.methodLink RX9 290 yX9_within ∈ lw_g := a_p1 1461 rfl rfl
set_option maxRecDepth 20000 in
theorem kX9_count {l : Launch} {G : aG} (hZ : a_Z l G) : a_Con l G shp yX9_count (.code yX9_count cX9_count 4 (some .int)) 2 38 fX9_count :=
  a_mth none hZ.1 hZ.2.1 shp_len (fun _ h => nomatch h) hZ.2.2.1 (by decide +kernel) rfl (foX9 rfl) (a_cok_of trivial) (b_code [42,3,181,0,105,42,27,3,16,8,184,1,34,4,182,0,253,154,0,5,3,172,3,61,3,62,29,42,180,1,4,162,0,32,28,42,180,0,13,29,46,2,160,0,12,42,180,0,25,29,46,167,0,4,3,96,61,132,3,1,167,255,222,27,170,0,0,0,0,0,0,67,0,0,0,0,0,0,0,5,0,0,0,40,0,0,0,45,0,0,0,50,0,0,0,52,0,0,0,57,0,0,0,62,42,180,1,4,172,42,180,1,7,172,28,172,42,180,1,18,172,42,180,1,21,172,42,180,0,108,172,42,180,0,35,27,16,6,100,46,172] [(64, 40)] (by decide +kernel) (by decide +kernel) (by decide +kernel) (by decide +kernel)) rfl rfl (trivial) (⟨a_CQ_s hZ.2.1 (kX9_within hZ) lkX9_290 (a_CF_s wkX9_within lkX9_290 hdX9_within) rfl rfl,
    ⟨a_CQ_v hZ.2.1 (kX9_right hZ) lkX9_253 (a_CF_v TX9 62 wkX9_right lkX9_253 hdX9_right ⟨by decide, by decide⟩ rfl) rfl rfl,
    trivial⟩⟩)
noncomputable def pX9_isBook : aPrg := ([(0, .iload_n 1, 0, 0, []),
  (1, .ifCond .lt 15, 0, 16, []),
  (4, .iload_n 1, 0, 0, []),
  (5, .aload_n 0, 0, 0, []),
  (6, .getfield 260, 0, 0, []),
  (9, .if_icmp .ge 7, 0, 16, []),
  (12, .iconst 1, 1, 0, []),
  (13, .goto 4, 0, 17, []),
  (16, .iconst 0, 0, 0, []),
  (17, .ireturn, 0, 0, [])],
  fdX9, [], [], [], [], 1)
noncomputable def fX9_isBook : aMF := a_fn none shp pX9_isBook 2 2
set_option maxRecDepth 20000 in
theorem kX9_isBook {l : Launch} {G : aG} (hZ : a_Z l G) : a_Con l G shp yX9_isBook (.code yX9_isBook cX9_isBook 2 (some .boolean)) 1 16 fX9_isBook :=
  a_mth none hZ.1 hZ.2.1 shp_len (fun _ h => nomatch h) hZ.2.2.1 (by decide +kernel) rfl (foX9 rfl) (a_cok_of trivial) (b_code [27,155,0,15,27,42,180,1,4,162,0,7,4,167,0,4,3,172] [] (by decide +kernel) (by decide +kernel) (by decide +kernel) (by decide +kernel)) rfl rfl (trivial) (trivial)
noncomputable def pX9_isReader : aPrg := ([(0, .iload_n 1, 0, 0, []),
  (1, .ifCond .lt 15, 0, 16, []),
  (4, .iload_n 1, 0, 0, []),
  (5, .aload_n 0, 0, 0, []),
  (6, .getfield 263, 0, 0, []),
  (9, .if_icmp .ge 7, 0, 16, []),
  (12, .iconst 1, 1, 0, []),
  (13, .goto 4, 0, 17, []),
  (16, .iconst 0, 0, 0, []),
  (17, .ireturn, 0, 0, [])],
  fdX9, [], [], [], [], 1)
noncomputable def fX9_isReader : aMF := a_fn none shp pX9_isReader 2 2
set_option maxRecDepth 20000 in
theorem kX9_isReader {l : Launch} {G : aG} (hZ : a_Z l G) : a_Con l G shp yX9_isReader (.code yX9_isReader cX9_isReader 2 (some .boolean)) 1 16 fX9_isReader :=
  a_mth none hZ.1 hZ.2.1 shp_len (fun _ h => nomatch h) hZ.2.2.1 (by decide +kernel) rfl (foX9 rfl) (a_cok_of trivial) (b_code [27,155,0,15,27,42,180,1,7,162,0,7,4,167,0,4,3,172] [] (by decide +kernel) (by decide +kernel) (by decide +kernel) (by decide +kernel)) rfl rfl (trivial) (trivial)
noncomputable def pX9_book : aPrg := ([(0, .aload_n 0, 0, 0, []),
  (1, .iconst 0, 0, 0, []),
  (2, .putfield 105, 0, 0, []),
  (5, .aload_n 0, 0, 0, []),
  (6, .aload_n 0, 0, 0, []),
  (7, .iload_n 1, 0, 0, []),
  (8, .invokevirtual 294, 0, 0, []),
  (11, .ifCond .eq 16, 0, 27, []),
  (14, .iload_n 2, 0, 0, []),
  (15, .iconst 0, 0, 0, []),
  (16, .iconst 5, 5, 0, []),
  (17, .invokestatic 290, 0, 0, []),
  (20, .ifCond .eq 7, 0, 27, []),
  (23, .iconst 1, 1, 0, []),
  (24, .goto 4, 0, 28, []),
  (27, .iconst 0, 0, 0, []),
  (28, .iconst 1, 1, 0, []),
  (29, .invokevirtual 253, 0, 0, []),
  (32, .ifCond .ne 5, 0, 37, []),
  (35, .iconst 0, 0, 0, []),
  (36, .ireturn, 0, 0, []),
  (37, .iload_n 2, 0, 0, []),
  (38, .iconst 4, 4, 0, []),
  (39, .if_icmp .ge 16, 0, 55, []),
  (42, .aload_n 0, 0, 0, []),
  (43, .getfield 7, 0, 0, []),
  (46, .iconst 4, 4, 0, []),
  (47, .iload_n 1, 0, 0, []),
  (48, .imul, 0, 0, []),
  (49, .iload_n 2, 0, 0, []),
  (50, .iadd, 0, 0, []),
  (51, .iaload, 0, 0, []),
  (52, .goto 23, 0, 75, []),
  (55, .iload_n 2, 0, 0, []),
  (56, .iconst 4, 4, 0, []),
  (57, .if_icmp .ne 12, 0, 69, []),
  (60, .aload_n 0, 0, 0, []),
  (61, .getfield 25, 0, 0, []),
  (64, .iload_n 1, 0, 0, []),
  (65, .iaload, 0, 0, []),
  (66, .goto 9, 0, 75, []),
  (69, .aload_n 0, 0, 0, []),
  (70, .getfield 13, 0, 0, []),
  (73, .iload_n 1, 0, 0, []),
  (74, .iaload, 0, 0, []),
  (75, .ireturn, 0, 0, [])],
  fdX9, [(294, fX9_isBook, 2, 9, 0), (290, fX9_within, 3, 2000, 0), (253, fX9_right, 3, 9, 0)], [], [], [], 0)
noncomputable def fX9_book : aMF := a_fn none shp pX9_book 3 3
set_option maxRecDepth 20000 in
theorem wkX9_isBook : ∀ w ∈ [Cond.code yX9_isBook cX9_isBook 2 (some .boolean), .initialized yX9_isBook.cls, .instanceMethod yX9_isBook, .selects yX9_isBook.cls yX9_isBook yX9_isBook], w ∈ lw_g := a_ps [1471, 105, 1470, 78] rfl rfl
theorem hdX9_isBook : yX9_isBook.cls ≠ "java/lang/invoke/MethodHandle" ∧ yX9_isBook.cls ≠ "java/lang/invoke/VarHandle" ∧ (parseMethodDescriptor yX9_isBook.desc).map (fun d => d.parameters.length) = some 1 := by decide +kernel
set_option maxRecDepth 20000 in
theorem lkX9_294 : Cond.methodLink RX9 294 yX9_isBook ∈ lw_g := a_p1 1468 rfl rfl
set_option maxRecDepth 20000 in
theorem kX9_book {l : Launch} {G : aG} (hZ : a_Z l G) : a_Con l G shp yX9_book (.code yX9_book cX9_book 3 (some .int)) 2 38 fX9_book :=
  a_mth none hZ.1 hZ.2.1 shp_len (fun _ h => nomatch h) hZ.2.2.1 (by decide +kernel) rfl (foX9 rfl) (a_cok_of trivial) (b_code [42,3,181,0,105,42,42,27,182,1,38,153,0,16,28,3,8,184,1,34,153,0,7,4,167,0,4,3,4,182,0,253,154,0,5,3,172,28,7,162,0,16,42,180,0,7,7,27,104,28,96,46,167,0,23,28,7,160,0,12,42,180,0,25,27,46,167,0,9,42,180,0,13,27,46,172] [] (by decide +kernel) (by decide +kernel) (by decide +kernel) (by decide +kernel)) rfl rfl (trivial) (⟨a_CQ_v hZ.2.1 (kX9_isBook hZ) lkX9_294 (a_CF_v TX9 62 wkX9_isBook lkX9_294 hdX9_isBook ⟨by decide, by decide⟩ rfl) rfl rfl,
    ⟨a_CQ_s hZ.2.1 (kX9_within hZ) lkX9_290 (a_CF_s wkX9_within lkX9_290 hdX9_within) rfl rfl,
    ⟨a_CQ_v hZ.2.1 (kX9_right hZ) lkX9_253 (a_CF_v TX9 62 wkX9_right lkX9_253 hdX9_right ⟨by decide, by decide⟩ rfl) rfl rfl,
    trivial⟩⟩⟩)
noncomputable def pX9_isServed : aPrg := ([(0, .aload_n 0, 0, 0, []),
  (1, .getfield 19, 0, 0, []),
  (4, .iload_n 1, 0, 0, []),
  (5, .iaload, 0, 0, []),
  (6, .iconst (-1), (-1), 0, []),
  (7, .if_icmp .eq 22, 0, 29, []),
  (10, .aload_n 0, 0, 0, []),
  (11, .getfield 13, 0, 0, []),
  (14, .aload_n 0, 0, 0, []),
  (15, .getfield 19, 0, 0, []),
  (18, .iload_n 1, 0, 0, []),
  (19, .iaload, 0, 0, []),
  (20, .iaload, 0, 0, []),
  (21, .iload_n 1, 0, 0, []),
  (22, .if_icmp .ne 7, 0, 29, []),
  (25, .iconst 1, 1, 0, []),
  (26, .goto 4, 0, 30, []),
  (29, .iconst 0, 0, 0, []),
  (30, .ireturn, 0, 0, [])],
  fdX9, [], [], [], [], 1)
noncomputable def fX9_isServed : aMF := a_fn none shp pX9_isServed 2 2
set_option maxRecDepth 20000 in
theorem kX9_isServed {l : Launch} {G : aG} (hZ : a_Z l G) : a_Con l G shp yX9_isServed (.code yX9_isServed cX9_isServed 2 (some .boolean)) 1 16 fX9_isServed :=
  a_mth none hZ.1 hZ.2.1 shp_len (fun _ h => nomatch h) hZ.2.2.1 (by decide +kernel) rfl (foX9 rfl) (a_cok_of trivial) (b_code [42,180,0,19,27,46,2,159,0,22,42,180,0,13,42,180,0,19,27,46,46,27,160,0,7,4,167,0,4,3,172] [] (by decide +kernel) (by decide +kernel) (by decide +kernel) (by decide +kernel)) rfl rfl (trivial) (trivial)
noncomputable def pX9_reader : aPrg := ([(0, .aload_n 0, 0, 0, []),
  (1, .iconst 0, 0, 0, []),
  (2, .putfield 105, 0, 0, []),
  (5, .aload_n 0, 0, 0, []),
  (6, .aload_n 0, 0, 0, []),
  (7, .iload_n 1, 0, 0, []),
  (8, .invokevirtual 297, 0, 0, []),
  (11, .ifCond .eq 16, 0, 27, []),
  (14, .iload_n 2, 0, 0, []),
  (15, .iconst 0, 0, 0, []),
  (16, .iconst 2, 2, 0, []),
  (17, .invokestatic 290, 0, 0, []),
  (20, .ifCond .eq 7, 0, 27, []),
  (23, .iconst 1, 1, 0, []),
  (24, .goto 4, 0, 28, []),
  (27, .iconst 0, 0, 0, []),
  (28, .iconst 1, 1, 0, []),
  (29, .invokevirtual 253, 0, 0, []),
  (32, .ifCond .ne 5, 0, 37, []),
  (35, .iconst 0, 0, 0, []),
  (36, .ireturn, 0, 0, []),
  (37, .iload_n 2, 0, 0, []),
  (38, .ifCond .ne 12, 0, 50, []),
  (41, .aload_n 0, 0, 0, []),
  (42, .getfield 19, 0, 0, []),
  (45, .iload_n 1, 0, 0, []),
  (46, .iaload, 0, 0, []),
  (47, .goto 29, 0, 76, []),
  (50, .iload_n 2, 0, 0, []),
  (51, .iconst 1, 1, 0, []),
  (52, .if_icmp .ne 11, 0, 63, []),
  (55, .aload_n 0, 0, 0, []),
  (56, .iload_n 1, 0, 0, []),
  (57, .invokevirtual 300, 0, 0, []),
  (60, .goto 16, 0, 76, []),
  (63, .aload_n 0, 0, 0, []),
  (64, .iload_n 1, 0, 0, []),
  (65, .invokevirtual 303, 0, 0, []),
  (68, .ifCond .eq 7, 0, 75, []),
  (71, .iconst 1, 1, 0, []),
  (72, .goto 4, 0, 76, []),
  (75, .iconst 0, 0, 0, []),
  (76, .ireturn, 0, 0, [])],
  fdX9, [(297, fX9_isReader, 2, 9, 0), (290, fX9_within, 3, 2000, 0), (253, fX9_right, 3, 9, 0), (300, fX9_hasOf, 2, 9, 0), (303, fX9_isServed, 2, 9, 0)], [], [], [], 0)
noncomputable def fX9_reader : aMF := a_fn none shp pX9_reader 3 3
set_option maxRecDepth 20000 in
theorem wkX9_isReader : ∀ w ∈ [Cond.code yX9_isReader cX9_isReader 2 (some .boolean), .initialized yX9_isReader.cls, .instanceMethod yX9_isReader, .selects yX9_isReader.cls yX9_isReader yX9_isReader], w ∈ lw_g := a_ps [1479, 105, 1478, 79] rfl rfl
theorem hdX9_isReader : yX9_isReader.cls ≠ "java/lang/invoke/MethodHandle" ∧ yX9_isReader.cls ≠ "java/lang/invoke/VarHandle" ∧ (parseMethodDescriptor yX9_isReader.desc).map (fun d => d.parameters.length) = some 1 := by decide +kernel
set_option maxRecDepth 20000 in
theorem lkX9_297 : Cond.methodLink RX9 297 yX9_isReader ∈ lw_g := a_p1 1476 rfl rfl
set_option maxRecDepth 20000 in
theorem wkX9_hasOf : ∀ w ∈ [Cond.code yX9_hasOf cX9_hasOf 4 (some .int), .initialized yX9_hasOf.cls, .instanceMethod yX9_hasOf, .selects yX9_hasOf.cls yX9_hasOf yX9_hasOf], w ∈ lw_g := a_ps [1483, 105, 1482, 80] rfl rfl
theorem hdX9_hasOf : yX9_hasOf.cls ≠ "java/lang/invoke/MethodHandle" ∧ yX9_hasOf.cls ≠ "java/lang/invoke/VarHandle" ∧ (parseMethodDescriptor yX9_hasOf.desc).map (fun d => d.parameters.length) = some 1 := by decide +kernel
set_option maxRecDepth 20000 in
theorem lkX9_300 : Cond.methodLink RX9 300 yX9_hasOf ∈ lw_g := a_p1 1480 rfl rfl
set_option maxRecDepth 20000 in
theorem wkX9_isServed : ∀ w ∈ [Cond.code yX9_isServed cX9_isServed 2 (some .boolean), .initialized yX9_isServed.cls, .instanceMethod yX9_isServed, .selects yX9_isServed.cls yX9_isServed yX9_isServed], w ∈ lw_g := a_ps [1487, 105, 1486, 81] rfl rfl
theorem hdX9_isServed : yX9_isServed.cls ≠ "java/lang/invoke/MethodHandle" ∧ yX9_isServed.cls ≠ "java/lang/invoke/VarHandle" ∧ (parseMethodDescriptor yX9_isServed.desc).map (fun d => d.parameters.length) = some 1 := by decide +kernel
set_option maxRecDepth 20000 in
theorem lkX9_303 : Cond.methodLink RX9 303 yX9_isServed ∈ lw_g := a_p1 1484 rfl rfl
set_option maxRecDepth 20000 in
theorem kX9_reader {l : Launch} {G : aG} (hZ : a_Z l G) : a_Con l G shp yX9_reader (.code yX9_reader cX9_reader 3 (some .int)) 2 39 fX9_reader :=
  a_mth none hZ.1 hZ.2.1 shp_len (fun _ h => nomatch h) hZ.2.2.1 (by decide +kernel) rfl (foX9 rfl) (a_cok_of trivial) (b_code [42,3,181,0,105,42,42,27,182,1,41,153,0,16,28,3,5,184,1,34,153,0,7,4,167,0,4,3,4,182,0,253,154,0,5,3,172,28,154,0,12,42,180,0,19,27,46,167,0,29,28,4,160,0,11,42,27,182,1,44,167,0,16,42,27,182,1,47,153,0,7,4,167,0,4,3,172] [] (by decide +kernel) (by decide +kernel) (by decide +kernel) (by decide +kernel)) rfl rfl (trivial) (⟨a_CQ_v hZ.2.1 (kX9_isReader hZ) lkX9_297 (a_CF_v TX9 62 wkX9_isReader lkX9_297 hdX9_isReader ⟨by decide, by decide⟩ rfl) rfl rfl,
    ⟨a_CQ_s hZ.2.1 (kX9_within hZ) lkX9_290 (a_CF_s wkX9_within lkX9_290 hdX9_within) rfl rfl,
    ⟨a_CQ_v hZ.2.1 (kX9_right hZ) lkX9_253 (a_CF_v TX9 62 wkX9_right lkX9_253 hdX9_right ⟨by decide, by decide⟩ rfl) rfl rfl,
    ⟨a_CQ_v hZ.2.1 (kX9_hasOf hZ) lkX9_300 (a_CF_v TX9 62 wkX9_hasOf lkX9_300 hdX9_hasOf ⟨by decide, by decide⟩ rfl) rfl rfl,
    ⟨a_CQ_v hZ.2.1 (kX9_isServed hZ) lkX9_303 (a_CF_v TX9 62 wkX9_isServed lkX9_303 hdX9_isServed ⟨by decide, by decide⟩ rfl) rfl rfl,
    trivial⟩⟩⟩⟩⟩)
noncomputable def pX9_refuses : aPrg := ([(0, .aload_n 0, 0, 0, []),
  (1, .getfield 35, 0, 0, []),
  (4, .iload_n 1, 0, 0, []),
  (5, .dup2, 0, 0, []),
  (6, .iaload, 0, 0, []),
  (7, .iconst 1, 1, 0, []),
  (8, .iadd, 0, 0, []),
  (9, .iastore, 0, 0, []),
  (10, .iconst (-1), (-1), 0, []),
  (11, .ireturn, 0, 0, [])],
  fdX9, [], [], [], [], 0)
noncomputable def fX9_refuses : aMF := a_fn none shp pX9_refuses 2 2
set_option maxRecDepth 20000 in
theorem kX9_refuses {l : Launch} {G : aG} (hZ : a_Z l G) : a_Con l G shp yX9_refuses (.code yX9_refuses cX9_refuses 2 (some .int)) 1 16 fX9_refuses :=
  a_mth none hZ.1 hZ.2.1 shp_len (fun _ h => nomatch h) hZ.2.2.1 (by decide +kernel) rfl (foX9 rfl) (a_cok_of trivial) (b_code [42,180,0,35,27,92,46,4,96,79,2,172] [] (by decide +kernel) (by decide +kernel) (by decide +kernel) (by decide +kernel)) rfl rfl (trivial) (trivial)
noncomputable def pX9_trouble : aPrg := ([(0, .aload_n 0, 0, 0, []),
  (1, .iload_n 1, 0, 0, []),
  (2, .invokevirtual 297, 0, 0, []),
  (5, .ifCond .eq 19, 0, 24, []),
  (8, .aload_n 0, 0, 0, []),
  (9, .iload_n 2, 0, 0, []),
  (10, .invokevirtual 294, 0, 0, []),
  (13, .ifCond .eq 11, 0, 24, []),
  (16, .aload_n 0, 0, 0, []),
  (17, .iload_n 3, 0, 0, []),
  (18, .invokevirtual 294, 0, 0, []),
  (21, .ifCond .ne 5, 0, 26, []),
  (24, .iconst 1, 1, 0, []),
  (25, .ireturn, 0, 0, []),
  (26, .aload_n 0, 0, 0, []),
  (27, .getfield 13, 0, 0, []),
  (30, .iload_n 2, 0, 0, []),
  (31, .iaload, 0, 0, []),
  (32, .iload_n 1, 0, 0, []),
  (33, .if_icmp .eq 5, 0, 38, []),
  (36, .iconst 2, 2, 0, []),
  (37, .ireturn, 0, 0, []),
  (38, .aload_n 0, 0, 0, []),
  (39, .getfield 13, 0, 0, []),
  (42, .iload_n 3, 0, 0, []),
  (43, .iaload, 0, 0, []),
  (44, .iconst (-1), (-1), 0, []),
  (45, .if_icmp .eq 5, 0, 50, []),
  (48, .iconst 3, 3, 0, []),
  (49, .ireturn, 0, 0, []),
  (50, .aload_n 0, 0, 0, []),
  (51, .getfield 25, 0, 0, []),
  (54, .iload_n 3, 0, 0, []),
  (55, .iaload, 0, 0, []),
  (56, .aload_n 0, 0, 0, []),
  (57, .getfield 25, 0, 0, []),
  (60, .iload_n 2, 0, 0, []),
  (61, .iaload, 0, 0, []),
  (62, .if_icmp .lt 7, 0, 69, []),
  (65, .iconst 4, 4, 0, []),
  (66, .goto 4, 0, 70, []),
  (69, .iconst 0, 0, 0, []),
  (70, .ireturn, 0, 0, [])],
  fdX9, [(297, fX9_isReader, 2, 9, 0), (294, fX9_isBook, 2, 9, 0)], [], [], [], 0)
noncomputable def fX9_trouble : aMF := a_fn none shp pX9_trouble 4 4
set_option maxRecDepth 20000 in
theorem kX9_trouble {l : Launch} {G : aG} (hZ : a_Z l G) : a_Con l G shp yX9_trouble (.code yX9_trouble cX9_trouble 4 (some .int)) 2 37 fX9_trouble :=
  a_mth none hZ.1 hZ.2.1 shp_len (fun _ h => nomatch h) hZ.2.2.1 (by decide +kernel) rfl (foX9 rfl) (a_cok_of trivial) (b_code [42,27,182,1,41,153,0,19,42,28,182,1,38,153,0,11,42,29,182,1,38,154,0,5,4,172,42,180,0,13,28,46,27,159,0,5,5,172,42,180,0,13,29,46,2,159,0,5,6,172,42,180,0,25,29,46,42,180,0,25,28,46,161,0,7,7,167,0,4,3,172] [] (by decide +kernel) (by decide +kernel) (by decide +kernel) (by decide +kernel)) rfl rfl (trivial) (⟨a_CQ_v hZ.2.1 (kX9_isReader hZ) lkX9_297 (a_CF_v TX9 62 wkX9_isReader lkX9_297 hdX9_isReader ⟨by decide, by decide⟩ rfl) rfl rfl,
    ⟨a_CQ_v hZ.2.1 (kX9_isBook hZ) lkX9_294 (a_CF_v TX9 62 wkX9_isBook lkX9_294 hdX9_isBook ⟨by decide, by decide⟩ rfl) rfl rfl,
    trivial⟩⟩)
noncomputable def pX9_writes : aPrg := ([(0, .aload_n 0, 0, 0, []),
  (1, .getfield 60, 0, 0, []),
  (4, .iconst 4, 4, 0, []),
  (5, .aload_n 0, 0, 0, []),
  (6, .getfield 274, 0, 0, []),
  (9, .imul, 0, 0, []),
  (10, .iload_n 1, 0, 0, []),
  (11, .iastore, 0, 0, []),
  (12, .aload_n 0, 0, 0, []),
  (13, .getfield 60, 0, 0, []),
  (16, .iconst 4, 4, 0, []),
  (17, .aload_n 0, 0, 0, []),
  (18, .getfield 274, 0, 0, []),
  (21, .imul, 0, 0, []),
  (22, .iconst 1, 1, 0, []),
  (23, .iadd, 0, 0, []),
  (24, .iload_n 2, 0, 0, []),
  (25, .iastore, 0, 0, []),
  (26, .aload_n 0, 0, 0, []),
  (27, .getfield 60, 0, 0, []),
  (30, .iconst 4, 4, 0, []),
  (31, .aload_n 0, 0, 0, []),
  (32, .getfield 274, 0, 0, []),
  (35, .imul, 0, 0, []),
  (36, .iconst 2, 2, 0, []),
  (37, .iadd, 0, 0, []),
  (38, .iload_n 3, 0, 0, []),
  (39, .iastore, 0, 0, []),
  (40, .aload_n 0, 0, 0, []),
  (41, .getfield 60, 0, 0, []),
  (44, .iconst 4, 4, 0, []),
  (45, .aload_n 0, 0, 0, []),
  (46, .getfield 274, 0, 0, []),
  (49, .imul, 0, 0, []),
  (50, .iconst 3, 3, 0, []),
  (51, .iadd, 0, 0, []),
  (52, .iload 4, 0, 0, []),
  (54, .iastore, 0, 0, []),
  (55, .aload_n 0, 0, 0, []),
  (56, .dup, 0, 0, []),
  (57, .getfield 274, 0, 0, []),
  (60, .iconst 1, 1, 0, []),
  (61, .iadd, 0, 0, []),
  (62, .putfield 274, 0, 0, []),
  (65, .aload_n 0, 0, 0, []),
  (66, .getfield 13, 0, 0, []),
  (69, .iload_n 2, 0, 0, []),
  (70, .iload 4, 0, 0, []),
  (72, .iastore, 0, 0, []),
  (73, .aload_n 0, 0, 0, []),
  (74, .getfield 13, 0, 0, []),
  (77, .iload_n 3, 0, 0, []),
  (78, .iload_n 1, 0, 0, []),
  (79, .iastore, 0, 0, []),
  (80, .iconst 0, 0, 0, []),
  (81, .ireturn, 0, 0, [])],
  fdX9, [], [], [], [], 0)
noncomputable def fX9_writes : aMF := a_fn none shp pX9_writes 5 5
set_option maxRecDepth 20000 in
theorem kX9_writes {l : Launch} {G : aG} (hZ : a_Z l G) : a_Con l G shp yX9_writes (.code yX9_writes cX9_writes 5 (some .int)) 1 16 fX9_writes :=
  a_mth none hZ.1 hZ.2.1 shp_len (fun _ h => nomatch h) hZ.2.2.1 (by decide +kernel) rfl (foX9 rfl) (a_cok_of trivial) (b_code [42,180,0,60,7,42,180,1,18,104,27,79,42,180,0,60,7,42,180,1,18,104,4,96,28,79,42,180,0,60,7,42,180,1,18,104,5,96,29,79,42,180,0,60,7,42,180,1,18,104,6,96,21,4,79,42,89,180,1,18,4,96,181,1,18,42,180,0,13,28,21,4,79,42,180,0,13,29,27,79,3,172] [] (by decide +kernel) (by decide +kernel) (by decide +kernel) (by decide +kernel)) rfl rfl (trivial) (trivial)
noncomputable def pX9_exchange : aPrg := ([(0, .aload_n 0, 0, 0, []),
  (1, .iconst 0, 0, 0, []),
  (2, .putfield 105, 0, 0, []),
  (5, .aload_n 0, 0, 0, []),
  (6, .iload_n 1, 0, 0, []),
  (7, .iload_n 2, 0, 0, []),
  (8, .iload_n 3, 0, 0, []),
  (9, .invokevirtual 306, 0, 0, []),
  (12, .istore 4, 0, 0, []),
  (14, .iload 4, 0, 0, []),
  (16, .ifCond .ne 16, 0, 32, []),
  (19, .aload_n 0, 0, 0, []),
  (20, .getfield 274, 0, 0, []),
  (23, .sipush 200, 200, 0, []),
  (26, .if_icmp .ne 6, 0, 32, []),
  (29, .iconst 5, 5, 0, []),
  (30, .istore 4, 0, 0, []),
  (32, .iload 4, 0, 0, []),
  (34, .ifCond .ne 12, 0, 46, []),
  (37, .aload_n 0, 0, 0, []),
  (38, .iload_n 1, 0, 0, []),
  (39, .iload_n 2, 0, 0, []),
  (40, .iload_n 3, 0, 0, []),
  (41, .iconst (-1), (-1), 0, []),
  (42, .invokevirtual 309, 0, 0, []),
  (45, .ireturn, 0, 0, []),
  (46, .aload_n 0, 0, 0, []),
  (47, .getfield 35, 0, 0, []),
  (50, .iconst 1, 1, 0, []),
  (51, .dup2, 0, 0, []),
  (52, .iaload, 0, 0, []),
  (53, .iconst 1, 1, 0, []),
  (54, .iadd, 0, 0, []),
  (55, .iastore, 0, 0, []),
  (56, .iload 4, 0, 0, []),
  (58, .ireturn, 0, 0, [])],
  fdX9, [(306, fX9_trouble, 4, 9, 0), (309, fX9_writes, 5, 9, 0)], [], [], [], 0)
noncomputable def fX9_exchange : aMF := a_fn none shp pX9_exchange 5 4
set_option maxRecDepth 20000 in
theorem wkX9_trouble : ∀ w ∈ [Cond.code yX9_trouble cX9_trouble 4 (some .int), .initialized yX9_trouble.cls, .instanceMethod yX9_trouble, .selects yX9_trouble.cls yX9_trouble yX9_trouble], w ∈ lw_g := a_ps [1495, 105, 1494, 82] rfl rfl
theorem hdX9_trouble : yX9_trouble.cls ≠ "java/lang/invoke/MethodHandle" ∧ yX9_trouble.cls ≠ "java/lang/invoke/VarHandle" ∧ (parseMethodDescriptor yX9_trouble.desc).map (fun d => d.parameters.length) = some 3 := by decide +kernel
set_option maxRecDepth 20000 in
theorem lkX9_306 : Cond.methodLink RX9 306 yX9_trouble ∈ lw_g := a_p1 1492 rfl rfl
set_option maxRecDepth 20000 in
theorem wkX9_writes : ∀ w ∈ [Cond.code yX9_writes cX9_writes 5 (some .int), .initialized yX9_writes.cls, .instanceMethod yX9_writes, .selects yX9_writes.cls yX9_writes yX9_writes], w ∈ lw_g := a_ps [1499, 105, 1498, 83] rfl rfl
theorem hdX9_writes : yX9_writes.cls ≠ "java/lang/invoke/MethodHandle" ∧ yX9_writes.cls ≠ "java/lang/invoke/VarHandle" ∧ (parseMethodDescriptor yX9_writes.desc).map (fun d => d.parameters.length) = some 4 := by decide +kernel
set_option maxRecDepth 20000 in
theorem lkX9_309 : Cond.methodLink RX9 309 yX9_writes ∈ lw_g := a_p1 1496 rfl rfl
set_option maxRecDepth 20000 in
theorem kX9_exchange {l : Launch} {G : aG} (hZ : a_Z l G) : a_Con l G shp yX9_exchange (.code yX9_exchange cX9_exchange 5 (some .int)) 3 60 fX9_exchange :=
  a_mth none hZ.1 hZ.2.1 shp_len (fun _ h => nomatch h) hZ.2.2.1 (by decide +kernel) rfl (foX9 rfl) (a_cok_of trivial) (b_code [42,3,181,0,105,42,27,28,29,182,1,50,54,4,21,4,154,0,16,42,180,1,18,17,0,200,160,0,6,8,54,4,21,4,154,0,12,42,27,28,29,2,182,1,53,172,42,180,0,35,4,92,46,4,96,79,21,4,172] [] (by decide +kernel) (by decide +kernel) (by decide +kernel) (by decide +kernel)) rfl rfl (trivial) (⟨a_CQ_v hZ.2.1 (kX9_trouble hZ) lkX9_306 (a_CF_v TX9 62 wkX9_trouble lkX9_306 hdX9_trouble ⟨by decide, by decide⟩ rfl) rfl rfl,
    ⟨a_CQ_v hZ.2.1 (kX9_writes hZ) lkX9_309 (a_CF_v TX9 62 wkX9_writes lkX9_309 hdX9_writes ⟨by decide, by decide⟩ rfl) rfl rfl,
    trivial⟩⟩)
noncomputable def pX9_swap : aPrg := ([(0, .aload_n 0, 0, 0, []),
  (1, .iconst 0, 0, 0, []),
  (2, .putfield 105, 0, 0, []),
  (5, .iconst 0, 0, 0, []),
  (6, .istore 5, 0, 0, []),
  (8, .aload_n 0, 0, 0, []),
  (9, .iload_n 1, 0, 0, []),
  (10, .invokevirtual 297, 0, 0, []),
  (13, .ifCond .eq 33, 0, 46, []),
  (16, .aload_n 0, 0, 0, []),
  (17, .iload_n 3, 0, 0, []),
  (18, .invokevirtual 297, 0, 0, []),
  (21, .ifCond .eq 25, 0, 46, []),
  (24, .iload_n 1, 0, 0, []),
  (25, .iload_n 3, 0, 0, []),
  (26, .if_icmp .eq 20, 0, 46, []),
  (29, .aload_n 0, 0, 0, []),
  (30, .iload_n 2, 0, 0, []),
  (31, .invokevirtual 294, 0, 0, []),
  (34, .ifCond .eq 12, 0, 46, []),
  (37, .aload_n 0, 0, 0, []),
  (38, .iload 4, 0, 0, []),
  (40, .invokevirtual 294, 0, 0, []),
  (43, .ifCond .ne 9, 0, 52, []),
  (46, .iconst 1, 1, 0, []),
  (47, .istore 5, 0, 0, []),
  (49, .goto 49, 0, 98, []),
  (52, .aload_n 0, 0, 0, []),
  (53, .getfield 13, 0, 0, []),
  (56, .iload_n 2, 0, 0, []),
  (57, .iaload, 0, 0, []),
  (58, .iload_n 1, 0, 0, []),
  (59, .if_icmp .eq 9, 0, 68, []),
  (62, .iconst 2, 2, 0, []),
  (63, .istore 5, 0, 0, []),
  (65, .goto 33, 0, 98, []),
  (68, .aload_n 0, 0, 0, []),
  (69, .getfield 13, 0, 0, []),
  (72, .iload 4, 0, 0, []),
  (74, .iaload, 0, 0, []),
  (75, .iload_n 3, 0, 0, []),
  (76, .if_icmp .eq 9, 0, 85, []),
  (79, .iconst 3, 3, 0, []),
  (80, .istore 5, 0, 0, []),
  (82, .goto 16, 0, 98, []),
  (85, .aload_n 0, 0, 0, []),
  (86, .getfield 274, 0, 0, []),
  (89, .sipush 200, 200, 0, []),
  (92, .if_icmp .ne 6, 0, 98, []),
  (95, .iconst 5, 5, 0, []),
  (96, .istore 5, 0, 0, []),
  (98, .iload 5, 0, 0, []),
  (100, .ifCond .ne 13, 0, 113, []),
  (103, .aload_n 0, 0, 0, []),
  (104, .iload_n 1, 0, 0, []),
  (105, .iload_n 2, 0, 0, []),
  (106, .iload 4, 0, 0, []),
  (108, .iload_n 3, 0, 0, []),
  (109, .invokevirtual 309, 0, 0, []),
  (112, .ireturn, 0, 0, []),
  (113, .aload_n 0, 0, 0, []),
  (114, .getfield 35, 0, 0, []),
  (117, .iconst 1, 1, 0, []),
  (118, .dup2, 0, 0, []),
  (119, .iaload, 0, 0, []),
  (120, .iconst 1, 1, 0, []),
  (121, .iadd, 0, 0, []),
  (122, .iastore, 0, 0, []),
  (123, .iload 5, 0, 0, []),
  (125, .ireturn, 0, 0, [])],
  fdX9, [(297, fX9_isReader, 2, 9, 0), (294, fX9_isBook, 2, 9, 0), (309, fX9_writes, 5, 9, 0)], [], [], [], 0)
noncomputable def fX9_swap : aMF := a_fn none shp pX9_swap 6 5
set_option maxRecDepth 20000 in
theorem kX9_swap {l : Launch} {G : aG} (hZ : a_Z l G) : a_Con l G shp yX9_swap (.code yX9_swap cX9_swap 6 (some .int)) 2 40 fX9_swap :=
  a_mth none hZ.1 hZ.2.1 shp_len (fun _ h => nomatch h) hZ.2.2.1 (by decide +kernel) rfl (foX9 rfl) (a_cok_of trivial) (b_code [42,3,181,0,105,3,54,5,42,27,182,1,41,153,0,33,42,29,182,1,41,153,0,25,27,29,159,0,20,42,28,182,1,38,153,0,12,42,21,4,182,1,38,154,0,9,4,54,5,167,0,49,42,180,0,13,28,46,27,159,0,9,5,54,5,167,0,33,42,180,0,13,21,4,46,29,159,0,9,6,54,5,167,0,16,42,180,1,18,17,0,200,160,0,6,8,54,5,21,5,154,0,13,42,27,28,21,4,29,182,1,53,172,42,180,0,35,4,92,46,4,96,79,21,5,172] [] (by decide +kernel) (by decide +kernel) (by decide +kernel) (by decide +kernel)) rfl rfl (trivial) (⟨a_CQ_v hZ.2.1 (kX9_isReader hZ) lkX9_297 (a_CF_v TX9 62 wkX9_isReader lkX9_297 hdX9_isReader ⟨by decide, by decide⟩ rfl) rfl rfl,
    ⟨a_CQ_v hZ.2.1 (kX9_isBook hZ) lkX9_294 (a_CF_v TX9 62 wkX9_isBook lkX9_294 hdX9_isBook ⟨by decide, by decide⟩ rfl) rfl rfl,
    ⟨a_CQ_v hZ.2.1 (kX9_writes hZ) lkX9_309 (a_CF_v TX9 62 wkX9_writes lkX9_309 hdX9_writes ⟨by decide, by decide⟩ rfl) rfl rfl,
    trivial⟩⟩⟩)
noncomputable def pX9_judge : aPrg := ([(0, .aload_n 0, 0, 0, []),
  (1, .iconst 0, 0, 0, []),
  (2, .putfield 105, 0, 0, []),
  (5, .aload_n 0, 0, 0, []),
  (6, .iload_n 1, 0, 0, []),
  (7, .iload_n 2, 0, 0, []),
  (8, .iload_n 3, 0, 0, []),
  (9, .invokevirtual 306, 0, 0, []),
  (12, .ireturn, 0, 0, [])],
  fdX9, [(306, fX9_trouble, 4, 9, 0)], [], [], [], 0)
noncomputable def fX9_judge : aMF := a_fn none shp pX9_judge 4 4
set_option maxRecDepth 20000 in
theorem kX9_judge {l : Launch} {G : aG} (hZ : a_Z l G) : a_Con l G shp yX9_judge (.code yX9_judge cX9_judge 4 (some .int)) 3 60 fX9_judge :=
  a_mth none hZ.1 hZ.2.1 shp_len (fun _ h => nomatch h) hZ.2.2.1 (by decide +kernel) rfl (foX9 rfl) (a_cok_of trivial) (b_code [42,3,181,0,105,42,27,28,29,182,1,50,172] [] (by decide +kernel) (by decide +kernel) (by decide +kernel) (by decide +kernel)) rfl rfl (trivial) (⟨a_CQ_v hZ.2.1 (kX9_trouble hZ) lkX9_306 (a_CF_v TX9 62 wkX9_trouble lkX9_306 hdX9_trouble ⟨by decide, by decide⟩ rfl) rfl rfl,
    trivial⟩)
noncomputable def pX9_undo : aPrg := ([(0, .aload_n 0, 0, 0, []),
  (1, .iconst 0, 0, 0, []),
  (2, .putfield 105, 0, 0, []),
  (5, .aload_n 0, 0, 0, []),
  (6, .getfield 274, 0, 0, []),
  (9, .ifCond .ne 5, 0, 14, []),
  (12, .iconst (-1), (-1), 0, []),
  (13, .ireturn, 0, 0, []),
  (14, .aload_n 0, 0, 0, []),
  (15, .dup, 0, 0, []),
  (16, .getfield 274, 0, 0, []),
  (19, .iconst 1, 1, 0, []),
  (20, .isub, 0, 0, []),
  (21, .putfield 274, 0, 0, []),
  (24, .aload_n 0, 0, 0, []),
  (25, .getfield 13, 0, 0, []),
  (28, .aload_n 0, 0, 0, []),
  (29, .getfield 60, 0, 0, []),
  (32, .iconst 4, 4, 0, []),
  (33, .aload_n 0, 0, 0, []),
  (34, .getfield 274, 0, 0, []),
  (37, .imul, 0, 0, []),
  (38, .iconst 1, 1, 0, []),
  (39, .iadd, 0, 0, []),
  (40, .iaload, 0, 0, []),
  (41, .aload_n 0, 0, 0, []),
  (42, .getfield 60, 0, 0, []),
  (45, .iconst 4, 4, 0, []),
  (46, .aload_n 0, 0, 0, []),
  (47, .getfield 274, 0, 0, []),
  (50, .imul, 0, 0, []),
  (51, .iaload, 0, 0, []),
  (52, .iastore, 0, 0, []),
  (53, .aload_n 0, 0, 0, []),
  (54, .getfield 13, 0, 0, []),
  (57, .aload_n 0, 0, 0, []),
  (58, .getfield 60, 0, 0, []),
  (61, .iconst 4, 4, 0, []),
  (62, .aload_n 0, 0, 0, []),
  (63, .getfield 274, 0, 0, []),
  (66, .imul, 0, 0, []),
  (67, .iconst 2, 2, 0, []),
  (68, .iadd, 0, 0, []),
  (69, .iaload, 0, 0, []),
  (70, .aload_n 0, 0, 0, []),
  (71, .getfield 60, 0, 0, []),
  (74, .iconst 4, 4, 0, []),
  (75, .aload_n 0, 0, 0, []),
  (76, .getfield 274, 0, 0, []),
  (79, .imul, 0, 0, []),
  (80, .iconst 3, 3, 0, []),
  (81, .iadd, 0, 0, []),
  (82, .iaload, 0, 0, []),
  (83, .iastore, 0, 0, []),
  (84, .aload_n 0, 0, 0, []),
  (85, .getfield 274, 0, 0, []),
  (88, .ireturn, 0, 0, [])],
  fdX9, [], [], [], [], 0)
noncomputable def fX9_undo : aMF := a_fn none shp pX9_undo 1 1
set_option maxRecDepth 20000 in
theorem kX9_undo {l : Launch} {G : aG} (hZ : a_Z l G) : a_Con l G shp yX9_undo (.code yX9_undo cX9_undo 1 (some .int)) 1 16 fX9_undo :=
  a_mth none hZ.1 hZ.2.1 shp_len (fun _ h => nomatch h) hZ.2.2.1 (by decide +kernel) rfl (foX9 rfl) (a_cok_of trivial) (b_code [42,3,181,0,105,42,180,1,18,154,0,5,2,172,42,89,180,1,18,4,100,181,1,18,42,180,0,13,42,180,0,60,7,42,180,1,18,104,4,96,46,42,180,0,60,7,42,180,1,18,104,46,79,42,180,0,13,42,180,0,60,7,42,180,1,18,104,5,96,46,42,180,0,60,7,42,180,1,18,104,6,96,46,79,42,180,1,18,172] [] (by decide +kernel) (by decide +kernel) (by decide +kernel) (by decide +kernel)) rfl rfl (trivial) (trivial)
noncomputable def pX9_move : aPrg := ([(0, .aload_n 0, 0, 0, []),
  (1, .iconst 0, 0, 0, []),
  (2, .putfield 105, 0, 0, []),
  (5, .aload_n 0, 0, 0, []),
  (6, .iload_n 1, 0, 0, []),
  (7, .ifCond .lt 24, 0, 31, []),
  (10, .iload_n 1, 0, 0, []),
  (11, .aload_n 0, 0, 0, []),
  (12, .getfield 274, 0, 0, []),
  (15, .if_icmp .ge 16, 0, 31, []),
  (18, .iload_n 2, 0, 0, []),
  (19, .iconst 0, 0, 0, []),
  (20, .iconst 3, 3, 0, []),
  (21, .invokestatic 290, 0, 0, []),
  (24, .ifCond .eq 7, 0, 31, []),
  (27, .iconst 1, 1, 0, []),
  (28, .goto 4, 0, 32, []),
  (31, .iconst 0, 0, 0, []),
  (32, .iconst 1, 1, 0, []),
  (33, .invokevirtual 253, 0, 0, []),
  (36, .ifCond .eq 16, 0, 52, []),
  (39, .aload_n 0, 0, 0, []),
  (40, .getfield 60, 0, 0, []),
  (43, .iconst 4, 4, 0, []),
  (44, .iload_n 1, 0, 0, []),
  (45, .imul, 0, 0, []),
  (46, .iload_n 2, 0, 0, []),
  (47, .iadd, 0, 0, []),
  (48, .iaload, 0, 0, []),
  (49, .goto 4, 0, 53, []),
  (52, .iconst 0, 0, 0, []),
  (53, .ireturn, 0, 0, [])],
  fdX9, [(290, fX9_within, 3, 2000, 0), (253, fX9_right, 3, 9, 0)], [], [], [], 0)
noncomputable def fX9_move : aMF := a_fn none shp pX9_move 3 3
set_option maxRecDepth 20000 in
theorem kX9_move {l : Launch} {G : aG} (hZ : a_Z l G) : a_Con l G shp yX9_move (.code yX9_move cX9_move 3 (some .int)) 2 38 fX9_move :=
  a_mth none hZ.1 hZ.2.1 shp_len (fun _ h => nomatch h) hZ.2.2.1 (by decide +kernel) rfl (foX9 rfl) (a_cok_of trivial) (b_code [42,3,181,0,105,42,27,155,0,24,27,42,180,1,18,162,0,16,28,3,6,184,1,34,153,0,7,4,167,0,4,3,4,182,0,253,153,0,16,42,180,0,60,7,27,104,28,96,46,167,0,4,3,172] [] (by decide +kernel) (by decide +kernel) (by decide +kernel) (by decide +kernel)) rfl rfl (trivial) (⟨a_CQ_s hZ.2.1 (kX9_within hZ) lkX9_290 (a_CF_s wkX9_within lkX9_290 hdX9_within) rfl rfl,
    ⟨a_CQ_v hZ.2.1 (kX9_right hZ) lkX9_253 (a_CF_v TX9 62 wkX9_right lkX9_253 hdX9_right ⟨by decide, by decide⟩ rfl) rfl rfl,
    trivial⟩⟩)
noncomputable def pX9_comesTo : aPrg := ([(0, .iconst 0, 0, 0, []),
  (1, .istore_n 3, 0, 0, []),
  (2, .iload_n 3, 0, 0, []),
  (3, .sipush 4096, 4096, 0, []),
  (6, .if_icmp .ge 16, 0, 22, []),
  (9, .aload_n 0, 0, 0, []),
  (10, .getfield 63, 0, 0, []),
  (13, .iload_n 3, 0, 0, []),
  (14, .iconst (-1), (-1), 0, []),
  (15, .iastore, 0, 0, []),
  (16, .iinc 3 1, 1, 0, []),
  (19, .goto (-17), 0, 2, []),
  (22, .aload_n 0, 0, 0, []),
  (23, .getfield 63, 0, 0, []),
  (26, .iload_n 1, 0, 0, []),
  (27, .iconst 0, 0, 0, []),
  (28, .iastore, 0, 0, []),
  (29, .aload_n 0, 0, 0, []),
  (30, .getfield 66, 0, 0, []),
  (33, .iconst 0, 0, 0, []),
  (34, .iload_n 1, 0, 0, []),
  (35, .iastore, 0, 0, []),
  (36, .aload_n 0, 0, 0, []),
  (37, .iconst 1, 1, 0, []),
  (38, .putfield 312, 0, 0, []),
  (41, .iload_n 1, 0, 0, []),
  (42, .istore_n 3, 0, 0, []),
  (43, .iconst 0, 0, 0, []),
  (44, .istore 4, 0, 0, []),
  (46, .iload 4, 0, 0, []),
  (48, .aload_n 0, 0, 0, []),
  (49, .getfield 312, 0, 0, []),
  (52, .if_icmp .ge 179, 0, 231, []),
  (55, .aload_n 0, 0, 0, []),
  (56, .getfield 66, 0, 0, []),
  (59, .iload 4, 0, 0, []),
  (61, .iaload, 0, 0, []),
  (62, .istore 5, 0, 0, []),
  (64, .iconst 0, 0, 0, []),
  (65, .istore 6, 0, 0, []),
  (67, .iload 6, 0, 0, []),
  (69, .aload_n 0, 0, 0, []),
  (70, .getfield 260, 0, 0, []),
  (73, .if_icmp .ge 152, 0, 225, []),
  (76, .iload 5, 0, 0, []),
  (78, .iload 6, 0, 0, []),
  (80, .ishr, 0, 0, []),
  (81, .iconst 1, 1, 0, []),
  (82, .iand, 0, 0, []),
  (83, .ifCond .ne 6, 0, 89, []),
  (86, .goto 133, 0, 219, []),
  (89, .iconst 0, 0, 0, []),
  (90, .istore 7, 0, 0, []),
  (92, .iload 7, 0, 0, []),
  (94, .aload_n 0, 0, 0, []),
  (95, .getfield 260, 0, 0, []),
  (98, .if_icmp .ge 121, 0, 219, []),
  (101, .iload 5, 0, 0, []),
  (103, .iload 7, 0, 0, []),
  (105, .ishr, 0, 0, []),
  (106, .iconst 1, 1, 0, []),
  (107, .iand, 0, 0, []),
  (108, .iconst 1, 1, 0, []),
  (109, .if_icmp .eq 104, 0, 213, []),
  (112, .iload_n 2, 0, 0, []),
  (113, .iload 7, 0, 0, []),
  (115, .ishr, 0, 0, []),
  (116, .iconst 1, 1, 0, []),
  (117, .iand, 0, 0, []),
  (118, .ifCond .eq 95, 0, 213, []),
  (121, .aload_n 0, 0, 0, []),
  (122, .getfield 69, 0, 0, []),
  (125, .iload 7, 0, 0, []),
  (127, .iaload, 0, 0, []),
  (128, .aload_n 0, 0, 0, []),
  (129, .getfield 69, 0, 0, []),
  (132, .iload 6, 0, 0, []),
  (134, .iaload, 0, 0, []),
  (135, .if_icmp .lt 6, 0, 141, []),
  (138, .goto 75, 0, 213, []),
  (141, .iload 5, 0, 0, []),
  (143, .iconst 1, 1, 0, []),
  (144, .iload 6, 0, 0, []),
  (146, .ishl, 0, 0, []),
  (147, .iconst (-1), (-1), 0, []),
  (148, .ixor, 0, 0, []),
  (149, .iand, 0, 0, []),
  (150, .iconst 1, 1, 0, []),
  (151, .iload 7, 0, 0, []),
  (153, .ishl, 0, 0, []),
  (154, .ior, 0, 0, []),
  (155, .istore 8, 0, 0, []),
  (157, .aload_n 0, 0, 0, []),
  (158, .getfield 63, 0, 0, []),
  (161, .iload 8, 0, 0, []),
  (163, .iaload, 0, 0, []),
  (164, .iconst (-1), (-1), 0, []),
  (165, .if_icmp .eq 6, 0, 171, []),
  (168, .goto 45, 0, 213, []),
  (171, .aload_n 0, 0, 0, []),
  (172, .getfield 63, 0, 0, []),
  (175, .iload 8, 0, 0, []),
  (177, .aload_n 0, 0, 0, []),
  (178, .getfield 63, 0, 0, []),
  (181, .iload 5, 0, 0, []),
  (183, .iaload, 0, 0, []),
  (184, .iconst 1, 1, 0, []),
  (185, .iadd, 0, 0, []),
  (186, .iastore, 0, 0, []),
  (187, .iload_n 3, 0, 0, []),
  (188, .iload 8, 0, 0, []),
  (190, .ior, 0, 0, []),
  (191, .istore_n 3, 0, 0, []),
  (192, .aload_n 0, 0, 0, []),
  (193, .getfield 66, 0, 0, []),
  (196, .aload_n 0, 0, 0, []),
  (197, .getfield 312, 0, 0, []),
  (200, .iload 8, 0, 0, []),
  (202, .iastore, 0, 0, []),
  (203, .aload_n 0, 0, 0, []),
  (204, .dup, 0, 0, []),
  (205, .getfield 312, 0, 0, []),
  (208, .iconst 1, 1, 0, []),
  (209, .iadd, 0, 0, []),
  (210, .putfield 312, 0, 0, []),
  (213, .iinc 7 1, 1, 0, []),
  (216, .goto (-124), 0, 92, []),
  (219, .iinc 6 1, 1, 0, []),
  (222, .goto (-155), 0, 67, []),
  (225, .iinc 4 1, 1, 0, []),
  (228, .goto (-182), 0, 46, []),
  (231, .iload_n 3, 0, 0, []),
  (232, .ireturn, 0, 0, [])],
  fdX9, [], [], [], [], 0)
noncomputable def fX9_comesTo : aMF := a_fn none shp pX9_comesTo 9 3
set_option maxRecDepth 20000 in
theorem kX9_comesTo {l : Launch} {G : aG} (hZ : a_Z l G) : a_Con l G shp yX9_comesTo (.code yX9_comesTo cX9_comesTo 9 (some .int)) 1 16 fX9_comesTo :=
  a_mth none hZ.1 hZ.2.1 shp_len (fun _ h => nomatch h) hZ.2.2.1 (by decide +kernel) rfl (foX9 rfl) (a_cok_of trivial) (b_code [3,62,29,17,16,0,162,0,16,42,180,0,63,29,2,79,132,3,1,167,255,239,42,180,0,63,27,3,79,42,180,0,66,3,27,79,42,4,181,1,56,27,62,3,54,4,21,4,42,180,1,56,162,0,179,42,180,0,66,21,4,46,54,5,3,54,6,21,6,42,180,1,4,162,0,152,21,5,21,6,122,4,126,154,0,6,167,0,133,3,54,7,21,7,42,180,1,4,162,0,121,21,5,21,7,122,4,126,4,159,0,104,28,21,7,122,4,126,153,0,95,42,180,0,69,21,7,46,42,180,0,69,21,6,46,161,0,6,167,0,75,21,5,4,21,6,120,2,130,126,4,21,7,120,128,54,8,42,180,0,63,21,8,46,2,159,0,6,167,0,45,42,180,0,63,21,8,42,180,0,63,21,5,46,4,96,79,29,21,8,128,62,42,180,0,66,42,180,1,56,21,8,79,42,89,180,1,56,4,96,181,1,56,132,7,1,167,255,132,132,6,1,167,255,101,132,4,1,167,255,74,29,172] [] (by decide +kernel) (by decide +kernel) (by decide +kernel) (by decide +kernel)) rfl rfl (trivial) (trivial)
noncomputable def pX9_reachOf : aPrg := ([(0, .aload_n 0, 0, 0, []),
  (1, .aload_n 0, 0, 0, []),
  (2, .getfield 25, 0, 0, []),
  (5, .aload_n 0, 0, 0, []),
  (6, .getfield 69, 0, 0, []),
  (9, .invokevirtual 266, 0, 0, []),
  (12, .aload_n 0, 0, 0, []),
  (13, .aload_n 0, 0, 0, []),
  (14, .iload_n 1, 0, 0, []),
  (15, .invokevirtual 300, 0, 0, []),
  (18, .aload_n 0, 0, 0, []),
  (19, .iload_n 1, 0, 0, []),
  (20, .invokevirtual 300, 0, 0, []),
  (23, .aload_n 0, 0, 0, []),
  (24, .iconst (-1), (-1), 0, []),
  (25, .invokevirtual 300, 0, 0, []),
  (28, .ior, 0, 0, []),
  (29, .invokevirtual 315, 0, 0, []),
  (32, .ireturn, 0, 0, [])],
  fdX9, [(266, fX9_copies, 3, 9, 1), (300, fX9_hasOf, 2, 9, 0), (315, fX9_comesTo, 3, 9, 0)], [], [], [], 0)
noncomputable def fX9_reachOf : aMF := a_fn none shp pX9_reachOf 2 2
set_option maxRecDepth 20000 in
theorem wkX9_comesTo : ∀ w ∈ [Cond.code yX9_comesTo cX9_comesTo 9 (some .int), .initialized yX9_comesTo.cls, .instanceMethod yX9_comesTo, .selects yX9_comesTo.cls yX9_comesTo yX9_comesTo], w ∈ lw_g := a_ps [1527, 105, 1526, 85] rfl rfl
theorem hdX9_comesTo : yX9_comesTo.cls ≠ "java/lang/invoke/MethodHandle" ∧ yX9_comesTo.cls ≠ "java/lang/invoke/VarHandle" ∧ (parseMethodDescriptor yX9_comesTo.desc).map (fun d => d.parameters.length) = some 2 := by decide +kernel
set_option maxRecDepth 20000 in
theorem lkX9_315 : Cond.methodLink RX9 315 yX9_comesTo ∈ lw_g := a_p1 1524 rfl rfl
set_option maxRecDepth 20000 in
theorem kX9_reachOf {l : Launch} {G : aG} (hZ : a_Z l G) : a_Con l G shp yX9_reachOf (.code yX9_reachOf cX9_reachOf 2 (some .int)) 2 44 fX9_reachOf :=
  a_mth none hZ.1 hZ.2.1 shp_len (fun _ h => nomatch h) hZ.2.2.1 (by decide +kernel) rfl (foX9 rfl) (a_cok_of trivial) (b_code [42,42,180,0,25,42,180,0,69,182,1,10,42,42,27,182,1,44,42,27,182,1,44,42,2,182,1,44,128,182,1,59,172] [] (by decide +kernel) (by decide +kernel) (by decide +kernel) (by decide +kernel)) rfl rfl (trivial) (⟨a_CQ_v hZ.2.1 (kX9_copies hZ) lkX9_266 (a_CF_v TX9 62 wkX9_copies lkX9_266 hdX9_copies ⟨by decide, by decide⟩ rfl) rfl rfl,
    ⟨a_CQ_v hZ.2.1 (kX9_hasOf hZ) lkX9_300 (a_CF_v TX9 62 wkX9_hasOf lkX9_300 hdX9_hasOf ⟨by decide, by decide⟩ rfl) rfl rfl,
    ⟨a_CQ_v hZ.2.1 (kX9_comesTo hZ) lkX9_315 (a_CF_v TX9 62 wkX9_comesTo lkX9_315 hdX9_comesTo ⟨by decide, by decide⟩ rfl) rfl rfl,
    trivial⟩⟩⟩)
noncomputable def pX9_reach : aPrg := ([(0, .aload_n 0, 0, 0, []),
  (1, .iconst 0, 0, 0, []),
  (2, .putfield 105, 0, 0, []),
  (5, .aload_n 0, 0, 0, []),
  (6, .aload_n 0, 0, 0, []),
  (7, .iload_n 1, 0, 0, []),
  (8, .invokevirtual 297, 0, 0, []),
  (11, .iconst 1, 1, 0, []),
  (12, .invokevirtual 253, 0, 0, []),
  (15, .ifCond .eq 11, 0, 26, []),
  (18, .aload_n 0, 0, 0, []),
  (19, .iload_n 1, 0, 0, []),
  (20, .invokevirtual 318, 0, 0, []),
  (23, .goto 4, 0, 27, []),
  (26, .iconst 0, 0, 0, []),
  (27, .ireturn, 0, 0, [])],
  fdX9, [(297, fX9_isReader, 2, 9, 0), (253, fX9_right, 3, 9, 0), (318, fX9_reachOf, 2, 9, 0)], [], [], [], 0)
noncomputable def fX9_reach : aMF := a_fn none shp pX9_reach 2 2
set_option maxRecDepth 20000 in
theorem wkX9_reachOf : ∀ w ∈ [Cond.code yX9_reachOf cX9_reachOf 2 (some .int), .initialized yX9_reachOf.cls, .instanceMethod yX9_reachOf, .selects yX9_reachOf.cls yX9_reachOf yX9_reachOf], w ∈ lw_g := a_ps [1523, 105, 1522, 84] rfl rfl
theorem hdX9_reachOf : yX9_reachOf.cls ≠ "java/lang/invoke/MethodHandle" ∧ yX9_reachOf.cls ≠ "java/lang/invoke/VarHandle" ∧ (parseMethodDescriptor yX9_reachOf.desc).map (fun d => d.parameters.length) = some 1 := by decide +kernel
set_option maxRecDepth 20000 in
theorem lkX9_318 : Cond.methodLink RX9 318 yX9_reachOf ∈ lw_g := a_p1 1520 rfl rfl
set_option maxRecDepth 20000 in
theorem kX9_reach {l : Launch} {G : aG} (hZ : a_Z l G) : a_Con l G shp yX9_reach (.code yX9_reach cX9_reach 2 (some .int)) 3 65 fX9_reach :=
  a_mth none hZ.1 hZ.2.1 shp_len (fun _ h => nomatch h) hZ.2.2.1 (by decide +kernel) rfl (foX9 rfl) (a_cok_of trivial) (b_code [42,3,181,0,105,42,42,27,182,1,41,4,182,0,253,153,0,11,42,27,182,1,62,167,0,4,3,172] [] (by decide +kernel) (by decide +kernel) (by decide +kernel) (by decide +kernel)) rfl rfl (trivial) (⟨a_CQ_v hZ.2.1 (kX9_isReader hZ) lkX9_297 (a_CF_v TX9 62 wkX9_isReader lkX9_297 hdX9_isReader ⟨by decide, by decide⟩ rfl) rfl rfl,
    ⟨a_CQ_v hZ.2.1 (kX9_right hZ) lkX9_253 (a_CF_v TX9 62 wkX9_right lkX9_253 hdX9_right ⟨by decide, by decide⟩ rfl) rfl rfl,
    ⟨a_CQ_v hZ.2.1 (kX9_reachOf hZ) lkX9_318 (a_CF_v TX9 62 wkX9_reachOf lkX9_318 hdX9_reachOf ⟨by decide, by decide⟩ rfl) rfl rfl,
    trivial⟩⟩⟩)
noncomputable def pX9_way : aPrg := ([(0, .aload_n 0, 0, 0, []),
  (1, .iconst 0, 0, 0, []),
  (2, .putfield 105, 0, 0, []),
  (5, .aload_n 0, 0, 0, []),
  (6, .aload_n 0, 0, 0, []),
  (7, .iload_n 1, 0, 0, []),
  (8, .invokevirtual 297, 0, 0, []),
  (11, .ifCond .eq 15, 0, 26, []),
  (14, .aload_n 0, 0, 0, []),
  (15, .iload_n 2, 0, 0, []),
  (16, .invokevirtual 294, 0, 0, []),
  (19, .ifCond .eq 7, 0, 26, []),
  (22, .iconst 1, 1, 0, []),
  (23, .goto 4, 0, 27, []),
  (26, .iconst 0, 0, 0, []),
  (27, .iconst 1, 1, 0, []),
  (28, .invokevirtual 253, 0, 0, []),
  (31, .ifCond .ne 5, 0, 36, []),
  (34, .iconst 0, 0, 0, []),
  (35, .ireturn, 0, 0, []),
  (36, .aload_n 0, 0, 0, []),
  (37, .iload_n 1, 0, 0, []),
  (38, .invokevirtual 318, 0, 0, []),
  (41, .pop, 0, 0, []),
  (42, .iconst 0, 0, 0, []),
  (43, .istore_n 3, 0, 0, []),
  (44, .iload_n 3, 0, 0, []),
  (45, .aload_n 0, 0, 0, []),
  (46, .getfield 312, 0, 0, []),
  (49, .if_icmp .ge 35, 0, 84, []),
  (52, .aload_n 0, 0, 0, []),
  (53, .getfield 66, 0, 0, []),
  (56, .iload_n 3, 0, 0, []),
  (57, .iaload, 0, 0, []),
  (58, .iload_n 2, 0, 0, []),
  (59, .ishr, 0, 0, []),
  (60, .iconst 1, 1, 0, []),
  (61, .iand, 0, 0, []),
  (62, .iconst 1, 1, 0, []),
  (63, .if_icmp .ne 15, 0, 78, []),
  (66, .aload_n 0, 0, 0, []),
  (67, .getfield 63, 0, 0, []),
  (70, .aload_n 0, 0, 0, []),
  (71, .getfield 66, 0, 0, []),
  (74, .iload_n 3, 0, 0, []),
  (75, .iaload, 0, 0, []),
  (76, .iaload, 0, 0, []),
  (77, .ireturn, 0, 0, []),
  (78, .iinc 3 1, 1, 0, []),
  (81, .goto (-37), 0, 44, []),
  (84, .iconst (-1), (-1), 0, []),
  (85, .ireturn, 0, 0, [])],
  fdX9, [(297, fX9_isReader, 2, 9, 0), (294, fX9_isBook, 2, 9, 0), (253, fX9_right, 3, 9, 0), (318, fX9_reachOf, 2, 9, 0)], [], [], [], 0)
noncomputable def fX9_way : aMF := a_fn none shp pX9_way 4 3
set_option maxRecDepth 20000 in
theorem kX9_way {l : Launch} {G : aG} (hZ : a_Z l G) : a_Con l G shp yX9_way (.code yX9_way cX9_way 4 (some .int)) 3 65 fX9_way :=
  a_mth none hZ.1 hZ.2.1 shp_len (fun _ h => nomatch h) hZ.2.2.1 (by decide +kernel) rfl (foX9 rfl) (a_cok_of trivial) (b_code [42,3,181,0,105,42,42,27,182,1,41,153,0,15,42,28,182,1,38,153,0,7,4,167,0,4,3,4,182,0,253,154,0,5,3,172,42,27,182,1,62,87,3,62,29,42,180,1,56,162,0,35,42,180,0,66,29,46,28,122,4,126,4,160,0,15,42,180,0,63,42,180,0,66,29,46,46,172,132,3,1,167,255,219,2,172] [] (by decide +kernel) (by decide +kernel) (by decide +kernel) (by decide +kernel)) rfl rfl (trivial) (⟨a_CQ_v hZ.2.1 (kX9_isReader hZ) lkX9_297 (a_CF_v TX9 62 wkX9_isReader lkX9_297 hdX9_isReader ⟨by decide, by decide⟩ rfl) rfl rfl,
    ⟨a_CQ_v hZ.2.1 (kX9_isBook hZ) lkX9_294 (a_CF_v TX9 62 wkX9_isBook lkX9_294 hdX9_isBook ⟨by decide, by decide⟩ rfl) rfl rfl,
    ⟨a_CQ_v hZ.2.1 (kX9_right hZ) lkX9_253 (a_CF_v TX9 62 wkX9_right lkX9_253 hdX9_right ⟨by decide, by decide⟩ rfl) rfl rfl,
    ⟨a_CQ_v hZ.2.1 (kX9_reachOf hZ) lkX9_318 (a_CF_v TX9 62 wkX9_reachOf lkX9_318 hdX9_reachOf ⟨by decide, by decide⟩ rfl) rfl rfl,
    trivial⟩⟩⟩⟩)
noncomputable def pX9_comes : aPrg := ([(0, .iload_n 1, 0, 0, []),
  (1, .iload_n 2, 0, 0, []),
  (2, .bipush 12, 12, 0, []),
  (4, .ishl, 0, 0, []),
  (5, .ior, 0, 0, []),
  (6, .istore 4, 0, 0, []),
  (8, .iload 4, 0, 0, []),
  (10, .ldc_w 321, 0, 0, []),
  (13, .imul, 0, 0, []),
  (14, .iload 4, 0, 0, []),
  (16, .bipush 9, 9, 0, []),
  (18, .ishr, 0, 0, []),
  (19, .ixor, 0, 0, []),
  (20, .sipush 16383, 16383, 0, []),
  (23, .iand, 0, 0, []),
  (24, .istore 5, 0, 0, []),
  (26, .aload_n 0, 0, 0, []),
  (27, .getfield 78, 0, 0, []),
  (30, .iload 5, 0, 0, []),
  (32, .iaload, 0, 0, []),
  (33, .ifCond .eq 35, 0, 68, []),
  (36, .aload_n 0, 0, 0, []),
  (37, .getfield 72, 0, 0, []),
  (40, .aload_n 0, 0, 0, []),
  (41, .getfield 78, 0, 0, []),
  (44, .iload 5, 0, 0, []),
  (46, .iaload, 0, 0, []),
  (47, .iconst 1, 1, 0, []),
  (48, .isub, 0, 0, []),
  (49, .iaload, 0, 0, []),
  (50, .iload 4, 0, 0, []),
  (52, .if_icmp .eq 16, 0, 68, []),
  (55, .iload 5, 0, 0, []),
  (57, .iconst 1, 1, 0, []),
  (58, .iadd, 0, 0, []),
  (59, .sipush 16383, 16383, 0, []),
  (62, .iand, 0, 0, []),
  (63, .istore 5, 0, 0, []),
  (65, .goto (-39), 0, 26, []),
  (68, .aload_n 0, 0, 0, []),
  (69, .getfield 78, 0, 0, []),
  (72, .iload 5, 0, 0, []),
  (74, .iaload, 0, 0, []),
  (75, .ifCond .eq 4, 0, 79, []),
  (78, .return_, 0, 0, []),
  (79, .aload_n 0, 0, 0, []),
  (80, .getfield 322, 0, 0, []),
  (83, .sipush 4000, 4000, 0, []),
  (86, .if_icmp .ne 9, 0, 95, []),
  (89, .aload_n 0, 0, 0, []),
  (90, .iconst 1, 1, 0, []),
  (91, .putfield 325, 0, 0, []),
  (94, .return_, 0, 0, []),
  (95, .aload_n 0, 0, 0, []),
  (96, .getfield 72, 0, 0, []),
  (99, .aload_n 0, 0, 0, []),
  (100, .getfield 322, 0, 0, []),
  (103, .iload 4, 0, 0, []),
  (105, .iastore, 0, 0, []),
  (106, .aload_n 0, 0, 0, []),
  (107, .getfield 75, 0, 0, []),
  (110, .aload_n 0, 0, 0, []),
  (111, .getfield 322, 0, 0, []),
  (114, .iload_n 3, 0, 0, []),
  (115, .iastore, 0, 0, []),
  (116, .aload_n 0, 0, 0, []),
  (117, .dup, 0, 0, []),
  (118, .getfield 322, 0, 0, []),
  (121, .iconst 1, 1, 0, []),
  (122, .iadd, 0, 0, []),
  (123, .putfield 322, 0, 0, []),
  (126, .aload_n 0, 0, 0, []),
  (127, .getfield 78, 0, 0, []),
  (130, .iload 5, 0, 0, []),
  (132, .aload_n 0, 0, 0, []),
  (133, .getfield 322, 0, 0, []),
  (136, .iastore, 0, 0, []),
  (137, .return_, 0, 0, [])],
  fdX9, [], [(321, .int (40503 : Int32))], [], [], 2)
noncomputable def fX9_comes : aMF := a_fn none shp pX9_comes 6 4
set_option maxRecDepth 20000 in
theorem kX9_comes {l : Launch} {G : aG} (hZ : a_Z l G) : a_Con l G shp yX9_comes (.code yX9_comes cX9_comes 6 none) 1 16 fX9_comes :=
  a_mth none hZ.1 hZ.2.1 shp_len (fun _ h => nomatch h) hZ.2.2.1 (by decide +kernel) rfl (foX9 rfl) (a_cok_of ⟨a_p1 1540 rfl rfl, trivial⟩) (b_code [27,28,16,12,120,128,54,4,21,4,19,1,65,104,21,4,16,9,122,130,17,63,255,126,54,5,42,180,0,78,21,5,46,153,0,35,42,180,0,72,42,180,0,78,21,5,46,4,100,46,21,4,159,0,16,21,5,4,96,17,63,255,126,54,5,167,255,217,42,180,0,78,21,5,46,153,0,4,177,42,180,1,66,17,15,160,160,0,9,42,4,181,1,69,177,42,180,0,72,42,180,1,66,21,4,79,42,180,0,75,42,180,1,66,29,79,42,89,180,1,66,4,96,181,1,66,42,180,0,78,21,5,42,180,1,66,79,177] [] (by decide +kernel) (by decide +kernel) (by decide +kernel) (by decide +kernel)) rfl rfl (trivial) (trivial)
noncomputable def pX9_exchanges : aPrg := ([(0, .iconst 0, 0, 0, []),
  (1, .istore 6, 0, 0, []),
  (3, .iload 6, 0, 0, []),
  (5, .aload_n 0, 0, 0, []),
  (6, .getfield 260, 0, 0, []),
  (9, .if_icmp .ge 123, 0, 132, []),
  (12, .iload_n 1, 0, 0, []),
  (13, .iload 6, 0, 0, []),
  (15, .ishr, 0, 0, []),
  (16, .iconst 1, 1, 0, []),
  (17, .iand, 0, 0, []),
  (18, .ifCond .ne 6, 0, 24, []),
  (21, .goto 105, 0, 126, []),
  (24, .iconst 0, 0, 0, []),
  (25, .istore 7, 0, 0, []),
  (27, .iload 7, 0, 0, []),
  (29, .aload_n 0, 0, 0, []),
  (30, .getfield 260, 0, 0, []),
  (33, .if_icmp .ge 93, 0, 126, []),
  (36, .iload_n 1, 0, 0, []),
  (37, .iload_n 2, 0, 0, []),
  (38, .ior, 0, 0, []),
  (39, .iload 7, 0, 0, []),
  (41, .ishr, 0, 0, []),
  (42, .iconst 1, 1, 0, []),
  (43, .iand, 0, 0, []),
  (44, .iconst 1, 1, 0, []),
  (45, .if_icmp .eq 75, 0, 120, []),
  (48, .iload_n 3, 0, 0, []),
  (49, .iload 7, 0, 0, []),
  (51, .ishr, 0, 0, []),
  (52, .iconst 1, 1, 0, []),
  (53, .iand, 0, 0, []),
  (54, .ifCond .eq 66, 0, 120, []),
  (57, .aload_n 0, 0, 0, []),
  (58, .getfield 25, 0, 0, []),
  (61, .iload 7, 0, 0, []),
  (63, .iaload, 0, 0, []),
  (64, .aload_n 0, 0, 0, []),
  (65, .getfield 25, 0, 0, []),
  (68, .iload 6, 0, 0, []),
  (70, .iaload, 0, 0, []),
  (71, .if_icmp .lt 6, 0, 77, []),
  (74, .goto 46, 0, 120, []),
  (77, .iload_n 1, 0, 0, []),
  (78, .iconst 1, 1, 0, []),
  (79, .iload 6, 0, 0, []),
  (81, .ishl, 0, 0, []),
  (82, .iconst (-1), (-1), 0, []),
  (83, .ixor, 0, 0, []),
  (84, .iand, 0, 0, []),
  (85, .iconst 1, 1, 0, []),
  (86, .iload 7, 0, 0, []),
  (88, .ishl, 0, 0, []),
  (89, .ior, 0, 0, []),
  (90, .istore 8, 0, 0, []),
  (92, .aload_n 0, 0, 0, []),
  (93, .iload 4, 0, 0, []),
  (95, .ifCond .eq 7, 0, 102, []),
  (98, .iload_n 2, 0, 0, []),
  (99, .goto 5, 0, 104, []),
  (102, .iload 8, 0, 0, []),
  (104, .iload 4, 0, 0, []),
  (106, .ifCond .eq 8, 0, 114, []),
  (109, .iload 8, 0, 0, []),
  (111, .goto 4, 0, 115, []),
  (114, .iload_n 2, 0, 0, []),
  (115, .iload 5, 0, 0, []),
  (117, .invokevirtual 328, 0, 0, []),
  (120, .iinc 7 1, 1, 0, []),
  (123, .goto (-96), 0, 27, []),
  (126, .iinc 6 1, 1, 0, []),
  (129, .goto (-126), 0, 3, []),
  (132, .return_, 0, 0, [])],
  fdX9, [(328, fX9_comes, 4, 9, 1)], [], [], [], 2)
noncomputable def fX9_exchanges : aMF := a_fn none shp pX9_exchanges 9 6
set_option maxRecDepth 20000 in
theorem wkX9_comes : ∀ w ∈ [Cond.code yX9_comes cX9_comes 6 none, .initialized yX9_comes.cls, .instanceMethod yX9_comes, .selects yX9_comes.cls yX9_comes yX9_comes], w ∈ lw_g := a_ps [1539, 105, 1538, 86] rfl rfl
theorem hdX9_comes : yX9_comes.cls ≠ "java/lang/invoke/MethodHandle" ∧ yX9_comes.cls ≠ "java/lang/invoke/VarHandle" ∧ (parseMethodDescriptor yX9_comes.desc).map (fun d => d.parameters.length) = some 3 := by decide +kernel
set_option maxRecDepth 20000 in
theorem lkX9_328 : Cond.methodLink RX9 328 yX9_comes ∈ lw_g := a_p1 1536 rfl rfl
set_option maxRecDepth 20000 in
theorem kX9_exchanges {l : Launch} {G : aG} (hZ : a_Z l G) : a_Con l G shp yX9_exchanges (.code yX9_exchanges cX9_exchanges 9 none) 2 41 fX9_exchanges :=
  a_mth none hZ.1 hZ.2.1 shp_len (fun _ h => nomatch h) hZ.2.2.1 (by decide +kernel) rfl (foX9 rfl) (a_cok_of trivial) (b_code [3,54,6,21,6,42,180,1,4,162,0,123,27,21,6,122,4,126,154,0,6,167,0,105,3,54,7,21,7,42,180,1,4,162,0,93,27,28,128,21,7,122,4,126,4,159,0,75,29,21,7,122,4,126,153,0,66,42,180,0,25,21,7,46,42,180,0,25,21,6,46,161,0,6,167,0,46,27,4,21,6,120,2,130,126,4,21,7,120,128,54,8,42,21,4,153,0,7,28,167,0,5,21,8,21,4,153,0,8,21,8,167,0,4,28,21,5,182,1,72,132,7,1,167,255,160,132,6,1,167,255,130,177] [] (by decide +kernel) (by decide +kernel) (by decide +kernel) (by decide +kernel)) rfl rfl (trivial) (⟨a_CQ_v hZ.2.1 (kX9_comes hZ) lkX9_328 (a_CF_v TX9 62 wkX9_comes lkX9_328 hdX9_comes ⟨by decide, by decide⟩ rfl) rfl rfl,
    trivial⟩)
end
section
/-! ===== programs and contracts, written by wip/whole/gen.py ===== -/
noncomputable def pX9_together : aPrg := ([(0, .aload_n 0, 0, 0, []),
  (1, .iconst 0, 0, 0, []),
  (2, .putfield 105, 0, 0, []),
  (5, .aload_n 0, 0, 0, []),
  (6, .aload_n 0, 0, 0, []),
  (7, .iload_n 1, 0, 0, []),
  (8, .invokevirtual 297, 0, 0, []),
  (11, .ifCond .eq 23, 0, 34, []),
  (14, .aload_n 0, 0, 0, []),
  (15, .iload_n 2, 0, 0, []),
  (16, .invokevirtual 297, 0, 0, []),
  (19, .ifCond .eq 15, 0, 34, []),
  (22, .aload_n 0, 0, 0, []),
  (23, .iload_n 3, 0, 0, []),
  (24, .invokevirtual 294, 0, 0, []),
  (27, .ifCond .eq 7, 0, 34, []),
  (30, .iconst 1, 1, 0, []),
  (31, .goto 4, 0, 35, []),
  (34, .iconst 0, 0, 0, []),
  (35, .iconst 1, 1, 0, []),
  (36, .invokevirtual 253, 0, 0, []),
  (39, .ifCond .eq 21, 0, 60, []),
  (42, .aload_n 0, 0, 0, []),
  (43, .iload_n 1, 0, 0, []),
  (44, .iload_n 2, 0, 0, []),
  (45, .if_icmp .eq 7, 0, 52, []),
  (48, .iconst 1, 1, 0, []),
  (49, .goto 4, 0, 53, []),
  (52, .iconst 0, 0, 0, []),
  (53, .iconst 2, 2, 0, []),
  (54, .invokevirtual 253, 0, 0, []),
  (57, .ifCond .ne 5, 0, 62, []),
  (60, .iconst 0, 0, 0, []),
  (61, .ireturn, 0, 0, []),
  (62, .aload_n 0, 0, 0, []),
  (63, .iload_n 1, 0, 0, []),
  (64, .invokevirtual 300, 0, 0, []),
  (67, .aload_n 0, 0, 0, []),
  (68, .iload_n 2, 0, 0, []),
  (69, .invokevirtual 300, 0, 0, []),
  (72, .ior, 0, 0, []),
  (73, .aload_n 0, 0, 0, []),
  (74, .iconst (-1), (-1), 0, []),
  (75, .invokevirtual 300, 0, 0, []),
  (78, .ior, 0, 0, []),
  (79, .istore 4, 0, 0, []),
  (81, .iconst 0, 0, 0, []),
  (82, .istore 5, 0, 0, []),
  (84, .iload 5, 0, 0, []),
  (86, .sipush 16384, 16384, 0, []),
  (89, .if_icmp .ge 17, 0, 106, []),
  (92, .aload_n 0, 0, 0, []),
  (93, .getfield 78, 0, 0, []),
  (96, .iload 5, 0, 0, []),
  (98, .iconst 0, 0, 0, []),
  (99, .iastore, 0, 0, []),
  (100, .iinc 5 1, 1, 0, []),
  (103, .goto (-19), 0, 84, []),
  (106, .aload_n 0, 0, 0, []),
  (107, .iconst 0, 0, 0, []),
  (108, .putfield 322, 0, 0, []),
  (111, .aload_n 0, 0, 0, []),
  (112, .iconst 0, 0, 0, []),
  (113, .putfield 325, 0, 0, []),
  (116, .aload_n 0, 0, 0, []),
  (117, .aload_n 0, 0, 0, []),
  (118, .iload_n 1, 0, 0, []),
  (119, .invokevirtual 300, 0, 0, []),
  (122, .aload_n 0, 0, 0, []),
  (123, .iload_n 2, 0, 0, []),
  (124, .invokevirtual 300, 0, 0, []),
  (127, .iconst 0, 0, 0, []),
  (128, .invokevirtual 328, 0, 0, []),
  (131, .iconst (-1), (-1), 0, []),
  (132, .istore 5, 0, 0, []),
  (134, .iconst 0, 0, 0, []),
  (135, .istore 6, 0, 0, []),
  (137, .iload 6, 0, 0, []),
  (139, .aload_n 0, 0, 0, []),
  (140, .getfield 322, 0, 0, []),
  (143, .if_icmp .ge 195, 0, 338, []),
  (146, .aload_n 0, 0, 0, []),
  (147, .getfield 325, 0, 0, []),
  (150, .ifCond .ne 188, 0, 338, []),
  (153, .aload_n 0, 0, 0, []),
  (154, .getfield 72, 0, 0, []),
  (157, .iload 6, 0, 0, []),
  (159, .iaload, 0, 0, []),
  (160, .sipush 4095, 4095, 0, []),
  (163, .iand, 0, 0, []),
  (164, .istore 7, 0, 0, []),
  (166, .aload_n 0, 0, 0, []),
  (167, .getfield 72, 0, 0, []),
  (170, .iload 6, 0, 0, []),
  (172, .iaload, 0, 0, []),
  (173, .bipush 12, 12, 0, []),
  (175, .ishr, 0, 0, []),
  (176, .istore 8, 0, 0, []),
  (178, .aload_n 0, 0, 0, []),
  (179, .getfield 75, 0, 0, []),
  (182, .iload 6, 0, 0, []),
  (184, .iaload, 0, 0, []),
  (185, .iconst 1, 1, 0, []),
  (186, .iadd, 0, 0, []),
  (187, .istore 9, 0, 0, []),
  (189, .iload 5, 0, 0, []),
  (191, .iconst (-1), (-1), 0, []),
  (192, .if_icmp .ne 22, 0, 214, []),
  (195, .iload 7, 0, 0, []),
  (197, .iload_n 3, 0, 0, []),
  (198, .ishr, 0, 0, []),
  (199, .iconst 1, 1, 0, []),
  (200, .iand, 0, 0, []),
  (201, .iconst 1, 1, 0, []),
  (202, .if_icmp .ne 12, 0, 214, []),
  (205, .aload_n 0, 0, 0, []),
  (206, .getfield 75, 0, 0, []),
  (209, .iload 6, 0, 0, []),
  (211, .iaload, 0, 0, []),
  (212, .istore 5, 0, 0, []),
  (214, .aload_n 0, 0, 0, []),
  (215, .iload 7, 0, 0, []),
  (217, .iload 8, 0, 0, []),
  (219, .iload 4, 0, 0, []),
  (221, .iconst 0, 0, 0, []),
  (222, .iload 9, 0, 0, []),
  (224, .invokevirtual 332, 0, 0, []),
  (227, .aload_n 0, 0, 0, []),
  (228, .iload 8, 0, 0, []),
  (230, .iload 7, 0, 0, []),
  (232, .iload 4, 0, 0, []),
  (234, .iconst 1, 1, 0, []),
  (235, .iload 9, 0, 0, []),
  (237, .invokevirtual 332, 0, 0, []),
  (240, .iconst 0, 0, 0, []),
  (241, .istore 10, 0, 0, []),
  (243, .iload 10, 0, 0, []),
  (245, .aload_n 0, 0, 0, []),
  (246, .getfield 260, 0, 0, []),
  (249, .if_icmp .ge 83, 0, 332, []),
  (252, .iconst 0, 0, 0, []),
  (253, .istore 11, 0, 0, []),
  (255, .iload 11, 0, 0, []),
  (257, .aload_n 0, 0, 0, []),
  (258, .getfield 260, 0, 0, []),
  (261, .if_icmp .ge 65, 0, 326, []),
  (264, .iload 7, 0, 0, []),
  (266, .iload 10, 0, 0, []),
  (268, .ishr, 0, 0, []),
  (269, .iconst 1, 1, 0, []),
  (270, .iand, 0, 0, []),
  (271, .iconst 1, 1, 0, []),
  (272, .if_icmp .ne 54, 0, 326, []),
  (275, .iload 8, 0, 0, []),
  (277, .iload 11, 0, 0, []),
  (279, .ishr, 0, 0, []),
  (280, .iconst 1, 1, 0, []),
  (281, .iand, 0, 0, []),
  (282, .iconst 1, 1, 0, []),
  (283, .if_icmp .ne 37, 0, 320, []),
  (286, .aload_n 0, 0, 0, []),
  (287, .iload 7, 0, 0, []),
  (289, .iconst 1, 1, 0, []),
  (290, .iload 10, 0, 0, []),
  (292, .ishl, 0, 0, []),
  (293, .iconst (-1), (-1), 0, []),
  (294, .ixor, 0, 0, []),
  (295, .iand, 0, 0, []),
  (296, .iconst 1, 1, 0, []),
  (297, .iload 11, 0, 0, []),
  (299, .ishl, 0, 0, []),
  (300, .ior, 0, 0, []),
  (301, .iload 8, 0, 0, []),
  (303, .iconst 1, 1, 0, []),
  (304, .iload 11, 0, 0, []),
  (306, .ishl, 0, 0, []),
  (307, .iconst (-1), (-1), 0, []),
  (308, .ixor, 0, 0, []),
  (309, .iand, 0, 0, []),
  (310, .iconst 1, 1, 0, []),
  (311, .iload 10, 0, 0, []),
  (313, .ishl, 0, 0, []),
  (314, .ior, 0, 0, []),
  (315, .iload 9, 0, 0, []),
  (317, .invokevirtual 328, 0, 0, []),
  (320, .iinc 11 1, 1, 0, []),
  (323, .goto (-68), 0, 255, []),
  (326, .iinc 10 1, 1, 0, []),
  (329, .goto (-86), 0, 243, []),
  (332, .iinc 6 1, 1, 0, []),
  (335, .goto (-198), 0, 137, []),
  (338, .aload_n 0, 0, 0, []),
  (339, .getfield 325, 0, 0, []),
  (342, .ifCond .eq 8, 0, 350, []),
  (345, .bipush (-2), (-2), 0, []),
  (347, .goto 5, 0, 352, []),
  (350, .iload 5, 0, 0, []),
  (352, .ireturn, 0, 0, [])],
  fdX9, [(297, fX9_isReader, 2, 9, 0), (294, fX9_isBook, 2, 9, 0), (253, fX9_right, 3, 9, 0), (300, fX9_hasOf, 2, 9, 0), (328, fX9_comes, 4, 9, 1), (332, fX9_exchanges, 6, 9, 1)], [], [], [], 0)
noncomputable def fX9_together : aMF := a_fn none shp pX9_together 12 4
set_option maxRecDepth 20000 in
theorem wkX9_exchanges : ∀ w ∈ [Cond.code yX9_exchanges cX9_exchanges 9 none, .initialized yX9_exchanges.cls, .instanceMethod yX9_exchanges, .selects yX9_exchanges.cls yX9_exchanges yX9_exchanges], w ∈ lw_g := a_ps [1544, 105, 1543, 87] rfl rfl
theorem hdX9_exchanges : yX9_exchanges.cls ≠ "java/lang/invoke/MethodHandle" ∧ yX9_exchanges.cls ≠ "java/lang/invoke/VarHandle" ∧ (parseMethodDescriptor yX9_exchanges.desc).map (fun d => d.parameters.length) = some 5 := by decide +kernel
set_option maxRecDepth 20000 in
theorem lkX9_332 : Cond.methodLink RX9 332 yX9_exchanges ∈ lw_g := a_p1 1541 rfl rfl
set_option maxRecDepth 20000 in
theorem kX9_together {l : Launch} {G : aG} (hZ : a_Z l G) : a_Con l G shp yX9_together (.code yX9_together cX9_together 12 (some .int)) 3 69 fX9_together :=
  a_mth none hZ.1 hZ.2.1 shp_len (fun _ h => nomatch h) hZ.2.2.1 (by decide +kernel) rfl (foX9 rfl) (a_cok_of trivial) (b_code [42,3,181,0,105,42,42,27,182,1,41,153,0,23,42,28,182,1,41,153,0,15,42,29,182,1,38,153,0,7,4,167,0,4,3,4,182,0,253,153,0,21,42,27,28,159,0,7,4,167,0,4,3,5,182,0,253,154,0,5,3,172,42,27,182,1,44,42,28,182,1,44,128,42,2,182,1,44,128,54,4,3,54,5,21,5,17,64,0,162,0,17,42,180,0,78,21,5,3,79,132,5,1,167,255,237,42,3,181,1,66,42,3,181,1,69,42,42,27,182,1,44,42,28,182,1,44,3,182,1,72,2,54,5,3,54,6,21,6,42,180,1,66,162,0,195,42,180,1,69,154,0,188,42,180,0,72,21,6,46,17,15,255,126,54,7,42,180,0,72,21,6,46,16,12,122,54,8,42,180,0,75,21,6,46,4,96,54,9,21,5,2,160,0,22,21,7,29,122,4,126,4,160,0,12,42,180,0,75,21,6,46,54,5,42,21,7,21,8,21,4,3,21,9,182,1,76,42,21,8,21,7,21,4,4,21,9,182,1,76,3,54,10,21,10,42,180,1,4,162,0,83,3,54,11,21,11,42,180,1,4,162,0,65,21,7,21,10,122,4,126,4,160,0,54,21,8,21,11,122,4,126,4,160,0,37,42,21,7,4,21,10,120,2,130,126,4,21,11,120,128,21,8,4,21,11,120,2,130,126,4,21,10,120,128,21,9,182,1,72,132,11,1,167,255,188,132,10,1,167,255,170,132,6,1,167,255,58,42,180,1,69,153,0,8,16,254,167,0,5,21,5,172] [] (by decide +kernel) (by decide +kernel) (by decide +kernel) (by decide +kernel)) rfl rfl (trivial) (⟨a_CQ_v hZ.2.1 (kX9_isReader hZ) lkX9_297 (a_CF_v TX9 62 wkX9_isReader lkX9_297 hdX9_isReader ⟨by decide, by decide⟩ rfl) rfl rfl,
    ⟨a_CQ_v hZ.2.1 (kX9_isBook hZ) lkX9_294 (a_CF_v TX9 62 wkX9_isBook lkX9_294 hdX9_isBook ⟨by decide, by decide⟩ rfl) rfl rfl,
    ⟨a_CQ_v hZ.2.1 (kX9_right hZ) lkX9_253 (a_CF_v TX9 62 wkX9_right lkX9_253 hdX9_right ⟨by decide, by decide⟩ rfl) rfl rfl,
    ⟨a_CQ_v hZ.2.1 (kX9_hasOf hZ) lkX9_300 (a_CF_v TX9 62 wkX9_hasOf lkX9_300 hdX9_hasOf ⟨by decide, by decide⟩ rfl) rfl rfl,
    ⟨a_CQ_v hZ.2.1 (kX9_comes hZ) lkX9_328 (a_CF_v TX9 62 wkX9_comes lkX9_328 hdX9_comes ⟨by decide, by decide⟩ rfl) rfl rfl,
    ⟨a_CQ_v hZ.2.1 (kX9_exchanges hZ) lkX9_332 (a_CF_v TX9 62 wkX9_exchanges lkX9_332 hdX9_exchanges ⟨by decide, by decide⟩ rfl) rfl rfl,
    trivial⟩⟩⟩⟩⟩⟩)
noncomputable def pX9_served : aPrg := ([(0, .iconst 0, 0, 0, []),
  (1, .istore_n 1, 0, 0, []),
  (2, .iconst 0, 0, 0, []),
  (3, .istore_n 2, 0, 0, []),
  (4, .iload_n 2, 0, 0, []),
  (5, .aload_n 0, 0, 0, []),
  (6, .getfield 263, 0, 0, []),
  (9, .if_icmp .ge 25, 0, 34, []),
  (12, .iload_n 1, 0, 0, []),
  (13, .aload_n 0, 0, 0, []),
  (14, .iload_n 2, 0, 0, []),
  (15, .invokevirtual 303, 0, 0, []),
  (18, .ifCond .eq 7, 0, 25, []),
  (21, .iconst 1, 1, 0, []),
  (22, .goto 4, 0, 26, []),
  (25, .iconst 0, 0, 0, []),
  (26, .iadd, 0, 0, []),
  (27, .istore_n 1, 0, 0, []),
  (28, .iinc 2 1, 1, 0, []),
  (31, .goto (-27), 0, 4, []),
  (34, .iload_n 1, 0, 0, []),
  (35, .ireturn, 0, 0, [])],
  fdX9, [(303, fX9_isServed, 2, 9, 0)], [], [], [], 0)
noncomputable def fX9_served : aMF := a_fn none shp pX9_served 3 1
set_option maxRecDepth 20000 in
theorem kX9_served {l : Launch} {G : aG} (hZ : a_Z l G) : a_Con l G shp yX9_served (.code yX9_served cX9_served 3 (some .int)) 2 37 fX9_served :=
  a_mth none hZ.1 hZ.2.1 shp_len (fun _ h => nomatch h) hZ.2.2.1 (by decide +kernel) rfl (foX9 rfl) (a_cok_of trivial) (b_code [3,60,3,61,28,42,180,1,7,162,0,25,27,42,28,182,1,47,153,0,7,4,167,0,4,3,96,60,132,2,1,167,255,229,27,172] [] (by decide +kernel) (by decide +kernel) (by decide +kernel) (by decide +kernel)) rfl rfl (trivial) (⟨a_CQ_v hZ.2.1 (kX9_isServed hZ) lkX9_303 (a_CF_v TX9 62 wkX9_isServed lkX9_303 hdX9_isServed ⟨by decide, by decide⟩ rfl) rfl rfl,
    trivial⟩)
noncomputable def pX9_isDoneBy : aPrg := ([(0, .iconst 0, 0, 0, []),
  (1, .istore_n 3, 0, 0, []),
  (2, .iload_n 3, 0, 0, []),
  (3, .iload_n 2, 0, 0, []),
  (4, .if_icmp .ge 25, 0, 29, []),
  (7, .aload_n 0, 0, 0, []),
  (8, .getfield 81, 0, 0, []),
  (11, .iload_n 3, 0, 0, []),
  (12, .iaload, 0, 0, []),
  (13, .sipush 144, 144, 0, []),
  (16, .idiv, 0, 0, []),
  (17, .iload_n 1, 0, 0, []),
  (18, .if_icmp .ne 5, 0, 23, []),
  (21, .iconst 1, 1, 0, []),
  (22, .ireturn, 0, 0, []),
  (23, .iinc 3 1, 1, 0, []),
  (26, .goto (-24), 0, 2, []),
  (29, .iconst 0, 0, 0, []),
  (30, .ireturn, 0, 0, [])],
  fdX9, [], [], [], [], 1)
noncomputable def fX9_isDoneBy : aMF := a_fn none shp pX9_isDoneBy 4 3
set_option maxRecDepth 20000 in
theorem kX9_isDoneBy {l : Launch} {G : aG} (hZ : a_Z l G) : a_Con l G shp yX9_isDoneBy (.code yX9_isDoneBy cX9_isDoneBy 4 (some .boolean)) 1 16 fX9_isDoneBy :=
  a_mth none hZ.1 hZ.2.1 shp_len (fun _ h => nomatch h) hZ.2.2.1 (by decide +kernel) rfl (foX9 rfl) (a_cok_of trivial) (b_code [3,62,29,28,162,0,25,42,180,0,81,29,46,17,0,144,108,27,160,0,5,4,172,132,3,1,167,255,232,3,172] [] (by decide +kernel) (by decide +kernel) (by decide +kernel) (by decide +kernel)) rfl rfl (trivial) (trivial)
noncomputable def pX9_turns0 : aPrg := ([(0, .aload_n 0, 0, 0, []),
  (1, .getfield 13, 0, 0, []),
  (4, .iload_n 1, 0, 0, []),
  (5, .bipush 12, 12, 0, []),
  (7, .idiv, 0, 0, []),
  (8, .bipush 12, 12, 0, []),
  (10, .irem, 0, 0, []),
  (11, .iload_n 2, 0, 0, []),
  (12, .ifCond .eq 11, 0, 23, []),
  (15, .iload_n 1, 0, 0, []),
  (16, .sipush 144, 144, 0, []),
  (19, .idiv, 0, 0, []),
  (20, .goto 4, 0, 24, []),
  (23, .iconst (-1), (-1), 0, []),
  (24, .iastore, 0, 0, []),
  (25, .aload_n 0, 0, 0, []),
  (26, .getfield 13, 0, 0, []),
  (29, .iload_n 1, 0, 0, []),
  (30, .bipush 12, 12, 0, []),
  (32, .irem, 0, 0, []),
  (33, .iload_n 2, 0, 0, []),
  (34, .ifCond .eq 7, 0, 41, []),
  (37, .iconst (-1), (-1), 0, []),
  (38, .goto 8, 0, 46, []),
  (41, .iload_n 1, 0, 0, []),
  (42, .sipush 144, 144, 0, []),
  (45, .idiv, 0, 0, []),
  (46, .iastore, 0, 0, []),
  (47, .return_, 0, 0, [])],
  fdX9, [], [], [], [], 2)
noncomputable def fX9_turns0 : aMF := a_fn none shp pX9_turns0 3 3
set_option maxRecDepth 20000 in
theorem kX9_turns0 {l : Launch} {G : aG} (hZ : a_Z l G) : a_Con l G shp yX9_turns0 (.code yX9_turns0 cX9_turns0 3 none) 1 16 fX9_turns0 :=
  a_mth none hZ.1 hZ.2.1 shp_len (fun _ h => nomatch h) hZ.2.2.1 (by decide +kernel) rfl (foX9 rfl) (a_cok_of trivial) (b_code [42,180,0,13,27,16,12,108,16,12,112,28,153,0,11,27,17,0,144,108,167,0,4,2,79,42,180,0,13,27,16,12,112,28,153,0,7,2,167,0,8,27,17,0,144,108,79,177] [] (by decide +kernel) (by decide +kernel) (by decide +kernel) (by decide +kernel)) rfl rfl (trivial) (trivial)
noncomputable def pX9_canBe : aPrg := ([(0, .aload_n 0, 0, 0, []),
  (1, .iload_n 1, 0, 0, []),
  (2, .sipush 144, 144, 0, []),
  (5, .idiv, 0, 0, []),
  (6, .iload_n 1, 0, 0, []),
  (7, .bipush 12, 12, 0, []),
  (9, .idiv, 0, 0, []),
  (10, .bipush 12, 12, 0, []),
  (12, .irem, 0, 0, []),
  (13, .iload_n 1, 0, 0, []),
  (14, .bipush 12, 12, 0, []),
  (16, .irem, 0, 0, []),
  (17, .invokevirtual 306, 0, 0, []),
  (20, .ifCond .ne 7, 0, 27, []),
  (23, .iconst 1, 1, 0, []),
  (24, .goto 4, 0, 28, []),
  (27, .iconst 0, 0, 0, []),
  (28, .ireturn, 0, 0, [])],
  fdX9, [(306, fX9_trouble, 4, 9, 0)], [], [], [], 1)
noncomputable def fX9_canBe : aMF := a_fn none shp pX9_canBe 2 2
set_option maxRecDepth 20000 in
theorem kX9_canBe {l : Launch} {G : aG} (hZ : a_Z l G) : a_Con l G shp yX9_canBe (.code yX9_canBe cX9_canBe 2 (some .boolean)) 3 60 fX9_canBe :=
  a_mth none hZ.1 hZ.2.1 shp_len (fun _ h => nomatch h) hZ.2.2.1 (by decide +kernel) rfl (foX9 rfl) (a_cok_of trivial) (b_code [42,27,17,0,144,108,27,16,12,108,16,12,112,27,16,12,112,182,1,50,154,0,7,4,167,0,4,3,172] [] (by decide +kernel) (by decide +kernel) (by decide +kernel) (by decide +kernel)) rfl rfl (trivial) (⟨a_CQ_v hZ.2.1 (kX9_trouble hZ) lkX9_306 (a_CF_v TX9 62 wkX9_trouble lkX9_306 hdX9_trouble ⟨by decide, by decide⟩ rfl) rfl rfl,
    trivial⟩)
noncomputable def pX9_week : aPrg := ([(0, .aload_n 0, 0, 0, []),
  (1, .iconst 0, 0, 0, []),
  (2, .putfield 105, 0, 0, []),
  (5, .aload_n 0, 0, 0, []),
  (6, .iconst 0, 0, 0, []),
  (7, .putfield 336, 0, 0, []),
  (10, .aload_n 0, 0, 0, []),
  (11, .invokevirtual 339, 0, 0, []),
  (14, .istore_n 1, 0, 0, []),
  (15, .aload_n 0, 0, 0, []),
  (16, .iconst 0, 0, 0, []),
  (17, .putfield 342, 0, 0, []),
  (20, .iconst 0, 0, 0, []),
  (21, .istore_n 2, 0, 0, []),
  (22, .aload_n 0, 0, 0, []),
  (23, .getfield 81, 0, 0, []),
  (26, .iconst 0, 0, 0, []),
  (27, .iconst (-1), (-1), 0, []),
  (28, .iastore, 0, 0, []),
  (29, .iload_n 2, 0, 0, []),
  (30, .ifCond .lt 232, 0, 262, []),
  (33, .aload_n 0, 0, 0, []),
  (34, .getfield 81, 0, 0, []),
  (37, .iload_n 2, 0, 0, []),
  (38, .iaload, 0, 0, []),
  (39, .iconst (-1), (-1), 0, []),
  (40, .if_icmp .eq 14, 0, 54, []),
  (43, .aload_n 0, 0, 0, []),
  (44, .aload_n 0, 0, 0, []),
  (45, .getfield 81, 0, 0, []),
  (48, .iload_n 2, 0, 0, []),
  (49, .iaload, 0, 0, []),
  (50, .iconst 1, 1, 0, []),
  (51, .invokevirtual 345, 0, 0, []),
  (54, .aload_n 0, 0, 0, []),
  (55, .getfield 81, 0, 0, []),
  (58, .iload_n 2, 0, 0, []),
  (59, .iaload, 0, 0, []),
  (60, .iconst 1, 1, 0, []),
  (61, .iadd, 0, 0, []),
  (62, .istore_n 3, 0, 0, []),
  (63, .iload_n 3, 0, 0, []),
  (64, .sipush 144, 144, 0, []),
  (67, .aload_n 0, 0, 0, []),
  (68, .getfield 263, 0, 0, []),
  (71, .imul, 0, 0, []),
  (72, .if_icmp .ge 38, 0, 110, []),
  (75, .iload_n 2, 0, 0, []),
  (76, .aload_n 0, 0, 0, []),
  (77, .getfield 263, 0, 0, []),
  (80, .if_icmp .eq 24, 0, 104, []),
  (83, .aload_n 0, 0, 0, []),
  (84, .iload_n 3, 0, 0, []),
  (85, .sipush 144, 144, 0, []),
  (88, .idiv, 0, 0, []),
  (89, .iload_n 2, 0, 0, []),
  (90, .invokevirtual 349, 0, 0, []),
  (93, .ifCond .ne 11, 0, 104, []),
  (96, .aload_n 0, 0, 0, []),
  (97, .iload_n 3, 0, 0, []),
  (98, .invokevirtual 353, 0, 0, []),
  (101, .ifCond .ne 9, 0, 110, []),
  (104, .iinc 3 1, 1, 0, []),
  (107, .goto (-44), 0, 63, []),
  (110, .iload_n 2, 0, 0, []),
  (111, .aload_n 0, 0, 0, []),
  (112, .getfield 263, 0, 0, []),
  (115, .if_icmp .eq 15, 0, 130, []),
  (118, .iload_n 3, 0, 0, []),
  (119, .sipush 144, 144, 0, []),
  (122, .aload_n 0, 0, 0, []),
  (123, .getfield 263, 0, 0, []),
  (126, .imul, 0, 0, []),
  (127, .if_icmp .lt 9, 0, 136, []),
  (130, .iinc 2 (-1), (-1), 0, []),
  (133, .goto (-104), 0, 29, []),
  (136, .aload_n 0, 0, 0, []),
  (137, .getfield 336, 0, 0, []),
  (140, .sipush 20000, 20000, 0, []),
  (143, .if_icmp .ne 34, 0, 177, []),
  (146, .iload_n 2, 0, 0, []),
  (147, .iconst 1, 1, 0, []),
  (148, .isub, 0, 0, []),
  (149, .istore 4, 0, 0, []),
  (151, .iload 4, 0, 0, []),
  (153, .ifCond .lt 21, 0, 174, []),
  (156, .aload_n 0, 0, 0, []),
  (157, .aload_n 0, 0, 0, []),
  (158, .getfield 81, 0, 0, []),
  (161, .iload 4, 0, 0, []),
  (163, .iaload, 0, 0, []),
  (164, .iconst 1, 1, 0, []),
  (165, .invokevirtual 345, 0, 0, []),
  (168, .iinc 4 (-1), (-1), 0, []),
  (171, .goto (-20), 0, 151, []),
  (174, .bipush (-2), (-2), 0, []),
  (176, .ireturn, 0, 0, []),
  (177, .aload_n 0, 0, 0, []),
  (178, .dup, 0, 0, []),
  (179, .getfield 336, 0, 0, []),
  (182, .iconst 1, 1, 0, []),
  (183, .iadd, 0, 0, []),
  (184, .putfield 336, 0, 0, []),
  (187, .aload_n 0, 0, 0, []),
  (188, .getfield 81, 0, 0, []),
  (191, .iload_n 2, 0, 0, []),
  (192, .iload_n 3, 0, 0, []),
  (193, .iastore, 0, 0, []),
  (194, .aload_n 0, 0, 0, []),
  (195, .iload_n 3, 0, 0, []),
  (196, .iconst 0, 0, 0, []),
  (197, .invokevirtual 345, 0, 0, []),
  (200, .aload_n 0, 0, 0, []),
  (201, .invokevirtual 339, 0, 0, []),
  (204, .iload_n 1, 0, 0, []),
  (205, .if_icmp .le 44, 0, 249, []),
  (208, .aload_n 0, 0, 0, []),
  (209, .invokevirtual 339, 0, 0, []),
  (212, .istore_n 1, 0, 0, []),
  (213, .aload_n 0, 0, 0, []),
  (214, .iload_n 2, 0, 0, []),
  (215, .iconst 1, 1, 0, []),
  (216, .iadd, 0, 0, []),
  (217, .putfield 342, 0, 0, []),
  (220, .iconst 0, 0, 0, []),
  (221, .istore 4, 0, 0, []),
  (223, .iload 4, 0, 0, []),
  (225, .iload_n 2, 0, 0, []),
  (226, .if_icmp .gt 23, 0, 249, []),
  (229, .aload_n 0, 0, 0, []),
  (230, .getfield 84, 0, 0, []),
  (233, .iload 4, 0, 0, []),
  (235, .aload_n 0, 0, 0, []),
  (236, .getfield 81, 0, 0, []),
  (239, .iload 4, 0, 0, []),
  (241, .iaload, 0, 0, []),
  (242, .iastore, 0, 0, []),
  (243, .iinc 4 1, 1, 0, []),
  (246, .goto (-23), 0, 223, []),
  (249, .iinc 2 1, 1, 0, []),
  (252, .aload_n 0, 0, 0, []),
  (253, .getfield 81, 0, 0, []),
  (256, .iload_n 2, 0, 0, []),
  (257, .iconst (-1), (-1), 0, []),
  (258, .iastore, 0, 0, []),
  (259, .goto (-230), 0, 29, []),
  (262, .aload_n 0, 0, 0, []),
  (263, .aload_n 0, 0, 0, []),
  (264, .getfield 84, 0, 0, []),
  (267, .aload_n 0, 0, 0, []),
  (268, .getfield 87, 0, 0, []),
  (271, .invokevirtual 266, 0, 0, []),
  (274, .aload_n 0, 0, 0, []),
  (275, .aload_n 0, 0, 0, []),
  (276, .getfield 342, 0, 0, []),
  (279, .putfield 356, 0, 0, []),
  (282, .aload_n 0, 0, 0, []),
  (283, .iconst 1, 1, 0, []),
  (284, .putfield 280, 0, 0, []),
  (287, .iload_n 1, 0, 0, []),
  (288, .ireturn, 0, 0, [])],
  fdX9, [(339, fX9_served, 1, 9, 0), (345, fX9_turns0, 3, 9, 1), (349, fX9_isDoneBy, 3, 9, 0), (353, fX9_canBe, 2, 9, 0), (266, fX9_copies, 3, 9, 1)], [], [], [], 0)
noncomputable def fX9_week : aMF := a_fn none shp pX9_week 5 1
set_option maxRecDepth 20000 in
theorem wkX9_served : ∀ w ∈ [Cond.code yX9_served cX9_served 3 (some .int), .initialized yX9_served.cls, .instanceMethod yX9_served, .selects yX9_served.cls yX9_served yX9_served], w ∈ lw_g := a_ps [1552, 105, 1551, 88] rfl rfl
theorem hdX9_served : yX9_served.cls ≠ "java/lang/invoke/MethodHandle" ∧ yX9_served.cls ≠ "java/lang/invoke/VarHandle" ∧ (parseMethodDescriptor yX9_served.desc).map (fun d => d.parameters.length) = some 0 := by decide +kernel
set_option maxRecDepth 20000 in
theorem lkX9_339 : Cond.methodLink RX9 339 yX9_served ∈ lw_g := a_p1 1549 rfl rfl
set_option maxRecDepth 20000 in
theorem wkX9_turns0 : ∀ w ∈ [Cond.code yX9_turns0 cX9_turns0 3 none, .initialized yX9_turns0.cls, .instanceMethod yX9_turns0, .selects yX9_turns0.cls yX9_turns0 yX9_turns0], w ∈ lw_g := a_ps [1556, 105, 1555, 89] rfl rfl
theorem hdX9_turns0 : yX9_turns0.cls ≠ "java/lang/invoke/MethodHandle" ∧ yX9_turns0.cls ≠ "java/lang/invoke/VarHandle" ∧ (parseMethodDescriptor yX9_turns0.desc).map (fun d => d.parameters.length) = some 2 := by decide +kernel
set_option maxRecDepth 20000 in
theorem lkX9_345 : Cond.methodLink RX9 345 yX9_turns0 ∈ lw_g := a_p1 1553 rfl rfl
set_option maxRecDepth 20000 in
theorem wkX9_isDoneBy : ∀ w ∈ [Cond.code yX9_isDoneBy cX9_isDoneBy 4 (some .boolean), .initialized yX9_isDoneBy.cls, .instanceMethod yX9_isDoneBy, .selects yX9_isDoneBy.cls yX9_isDoneBy yX9_isDoneBy], w ∈ lw_g := a_ps [1560, 105, 1559, 90] rfl rfl
theorem hdX9_isDoneBy : yX9_isDoneBy.cls ≠ "java/lang/invoke/MethodHandle" ∧ yX9_isDoneBy.cls ≠ "java/lang/invoke/VarHandle" ∧ (parseMethodDescriptor yX9_isDoneBy.desc).map (fun d => d.parameters.length) = some 2 := by decide +kernel
set_option maxRecDepth 20000 in
theorem lkX9_349 : Cond.methodLink RX9 349 yX9_isDoneBy ∈ lw_g := a_p1 1557 rfl rfl
set_option maxRecDepth 20000 in
theorem wkX9_canBe : ∀ w ∈ [Cond.code yX9_canBe cX9_canBe 2 (some .boolean), .initialized yX9_canBe.cls, .instanceMethod yX9_canBe, .selects yX9_canBe.cls yX9_canBe yX9_canBe], w ∈ lw_g := a_ps [1564, 105, 1563, 91] rfl rfl
theorem hdX9_canBe : yX9_canBe.cls ≠ "java/lang/invoke/MethodHandle" ∧ yX9_canBe.cls ≠ "java/lang/invoke/VarHandle" ∧ (parseMethodDescriptor yX9_canBe.desc).map (fun d => d.parameters.length) = some 1 := by decide +kernel
set_option maxRecDepth 20000 in
theorem lkX9_353 : Cond.methodLink RX9 353 yX9_canBe ∈ lw_g := a_p1 1561 rfl rfl
set_option maxRecDepth 20000 in
theorem kX9_week {l : Launch} {G : aG} (hZ : a_Z l G) : a_Con l G shp yX9_week (.code yX9_week cX9_week 5 (some .int)) 4 81 fX9_week :=
  a_mth none hZ.1 hZ.2.1 shp_len (fun _ h => nomatch h) hZ.2.2.1 (by decide +kernel) rfl (foX9 rfl) (a_cok_of trivial) (b_code [42,3,181,0,105,42,3,181,1,80,42,182,1,83,60,42,3,181,1,86,3,61,42,180,0,81,3,2,79,28,155,0,232,42,180,0,81,28,46,2,159,0,14,42,42,180,0,81,28,46,4,182,1,89,42,180,0,81,28,46,4,96,62,29,17,0,144,42,180,1,7,104,162,0,38,28,42,180,1,7,159,0,24,42,29,17,0,144,108,28,182,1,93,154,0,11,42,29,182,1,97,154,0,9,132,3,1,167,255,212,28,42,180,1,7,159,0,15,29,17,0,144,42,180,1,7,104,161,0,9,132,2,255,167,255,152,42,180,1,80,17,78,32,160,0,34,28,4,100,54,4,21,4,155,0,21,42,42,180,0,81,21,4,46,4,182,1,89,132,4,255,167,255,236,16,254,172,42,89,180,1,80,4,96,181,1,80,42,180,0,81,28,29,79,42,29,3,182,1,89,42,182,1,83,27,164,0,44,42,182,1,83,60,42,28,4,96,181,1,86,3,54,4,21,4,28,163,0,23,42,180,0,84,21,4,42,180,0,81,21,4,46,79,132,4,1,167,255,233,132,2,1,42,180,0,81,28,2,79,167,255,26,42,42,180,0,84,42,180,0,87,182,1,10,42,42,180,1,86,181,1,100,42,4,181,1,24,27,172] [] (by decide +kernel) (by decide +kernel) (by decide +kernel) (by decide +kernel)) rfl rfl (trivial) (⟨a_CQ_v hZ.2.1 (kX9_served hZ) lkX9_339 (a_CF_v TX9 62 wkX9_served lkX9_339 hdX9_served ⟨by decide, by decide⟩ rfl) rfl rfl,
    ⟨a_CQ_v hZ.2.1 (kX9_turns0 hZ) lkX9_345 (a_CF_v TX9 62 wkX9_turns0 lkX9_345 hdX9_turns0 ⟨by decide, by decide⟩ rfl) rfl rfl,
    ⟨a_CQ_v hZ.2.1 (kX9_isDoneBy hZ) lkX9_349 (a_CF_v TX9 62 wkX9_isDoneBy lkX9_349 hdX9_isDoneBy ⟨by decide, by decide⟩ rfl) rfl rfl,
    ⟨a_CQ_v hZ.2.1 (kX9_canBe hZ) lkX9_353 (a_CF_v TX9 62 wkX9_canBe lkX9_353 hdX9_canBe ⟨by decide, by decide⟩ rfl) rfl rfl,
    ⟨a_CQ_v hZ.2.1 (kX9_copies hZ) lkX9_266 (a_CF_v TX9 62 wkX9_copies lkX9_266 hdX9_copies ⟨by decide, by decide⟩ rfl) rfl rfl,
    trivial⟩⟩⟩⟩⟩)
noncomputable def pX9_row : aPrg := ([(0, .aload_n 0, 0, 0, []),
  (1, .iconst 0, 0, 0, []),
  (2, .putfield 105, 0, 0, []),
  (5, .aload_n 0, 0, 0, []),
  (6, .aload_n 0, 0, 0, []),
  (7, .getfield 280, 0, 0, []),
  (10, .iconst 1, 1, 0, []),
  (11, .invokevirtual 253, 0, 0, []),
  (14, .ifCond .ne 5, 0, 19, []),
  (17, .iconst 0, 0, 0, []),
  (18, .ireturn, 0, 0, []),
  (19, .iload_n 1, 0, 0, []),
  (20, .iconst (-1), (-1), 0, []),
  (21, .if_icmp .ne 8, 0, 29, []),
  (24, .aload_n 0, 0, 0, []),
  (25, .getfield 356, 0, 0, []),
  (28, .ireturn, 0, 0, []),
  (29, .aload_n 0, 0, 0, []),
  (30, .iload_n 1, 0, 0, []),
  (31, .ifCond .lt 24, 0, 55, []),
  (34, .iload_n 1, 0, 0, []),
  (35, .aload_n 0, 0, 0, []),
  (36, .getfield 356, 0, 0, []),
  (39, .if_icmp .ge 16, 0, 55, []),
  (42, .iload_n 2, 0, 0, []),
  (43, .iconst 0, 0, 0, []),
  (44, .iconst 2, 2, 0, []),
  (45, .invokestatic 290, 0, 0, []),
  (48, .ifCond .eq 7, 0, 55, []),
  (51, .iconst 1, 1, 0, []),
  (52, .goto 4, 0, 56, []),
  (55, .iconst 0, 0, 0, []),
  (56, .iconst 1, 1, 0, []),
  (57, .invokevirtual 253, 0, 0, []),
  (60, .ifCond .ne 5, 0, 65, []),
  (63, .iconst 0, 0, 0, []),
  (64, .ireturn, 0, 0, []),
  (65, .aload_n 0, 0, 0, []),
  (66, .getfield 87, 0, 0, []),
  (69, .iload_n 1, 0, 0, []),
  (70, .iaload, 0, 0, []),
  (71, .istore_n 3, 0, 0, []),
  (72, .iload_n 2, 0, 0, []),
  (73, .ifCond .ne 11, 0, 84, []),
  (76, .iload_n 3, 0, 0, []),
  (77, .sipush 144, 144, 0, []),
  (80, .idiv, 0, 0, []),
  (81, .goto 22, 0, 103, []),
  (84, .iload_n 2, 0, 0, []),
  (85, .iconst 1, 1, 0, []),
  (86, .if_icmp .ne 13, 0, 99, []),
  (89, .iload_n 3, 0, 0, []),
  (90, .bipush 12, 12, 0, []),
  (92, .idiv, 0, 0, []),
  (93, .bipush 12, 12, 0, []),
  (95, .irem, 0, 0, []),
  (96, .goto 7, 0, 103, []),
  (99, .iload_n 3, 0, 0, []),
  (100, .bipush 12, 12, 0, []),
  (102, .irem, 0, 0, []),
  (103, .ireturn, 0, 0, [])],
  fdX9, [(253, fX9_right, 3, 9, 0), (290, fX9_within, 3, 2000, 0)], [], [], [], 0)
noncomputable def fX9_row : aMF := a_fn none shp pX9_row 4 3
set_option maxRecDepth 20000 in
theorem kX9_row {l : Launch} {G : aG} (hZ : a_Z l G) : a_Con l G shp yX9_row (.code yX9_row cX9_row 4 (some .int)) 2 38 fX9_row :=
  a_mth none hZ.1 hZ.2.1 shp_len (fun _ h => nomatch h) hZ.2.2.1 (by decide +kernel) rfl (foX9 rfl) (a_cok_of trivial) (b_code [42,3,181,0,105,42,42,180,1,24,4,182,0,253,154,0,5,3,172,27,2,160,0,8,42,180,1,100,172,42,27,155,0,24,27,42,180,1,100,162,0,16,28,3,5,184,1,34,153,0,7,4,167,0,4,3,4,182,0,253,154,0,5,3,172,42,180,0,87,27,46,62,28,154,0,11,29,17,0,144,108,167,0,22,28,4,160,0,13,29,16,12,108,16,12,112,167,0,7,29,16,12,112,172] [] (by decide +kernel) (by decide +kernel) (by decide +kernel) (by decide +kernel)) rfl rfl (trivial) (⟨a_CQ_v hZ.2.1 (kX9_right hZ) lkX9_253 (a_CF_v TX9 62 wkX9_right lkX9_253 hdX9_right ⟨by decide, by decide⟩ rfl) rfl rfl,
    ⟨a_CQ_s hZ.2.1 (kX9_within hZ) lkX9_290 (a_CF_s wkX9_within lkX9_290 hdX9_within) rfl rfl,
    trivial⟩⟩)
noncomputable def pX9_lost : aPrg := ([(0, .aload_n 0, 0, 0, []),
  (1, .iconst 0, 0, 0, []),
  (2, .putfield 105, 0, 0, []),
  (5, .aload_n 0, 0, 0, []),
  (6, .aload_n 0, 0, 0, []),
  (7, .iload_n 1, 0, 0, []),
  (8, .invokevirtual 294, 0, 0, []),
  (11, .ifCond .eq 16, 0, 27, []),
  (14, .iload_n 2, 0, 0, []),
  (15, .ifCond .eq 8, 0, 23, []),
  (18, .iload_n 2, 0, 0, []),
  (19, .iconst 1, 1, 0, []),
  (20, .if_icmp .ne 7, 0, 27, []),
  (23, .iconst 1, 1, 0, []),
  (24, .goto 4, 0, 28, []),
  (27, .iconst 0, 0, 0, []),
  (28, .iconst 1, 1, 0, []),
  (29, .invokevirtual 253, 0, 0, []),
  (32, .ifCond .ne 5, 0, 37, []),
  (35, .iconst 0, 0, 0, []),
  (36, .ireturn, 0, 0, []),
  (37, .aload_n 0, 0, 0, []),
  (38, .getfield 13, 0, 0, []),
  (41, .iload_n 1, 0, 0, []),
  (42, .iaload, 0, 0, []),
  (43, .iconst (-1), (-1), 0, []),
  (44, .if_icmp .ne 7, 0, 51, []),
  (47, .iconst 1, 1, 0, []),
  (48, .goto 4, 0, 52, []),
  (51, .iconst 0, 0, 0, []),
  (52, .istore_n 3, 0, 0, []),
  (53, .iconst 0, 0, 0, []),
  (54, .istore 4, 0, 0, []),
  (56, .iload 4, 0, 0, []),
  (58, .aload_n 0, 0, 0, []),
  (59, .getfield 260, 0, 0, []),
  (62, .if_icmp .ge 46, 0, 108, []),
  (65, .iload_n 3, 0, 0, []),
  (66, .ifCond .eq 34, 0, 100, []),
  (69, .aload_n 0, 0, 0, []),
  (70, .getfield 13, 0, 0, []),
  (73, .iload 4, 0, 0, []),
  (75, .iaload, 0, 0, []),
  (76, .iconst (-1), (-1), 0, []),
  (77, .if_icmp .eq 19, 0, 96, []),
  (80, .aload_n 0, 0, 0, []),
  (81, .getfield 25, 0, 0, []),
  (84, .iload 4, 0, 0, []),
  (86, .iaload, 0, 0, []),
  (87, .aload_n 0, 0, 0, []),
  (88, .getfield 25, 0, 0, []),
  (91, .iload_n 1, 0, 0, []),
  (92, .iaload, 0, 0, []),
  (93, .if_icmp .gt 7, 0, 100, []),
  (96, .iconst 1, 1, 0, []),
  (97, .goto 4, 0, 101, []),
  (100, .iconst 0, 0, 0, []),
  (101, .istore_n 3, 0, 0, []),
  (102, .iinc 4 1, 1, 0, []),
  (105, .goto (-49), 0, 56, []),
  (108, .iload_n 3, 0, 0, []),
  (109, .ifCond .ne 13, 0, 122, []),
  (112, .iload_n 2, 0, 0, []),
  (113, .ifCond .ne 7, 0, 120, []),
  (116, .iconst 0, 0, 0, []),
  (117, .goto 4, 0, 121, []),
  (120, .iconst (-1), (-1), 0, []),
  (121, .ireturn, 0, 0, []),
  (122, .iconst 1, 1, 0, []),
  (123, .istore 4, 0, 0, []),
  (125, .iload 4, 0, 0, []),
  (127, .bipush 99, 99, 0, []),
  (129, .if_icmp .gt 108, 0, 237, []),
  (132, .iconst 0, 0, 0, []),
  (133, .istore 5, 0, 0, []),
  (135, .iload 5, 0, 0, []),
  (137, .aload_n 0, 0, 0, []),
  (138, .getfield 260, 0, 0, []),
  (141, .if_icmp .ge 90, 0, 231, []),
  (144, .aload_n 0, 0, 0, []),
  (145, .getfield 13, 0, 0, []),
  (148, .iload 5, 0, 0, []),
  (150, .iaload, 0, 0, []),
  (151, .iconst (-1), (-1), 0, []),
  (152, .if_icmp .eq 73, 0, 225, []),
  (155, .aload_n 0, 0, 0, []),
  (156, .aload_n 0, 0, 0, []),
  (157, .getfield 7, 0, 0, []),
  (160, .iconst 4, 4, 0, []),
  (161, .iload 5, 0, 0, []),
  (163, .imul, 0, 0, []),
  (164, .iaload, 0, 0, []),
  (165, .aload_n 0, 0, 0, []),
  (166, .getfield 7, 0, 0, []),
  (169, .iconst 4, 4, 0, []),
  (170, .iload 5, 0, 0, []),
  (172, .imul, 0, 0, []),
  (173, .iconst 1, 1, 0, []),
  (174, .iadd, 0, 0, []),
  (175, .iaload, 0, 0, []),
  (176, .iload 4, 0, 0, []),
  (178, .iadd, 0, 0, []),
  (179, .aload_n 0, 0, 0, []),
  (180, .getfield 7, 0, 0, []),
  (183, .iconst 4, 4, 0, []),
  (184, .iload 5, 0, 0, []),
  (186, .imul, 0, 0, []),
  (187, .iconst 2, 2, 0, []),
  (188, .iadd, 0, 0, []),
  (189, .iaload, 0, 0, []),
  (190, .aload_n 0, 0, 0, []),
  (191, .getfield 7, 0, 0, []),
  (194, .iconst 4, 4, 0, []),
  (195, .iload 5, 0, 0, []),
  (197, .imul, 0, 0, []),
  (198, .iconst 3, 3, 0, []),
  (199, .iadd, 0, 0, []),
  (200, .iaload, 0, 0, []),
  (201, .invokevirtual 270, 0, 0, []),
  (204, .aload_n 0, 0, 0, []),
  (205, .getfield 25, 0, 0, []),
  (208, .iload_n 1, 0, 0, []),
  (209, .iaload, 0, 0, []),
  (210, .if_icmp .le 15, 0, 225, []),
  (213, .iload_n 2, 0, 0, []),
  (214, .ifCond .ne 8, 0, 222, []),
  (217, .iload 4, 0, 0, []),
  (219, .goto 5, 0, 224, []),
  (222, .iload 5, 0, 0, []),
  (224, .ireturn, 0, 0, []),
  (225, .iinc 5 1, 1, 0, []),
  (228, .goto (-93), 0, 135, []),
  (231, .iinc 4 1, 1, 0, []),
  (234, .goto (-109), 0, 125, []),
  (237, .iconst (-1), (-1), 0, []),
  (238, .ireturn, 0, 0, [])],
  fdX9, [(294, fX9_isBook, 2, 9, 0), (253, fX9_right, 3, 9, 0), (270, fX9_reckons, 5, 9, 0)], [], [], [], 0)
noncomputable def fX9_lost : aMF := a_fn none shp pX9_lost 6 3
set_option maxRecDepth 20000 in
theorem kX9_lost {l : Launch} {G : aG} (hZ : a_Z l G) : a_Con l G shp yX9_lost (.code yX9_lost cX9_lost 6 (some .int)) 3 66 fX9_lost :=
  a_mth none hZ.1 hZ.2.1 shp_len (fun _ h => nomatch h) hZ.2.2.1 (by decide +kernel) rfl (foX9 rfl) (a_cok_of trivial) (b_code [42,3,181,0,105,42,42,27,182,1,38,153,0,16,28,153,0,8,28,4,160,0,7,4,167,0,4,3,4,182,0,253,154,0,5,3,172,42,180,0,13,27,46,2,160,0,7,4,167,0,4,3,62,3,54,4,21,4,42,180,1,4,162,0,46,29,153,0,34,42,180,0,13,21,4,46,2,159,0,19,42,180,0,25,21,4,46,42,180,0,25,27,46,163,0,7,4,167,0,4,3,62,132,4,1,167,255,207,29,154,0,13,28,154,0,7,3,167,0,4,2,172,4,54,4,21,4,16,99,163,0,108,3,54,5,21,5,42,180,1,4,162,0,90,42,180,0,13,21,5,46,2,159,0,73,42,42,180,0,7,7,21,5,104,46,42,180,0,7,7,21,5,104,4,96,46,21,4,96,42,180,0,7,7,21,5,104,5,96,46,42,180,0,7,7,21,5,104,6,96,46,182,1,14,42,180,0,25,27,46,164,0,15,28,154,0,8,21,4,167,0,5,21,5,172,132,5,1,167,255,163,132,4,1,167,255,147,2,172] [] (by decide +kernel) (by decide +kernel) (by decide +kernel) (by decide +kernel)) rfl rfl (trivial) (⟨a_CQ_v hZ.2.1 (kX9_isBook hZ) lkX9_294 (a_CF_v TX9 62 wkX9_isBook lkX9_294 hdX9_isBook ⟨by decide, by decide⟩ rfl) rfl rfl,
    ⟨a_CQ_v hZ.2.1 (kX9_right hZ) lkX9_253 (a_CF_v TX9 62 wkX9_right lkX9_253 hdX9_right ⟨by decide, by decide⟩ rfl) rfl rfl,
    ⟨a_CQ_v hZ.2.1 (kX9_reckons hZ) lkX9_270 (a_CF_v TX9 62 wkX9_reckons lkX9_270 hdX9_reckons ⟨by decide, by decide⟩ rfl) rfl rfl,
    trivial⟩⟩⟩)
noncomputable def pX9_worth : aPrg := ([(0, .aload_n 0, 0, 0, []),
  (1, .iconst 0, 0, 0, []),
  (2, .putfield 105, 0, 0, []),
  (5, .aload_n 0, 0, 0, []),
  (6, .aload_n 0, 0, 0, []),
  (7, .iload_n 1, 0, 0, []),
  (8, .invokevirtual 294, 0, 0, []),
  (11, .iconst 1, 1, 0, []),
  (12, .invokevirtual 253, 0, 0, []),
  (15, .ifCond .eq 26, 0, 41, []),
  (18, .aload_n 0, 0, 0, []),
  (19, .aload_n 0, 0, 0, []),
  (20, .getfield 13, 0, 0, []),
  (23, .iload_n 1, 0, 0, []),
  (24, .iaload, 0, 0, []),
  (25, .iconst (-1), (-1), 0, []),
  (26, .if_icmp .eq 7, 0, 33, []),
  (29, .iconst 1, 1, 0, []),
  (30, .goto 4, 0, 34, []),
  (33, .iconst 0, 0, 0, []),
  (34, .iconst 2, 2, 0, []),
  (35, .invokevirtual 253, 0, 0, []),
  (38, .ifCond .ne 5, 0, 43, []),
  (41, .iconst 0, 0, 0, []),
  (42, .ireturn, 0, 0, []),
  (43, .aload_n 0, 0, 0, []),
  (44, .getfield 13, 0, 0, []),
  (47, .iload_n 1, 0, 0, []),
  (48, .iaload, 0, 0, []),
  (49, .istore_n 2, 0, 0, []),
  (50, .aload_n 0, 0, 0, []),
  (51, .iload_n 2, 0, 0, []),
  (52, .invokevirtual 318, 0, 0, []),
  (55, .invokestatic 359, 0, 0, []),
  (58, .istore_n 3, 0, 0, []),
  (59, .aload_n 0, 0, 0, []),
  (60, .getfield 69, 0, 0, []),
  (63, .iload_n 1, 0, 0, []),
  (64, .aload_n 0, 0, 0, []),
  (65, .aload_n 0, 0, 0, []),
  (66, .getfield 7, 0, 0, []),
  (69, .iconst 4, 4, 0, []),
  (70, .iload_n 1, 0, 0, []),
  (71, .imul, 0, 0, []),
  (72, .iaload, 0, 0, []),
  (73, .aload_n 0, 0, 0, []),
  (74, .getfield 7, 0, 0, []),
  (77, .iconst 4, 4, 0, []),
  (78, .iload_n 1, 0, 0, []),
  (79, .imul, 0, 0, []),
  (80, .iconst 1, 1, 0, []),
  (81, .iadd, 0, 0, []),
  (82, .iaload, 0, 0, []),
  (83, .iconst 1, 1, 0, []),
  (84, .iadd, 0, 0, []),
  (85, .aload_n 0, 0, 0, []),
  (86, .getfield 7, 0, 0, []),
  (89, .iconst 4, 4, 0, []),
  (90, .iload_n 1, 0, 0, []),
  (91, .imul, 0, 0, []),
  (92, .iconst 2, 2, 0, []),
  (93, .iadd, 0, 0, []),
  (94, .iaload, 0, 0, []),
  (95, .aload_n 0, 0, 0, []),
  (96, .getfield 7, 0, 0, []),
  (99, .iconst 4, 4, 0, []),
  (100, .iload_n 1, 0, 0, []),
  (101, .imul, 0, 0, []),
  (102, .iconst 3, 3, 0, []),
  (103, .iadd, 0, 0, []),
  (104, .iaload, 0, 0, []),
  (105, .invokevirtual 270, 0, 0, []),
  (108, .iastore, 0, 0, []),
  (109, .aload_n 0, 0, 0, []),
  (110, .aload_n 0, 0, 0, []),
  (111, .iload_n 2, 0, 0, []),
  (112, .invokevirtual 300, 0, 0, []),
  (115, .aload_n 0, 0, 0, []),
  (116, .iload_n 2, 0, 0, []),
  (117, .invokevirtual 300, 0, 0, []),
  (120, .aload_n 0, 0, 0, []),
  (121, .iconst (-1), (-1), 0, []),
  (122, .invokevirtual 300, 0, 0, []),
  (125, .ior, 0, 0, []),
  (126, .invokevirtual 315, 0, 0, []),
  (129, .invokestatic 359, 0, 0, []),
  (132, .iload_n 3, 0, 0, []),
  (133, .isub, 0, 0, []),
  (134, .ireturn, 0, 0, [])],
  fdX9, [(294, fX9_isBook, 2, 9, 0), (253, fX9_right, 3, 9, 0), (318, fX9_reachOf, 2, 9, 0), (359, fX9_bits, 1, 2000, 0), (270, fX9_reckons, 5, 9, 0), (300, fX9_hasOf, 2, 9, 0), (315, fX9_comesTo, 3, 9, 0)], [], [], [], 0)
noncomputable def fX9_worth : aMF := a_fn none shp pX9_worth 4 2
set_option maxRecDepth 20000 in
theorem wkX9_bits : ∀ w ∈ [Cond.code yX9_bits cX9_bits 3 (some .int), .initialized yX9_bits.cls, .static yX9_bits], w ∈ lw_g := a_ps [1579, 105, 1578] rfl rfl
theorem hdX9_bits : yX9_bits.cls ≠ "java/lang/invoke/MethodHandle" ∧ yX9_bits.cls ≠ "java/lang/invoke/VarHandle" ∧ (parseMethodDescriptor yX9_bits.desc).map (fun d => d.parameters.length) = some 1 := by decide +kernel
set_option maxRecDepth 20000 in
theorem lkX9_359 : Cond.methodLink RX9 359 yX9_bits ∈ lw_g := a_p1 1577 rfl rfl
set_option maxRecDepth 20000 in
theorem kX9_worth {l : Launch} {G : aG} (hZ : a_Z l G) : a_Con l G shp yX9_worth (.code yX9_worth cX9_worth 4 (some .int)) 3 66 fX9_worth :=
  a_mth none hZ.1 hZ.2.1 shp_len (fun _ h => nomatch h) hZ.2.2.1 (by decide +kernel) rfl (foX9 rfl) (a_cok_of trivial) (b_code [42,3,181,0,105,42,42,27,182,1,38,4,182,0,253,153,0,26,42,42,180,0,13,27,46,2,159,0,7,4,167,0,4,3,5,182,0,253,154,0,5,3,172,42,180,0,13,27,46,61,42,28,182,1,62,184,1,103,62,42,180,0,69,27,42,42,180,0,7,7,27,104,46,42,180,0,7,7,27,104,4,96,46,4,96,42,180,0,7,7,27,104,5,96,46,42,180,0,7,7,27,104,6,96,46,182,1,14,79,42,42,28,182,1,44,42,28,182,1,44,42,2,182,1,44,128,182,1,59,184,1,103,29,100,172] [] (by decide +kernel) (by decide +kernel) (by decide +kernel) (by decide +kernel)) rfl rfl (trivial) (⟨a_CQ_v hZ.2.1 (kX9_isBook hZ) lkX9_294 (a_CF_v TX9 62 wkX9_isBook lkX9_294 hdX9_isBook ⟨by decide, by decide⟩ rfl) rfl rfl,
    ⟨a_CQ_v hZ.2.1 (kX9_right hZ) lkX9_253 (a_CF_v TX9 62 wkX9_right lkX9_253 hdX9_right ⟨by decide, by decide⟩ rfl) rfl rfl,
    ⟨a_CQ_v hZ.2.1 (kX9_reachOf hZ) lkX9_318 (a_CF_v TX9 62 wkX9_reachOf lkX9_318 hdX9_reachOf ⟨by decide, by decide⟩ rfl) rfl rfl,
    ⟨a_CQ_s hZ.2.1 (kX9_bits hZ) lkX9_359 (a_CF_s wkX9_bits lkX9_359 hdX9_bits) rfl rfl,
    ⟨a_CQ_v hZ.2.1 (kX9_reckons hZ) lkX9_270 (a_CF_v TX9 62 wkX9_reckons lkX9_270 hdX9_reckons ⟨by decide, by decide⟩ rfl) rfl rfl,
    ⟨a_CQ_v hZ.2.1 (kX9_hasOf hZ) lkX9_300 (a_CF_v TX9 62 wkX9_hasOf lkX9_300 hdX9_hasOf ⟨by decide, by decide⟩ rfl) rfl rfl,
    ⟨a_CQ_v hZ.2.1 (kX9_comesTo hZ) lkX9_315 (a_CF_v TX9 62 wkX9_comesTo lkX9_315 hdX9_comesTo ⟨by decide, by decide⟩ rfl) rfl rfl,
    trivial⟩⟩⟩⟩⟩⟩⟩)
noncomputable def pX9_bind : aPrg := ([(0, .aload_n 0, 0, 0, []),
  (1, .iconst 0, 0, 0, []),
  (2, .putfield 105, 0, 0, []),
  (5, .aload_n 0, 0, 0, []),
  (6, .aload_n 0, 0, 0, []),
  (7, .iload_n 1, 0, 0, []),
  (8, .invokevirtual 297, 0, 0, []),
  (11, .ifCond .eq 16, 0, 27, []),
  (14, .iload_n 2, 0, 0, []),
  (15, .ifCond .eq 8, 0, 23, []),
  (18, .iload_n 2, 0, 0, []),
  (19, .iconst 1, 1, 0, []),
  (20, .if_icmp .ne 7, 0, 27, []),
  (23, .iconst 1, 1, 0, []),
  (24, .goto 4, 0, 28, []),
  (27, .iconst 0, 0, 0, []),
  (28, .iconst 1, 1, 0, []),
  (29, .invokevirtual 253, 0, 0, []),
  (32, .ifCond .ne 5, 0, 37, []),
  (35, .iconst 0, 0, 0, []),
  (36, .ireturn, 0, 0, []),
  (37, .aload_n 0, 0, 0, []),
  (38, .iload_n 1, 0, 0, []),
  (39, .invokevirtual 300, 0, 0, []),
  (42, .istore_n 3, 0, 0, []),
  (43, .aload_n 0, 0, 0, []),
  (44, .iload_n 1, 0, 0, []),
  (45, .invokevirtual 318, 0, 0, []),
  (48, .invokestatic 359, 0, 0, []),
  (51, .istore 4, 0, 0, []),
  (53, .iconst (-1), (-1), 0, []),
  (54, .istore 5, 0, 0, []),
  (56, .iconst 0, 0, 0, []),
  (57, .istore 6, 0, 0, []),
  (59, .iconst 0, 0, 0, []),
  (60, .istore 7, 0, 0, []),
  (62, .iload 7, 0, 0, []),
  (64, .aload_n 0, 0, 0, []),
  (65, .getfield 260, 0, 0, []),
  (68, .if_icmp .ge 226, 0, 294, []),
  (71, .iload 7, 0, 0, []),
  (73, .iconst 1, 1, 0, []),
  (74, .iadd, 0, 0, []),
  (75, .istore 8, 0, 0, []),
  (77, .iload 8, 0, 0, []),
  (79, .aload_n 0, 0, 0, []),
  (80, .getfield 260, 0, 0, []),
  (83, .if_icmp .ge 205, 0, 288, []),
  (86, .iload_n 3, 0, 0, []),
  (87, .iload 7, 0, 0, []),
  (89, .ishr, 0, 0, []),
  (90, .iconst 1, 1, 0, []),
  (91, .iand, 0, 0, []),
  (92, .ifCond .eq 190, 0, 282, []),
  (95, .iload_n 3, 0, 0, []),
  (96, .iload 8, 0, 0, []),
  (98, .ishr, 0, 0, []),
  (99, .iconst 1, 1, 0, []),
  (100, .iand, 0, 0, []),
  (101, .ifCond .ne 6, 0, 107, []),
  (104, .goto 178, 0, 282, []),
  (107, .aload_n 0, 0, 0, []),
  (108, .aload_n 0, 0, 0, []),
  (109, .getfield 25, 0, 0, []),
  (112, .aload_n 0, 0, 0, []),
  (113, .getfield 69, 0, 0, []),
  (116, .invokevirtual 266, 0, 0, []),
  (119, .aload_n 0, 0, 0, []),
  (120, .getfield 69, 0, 0, []),
  (123, .iload 7, 0, 0, []),
  (125, .aload_n 0, 0, 0, []),
  (126, .aload_n 0, 0, 0, []),
  (127, .getfield 7, 0, 0, []),
  (130, .iconst 4, 4, 0, []),
  (131, .iload 7, 0, 0, []),
  (133, .imul, 0, 0, []),
  (134, .iaload, 0, 0, []),
  (135, .aload_n 0, 0, 0, []),
  (136, .getfield 7, 0, 0, []),
  (139, .iconst 4, 4, 0, []),
  (140, .iload 8, 0, 0, []),
  (142, .imul, 0, 0, []),
  (143, .iaload, 0, 0, []),
  (144, .iadd, 0, 0, []),
  (145, .aload_n 0, 0, 0, []),
  (146, .getfield 7, 0, 0, []),
  (149, .iconst 4, 4, 0, []),
  (150, .iload 7, 0, 0, []),
  (152, .imul, 0, 0, []),
  (153, .iconst 1, 1, 0, []),
  (154, .iadd, 0, 0, []),
  (155, .iaload, 0, 0, []),
  (156, .aload_n 0, 0, 0, []),
  (157, .getfield 7, 0, 0, []),
  (160, .iconst 4, 4, 0, []),
  (161, .iload 8, 0, 0, []),
  (163, .imul, 0, 0, []),
  (164, .iconst 1, 1, 0, []),
  (165, .iadd, 0, 0, []),
  (166, .iaload, 0, 0, []),
  (167, .iadd, 0, 0, []),
  (168, .aload_n 0, 0, 0, []),
  (169, .getfield 7, 0, 0, []),
  (172, .iconst 4, 4, 0, []),
  (173, .iload 7, 0, 0, []),
  (175, .imul, 0, 0, []),
  (176, .iconst 2, 2, 0, []),
  (177, .iadd, 0, 0, []),
  (178, .iaload, 0, 0, []),
  (179, .aload_n 0, 0, 0, []),
  (180, .getfield 7, 0, 0, []),
  (183, .iconst 4, 4, 0, []),
  (184, .iload 8, 0, 0, []),
  (186, .imul, 0, 0, []),
  (187, .iconst 2, 2, 0, []),
  (188, .iadd, 0, 0, []),
  (189, .iaload, 0, 0, []),
  (190, .iadd, 0, 0, []),
  (191, .aload_n 0, 0, 0, []),
  (192, .getfield 7, 0, 0, []),
  (195, .iconst 4, 4, 0, []),
  (196, .iload 7, 0, 0, []),
  (198, .imul, 0, 0, []),
  (199, .iconst 3, 3, 0, []),
  (200, .iadd, 0, 0, []),
  (201, .iaload, 0, 0, []),
  (202, .aload_n 0, 0, 0, []),
  (203, .getfield 7, 0, 0, []),
  (206, .iconst 4, 4, 0, []),
  (207, .iload 8, 0, 0, []),
  (209, .imul, 0, 0, []),
  (210, .iconst 3, 3, 0, []),
  (211, .iadd, 0, 0, []),
  (212, .iaload, 0, 0, []),
  (213, .iadd, 0, 0, []),
  (214, .invokevirtual 270, 0, 0, []),
  (217, .iastore, 0, 0, []),
  (218, .iload_n 3, 0, 0, []),
  (219, .iconst 1, 1, 0, []),
  (220, .iload 8, 0, 0, []),
  (222, .ishl, 0, 0, []),
  (223, .iconst (-1), (-1), 0, []),
  (224, .ixor, 0, 0, []),
  (225, .iand, 0, 0, []),
  (226, .istore 9, 0, 0, []),
  (228, .aload_n 0, 0, 0, []),
  (229, .iload 9, 0, 0, []),
  (231, .iload 9, 0, 0, []),
  (233, .aload_n 0, 0, 0, []),
  (234, .iconst (-1), (-1), 0, []),
  (235, .invokevirtual 300, 0, 0, []),
  (238, .ior, 0, 0, []),
  (239, .invokevirtual 315, 0, 0, []),
  (242, .invokestatic 359, 0, 0, []),
  (245, .iload 4, 0, 0, []),
  (247, .isub, 0, 0, []),
  (248, .iconst 1, 1, 0, []),
  (249, .iadd, 0, 0, []),
  (250, .istore 10, 0, 0, []),
  (252, .iload 5, 0, 0, []),
  (254, .iconst (-1), (-1), 0, []),
  (255, .if_icmp .eq 13, 0, 268, []),
  (258, .iload 10, 0, 0, []),
  (260, .iload 6, 0, 0, []),
  (262, .if_icmp .gt 6, 0, 268, []),
  (265, .goto 17, 0, 282, []),
  (268, .bipush 16, 16, 0, []),
  (270, .iload 7, 0, 0, []),
  (272, .imul, 0, 0, []),
  (273, .iload 8, 0, 0, []),
  (275, .iadd, 0, 0, []),
  (276, .istore 5, 0, 0, []),
  (278, .iload 10, 0, 0, []),
  (280, .istore 6, 0, 0, []),
  (282, .iinc 8 1, 1, 0, []),
  (285, .goto (-208), 0, 77, []),
  (288, .iinc 7 1, 1, 0, []),
  (291, .goto (-229), 0, 62, []),
  (294, .iload_n 2, 0, 0, []),
  (295, .ifCond .ne 8, 0, 303, []),
  (298, .iload 5, 0, 0, []),
  (300, .goto 5, 0, 305, []),
  (303, .iload 6, 0, 0, []),
  (305, .ireturn, 0, 0, [])],
  fdX9, [(297, fX9_isReader, 2, 9, 0), (253, fX9_right, 3, 9, 0), (300, fX9_hasOf, 2, 9, 0), (318, fX9_reachOf, 2, 9, 0), (359, fX9_bits, 1, 2000, 0), (266, fX9_copies, 3, 9, 1), (270, fX9_reckons, 5, 9, 0), (315, fX9_comesTo, 3, 9, 0)], [], [], [], 0)
noncomputable def fX9_bind : aMF := a_fn none shp pX9_bind 11 3
set_option maxRecDepth 20000 in
theorem kX9_bind {l : Launch} {G : aG} (hZ : a_Z l G) : a_Con l G shp yX9_bind (.code yX9_bind cX9_bind 11 (some .int)) 3 66 fX9_bind :=
  a_mth none hZ.1 hZ.2.1 shp_len (fun _ h => nomatch h) hZ.2.2.1 (by decide +kernel) rfl (foX9 rfl) (a_cok_of trivial) (b_code [42,3,181,0,105,42,42,27,182,1,41,153,0,16,28,153,0,8,28,4,160,0,7,4,167,0,4,3,4,182,0,253,154,0,5,3,172,42,27,182,1,44,62,42,27,182,1,62,184,1,103,54,4,2,54,5,3,54,6,3,54,7,21,7,42,180,1,4,162,0,226,21,7,4,96,54,8,21,8,42,180,1,4,162,0,205,29,21,7,122,4,126,153,0,190,29,21,8,122,4,126,154,0,6,167,0,178,42,42,180,0,25,42,180,0,69,182,1,10,42,180,0,69,21,7,42,42,180,0,7,7,21,7,104,46,42,180,0,7,7,21,8,104,46,96,42,180,0,7,7,21,7,104,4,96,46,42,180,0,7,7,21,8,104,4,96,46,96,42,180,0,7,7,21,7,104,5,96,46,42,180,0,7,7,21,8,104,5,96,46,96,42,180,0,7,7,21,7,104,6,96,46,42,180,0,7,7,21,8,104,6,96,46,96,182,1,14,79,29,4,21,8,120,2,130,126,54,9,42,21,9,21,9,42,2,182,1,44,128,182,1,59,184,1,103,21,4,100,4,96,54,10,21,5,2,159,0,13,21,10,21,6,163,0,6,167,0,17,16,16,21,7,104,21,8,96,54,5,21,10,54,6,132,8,1,167,255,48,132,7,1,167,255,27,28,154,0,8,21,5,167,0,5,21,6,172] [] (by decide +kernel) (by decide +kernel) (by decide +kernel) (by decide +kernel)) rfl rfl (trivial) (⟨a_CQ_v hZ.2.1 (kX9_isReader hZ) lkX9_297 (a_CF_v TX9 62 wkX9_isReader lkX9_297 hdX9_isReader ⟨by decide, by decide⟩ rfl) rfl rfl,
    ⟨a_CQ_v hZ.2.1 (kX9_right hZ) lkX9_253 (a_CF_v TX9 62 wkX9_right lkX9_253 hdX9_right ⟨by decide, by decide⟩ rfl) rfl rfl,
    ⟨a_CQ_v hZ.2.1 (kX9_hasOf hZ) lkX9_300 (a_CF_v TX9 62 wkX9_hasOf lkX9_300 hdX9_hasOf ⟨by decide, by decide⟩ rfl) rfl rfl,
    ⟨a_CQ_v hZ.2.1 (kX9_reachOf hZ) lkX9_318 (a_CF_v TX9 62 wkX9_reachOf lkX9_318 hdX9_reachOf ⟨by decide, by decide⟩ rfl) rfl rfl,
    ⟨a_CQ_s hZ.2.1 (kX9_bits hZ) lkX9_359 (a_CF_s wkX9_bits lkX9_359 hdX9_bits) rfl rfl,
    ⟨a_CQ_v hZ.2.1 (kX9_copies hZ) lkX9_266 (a_CF_v TX9 62 wkX9_copies lkX9_266 hdX9_copies ⟨by decide, by decide⟩ rfl) rfl rfl,
    ⟨a_CQ_v hZ.2.1 (kX9_reckons hZ) lkX9_270 (a_CF_v TX9 62 wkX9_reckons lkX9_270 hdX9_reckons ⟨by decide, by decide⟩ rfl) rfl rfl,
    ⟨a_CQ_v hZ.2.1 (kX9_comesTo hZ) lkX9_315 (a_CF_v TX9 62 wkX9_comesTo lkX9_315 hdX9_comesTo ⟨by decide, by decide⟩ rfl) rfl rfl,
    trivial⟩⟩⟩⟩⟩⟩⟩⟩)
end
section
/-! ===== programs and contracts, written by wip/whole/gen.py ===== -/
noncomputable def pX9_canTake : aPrg := ([(0, .iconst 0, 0, 0, []),
  (1, .istore_n 3, 0, 0, []),
  (2, .iload_n 3, 0, 0, []),
  (3, .aload_n 0, 0, 0, []),
  (4, .getfield 260, 0, 0, []),
  (7, .if_icmp .ge 64, 0, 71, []),
  (10, .iconst 0, 0, 0, []),
  (11, .istore 4, 0, 0, []),
  (13, .iload 4, 0, 0, []),
  (15, .aload_n 0, 0, 0, []),
  (16, .getfield 260, 0, 0, []),
  (19, .if_icmp .ge 46, 0, 65, []),
  (22, .iload_n 1, 0, 0, []),
  (23, .iload_n 3, 0, 0, []),
  (24, .ishr, 0, 0, []),
  (25, .iconst 1, 1, 0, []),
  (26, .iand, 0, 0, []),
  (27, .iconst 1, 1, 0, []),
  (28, .if_icmp .ne 31, 0, 59, []),
  (31, .iload_n 2, 0, 0, []),
  (32, .iload 4, 0, 0, []),
  (34, .ishr, 0, 0, []),
  (35, .iconst 1, 1, 0, []),
  (36, .iand, 0, 0, []),
  (37, .iconst 1, 1, 0, []),
  (38, .if_icmp .ne 21, 0, 59, []),
  (41, .aload_n 0, 0, 0, []),
  (42, .getfield 25, 0, 0, []),
  (45, .iload 4, 0, 0, []),
  (47, .iaload, 0, 0, []),
  (48, .aload_n 0, 0, 0, []),
  (49, .getfield 25, 0, 0, []),
  (52, .iload_n 3, 0, 0, []),
  (53, .iaload, 0, 0, []),
  (54, .if_icmp .ge 5, 0, 59, []),
  (57, .iconst 1, 1, 0, []),
  (58, .ireturn, 0, 0, []),
  (59, .iinc 4 1, 1, 0, []),
  (62, .goto (-49), 0, 13, []),
  (65, .iinc 3 1, 1, 0, []),
  (68, .goto (-66), 0, 2, []),
  (71, .iconst 0, 0, 0, []),
  (72, .ireturn, 0, 0, [])],
  fdX9, [], [], [], [], 1)
noncomputable def fX9_canTake : aMF := a_fn none shp pX9_canTake 5 3
set_option maxRecDepth 20000 in
theorem kX9_canTake {l : Launch} {G : aG} (hZ : a_Z l G) : a_Con l G shp yX9_canTake (.code yX9_canTake cX9_canTake 5 (some .boolean)) 1 16 fX9_canTake :=
  a_mth none hZ.1 hZ.2.1 shp_len (fun _ h => nomatch h) hZ.2.2.1 (by decide +kernel) rfl (foX9 rfl) (a_cok_of trivial) (b_code [3,62,29,42,180,1,4,162,0,64,3,54,4,21,4,42,180,1,4,162,0,46,27,29,122,4,126,4,160,0,31,28,21,4,122,4,126,4,160,0,21,42,180,0,25,21,4,46,42,180,0,25,29,46,162,0,5,4,172,132,4,1,167,255,207,132,3,1,167,255,190,3,172] [] (by decide +kernel) (by decide +kernel) (by decide +kernel) (by decide +kernel)) rfl rfl (trivial) (trivial)
noncomputable def pX9_fire : aPrg := ([(0, .aload_n 0, 0, 0, []),
  (1, .iconst 0, 0, 0, []),
  (2, .putfield 105, 0, 0, []),
  (5, .aload_n 0, 0, 0, []),
  (6, .iload_n 1, 0, 0, []),
  (7, .iconst 0, 0, 0, []),
  (8, .bipush 12, 12, 0, []),
  (10, .invokestatic 290, 0, 0, []),
  (13, .iconst 1, 1, 0, []),
  (14, .invokevirtual 253, 0, 0, []),
  (17, .ifCond .ne 5, 0, 22, []),
  (20, .iconst 0, 0, 0, []),
  (21, .ireturn, 0, 0, []),
  (22, .aload_n 0, 0, 0, []),
  (23, .iconst (-1), (-1), 0, []),
  (24, .invokevirtual 300, 0, 0, []),
  (27, .istore_n 2, 0, 0, []),
  (28, .iload_n 1, 0, 0, []),
  (29, .iload_n 2, 0, 0, []),
  (30, .invokestatic 359, 0, 0, []),
  (33, .if_icmp .ge 7, 0, 40, []),
  (36, .iload_n 1, 0, 0, []),
  (37, .goto 7, 0, 44, []),
  (40, .iload_n 2, 0, 0, []),
  (41, .invokestatic 359, 0, 0, []),
  (44, .istore_n 3, 0, 0, []),
  (45, .iconst (-1), (-1), 0, []),
  (46, .istore 4, 0, 0, []),
  (48, .iconst 0, 0, 0, []),
  (49, .istore 5, 0, 0, []),
  (51, .iconst 0, 0, 0, []),
  (52, .istore 6, 0, 0, []),
  (54, .iload 6, 0, 0, []),
  (56, .iconst 1, 1, 0, []),
  (57, .aload_n 0, 0, 0, []),
  (58, .getfield 260, 0, 0, []),
  (61, .ishl, 0, 0, []),
  (62, .if_icmp .ge 100, 0, 162, []),
  (65, .iload 6, 0, 0, []),
  (67, .iload_n 2, 0, 0, []),
  (68, .iconst (-1), (-1), 0, []),
  (69, .ixor, 0, 0, []),
  (70, .iand, 0, 0, []),
  (71, .ifCond .ne 85, 0, 156, []),
  (74, .iload 6, 0, 0, []),
  (76, .invokestatic 359, 0, 0, []),
  (79, .iload_n 3, 0, 0, []),
  (80, .if_icmp .eq 6, 0, 86, []),
  (83, .goto 73, 0, 156, []),
  (86, .iconst 0, 0, 0, []),
  (87, .istore 7, 0, 0, []),
  (89, .iconst 0, 0, 0, []),
  (90, .istore 8, 0, 0, []),
  (92, .iload 8, 0, 0, []),
  (94, .aload_n 0, 0, 0, []),
  (95, .getfield 263, 0, 0, []),
  (98, .if_icmp .ge 34, 0, 132, []),
  (101, .iload 7, 0, 0, []),
  (103, .aload_n 0, 0, 0, []),
  (104, .aload_n 0, 0, 0, []),
  (105, .iload 8, 0, 0, []),
  (107, .invokevirtual 300, 0, 0, []),
  (110, .iload 6, 0, 0, []),
  (112, .invokevirtual 362, 0, 0, []),
  (115, .ifCond .eq 7, 0, 122, []),
  (118, .iconst 1, 1, 0, []),
  (119, .goto 4, 0, 123, []),
  (122, .iconst 0, 0, 0, []),
  (123, .iadd, 0, 0, []),
  (124, .istore 7, 0, 0, []),
  (126, .iinc 8 1, 1, 0, []),
  (129, .goto (-37), 0, 92, []),
  (132, .iload 4, 0, 0, []),
  (134, .iconst (-1), (-1), 0, []),
  (135, .if_icmp .eq 13, 0, 148, []),
  (138, .iload 7, 0, 0, []),
  (140, .iload 5, 0, 0, []),
  (142, .if_icmp .gt 6, 0, 148, []),
  (145, .goto 11, 0, 156, []),
  (148, .iload 6, 0, 0, []),
  (150, .istore 4, 0, 0, []),
  (152, .iload 7, 0, 0, []),
  (154, .istore 5, 0, 0, []),
  (156, .iinc 6 1, 1, 0, []),
  (159, .goto (-105), 0, 54, []),
  (162, .iload 4, 0, 0, []),
  (164, .ireturn, 0, 0, [])],
  fdX9, [(290, fX9_within, 3, 2000, 0), (253, fX9_right, 3, 9, 0), (300, fX9_hasOf, 2, 9, 0), (359, fX9_bits, 1, 2000, 0), (362, fX9_canTake, 3, 9, 0)], [], [], [], 0)
noncomputable def fX9_fire : aMF := a_fn none shp pX9_fire 9 2
set_option maxRecDepth 20000 in
theorem wkX9_canTake : ∀ w ∈ [Cond.code yX9_canTake cX9_canTake 5 (some .boolean), .initialized yX9_canTake.cls, .instanceMethod yX9_canTake, .selects yX9_canTake.cls yX9_canTake yX9_canTake], w ∈ lw_g := a_ps [1591, 105, 1590, 92] rfl rfl
theorem hdX9_canTake : yX9_canTake.cls ≠ "java/lang/invoke/MethodHandle" ∧ yX9_canTake.cls ≠ "java/lang/invoke/VarHandle" ∧ (parseMethodDescriptor yX9_canTake.desc).map (fun d => d.parameters.length) = some 2 := by decide +kernel
set_option maxRecDepth 20000 in
theorem lkX9_362 : Cond.methodLink RX9 362 yX9_canTake ∈ lw_g := a_p1 1588 rfl rfl
set_option maxRecDepth 20000 in
theorem kX9_fire {l : Launch} {G : aG} (hZ : a_Z l G) : a_Con l G shp yX9_fire (.code yX9_fire cX9_fire 9 (some .int)) 2 40 fX9_fire :=
  a_mth none hZ.1 hZ.2.1 shp_len (fun _ h => nomatch h) hZ.2.2.1 (by decide +kernel) rfl (foX9 rfl) (a_cok_of trivial) (b_code [42,3,181,0,105,42,27,3,16,12,184,1,34,4,182,0,253,154,0,5,3,172,42,2,182,1,44,61,27,28,184,1,103,162,0,7,27,167,0,7,28,184,1,103,62,2,54,4,3,54,5,3,54,6,21,6,4,42,180,1,4,120,162,0,100,21,6,28,2,130,126,154,0,85,21,6,184,1,103,29,159,0,6,167,0,73,3,54,7,3,54,8,21,8,42,180,1,7,162,0,34,21,7,42,42,21,8,182,1,44,21,6,182,1,106,153,0,7,4,167,0,4,3,96,54,7,132,8,1,167,255,219,21,4,2,159,0,13,21,7,21,5,163,0,6,167,0,11,21,6,54,4,21,7,54,5,132,6,1,167,255,151,21,4,172] [] (by decide +kernel) (by decide +kernel) (by decide +kernel) (by decide +kernel)) rfl rfl (trivial) (⟨a_CQ_s hZ.2.1 (kX9_within hZ) lkX9_290 (a_CF_s wkX9_within lkX9_290 hdX9_within) rfl rfl,
    ⟨a_CQ_v hZ.2.1 (kX9_right hZ) lkX9_253 (a_CF_v TX9 62 wkX9_right lkX9_253 hdX9_right ⟨by decide, by decide⟩ rfl) rfl rfl,
    ⟨a_CQ_v hZ.2.1 (kX9_hasOf hZ) lkX9_300 (a_CF_v TX9 62 wkX9_hasOf lkX9_300 hdX9_hasOf ⟨by decide, by decide⟩ rfl) rfl rfl,
    ⟨a_CQ_s hZ.2.1 (kX9_bits hZ) lkX9_359 (a_CF_s wkX9_bits lkX9_359 hdX9_bits) rfl rfl,
    ⟨a_CQ_v hZ.2.1 (kX9_canTake hZ) lkX9_362 (a_CF_v TX9 62 wkX9_canTake lkX9_362 hdX9_canTake ⟨by decide, by decide⟩ rfl) rfl rfl,
    trivial⟩⟩⟩⟩⟩)
noncomputable def pX9_event : aPrg := ([(0, .aload_n 0, 0, 0, []),
  (1, .iconst 0, 0, 0, []),
  (2, .putfield 105, 0, 0, []),
  (5, .aload_n 0, 0, 0, []),
  (6, .getfield 277, 0, 0, []),
  (9, .bipush 8, 8, 0, []),
  (11, .if_icmp .eq 32, 0, 43, []),
  (14, .aload_n 0, 0, 0, []),
  (15, .iload_n 1, 0, 0, []),
  (16, .invokevirtual 297, 0, 0, []),
  (19, .ifCond .eq 24, 0, 43, []),
  (22, .aload_n 0, 0, 0, []),
  (23, .iload_n 2, 0, 0, []),
  (24, .invokevirtual 294, 0, 0, []),
  (27, .ifCond .eq 16, 0, 43, []),
  (30, .aload_n 0, 0, 0, []),
  (31, .iload_n 3, 0, 0, []),
  (32, .invokevirtual 294, 0, 0, []),
  (35, .ifCond .eq 8, 0, 43, []),
  (38, .iload_n 2, 0, 0, []),
  (39, .iload_n 3, 0, 0, []),
  (40, .if_icmp .ne 9, 0, 49, []),
  (43, .aload_n 0, 0, 0, []),
  (44, .iconst 2, 2, 0, []),
  (45, .invokevirtual 365, 0, 0, []),
  (48, .ireturn, 0, 0, []),
  (49, .aload_n 0, 0, 0, []),
  (50, .getfield 90, 0, 0, []),
  (53, .aload_n 0, 0, 0, []),
  (54, .getfield 277, 0, 0, []),
  (57, .sipush 144, 144, 0, []),
  (60, .iload_n 1, 0, 0, []),
  (61, .imul, 0, 0, []),
  (62, .bipush 12, 12, 0, []),
  (64, .iload_n 2, 0, 0, []),
  (65, .imul, 0, 0, []),
  (66, .iadd, 0, 0, []),
  (67, .iload_n 3, 0, 0, []),
  (68, .iadd, 0, 0, []),
  (69, .iastore, 0, 0, []),
  (70, .aload_n 0, 0, 0, []),
  (71, .dup, 0, 0, []),
  (72, .getfield 277, 0, 0, []),
  (75, .iconst 1, 1, 0, []),
  (76, .iadd, 0, 0, []),
  (77, .putfield 277, 0, 0, []),
  (80, .aload_n 0, 0, 0, []),
  (81, .getfield 277, 0, 0, []),
  (84, .ireturn, 0, 0, [])],
  fdX9, [(297, fX9_isReader, 2, 9, 0), (294, fX9_isBook, 2, 9, 0), (365, fX9_refuses, 2, 9, 0)], [], [], [], 0)
noncomputable def fX9_event : aMF := a_fn none shp pX9_event 4 4
set_option maxRecDepth 20000 in
theorem wkX9_refuses : ∀ w ∈ [Cond.code yX9_refuses cX9_refuses 2 (some .int), .initialized yX9_refuses.cls, .instanceMethod yX9_refuses, .selects yX9_refuses.cls yX9_refuses yX9_refuses], w ∈ lw_g := a_ps [1599, 105, 1598, 93] rfl rfl
theorem hdX9_refuses : yX9_refuses.cls ≠ "java/lang/invoke/MethodHandle" ∧ yX9_refuses.cls ≠ "java/lang/invoke/VarHandle" ∧ (parseMethodDescriptor yX9_refuses.desc).map (fun d => d.parameters.length) = some 1 := by decide +kernel
set_option maxRecDepth 20000 in
theorem lkX9_365 : Cond.methodLink RX9 365 yX9_refuses ∈ lw_g := a_p1 1596 rfl rfl
set_option maxRecDepth 20000 in
theorem kX9_event {l : Launch} {G : aG} (hZ : a_Z l G) : a_Con l G shp yX9_event (.code yX9_event cX9_event 4 (some .int)) 2 37 fX9_event :=
  a_mth none hZ.1 hZ.2.1 shp_len (fun _ h => nomatch h) hZ.2.2.1 (by decide +kernel) rfl (foX9 rfl) (a_cok_of trivial) (b_code [42,3,181,0,105,42,180,1,21,16,8,159,0,32,42,27,182,1,41,153,0,24,42,28,182,1,38,153,0,16,42,29,182,1,38,153,0,8,28,29,160,0,9,42,5,182,1,109,172,42,180,0,90,42,180,1,21,17,0,144,27,104,16,12,28,104,96,29,96,79,42,89,180,1,21,4,96,181,1,21,42,180,1,21,172] [] (by decide +kernel) (by decide +kernel) (by decide +kernel) (by decide +kernel)) rfl rfl (trivial) (⟨a_CQ_v hZ.2.1 (kX9_isReader hZ) lkX9_297 (a_CF_v TX9 62 wkX9_isReader lkX9_297 hdX9_isReader ⟨by decide, by decide⟩ rfl) rfl rfl,
    ⟨a_CQ_v hZ.2.1 (kX9_isBook hZ) lkX9_294 (a_CF_v TX9 62 wkX9_isBook lkX9_294 hdX9_isBook ⟨by decide, by decide⟩ rfl) rfl rfl,
    ⟨a_CQ_v hZ.2.1 (kX9_refuses hZ) lkX9_365 (a_CF_v TX9 62 wkX9_refuses lkX9_365 hdX9_refuses ⟨by decide, by decide⟩ rfl) rfl rfl,
    trivial⟩⟩⟩)
noncomputable def pX9_forget : aPrg := ([(0, .aload_n 0, 0, 0, []),
  (1, .iconst 0, 0, 0, []),
  (2, .putfield 105, 0, 0, []),
  (5, .aload_n 0, 0, 0, []),
  (6, .getfield 277, 0, 0, []),
  (9, .ifCond .ne 5, 0, 14, []),
  (12, .iconst (-1), (-1), 0, []),
  (13, .ireturn, 0, 0, []),
  (14, .aload_n 0, 0, 0, []),
  (15, .dup, 0, 0, []),
  (16, .getfield 277, 0, 0, []),
  (19, .iconst 1, 1, 0, []),
  (20, .isub, 0, 0, []),
  (21, .putfield 277, 0, 0, []),
  (24, .aload_n 0, 0, 0, []),
  (25, .getfield 277, 0, 0, []),
  (28, .ireturn, 0, 0, [])],
  fdX9, [], [], [], [], 0)
noncomputable def fX9_forget : aMF := a_fn none shp pX9_forget 1 1
set_option maxRecDepth 20000 in
theorem kX9_forget {l : Launch} {G : aG} (hZ : a_Z l G) : a_Con l G shp yX9_forget (.code yX9_forget cX9_forget 1 (some .int)) 1 16 fX9_forget :=
  a_mth none hZ.1 hZ.2.1 shp_len (fun _ h => nomatch h) hZ.2.2.1 (by decide +kernel) rfl (foX9 rfl) (a_cok_of trivial) (b_code [42,3,181,0,105,42,180,1,21,154,0,5,2,172,42,89,180,1,21,4,100,181,1,21,42,180,1,21,172] [] (by decide +kernel) (by decide +kernel) (by decide +kernel) (by decide +kernel)) rfl rfl (trivial) (trivial)
noncomputable def pX9_ways : aPrg := ([(0, .iconst 0, 0, 0, []),
  (1, .istore 5, 0, 0, []),
  (3, .iconst 0, 0, 0, []),
  (4, .istore 6, 0, 0, []),
  (6, .iload 6, 0, 0, []),
  (8, .bipush 8, 8, 0, []),
  (10, .if_icmp .ge 20, 0, 30, []),
  (13, .iload 5, 0, 0, []),
  (15, .iload_n 1, 0, 0, []),
  (16, .iload 6, 0, 0, []),
  (18, .ishr, 0, 0, []),
  (19, .iconst 1, 1, 0, []),
  (20, .iand, 0, 0, []),
  (21, .iadd, 0, 0, []),
  (22, .istore 5, 0, 0, []),
  (24, .iinc 6 1, 1, 0, []),
  (27, .goto (-21), 0, 6, []),
  (30, .iconst 0, 0, 0, []),
  (31, .istore 6, 0, 0, []),
  (33, .iconst 0, 0, 0, []),
  (34, .istore 7, 0, 0, []),
  (36, .iconst 0, 0, 0, []),
  (37, .istore 8, 0, 0, []),
  (39, .iconst 0, 0, 0, []),
  (40, .istore 9, 0, 0, []),
  (42, .aload_n 0, 0, 0, []),
  (43, .getfield 93, 0, 0, []),
  (46, .iconst 0, 0, 0, []),
  (47, .iconst (-1), (-1), 0, []),
  (48, .iastore, 0, 0, []),
  (49, .iconst 0, 0, 0, []),
  (50, .istore 10, 0, 0, []),
  (52, .iload 7, 0, 0, []),
  (54, .ifCond .lt 274, 0, 328, []),
  (57, .aload_n 0, 0, 0, []),
  (58, .getfield 93, 0, 0, []),
  (61, .iload 7, 0, 0, []),
  (63, .iaload, 0, 0, []),
  (64, .iconst (-1), (-1), 0, []),
  (65, .if_icmp .eq 36, 0, 101, []),
  (68, .aload_n 0, 0, 0, []),
  (69, .aload_n 0, 0, 0, []),
  (70, .getfield 90, 0, 0, []),
  (73, .aload_n 0, 0, 0, []),
  (74, .getfield 93, 0, 0, []),
  (77, .iload 7, 0, 0, []),
  (79, .iaload, 0, 0, []),
  (80, .iaload, 0, 0, []),
  (81, .iconst 1, 1, 0, []),
  (82, .invokevirtual 345, 0, 0, []),
  (85, .iload 8, 0, 0, []),
  (87, .iconst 1, 1, 0, []),
  (88, .aload_n 0, 0, 0, []),
  (89, .getfield 93, 0, 0, []),
  (92, .iload 7, 0, 0, []),
  (94, .iaload, 0, 0, []),
  (95, .ishl, 0, 0, []),
  (96, .iconst (-1), (-1), 0, []),
  (97, .ixor, 0, 0, []),
  (98, .iand, 0, 0, []),
  (99, .istore 8, 0, 0, []),
  (101, .iload 7, 0, 0, []),
  (103, .iload 4, 0, 0, []),
  (105, .if_icmp .ne 40, 0, 145, []),
  (108, .iload_n 3, 0, 0, []),
  (109, .iconst (-1), (-1), 0, []),
  (110, .if_icmp .eq 35, 0, 145, []),
  (113, .aload_n 0, 0, 0, []),
  (114, .getfield 13, 0, 0, []),
  (117, .iload_n 3, 0, 0, []),
  (118, .iaload, 0, 0, []),
  (119, .iconst (-1), (-1), 0, []),
  (120, .if_icmp .ne 13, 0, 133, []),
  (123, .iload 9, 0, 0, []),
  (125, .iconst 1, 1, 0, []),
  (126, .iload 7, 0, 0, []),
  (128, .ishl, 0, 0, []),
  (129, .ior, 0, 0, []),
  (130, .goto 17, 0, 147, []),
  (133, .iload 9, 0, 0, []),
  (135, .iconst 1, 1, 0, []),
  (136, .iload 7, 0, 0, []),
  (138, .ishl, 0, 0, []),
  (139, .iconst (-1), (-1), 0, []),
  (140, .ixor, 0, 0, []),
  (141, .iand, 0, 0, []),
  (142, .goto 5, 0, 147, []),
  (145, .iload 9, 0, 0, []),
  (147, .istore 9, 0, 0, []),
  (149, .iload 7, 0, 0, []),
  (151, .iload 5, 0, 0, []),
  (153, .if_icmp .ne 37, 0, 190, []),
  (156, .iload 10, 0, 0, []),
  (158, .ifCond .ne 32, 0, 190, []),
  (161, .iload 6, 0, 0, []),
  (163, .iload_n 3, 0, 0, []),
  (164, .iconst (-1), (-1), 0, []),
  (165, .if_icmp .eq 14, 0, 179, []),
  (168, .iload 9, 0, 0, []),
  (170, .iload 4, 0, 0, []),
  (172, .ishr, 0, 0, []),
  (173, .iconst 1, 1, 0, []),
  (174, .iand, 0, 0, []),
  (175, .iconst 1, 1, 0, []),
  (176, .if_icmp .ne 7, 0, 183, []),
  (179, .iconst 1, 1, 0, []),
  (180, .goto 4, 0, 184, []),
  (183, .iconst 0, 0, 0, []),
  (184, .iadd, 0, 0, []),
  (185, .istore 6, 0, 0, []),
  (187, .iload_n 2, 0, 0, []),
  (188, .istore 10, 0, 0, []),
  (190, .aload_n 0, 0, 0, []),
  (191, .getfield 93, 0, 0, []),
  (194, .iload 7, 0, 0, []),
  (196, .iaload, 0, 0, []),
  (197, .iconst 1, 1, 0, []),
  (198, .iadd, 0, 0, []),
  (199, .istore 11, 0, 0, []),
  (201, .iload 11, 0, 0, []),
  (203, .aload_n 0, 0, 0, []),
  (204, .getfield 277, 0, 0, []),
  (207, .if_icmp .ge 55, 0, 262, []),
  (210, .iload 7, 0, 0, []),
  (212, .iload 5, 0, 0, []),
  (214, .if_icmp .eq 42, 0, 256, []),
  (217, .iload 10, 0, 0, []),
  (219, .ifCond .ne 37, 0, 256, []),
  (222, .iload_n 1, 0, 0, []),
  (223, .iload 11, 0, 0, []),
  (225, .ishr, 0, 0, []),
  (226, .iconst 1, 1, 0, []),
  (227, .iand, 0, 0, []),
  (228, .ifCond .eq 28, 0, 256, []),
  (231, .iload 8, 0, 0, []),
  (233, .iload 11, 0, 0, []),
  (235, .ishr, 0, 0, []),
  (236, .iconst 1, 1, 0, []),
  (237, .iand, 0, 0, []),
  (238, .iconst 1, 1, 0, []),
  (239, .if_icmp .eq 17, 0, 256, []),
  (242, .aload_n 0, 0, 0, []),
  (243, .aload_n 0, 0, 0, []),
  (244, .getfield 90, 0, 0, []),
  (247, .iload 11, 0, 0, []),
  (249, .iaload, 0, 0, []),
  (250, .invokevirtual 353, 0, 0, []),
  (253, .ifCond .ne 9, 0, 262, []),
  (256, .iinc 11 1, 1, 0, []),
  (259, .goto (-58), 0, 201, []),
  (262, .iload 7, 0, 0, []),
  (264, .iload 5, 0, 0, []),
  (266, .if_icmp .eq 12, 0, 278, []),
  (269, .iload 11, 0, 0, []),
  (271, .aload_n 0, 0, 0, []),
  (272, .getfield 277, 0, 0, []),
  (275, .if_icmp .lt 9, 0, 284, []),
  (278, .iinc 7 (-1), (-1), 0, []),
  (281, .goto (-229), 0, 52, []),
  (284, .aload_n 0, 0, 0, []),
  (285, .getfield 93, 0, 0, []),
  (288, .iload 7, 0, 0, []),
  (290, .iload 11, 0, 0, []),
  (292, .iastore, 0, 0, []),
  (293, .iload 8, 0, 0, []),
  (295, .iconst 1, 1, 0, []),
  (296, .iload 11, 0, 0, []),
  (298, .ishl, 0, 0, []),
  (299, .ior, 0, 0, []),
  (300, .istore 8, 0, 0, []),
  (302, .aload_n 0, 0, 0, []),
  (303, .aload_n 0, 0, 0, []),
  (304, .getfield 90, 0, 0, []),
  (307, .iload 11, 0, 0, []),
  (309, .iaload, 0, 0, []),
  (310, .iconst 0, 0, 0, []),
  (311, .invokevirtual 345, 0, 0, []),
  (314, .iinc 7 1, 1, 0, []),
  (317, .aload_n 0, 0, 0, []),
  (318, .getfield 93, 0, 0, []),
  (321, .iload 7, 0, 0, []),
  (323, .iconst (-1), (-1), 0, []),
  (324, .iastore, 0, 0, []),
  (325, .goto (-273), 0, 52, []),
  (328, .iload 6, 0, 0, []),
  (330, .ireturn, 0, 0, [])],
  fdX9, [(345, fX9_turns0, 3, 9, 1), (353, fX9_canBe, 2, 9, 0)], [], [], [], 0)
noncomputable def fX9_ways : aMF := a_fn none shp pX9_ways 12 5
set_option maxRecDepth 20000 in
theorem kX9_ways {l : Launch} {G : aG} (hZ : a_Z l G) : a_Con l G shp yX9_ways (.code yX9_ways cX9_ways 12 (some .int)) 4 81 fX9_ways :=
  a_mth none hZ.1 hZ.2.1 shp_len (fun _ h => nomatch h) hZ.2.2.1 (by decide +kernel) rfl (foX9 rfl) (a_cok_of trivial) (b_code [3,54,5,3,54,6,21,6,16,8,162,0,20,21,5,27,21,6,122,4,126,96,54,5,132,6,1,167,255,235,3,54,6,3,54,7,3,54,8,3,54,9,42,180,0,93,3,2,79,3,54,10,21,7,155,1,18,42,180,0,93,21,7,46,2,159,0,36,42,42,180,0,90,42,180,0,93,21,7,46,46,4,182,1,89,21,8,4,42,180,0,93,21,7,46,120,2,130,126,54,8,21,7,21,4,160,0,40,29,2,159,0,35,42,180,0,13,29,46,2,160,0,13,21,9,4,21,7,120,128,167,0,17,21,9,4,21,7,120,2,130,126,167,0,5,21,9,54,9,21,7,21,5,160,0,37,21,10,154,0,32,21,6,29,2,159,0,14,21,9,21,4,122,4,126,4,160,0,7,4,167,0,4,3,96,54,6,28,54,10,42,180,0,93,21,7,46,4,96,54,11,21,11,42,180,1,21,162,0,55,21,7,21,5,159,0,42,21,10,154,0,37,27,21,11,122,4,126,153,0,28,21,8,21,11,122,4,126,4,159,0,17,42,42,180,0,90,21,11,46,182,1,97,154,0,9,132,11,1,167,255,198,21,7,21,5,159,0,12,21,11,42,180,1,21,161,0,9,132,7,255,167,255,27,42,180,0,93,21,7,21,11,79,21,8,4,21,11,120,128,54,8,42,42,180,0,90,21,11,46,3,182,1,89,132,7,1,42,180,0,93,21,7,2,79,167,254,239,21,6,172] [] (by decide +kernel) (by decide +kernel) (by decide +kernel) (by decide +kernel)) rfl rfl (trivial) (⟨a_CQ_v hZ.2.1 (kX9_turns0 hZ) lkX9_345 (a_CF_v TX9 62 wkX9_turns0 lkX9_345 hdX9_turns0 ⟨by decide, by decide⟩ rfl) rfl rfl,
    ⟨a_CQ_v hZ.2.1 (kX9_canBe hZ) lkX9_353 (a_CF_v TX9 62 wkX9_canBe lkX9_353 hdX9_canBe ⟨by decide, by decide⟩ rfl) rfl rfl,
    trivial⟩⟩)
noncomputable def pX9_orders : aPrg := ([(0, .aload_n 0, 0, 0, []),
  (1, .iconst 0, 0, 0, []),
  (2, .putfield 105, 0, 0, []),
  (5, .aload_n 0, 0, 0, []),
  (6, .iconst 1, 1, 0, []),
  (7, .aload_n 0, 0, 0, []),
  (8, .getfield 277, 0, 0, []),
  (11, .ishl, 0, 0, []),
  (12, .iconst 1, 1, 0, []),
  (13, .isub, 0, 0, []),
  (14, .iconst 0, 0, 0, []),
  (15, .iconst (-1), (-1), 0, []),
  (16, .iconst 0, 0, 0, []),
  (17, .invokevirtual 368, 0, 0, []),
  (20, .ireturn, 0, 0, [])],
  fdX9, [(368, fX9_ways, 5, 9, 0)], [], [], [], 0)
noncomputable def fX9_orders : aMF := a_fn none shp pX9_orders 1 1
set_option maxRecDepth 20000 in
theorem wkX9_ways : ∀ w ∈ [Cond.code yX9_ways cX9_ways 12 (some .int), .initialized yX9_ways.cls, .instanceMethod yX9_ways, .selects yX9_ways.cls yX9_ways yX9_ways], w ∈ lw_g := a_ps [1611, 105, 1610, 94] rfl rfl
theorem hdX9_ways : yX9_ways.cls ≠ "java/lang/invoke/MethodHandle" ∧ yX9_ways.cls ≠ "java/lang/invoke/VarHandle" ∧ (parseMethodDescriptor yX9_ways.desc).map (fun d => d.parameters.length) = some 4 := by decide +kernel
set_option maxRecDepth 20000 in
theorem lkX9_368 : Cond.methodLink RX9 368 yX9_ways ∈ lw_g := a_p1 1608 rfl rfl
set_option maxRecDepth 20000 in
theorem kX9_orders {l : Launch} {G : aG} (hZ : a_Z l G) : a_Con l G shp yX9_orders (.code yX9_orders cX9_orders 1 (some .int)) 5 112 fX9_orders :=
  a_mth none hZ.1 hZ.2.1 shp_len (fun _ h => nomatch h) hZ.2.2.1 (by decide +kernel) rfl (foX9 rfl) (a_cok_of trivial) (b_code [42,3,181,0,105,42,4,42,180,1,21,120,4,100,3,2,3,182,1,112,172] [] (by decide +kernel) (by decide +kernel) (by decide +kernel) (by decide +kernel)) rfl rfl (trivial) (⟨a_CQ_v hZ.2.1 (kX9_ways hZ) lkX9_368 (a_CF_v TX9 62 wkX9_ways lkX9_368 hdX9_ways ⟨by decide, by decide⟩ rfl) rfl rfl,
    trivial⟩)
noncomputable def pX9_there : aPrg := ([(0, .aload_n 0, 0, 0, []),
  (1, .iconst 0, 0, 0, []),
  (2, .putfield 105, 0, 0, []),
  (5, .aload_n 0, 0, 0, []),
  (6, .aload_n 0, 0, 0, []),
  (7, .iload_n 1, 0, 0, []),
  (8, .invokevirtual 294, 0, 0, []),
  (11, .iconst 1, 1, 0, []),
  (12, .invokevirtual 253, 0, 0, []),
  (15, .ifCond .eq 20, 0, 35, []),
  (18, .aload_n 0, 0, 0, []),
  (19, .iload_n 2, 0, 0, []),
  (20, .iconst 0, 0, 0, []),
  (21, .aload_n 0, 0, 0, []),
  (22, .getfield 277, 0, 0, []),
  (25, .invokestatic 290, 0, 0, []),
  (28, .iconst 2, 2, 0, []),
  (29, .invokevirtual 253, 0, 0, []),
  (32, .ifCond .ne 5, 0, 37, []),
  (35, .iconst 0, 0, 0, []),
  (36, .ireturn, 0, 0, []),
  (37, .aload_n 0, 0, 0, []),
  (38, .iconst 1, 1, 0, []),
  (39, .aload_n 0, 0, 0, []),
  (40, .getfield 277, 0, 0, []),
  (43, .ishl, 0, 0, []),
  (44, .iconst 1, 1, 0, []),
  (45, .isub, 0, 0, []),
  (46, .iconst 0, 0, 0, []),
  (47, .iload_n 1, 0, 0, []),
  (48, .iload_n 2, 0, 0, []),
  (49, .invokevirtual 368, 0, 0, []),
  (52, .ireturn, 0, 0, [])],
  fdX9, [(294, fX9_isBook, 2, 9, 0), (253, fX9_right, 3, 9, 0), (290, fX9_within, 3, 2000, 0), (368, fX9_ways, 5, 9, 0)], [], [], [], 0)
noncomputable def fX9_there : aMF := a_fn none shp pX9_there 3 3
set_option maxRecDepth 20000 in
theorem kX9_there {l : Launch} {G : aG} (hZ : a_Z l G) : a_Con l G shp yX9_there (.code yX9_there cX9_there 3 (some .int)) 5 112 fX9_there :=
  a_mth none hZ.1 hZ.2.1 shp_len (fun _ h => nomatch h) hZ.2.2.1 (by decide +kernel) rfl (foX9 rfl) (a_cok_of trivial) (b_code [42,3,181,0,105,42,42,27,182,1,38,4,182,0,253,153,0,20,42,28,3,42,180,1,21,184,1,34,5,182,0,253,154,0,5,3,172,42,4,42,180,1,21,120,4,100,3,27,28,182,1,112,172] [] (by decide +kernel) (by decide +kernel) (by decide +kernel) (by decide +kernel)) rfl rfl (trivial) (⟨a_CQ_v hZ.2.1 (kX9_isBook hZ) lkX9_294 (a_CF_v TX9 62 wkX9_isBook lkX9_294 hdX9_isBook ⟨by decide, by decide⟩ rfl) rfl rfl,
    ⟨a_CQ_v hZ.2.1 (kX9_right hZ) lkX9_253 (a_CF_v TX9 62 wkX9_right lkX9_253 hdX9_right ⟨by decide, by decide⟩ rfl) rfl rfl,
    ⟨a_CQ_s hZ.2.1 (kX9_within hZ) lkX9_290 (a_CF_s wkX9_within lkX9_290 hdX9_within) rfl rfl,
    ⟨a_CQ_v hZ.2.1 (kX9_ways hZ) lkX9_368 (a_CF_v TX9 62 wkX9_ways lkX9_368 hdX9_ways ⟨by decide, by decide⟩ rfl) rfl rfl,
    trivial⟩⟩⟩⟩)
noncomputable def pX9_knot : aPrg := ([(0, .aload_n 0, 0, 0, []),
  (1, .iconst 0, 0, 0, []),
  (2, .putfield 105, 0, 0, []),
  (5, .iconst (-1), (-1), 0, []),
  (6, .istore_n 1, 0, 0, []),
  (7, .iconst 0, 0, 0, []),
  (8, .istore_n 2, 0, 0, []),
  (9, .iload_n 2, 0, 0, []),
  (10, .iconst 1, 1, 0, []),
  (11, .aload_n 0, 0, 0, []),
  (12, .getfield 277, 0, 0, []),
  (15, .ishl, 0, 0, []),
  (16, .if_icmp .ge 38, 0, 54, []),
  (19, .iload_n 1, 0, 0, []),
  (20, .iconst (-1), (-1), 0, []),
  (21, .if_icmp .eq 14, 0, 35, []),
  (24, .iload_n 2, 0, 0, []),
  (25, .invokestatic 359, 0, 0, []),
  (28, .iload_n 1, 0, 0, []),
  (29, .invokestatic 359, 0, 0, []),
  (32, .if_icmp .ge 16, 0, 48, []),
  (35, .aload_n 0, 0, 0, []),
  (36, .iload_n 2, 0, 0, []),
  (37, .iconst 1, 1, 0, []),
  (38, .iconst (-1), (-1), 0, []),
  (39, .iconst 0, 0, 0, []),
  (40, .invokevirtual 368, 0, 0, []),
  (43, .ifCond .ne 5, 0, 48, []),
  (46, .iload_n 2, 0, 0, []),
  (47, .istore_n 1, 0, 0, []),
  (48, .iinc 2 1, 1, 0, []),
  (51, .goto (-42), 0, 9, []),
  (54, .iload_n 1, 0, 0, []),
  (55, .ireturn, 0, 0, [])],
  fdX9, [(359, fX9_bits, 1, 2000, 0), (368, fX9_ways, 5, 9, 0)], [], [], [], 0)
noncomputable def fX9_knot : aMF := a_fn none shp pX9_knot 3 1
set_option maxRecDepth 20000 in
theorem kX9_knot {l : Launch} {G : aG} (hZ : a_Z l G) : a_Con l G shp yX9_knot (.code yX9_knot cX9_knot 3 (some .int)) 5 112 fX9_knot :=
  a_mth none hZ.1 hZ.2.1 shp_len (fun _ h => nomatch h) hZ.2.2.1 (by decide +kernel) rfl (foX9 rfl) (a_cok_of trivial) (b_code [42,3,181,0,105,2,60,3,61,28,4,42,180,1,21,120,162,0,38,27,2,159,0,14,28,184,1,103,27,184,1,103,162,0,16,42,28,4,2,3,182,1,112,154,0,5,28,60,132,2,1,167,255,214,27,172] [] (by decide +kernel) (by decide +kernel) (by decide +kernel) (by decide +kernel)) rfl rfl (trivial) (⟨a_CQ_s hZ.2.1 (kX9_bits hZ) lkX9_359 (a_CF_s wkX9_bits lkX9_359 hdX9_bits) rfl rfl,
    ⟨a_CQ_v hZ.2.1 (kX9_ways hZ) lkX9_368 (a_CF_v TX9 62 wkX9_ways lkX9_368 hdX9_ways ⟨by decide, by decide⟩ rfl) rfl rfl,
    trivial⟩⟩)
noncomputable def pX9_hands : aPrg := ([(0, .aload_n 0, 0, 0, []),
  (1, .iconst 0, 0, 0, []),
  (2, .putfield 105, 0, 0, []),
  (5, .aload_n 0, 0, 0, []),
  (6, .aload_n 0, 0, 0, []),
  (7, .iload_n 1, 0, 0, []),
  (8, .invokevirtual 294, 0, 0, []),
  (11, .ifCond .eq 12, 0, 23, []),
  (14, .iload_n 2, 0, 0, []),
  (15, .iconst (-1), (-1), 0, []),
  (16, .if_icmp .lt 7, 0, 23, []),
  (19, .iconst 1, 1, 0, []),
  (20, .goto 4, 0, 24, []),
  (23, .iconst 0, 0, 0, []),
  (24, .iconst 1, 1, 0, []),
  (25, .invokevirtual 253, 0, 0, []),
  (28, .ifCond .ne 5, 0, 33, []),
  (31, .iconst 0, 0, 0, []),
  (32, .ireturn, 0, 0, []),
  (33, .iconst 0, 0, 0, []),
  (34, .istore_n 3, 0, 0, []),
  (35, .aload_n 0, 0, 0, []),
  (36, .getfield 16, 0, 0, []),
  (39, .iload_n 1, 0, 0, []),
  (40, .iaload, 0, 0, []),
  (41, .istore 4, 0, 0, []),
  (43, .iload_n 2, 0, 0, []),
  (44, .ifCond .ne 6, 0, 50, []),
  (47, .iload 4, 0, 0, []),
  (49, .ireturn, 0, 0, []),
  (50, .iinc 3 1, 1, 0, []),
  (53, .iconst 0, 0, 0, []),
  (54, .istore 5, 0, 0, []),
  (56, .iload 5, 0, 0, []),
  (58, .aload_n 0, 0, 0, []),
  (59, .getfield 274, 0, 0, []),
  (62, .if_icmp .ge 94, 0, 156, []),
  (65, .aload_n 0, 0, 0, []),
  (66, .getfield 60, 0, 0, []),
  (69, .iconst 4, 4, 0, []),
  (70, .iload 5, 0, 0, []),
  (72, .imul, 0, 0, []),
  (73, .iconst 1, 1, 0, []),
  (74, .iadd, 0, 0, []),
  (75, .iaload, 0, 0, []),
  (76, .iload_n 1, 0, 0, []),
  (77, .if_icmp .ne 17, 0, 94, []),
  (80, .aload_n 0, 0, 0, []),
  (81, .getfield 60, 0, 0, []),
  (84, .iconst 4, 4, 0, []),
  (85, .iload 5, 0, 0, []),
  (87, .imul, 0, 0, []),
  (88, .iconst 3, 3, 0, []),
  (89, .iadd, 0, 0, []),
  (90, .iaload, 0, 0, []),
  (91, .goto 32, 0, 123, []),
  (94, .aload_n 0, 0, 0, []),
  (95, .getfield 60, 0, 0, []),
  (98, .iconst 4, 4, 0, []),
  (99, .iload 5, 0, 0, []),
  (101, .imul, 0, 0, []),
  (102, .iconst 2, 2, 0, []),
  (103, .iadd, 0, 0, []),
  (104, .iaload, 0, 0, []),
  (105, .iload_n 1, 0, 0, []),
  (106, .if_icmp .ne 15, 0, 121, []),
  (109, .aload_n 0, 0, 0, []),
  (110, .getfield 60, 0, 0, []),
  (113, .iconst 4, 4, 0, []),
  (114, .iload 5, 0, 0, []),
  (116, .imul, 0, 0, []),
  (117, .iaload, 0, 0, []),
  (118, .goto 5, 0, 123, []),
  (121, .iload 4, 0, 0, []),
  (123, .istore 6, 0, 0, []),
  (125, .iload 6, 0, 0, []),
  (127, .iload 4, 0, 0, []),
  (129, .if_icmp .ne 6, 0, 135, []),
  (132, .goto 18, 0, 150, []),
  (135, .iload 6, 0, 0, []),
  (137, .istore 4, 0, 0, []),
  (139, .iload_n 3, 0, 0, []),
  (140, .iload_n 2, 0, 0, []),
  (141, .if_icmp .ne 6, 0, 147, []),
  (144, .iload 4, 0, 0, []),
  (146, .ireturn, 0, 0, []),
  (147, .iinc 3 1, 1, 0, []),
  (150, .iinc 5 1, 1, 0, []),
  (153, .goto (-97), 0, 56, []),
  (156, .aload_n 0, 0, 0, []),
  (157, .iload_n 2, 0, 0, []),
  (158, .iconst (-1), (-1), 0, []),
  (159, .if_icmp .ne 7, 0, 166, []),
  (162, .iconst 1, 1, 0, []),
  (163, .goto 4, 0, 167, []),
  (166, .iconst 0, 0, 0, []),
  (167, .iconst 1, 1, 0, []),
  (168, .invokevirtual 253, 0, 0, []),
  (171, .ifCond .eq 7, 0, 178, []),
  (174, .iload_n 3, 0, 0, []),
  (175, .goto 4, 0, 179, []),
  (178, .iconst 0, 0, 0, []),
  (179, .ireturn, 0, 0, [])],
  fdX9, [(294, fX9_isBook, 2, 9, 0), (253, fX9_right, 3, 9, 0)], [], [], [], 0)
noncomputable def fX9_hands : aMF := a_fn none shp pX9_hands 7 3
set_option maxRecDepth 20000 in
theorem kX9_hands {l : Launch} {G : aG} (hZ : a_Z l G) : a_Con l G shp yX9_hands (.code yX9_hands cX9_hands 7 (some .int)) 2 38 fX9_hands :=
  a_mth none hZ.1 hZ.2.1 shp_len (fun _ h => nomatch h) hZ.2.2.1 (by decide +kernel) rfl (foX9 rfl) (a_cok_of trivial) (b_code [42,3,181,0,105,42,42,27,182,1,38,153,0,12,28,2,161,0,7,4,167,0,4,3,4,182,0,253,154,0,5,3,172,3,62,42,180,0,16,27,46,54,4,28,154,0,6,21,4,172,132,3,1,3,54,5,21,5,42,180,1,18,162,0,94,42,180,0,60,7,21,5,104,4,96,46,27,160,0,17,42,180,0,60,7,21,5,104,6,96,46,167,0,32,42,180,0,60,7,21,5,104,5,96,46,27,160,0,15,42,180,0,60,7,21,5,104,46,167,0,5,21,4,54,6,21,6,21,4,160,0,6,167,0,18,21,6,54,4,29,28,160,0,6,21,4,172,132,3,1,132,5,1,167,255,159,42,28,2,160,0,7,4,167,0,4,3,4,182,0,253,153,0,7,29,167,0,4,3,172] [] (by decide +kernel) (by decide +kernel) (by decide +kernel) (by decide +kernel)) rfl rfl (trivial) (⟨a_CQ_v hZ.2.1 (kX9_isBook hZ) lkX9_294 (a_CF_v TX9 62 wkX9_isBook lkX9_294 hdX9_isBook ⟨by decide, by decide⟩ rfl) rfl rfl,
    ⟨a_CQ_v hZ.2.1 (kX9_right hZ) lkX9_253 (a_CF_v TX9 62 wkX9_right lkX9_253 hdX9_right ⟨by decide, by decide⟩ rfl) rfl rfl,
    trivial⟩⟩)
noncomputable def pX9_image : aPrg := ([(0, .aload_n 0, 0, 0, []),
  (1, .iconst 0, 0, 0, []),
  (2, .putfield 105, 0, 0, []),
  (5, .aload_n 0, 0, 0, []),
  (6, .iconst 1, 1, 0, []),
  (7, .putfield 283, 0, 0, []),
  (10, .aload_n 0, 0, 0, []),
  (11, .aload_n 0, 0, 0, []),
  (12, .getfield 274, 0, 0, []),
  (15, .putfield 372, 0, 0, []),
  (18, .aload_n 0, 0, 0, []),
  (19, .aload_n 0, 0, 0, []),
  (20, .getfield 277, 0, 0, []),
  (23, .putfield 375, 0, 0, []),
  (26, .aload_n 0, 0, 0, []),
  (27, .aload_n 0, 0, 0, []),
  (28, .getfield 13, 0, 0, []),
  (31, .aload_n 0, 0, 0, []),
  (32, .getfield 96, 0, 0, []),
  (35, .invokevirtual 266, 0, 0, []),
  (38, .aload_n 0, 0, 0, []),
  (39, .aload_n 0, 0, 0, []),
  (40, .getfield 60, 0, 0, []),
  (43, .aload_n 0, 0, 0, []),
  (44, .getfield 99, 0, 0, []),
  (47, .invokevirtual 266, 0, 0, []),
  (50, .aload_n 0, 0, 0, []),
  (51, .aload_n 0, 0, 0, []),
  (52, .getfield 90, 0, 0, []),
  (55, .aload_n 0, 0, 0, []),
  (56, .getfield 102, 0, 0, []),
  (59, .invokevirtual 266, 0, 0, []),
  (62, .return_, 0, 0, [])],
  fdX9, [(266, fX9_copies, 3, 9, 1)], [], [], [], 2)
noncomputable def fX9_image : aMF := a_fn none shp pX9_image 1 1
set_option maxRecDepth 20000 in
theorem kX9_image {l : Launch} {G : aG} (hZ : a_Z l G) : a_Con l G shp yX9_image (.code yX9_image cX9_image 1 none) 2 39 fX9_image :=
  a_mth none hZ.1 hZ.2.1 shp_len (fun _ h => nomatch h) hZ.2.2.1 (by decide +kernel) rfl (foX9 rfl) (a_cok_of trivial) (b_code [42,3,181,0,105,42,4,181,1,27,42,42,180,1,18,181,1,116,42,42,180,1,21,181,1,119,42,42,180,0,13,42,180,0,96,182,1,10,42,42,180,0,60,42,180,0,99,182,1,10,42,42,180,0,90,42,180,0,102,182,1,10,177] [] (by decide +kernel) (by decide +kernel) (by decide +kernel) (by decide +kernel)) rfl rfl (trivial) (⟨a_CQ_v hZ.2.1 (kX9_copies hZ) lkX9_266 (a_CF_v TX9 62 wkX9_copies lkX9_266 hdX9_copies ⟨by decide, by decide⟩ rfl) rfl rfl,
    trivial⟩)
noncomputable def pX9_restore : aPrg := ([(0, .aload_n 0, 0, 0, []),
  (1, .iconst 0, 0, 0, []),
  (2, .putfield 105, 0, 0, []),
  (5, .aload_n 0, 0, 0, []),
  (6, .getfield 283, 0, 0, []),
  (9, .ifCond .ne 5, 0, 14, []),
  (12, .iconst 0, 0, 0, []),
  (13, .ireturn, 0, 0, []),
  (14, .aload_n 0, 0, 0, []),
  (15, .aload_n 0, 0, 0, []),
  (16, .getfield 372, 0, 0, []),
  (19, .putfield 274, 0, 0, []),
  (22, .aload_n 0, 0, 0, []),
  (23, .aload_n 0, 0, 0, []),
  (24, .getfield 375, 0, 0, []),
  (27, .putfield 277, 0, 0, []),
  (30, .aload_n 0, 0, 0, []),
  (31, .aload_n 0, 0, 0, []),
  (32, .getfield 96, 0, 0, []),
  (35, .aload_n 0, 0, 0, []),
  (36, .getfield 13, 0, 0, []),
  (39, .invokevirtual 266, 0, 0, []),
  (42, .aload_n 0, 0, 0, []),
  (43, .aload_n 0, 0, 0, []),
  (44, .getfield 99, 0, 0, []),
  (47, .aload_n 0, 0, 0, []),
  (48, .getfield 60, 0, 0, []),
  (51, .invokevirtual 266, 0, 0, []),
  (54, .aload_n 0, 0, 0, []),
  (55, .aload_n 0, 0, 0, []),
  (56, .getfield 102, 0, 0, []),
  (59, .aload_n 0, 0, 0, []),
  (60, .getfield 90, 0, 0, []),
  (63, .invokevirtual 266, 0, 0, []),
  (66, .iconst 1, 1, 0, []),
  (67, .ireturn, 0, 0, [])],
  fdX9, [(266, fX9_copies, 3, 9, 1)], [], [], [], 1)
noncomputable def fX9_restore : aMF := a_fn none shp pX9_restore 1 1
set_option maxRecDepth 20000 in
theorem kX9_restore {l : Launch} {G : aG} (hZ : a_Z l G) : a_Con l G shp yX9_restore (.code yX9_restore cX9_restore 1 (some .boolean)) 2 39 fX9_restore :=
  a_mth none hZ.1 hZ.2.1 shp_len (fun _ h => nomatch h) hZ.2.2.1 (by decide +kernel) rfl (foX9 rfl) (a_cok_of trivial) (b_code [42,3,181,0,105,42,180,1,27,154,0,5,3,172,42,42,180,1,116,181,1,18,42,42,180,1,119,181,1,21,42,42,180,0,96,42,180,0,13,182,1,10,42,42,180,0,99,42,180,0,60,182,1,10,42,42,180,0,102,42,180,0,90,182,1,10,4,172] [] (by decide +kernel) (by decide +kernel) (by decide +kernel) (by decide +kernel)) rfl rfl (trivial) (⟨a_CQ_v hZ.2.1 (kX9_copies hZ) lkX9_266 (a_CF_v TX9 62 wkX9_copies lkX9_266 hdX9_copies ⟨by decide, by decide⟩ rfl) rfl rfl,
    trivial⟩)
end
