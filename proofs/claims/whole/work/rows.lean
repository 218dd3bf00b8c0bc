section
-- ===== PART A: goes FIRST, ahead of the names: the tables' words, and 'selects' of the private methods out of them =====
/-- a private method of a class that the tables say can be made, by its rows of tables_1 -/
def lw_okq (q : MethodName × Nat) : Prop := (q.1.cls ≠ "java/lang/invoke/MethodHandle" ∧ q.1.cls ≠ "java/lang/invoke/VarHandle") ∧ Cond.instantiable q.1.cls q.2 ∈ tables_1 ∧ Cond.privateMethod q.1 ∈ tables_1 ∧ Cond.instanceMethod q.1 ∈ tables_1
theorem lw_p0 : lw_okq (⟨"AllHome$Huts", "addWords", "(III)I"⟩, 4) := ⟨⟨by decide +kernel, by decide +kernel⟩, List.mem_of_getElem? (i := 21) (by decide +kernel), List.mem_of_getElem? (i := 231) (by decide +kernel), List.mem_of_getElem? (i := 232) (by decide +kernel)⟩
theorem lw_p1 : lw_okq (⟨"AllHome", "isWay", "(I)Z"⟩, 12) := ⟨⟨by decide +kernel, by decide +kernel⟩, List.mem_of_getElem? (i := 13) (by decide +kernel), List.mem_of_getElem? (i := 278) (by decide +kernel), List.mem_of_getElem? (i := 279) (by decide +kernel)⟩
theorem lw_p2 : lw_okq (⟨"AllHome", "isRun", "(I)Z"⟩, 12) := ⟨⟨by decide +kernel, by decide +kernel⟩, List.mem_of_getElem? (i := 13) (by decide +kernel), List.mem_of_getElem? (i := 304) (by decide +kernel), List.mem_of_getElem? (i := 305) (by decide +kernel)⟩
theorem lw_p3 : lw_okq (⟨"AllHome$Rules", "goOn", "([II)I"⟩, 3) := ⟨⟨by decide +kernel, by decide +kernel⟩, List.mem_of_getElem? (i := 52) (by decide +kernel), List.mem_of_getElem? (i := 319) (by decide +kernel), List.mem_of_getElem? (i := 320) (by decide +kernel)⟩
theorem lw_p4 : lw_okq (⟨"AllHome$Rules", "send", "([III)I"⟩, 3) := ⟨⟨by decide +kernel, by decide +kernel⟩, List.mem_of_getElem? (i := 52) (by decide +kernel), List.mem_of_getElem? (i := 326) (by decide +kernel), List.mem_of_getElem? (i := 327) (by decide +kernel)⟩
theorem lw_p5 : lw_okq (⟨"AllHome$Rules", "comeWord", "([II)I"⟩, 3) := ⟨⟨by decide +kernel, by decide +kernel⟩, List.mem_of_getElem? (i := 52) (by decide +kernel), List.mem_of_getElem? (i := 336) (by decide +kernel), List.mem_of_getElem? (i := 337) (by decide +kernel)⟩
theorem lw_p6 : lw_okq (⟨"AllHome$Rules", "comeNote", "([II)I"⟩, 3) := ⟨⟨by decide +kernel, by decide +kernel⟩, List.mem_of_getElem? (i := 52) (by decide +kernel), List.mem_of_getElem? (i := 349) (by decide +kernel), List.mem_of_getElem? (i := 350) (by decide +kernel)⟩
theorem lw_p7 : lw_okq (⟨"AllHome$Rules", "takeSums", "([IIII)I"⟩, 3) := ⟨⟨by decide +kernel, by decide +kernel⟩, List.mem_of_getElem? (i := 52) (by decide +kernel), List.mem_of_getElem? (i := 356) (by decide +kernel), List.mem_of_getElem? (i := 357) (by decide +kernel)⟩
theorem lw_p8 : lw_okq (⟨"AllHome$Rules", "ask", "([II)I"⟩, 3) := ⟨⟨by decide +kernel, by decide +kernel⟩, List.mem_of_getElem? (i := 52) (by decide +kernel), List.mem_of_getElem? (i := 361) (by decide +kernel), List.mem_of_getElem? (i := 362) (by decide +kernel)⟩
theorem lw_p9 : lw_okq (⟨"AllHome$Rules", "leaveTree", "([I)I"⟩, 3) := ⟨⟨by decide +kernel, by decide +kernel⟩, List.mem_of_getElem? (i := 52) (by decide +kernel), List.mem_of_getElem? (i := 373) (by decide +kernel), List.mem_of_getElem? (i := 374) (by decide +kernel)⟩
theorem lw_p10 : lw_okq (⟨"AllHome$Rules", "seesAllHome", "([I)Z"⟩, 3) := ⟨⟨by decide +kernel, by decide +kernel⟩, List.mem_of_getElem? (i := 52) (by decide +kernel), List.mem_of_getElem? (i := 377) (by decide +kernel), List.mem_of_getElem? (i := 378) (by decide +kernel)⟩
theorem lw_p11 : lw_okq (⟨"AllHome$Run", "hutsAwake", "()I"⟩, 6) := ⟨⟨by decide +kernel, by decide +kernel⟩, List.mem_of_getElem? (i := 132) (by decide +kernel), List.mem_of_getElem? (i := 417) (by decide +kernel), List.mem_of_getElem? (i := 418) (by decide +kernel)⟩
theorem lw_p12 : lw_okq (⟨"AllHome", "goThrough", "(I)I"⟩, 12) := ⟨⟨by decide +kernel, by decide +kernel⟩, List.mem_of_getElem? (i := 13) (by decide +kernel), List.mem_of_getElem? (i := 459) (by decide +kernel), List.mem_of_getElem? (i := 460) (by decide +kernel)⟩
theorem lw_p13 : lw_okq (⟨"AllHome$Orders", "addSpare", "(II)I"⟩, 14) := ⟨⟨by decide +kernel, by decide +kernel⟩, List.mem_of_getElem? (i := 45) (by decide +kernel), List.mem_of_getElem? (i := 469) (by decide +kernel), List.mem_of_getElem? (i := 470) (by decide +kernel)⟩
theorem lw_p14 : lw_okq (⟨"AllHome$Orders", "numbersOf", "([II)I"⟩, 14) := ⟨⟨by decide +kernel, by decide +kernel⟩, List.mem_of_getElem? (i := 45) (by decide +kernel), List.mem_of_getElem? (i := 477) (by decide +kernel), List.mem_of_getElem? (i := 478) (by decide +kernel)⟩
theorem lw_p15 : lw_okq (⟨"AllHome$Orders", "tryStep", "(III)V"⟩, 14) := ⟨⟨by decide +kernel, by decide +kernel⟩, List.mem_of_getElem? (i := 45) (by decide +kernel), List.mem_of_getElem? (i := 481) (by decide +kernel), List.mem_of_getElem? (i := 482) (by decide +kernel)⟩
def lw_privs_1 : List (MethodName × Nat) := [(⟨"AllHome$Huts", "addWords", "(III)I"⟩, 4), (⟨"AllHome", "isWay", "(I)Z"⟩, 12), (⟨"AllHome", "isRun", "(I)Z"⟩, 12), (⟨"AllHome$Rules", "goOn", "([II)I"⟩, 3), (⟨"AllHome$Rules", "send", "([III)I"⟩, 3), (⟨"AllHome$Rules", "comeWord", "([II)I"⟩, 3), (⟨"AllHome$Rules", "comeNote", "([II)I"⟩, 3), (⟨"AllHome$Rules", "takeSums", "([IIII)I"⟩, 3), (⟨"AllHome$Rules", "ask", "([II)I"⟩, 3), (⟨"AllHome$Rules", "leaveTree", "([I)I"⟩, 3), (⟨"AllHome$Rules", "seesAllHome", "([I)Z"⟩, 3), (⟨"AllHome$Run", "hutsAwake", "()I"⟩, 6), (⟨"AllHome", "goThrough", "(I)I"⟩, 12), (⟨"AllHome$Orders", "addSpare", "(II)I"⟩, 14), (⟨"AllHome$Orders", "numbersOf", "([II)I"⟩, 14), (⟨"AllHome$Orders", "tryStep", "(III)V"⟩, 14)]
theorem lw_r1 : ∀ q ∈ lw_privs_1, lw_okq q := List.forall_mem_cons.mpr ⟨lw_p0, List.forall_mem_cons.mpr ⟨lw_p1, List.forall_mem_cons.mpr ⟨lw_p2, List.forall_mem_cons.mpr ⟨lw_p3, List.forall_mem_cons.mpr ⟨lw_p4, List.forall_mem_cons.mpr ⟨lw_p5, List.forall_mem_cons.mpr ⟨lw_p6, List.forall_mem_cons.mpr ⟨lw_p7, List.forall_mem_cons.mpr ⟨lw_p8, List.forall_mem_cons.mpr ⟨lw_p9, List.forall_mem_cons.mpr ⟨lw_p10, List.forall_mem_cons.mpr ⟨lw_p11, List.forall_mem_cons.mpr ⟨lw_p12, List.forall_mem_cons.mpr ⟨lw_p13, List.forall_mem_cons.mpr ⟨lw_p14, List.forall_mem_cons.mpr ⟨lw_p15, fun _ h => absurd h List.not_mem_nil⟩⟩⟩⟩⟩⟩⟩⟩⟩⟩⟩⟩⟩⟩⟩⟩
theorem lw_p16 : lw_okq (⟨"AllHome$Orders", "findSpare", "()I"⟩, 14) := ⟨⟨by decide +kernel, by decide +kernel⟩, List.mem_of_getElem? (i := 45) (by decide +kernel), List.mem_of_getElem? (i := 486) (by decide +kernel), List.mem_of_getElem? (i := 487) (by decide +kernel)⟩
theorem lw_p17 : lw_okq (⟨"AllHome$Orders", "firstSaying", "(Z)I"⟩, 14) := ⟨⟨by decide +kernel, by decide +kernel⟩, List.mem_of_getElem? (i := 45) (by decide +kernel), List.mem_of_getElem? (i := 509) (by decide +kernel), List.mem_of_getElem? (i := 510) (by decide +kernel)⟩
theorem lw_p18 : lw_okq (⟨"AllHome$Orders", "spreadCanSay", "()Z"⟩, 14) := ⟨⟨by decide +kernel, by decide +kernel⟩, List.mem_of_getElem? (i := 45) (by decide +kernel), List.mem_of_getElem? (i := 535) (by decide +kernel), List.mem_of_getElem? (i := 536) (by decide +kernel)⟩
theorem lw_p19 : lw_okq (⟨"AllHome$Acts", "perform", "(IIII)I"⟩, 4) := ⟨⟨by decide +kernel, by decide +kernel⟩, List.mem_of_getElem? (i := 112) (by decide +kernel), List.mem_of_getElem? (i := 559) (by decide +kernel), List.mem_of_getElem? (i := 560) (by decide +kernel)⟩
theorem lw_p20 : lw_okq (⟨"AllHome$Acts", "begun", "(I)V"⟩, 4) := ⟨⟨by decide +kernel, by decide +kernel⟩, List.mem_of_getElem? (i := 112) (by decide +kernel), List.mem_of_getElem? (i := 570) (by decide +kernel), List.mem_of_getElem? (i := 571) (by decide +kernel)⟩
theorem lw_p21 : lw_okq (⟨"AllHome", "wantPlace", "(II)I"⟩, 12) := ⟨⟨by decide +kernel, by decide +kernel⟩, List.mem_of_getElem? (i := 13) (by decide +kernel), List.mem_of_getElem? (i := 609) (by decide +kernel), List.mem_of_getElem? (i := 610) (by decide +kernel)⟩
theorem lw_p22 : lw_okq (⟨"AllHome$Shelf", "lowestBits", "(J)J"⟩, 4) := ⟨⟨by decide +kernel, by decide +kernel⟩, List.mem_of_getElem? (i := 158) (by decide +kernel), List.mem_of_getElem? (i := 621) (by decide +kernel), List.mem_of_getElem? (i := 622) (by decide +kernel)⟩
theorem lw_p23 : lw_okq (⟨"AllHomeModel", "faultOf", "(I)I"⟩, 33) := ⟨⟨by decide +kernel, by decide +kernel⟩, List.mem_of_getElem? (i := 665) (by decide +kernel), List.mem_of_getElem? (i := 783) (by decide +kernel), List.mem_of_getElem? (i := 784) (by decide +kernel)⟩
theorem lw_p24 : lw_okq (⟨"AllHomeModel", "isHut", "(I)Z"⟩, 33) := ⟨⟨by decide +kernel, by decide +kernel⟩, List.mem_of_getElem? (i := 665) (by decide +kernel), List.mem_of_getElem? (i := 798) (by decide +kernel), List.mem_of_getElem? (i := 799) (by decide +kernel)⟩
theorem lw_p25 : lw_okq (⟨"AllHomeModel", "lines", "(I)I"⟩, 33) := ⟨⟨by decide +kernel, by decide +kernel⟩, List.mem_of_getElem? (i := 665) (by decide +kernel), List.mem_of_getElem? (i := 803) (by decide +kernel), List.mem_of_getElem? (i := 804) (by decide +kernel)⟩
theorem lw_p26 : lw_okq (⟨"AllHomeModel", "inLine", "(III)I"⟩, 33) := ⟨⟨by decide +kernel, by decide +kernel⟩, List.mem_of_getElem? (i := 665) (by decide +kernel), List.mem_of_getElem? (i := 807) (by decide +kernel), List.mem_of_getElem? (i := 808) (by decide +kernel)⟩
theorem lw_p27 : lw_okq (⟨"AllHomeModel", "isWay", "(I)Z"⟩, 33) := ⟨⟨by decide +kernel, by decide +kernel⟩, List.mem_of_getElem? (i := 665) (by decide +kernel), List.mem_of_getElem? (i := 824) (by decide +kernel), List.mem_of_getElem? (i := 825) (by decide +kernel)⟩
theorem lw_p28 : lw_okq (⟨"AllHomeModel", "begin", "(I)V"⟩, 33) := ⟨⟨by decide +kernel, by decide +kernel⟩, List.mem_of_getElem? (i := 665) (by decide +kernel), List.mem_of_getElem? (i := 832) (by decide +kernel), List.mem_of_getElem? (i := 833) (by decide +kernel)⟩
theorem lw_p29 : lw_okq (⟨"AllHomeModel", "keepRun", "(I)V"⟩, 33) := ⟨⟨by decide +kernel, by decide +kernel⟩, List.mem_of_getElem? (i := 665) (by decide +kernel), List.mem_of_getElem? (i := 836) (by decide +kernel), List.mem_of_getElem? (i := 837) (by decide +kernel)⟩
theorem lw_p30 : lw_okq (⟨"AllHomeModel", "isRun", "(I)Z"⟩, 33) := ⟨⟨by decide +kernel, by decide +kernel⟩, List.mem_of_getElem? (i := 665) (by decide +kernel), List.mem_of_getElem? (i := 844) (by decide +kernel), List.mem_of_getElem? (i := 845) (by decide +kernel)⟩
theorem lw_p31 : lw_okq (⟨"AllHomeModel", "stepOf", "(III)I"⟩, 33) := ⟨⟨by decide +kernel, by decide +kernel⟩, List.mem_of_getElem? (i := 665) (by decide +kernel), List.mem_of_getElem? (i := 848) (by decide +kernel), List.mem_of_getElem? (i := 849) (by decide +kernel)⟩
def lw_privs_2 : List (MethodName × Nat) := [(⟨"AllHome$Orders", "findSpare", "()I"⟩, 14), (⟨"AllHome$Orders", "firstSaying", "(Z)I"⟩, 14), (⟨"AllHome$Orders", "spreadCanSay", "()Z"⟩, 14), (⟨"AllHome$Acts", "perform", "(IIII)I"⟩, 4), (⟨"AllHome$Acts", "begun", "(I)V"⟩, 4), (⟨"AllHome", "wantPlace", "(II)I"⟩, 12), (⟨"AllHome$Shelf", "lowestBits", "(J)J"⟩, 4), (⟨"AllHomeModel", "faultOf", "(I)I"⟩, 33), (⟨"AllHomeModel", "isHut", "(I)Z"⟩, 33), (⟨"AllHomeModel", "lines", "(I)I"⟩, 33), (⟨"AllHomeModel", "inLine", "(III)I"⟩, 33), (⟨"AllHomeModel", "isWay", "(I)Z"⟩, 33), (⟨"AllHomeModel", "begin", "(I)V"⟩, 33), (⟨"AllHomeModel", "keepRun", "(I)V"⟩, 33), (⟨"AllHomeModel", "isRun", "(I)Z"⟩, 33), (⟨"AllHomeModel", "stepOf", "(III)I"⟩, 33)]
theorem lw_r2 : ∀ q ∈ lw_privs_2, lw_okq q := List.forall_mem_cons.mpr ⟨lw_p16, List.forall_mem_cons.mpr ⟨lw_p17, List.forall_mem_cons.mpr ⟨lw_p18, List.forall_mem_cons.mpr ⟨lw_p19, List.forall_mem_cons.mpr ⟨lw_p20, List.forall_mem_cons.mpr ⟨lw_p21, List.forall_mem_cons.mpr ⟨lw_p22, List.forall_mem_cons.mpr ⟨lw_p23, List.forall_mem_cons.mpr ⟨lw_p24, List.forall_mem_cons.mpr ⟨lw_p25, List.forall_mem_cons.mpr ⟨lw_p26, List.forall_mem_cons.mpr ⟨lw_p27, List.forall_mem_cons.mpr ⟨lw_p28, List.forall_mem_cons.mpr ⟨lw_p29, List.forall_mem_cons.mpr ⟨lw_p30, List.forall_mem_cons.mpr ⟨lw_p31, fun _ h => absurd h List.not_mem_nil⟩⟩⟩⟩⟩⟩⟩⟩⟩⟩⟩⟩⟩⟩⟩⟩
theorem lw_p32 : lw_okq (⟨"AllHomeModel", "takeRun", "(I)V"⟩, 33) := ⟨⟨by decide +kernel, by decide +kernel⟩, List.mem_of_getElem? (i := 665) (by decide +kernel), List.mem_of_getElem? (i := 852) (by decide +kernel), List.mem_of_getElem? (i := 853) (by decide +kernel)⟩
theorem lw_p33 : lw_okq (⟨"AllHomeModel", "doStep", "(II)I"⟩, 33) := ⟨⟨by decide +kernel, by decide +kernel⟩, List.mem_of_getElem? (i := 665) (by decide +kernel), List.mem_of_getElem? (i := 856) (by decide +kernel), List.mem_of_getElem? (i := 857) (by decide +kernel)⟩
theorem lw_p34 : lw_okq (⟨"AllHomeModel", "goOn", "(I)Z"⟩, 33) := ⟨⟨by decide +kernel, by decide +kernel⟩, List.mem_of_getElem? (i := 665) (by decide +kernel), List.mem_of_getElem? (i := 860) (by decide +kernel), List.mem_of_getElem? (i := 861) (by decide +kernel)⟩
theorem lw_p35 : lw_okq (⟨"AllHomeModel", "of", "(II)I"⟩, 33) := ⟨⟨by decide +kernel, by decide +kernel⟩, List.mem_of_getElem? (i := 665) (by decide +kernel), List.mem_of_getElem? (i := 864) (by decide +kernel), List.mem_of_getElem? (i := 865) (by decide +kernel)⟩
theorem lw_p36 : lw_okq (⟨"AllHomeModel", "sendWord", "(II)V"⟩, 33) := ⟨⟨by decide +kernel, by decide +kernel⟩, List.mem_of_getElem? (i := 665) (by decide +kernel), List.mem_of_getElem? (i := 868) (by decide +kernel), List.mem_of_getElem? (i := 869) (by decide +kernel)⟩
theorem lw_p37 : lw_okq (⟨"AllHomeModel", "add", "(III)V"⟩, 33) := ⟨⟨by decide +kernel, by decide +kernel⟩, List.mem_of_getElem? (i := 665) (by decide +kernel), List.mem_of_getElem? (i := 872) (by decide +kernel), List.mem_of_getElem? (i := 873) (by decide +kernel)⟩
theorem lw_p38 : lw_okq (⟨"AllHomeModel", "putLast", "(IIII)V"⟩, 33) := ⟨⟨by decide +kernel, by decide +kernel⟩, List.mem_of_getElem? (i := 665) (by decide +kernel), List.mem_of_getElem? (i := 882) (by decide +kernel), List.mem_of_getElem? (i := 883) (by decide +kernel)⟩
theorem lw_p39 : lw_okq (⟨"AllHomeModel", "become", "(III)V"⟩, 33) := ⟨⟨by decide +kernel, by decide +kernel⟩, List.mem_of_getElem? (i := 665) (by decide +kernel), List.mem_of_getElem? (i := 886) (by decide +kernel), List.mem_of_getElem? (i := 887) (by decide +kernel)⟩
theorem lw_p40 : lw_okq (⟨"AllHomeModel", "sendNote", "(III)V"⟩, 33) := ⟨⟨by decide +kernel, by decide +kernel⟩, List.mem_of_getElem? (i := 665) (by decide +kernel), List.mem_of_getElem? (i := 890) (by decide +kernel), List.mem_of_getElem? (i := 891) (by decide +kernel)⟩
theorem lw_p41 : lw_okq (⟨"AllHomeModel", "comes", "(I)Z"⟩, 33) := ⟨⟨by decide +kernel, by decide +kernel⟩, List.mem_of_getElem? (i := 665) (by decide +kernel), List.mem_of_getElem? (i := 894) (by decide +kernel), List.mem_of_getElem? (i := 895) (by decide +kernel)⟩
theorem lw_p42 : lw_okq (⟨"AllHomeModel", "words", "()I"⟩, 33) := ⟨⟨by decide +kernel, by decide +kernel⟩, List.mem_of_getElem? (i := 665) (by decide +kernel), List.mem_of_getElem? (i := 898) (by decide +kernel), List.mem_of_getElem? (i := 899) (by decide +kernel)⟩
theorem lw_p43 : lw_okq (⟨"AllHomeModel", "takeOut", "(II)V"⟩, 33) := ⟨⟨by decide +kernel, by decide +kernel⟩, List.mem_of_getElem? (i := 665) (by decide +kernel), List.mem_of_getElem? (i := 902) (by decide +kernel), List.mem_of_getElem? (i := 903) (by decide +kernel)⟩
theorem lw_p44 : lw_okq (⟨"AllHomeModel", "noteComes", "(I)Z"⟩, 33) := ⟨⟨by decide +kernel, by decide +kernel⟩, List.mem_of_getElem? (i := 665) (by decide +kernel), List.mem_of_getElem? (i := 906) (by decide +kernel), List.mem_of_getElem? (i := 907) (by decide +kernel)⟩
theorem lw_p45 : lw_okq (⟨"AllHomeModel", "notes", "()I"⟩, 33) := ⟨⟨by decide +kernel, by decide +kernel⟩, List.mem_of_getElem? (i := 665) (by decide +kernel), List.mem_of_getElem? (i := 910) (by decide +kernel), List.mem_of_getElem? (i := 911) (by decide +kernel)⟩
theorem lw_p46 : lw_okq (⟨"AllHomeModel", "stoneAt", "(III)V"⟩, 33) := ⟨⟨by decide +kernel, by decide +kernel⟩, List.mem_of_getElem? (i := 665) (by decide +kernel), List.mem_of_getElem? (i := 914) (by decide +kernel), List.mem_of_getElem? (i := 915) (by decide +kernel)⟩
theorem lw_p47 : lw_okq (⟨"AllHomeModel", "sumsAt", "(III)V"⟩, 33) := ⟨⟨by decide +kernel, by decide +kernel⟩, List.mem_of_getElem? (i := 665) (by decide +kernel), List.mem_of_getElem? (i := 918) (by decide +kernel), List.mem_of_getElem? (i := 919) (by decide +kernel)⟩
def lw_privs_3 : List (MethodName × Nat) := [(⟨"AllHomeModel", "takeRun", "(I)V"⟩, 33), (⟨"AllHomeModel", "doStep", "(II)I"⟩, 33), (⟨"AllHomeModel", "goOn", "(I)Z"⟩, 33), (⟨"AllHomeModel", "of", "(II)I"⟩, 33), (⟨"AllHomeModel", "sendWord", "(II)V"⟩, 33), (⟨"AllHomeModel", "add", "(III)V"⟩, 33), (⟨"AllHomeModel", "putLast", "(IIII)V"⟩, 33), (⟨"AllHomeModel", "become", "(III)V"⟩, 33), (⟨"AllHomeModel", "sendNote", "(III)V"⟩, 33), (⟨"AllHomeModel", "comes", "(I)Z"⟩, 33), (⟨"AllHomeModel", "words", "()I"⟩, 33), (⟨"AllHomeModel", "takeOut", "(II)V"⟩, 33), (⟨"AllHomeModel", "noteComes", "(I)Z"⟩, 33), (⟨"AllHomeModel", "notes", "()I"⟩, 33), (⟨"AllHomeModel", "stoneAt", "(III)V"⟩, 33), (⟨"AllHomeModel", "sumsAt", "(III)V"⟩, 33)]
theorem lw_r3 : ∀ q ∈ lw_privs_3, lw_okq q := List.forall_mem_cons.mpr ⟨lw_p32, List.forall_mem_cons.mpr ⟨lw_p33, List.forall_mem_cons.mpr ⟨lw_p34, List.forall_mem_cons.mpr ⟨lw_p35, List.forall_mem_cons.mpr ⟨lw_p36, List.forall_mem_cons.mpr ⟨lw_p37, List.forall_mem_cons.mpr ⟨lw_p38, List.forall_mem_cons.mpr ⟨lw_p39, List.forall_mem_cons.mpr ⟨lw_p40, List.forall_mem_cons.mpr ⟨lw_p41, List.forall_mem_cons.mpr ⟨lw_p42, List.forall_mem_cons.mpr ⟨lw_p43, List.forall_mem_cons.mpr ⟨lw_p44, List.forall_mem_cons.mpr ⟨lw_p45, List.forall_mem_cons.mpr ⟨lw_p46, List.forall_mem_cons.mpr ⟨lw_p47, fun _ h => absurd h List.not_mem_nil⟩⟩⟩⟩⟩⟩⟩⟩⟩⟩⟩⟩⟩⟩⟩⟩
theorem lw_p48 : lw_okq (⟨"AllHomeModel", "asks", "(I)Z"⟩, 33) := ⟨⟨by decide +kernel, by decide +kernel⟩, List.mem_of_getElem? (i := 665) (by decide +kernel), List.mem_of_getElem? (i := 922) (by decide +kernel), List.mem_of_getElem? (i := 923) (by decide +kernel)⟩
theorem lw_p49 : lw_okq (⟨"AllHomeModel", "behind", "()V"⟩, 33) := ⟨⟨by decide +kernel, by decide +kernel⟩, List.mem_of_getElem? (i := 665) (by decide +kernel), List.mem_of_getElem? (i := 926) (by decide +kernel), List.mem_of_getElem? (i := 927) (by decide +kernel)⟩
theorem lw_p50 : lw_okq (⟨"AllHomeModel", "isOver", "()Z"⟩, 33) := ⟨⟨by decide +kernel, by decide +kernel⟩, List.mem_of_getElem? (i := 665) (by decide +kernel), List.mem_of_getElem? (i := 930) (by decide +kernel), List.mem_of_getElem? (i := 931) (by decide +kernel)⟩
theorem lw_p51 : lw_okq (⟨"AllHomeModel", "noOrders", "(I)I"⟩, 33) := ⟨⟨by decide +kernel, by decide +kernel⟩, List.mem_of_getElem? (i := 665) (by decide +kernel), List.mem_of_getElem? (i := 969) (by decide +kernel), List.mem_of_getElem? (i := 970) (by decide +kernel)⟩
theorem lw_p52 : lw_okq (⟨"AllHomeModel", "findAll", "(I)I"⟩, 33) := ⟨⟨by decide +kernel, by decide +kernel⟩, List.mem_of_getElem? (i := 665) (by decide +kernel), List.mem_of_getElem? (i := 973) (by decide +kernel), List.mem_of_getElem? (i := 974) (by decide +kernel)⟩
theorem lw_p53 : lw_okq (⟨"AllHomeModel", "keepState", "(II)V"⟩, 33) := ⟨⟨by decide +kernel, by decide +kernel⟩, List.mem_of_getElem? (i := 665) (by decide +kernel), List.mem_of_getElem? (i := 977) (by decide +kernel), List.mem_of_getElem? (i := 978) (by decide +kernel)⟩
theorem lw_p54 : lw_okq (⟨"AllHomeModel", "goFrom", "(I)V"⟩, 33) := ⟨⟨by decide +kernel, by decide +kernel⟩, List.mem_of_getElem? (i := 665) (by decide +kernel), List.mem_of_getElem? (i := 981) (by decide +kernel), List.mem_of_getElem? (i := 982) (by decide +kernel)⟩
theorem lw_p55 : lw_okq (⟨"AllHomeModel", "bringBack", "(I)V"⟩, 33) := ⟨⟨by decide +kernel, by decide +kernel⟩, List.mem_of_getElem? (i := 665) (by decide +kernel), List.mem_of_getElem? (i := 985) (by decide +kernel), List.mem_of_getElem? (i := 986) (by decide +kernel)⟩
theorem lw_p56 : lw_okq (⟨"AllHomeModel", "findState", "()I"⟩, 33) := ⟨⟨by decide +kernel, by decide +kernel⟩, List.mem_of_getElem? (i := 665) (by decide +kernel), List.mem_of_getElem? (i := 989) (by decide +kernel), List.mem_of_getElem? (i := 990) (by decide +kernel)⟩
theorem lw_p57 : lw_okq (⟨"AllHomeModel", "stepsTo", "(I)I"⟩, 33) := ⟨⟨by decide +kernel, by decide +kernel⟩, List.mem_of_getElem? (i := 665) (by decide +kernel), List.mem_of_getElem? (i := 997) (by decide +kernel), List.mem_of_getElem? (i := 998) (by decide +kernel)⟩
theorem lw_p58 : lw_okq (⟨"AllHomeModel", "workMany", "()I"⟩, 33) := ⟨⟨by decide +kernel, by decide +kernel⟩, List.mem_of_getElem? (i := 665) (by decide +kernel), List.mem_of_getElem? (i := 1009) (by decide +kernel), List.mem_of_getElem? (i := 1010) (by decide +kernel)⟩
theorem lw_p59 : lw_okq (⟨"AllHomeModel", "worksAlike", "(II)Z"⟩, 33) := ⟨⟨by decide +kernel, by decide +kernel⟩, List.mem_of_getElem? (i := 665) (by decide +kernel), List.mem_of_getElem? (i := 1013) (by decide +kernel), List.mem_of_getElem? (i := 1014) (by decide +kernel)⟩
theorem lw_p60 : lw_okq (⟨"AllHomeModel", "sends", "(II)I"⟩, 33) := ⟨⟨by decide +kernel, by decide +kernel⟩, List.mem_of_getElem? (i := 665) (by decide +kernel), List.mem_of_getElem? (i := 1022) (by decide +kernel), List.mem_of_getElem? (i := 1023) (by decide +kernel)⟩
theorem lw_p61 : lw_okq (⟨"AllHomeModel", "ranBody", "(I)V"⟩, 33) := ⟨⟨by decide +kernel, by decide +kernel⟩, List.mem_of_getElem? (i := 665) (by decide +kernel), List.mem_of_getElem? (i := 1026) (by decide +kernel), List.mem_of_getElem? (i := 1027) (by decide +kernel)⟩
theorem lw_p62 : lw_okq (⟨"AllHomeModel", "asksOf", "(II)I"⟩, 33) := ⟨⟨by decide +kernel, by decide +kernel⟩, List.mem_of_getElem? (i := 665) (by decide +kernel), List.mem_of_getElem? (i := 1030) (by decide +kernel), List.mem_of_getElem? (i := 1031) (by decide +kernel)⟩
theorem lw_p63 : lw_okq (⟨"AllHomeModel", "owes", "(II)I"⟩, 33) := ⟨⟨by decide +kernel, by decide +kernel⟩, List.mem_of_getElem? (i := 665) (by decide +kernel), List.mem_of_getElem? (i := 1034) (by decide +kernel), List.mem_of_getElem? (i := 1035) (by decide +kernel)⟩
def lw_privs_4 : List (MethodName × Nat) := [(⟨"AllHomeModel", "asks", "(I)Z"⟩, 33), (⟨"AllHomeModel", "behind", "()V"⟩, 33), (⟨"AllHomeModel", "isOver", "()Z"⟩, 33), (⟨"AllHomeModel", "noOrders", "(I)I"⟩, 33), (⟨"AllHomeModel", "findAll", "(I)I"⟩, 33), (⟨"AllHomeModel", "keepState", "(II)V"⟩, 33), (⟨"AllHomeModel", "goFrom", "(I)V"⟩, 33), (⟨"AllHomeModel", "bringBack", "(I)V"⟩, 33), (⟨"AllHomeModel", "findState", "()I"⟩, 33), (⟨"AllHomeModel", "stepsTo", "(I)I"⟩, 33), (⟨"AllHomeModel", "workMany", "()I"⟩, 33), (⟨"AllHomeModel", "worksAlike", "(II)Z"⟩, 33), (⟨"AllHomeModel", "sends", "(II)I"⟩, 33), (⟨"AllHomeModel", "ranBody", "(I)V"⟩, 33), (⟨"AllHomeModel", "asksOf", "(II)I"⟩, 33), (⟨"AllHomeModel", "owes", "(II)I"⟩, 33)]
theorem lw_r4 : ∀ q ∈ lw_privs_4, lw_okq q := List.forall_mem_cons.mpr ⟨lw_p48, List.forall_mem_cons.mpr ⟨lw_p49, List.forall_mem_cons.mpr ⟨lw_p50, List.forall_mem_cons.mpr ⟨lw_p51, List.forall_mem_cons.mpr ⟨lw_p52, List.forall_mem_cons.mpr ⟨lw_p53, List.forall_mem_cons.mpr ⟨lw_p54, List.forall_mem_cons.mpr ⟨lw_p55, List.forall_mem_cons.mpr ⟨lw_p56, List.forall_mem_cons.mpr ⟨lw_p57, List.forall_mem_cons.mpr ⟨lw_p58, List.forall_mem_cons.mpr ⟨lw_p59, List.forall_mem_cons.mpr ⟨lw_p60, List.forall_mem_cons.mpr ⟨lw_p61, List.forall_mem_cons.mpr ⟨lw_p62, List.forall_mem_cons.mpr ⟨lw_p63, fun _ h => absurd h List.not_mem_nil⟩⟩⟩⟩⟩⟩⟩⟩⟩⟩⟩⟩⟩⟩⟩⟩
theorem lw_p64 : lw_okq (⟨"AllHomeModel", "tells", "(II)I"⟩, 33) := ⟨⟨by decide +kernel, by decide +kernel⟩, List.mem_of_getElem? (i := 665) (by decide +kernel), List.mem_of_getElem? (i := 1038) (by decide +kernel), List.mem_of_getElem? (i := 1039) (by decide +kernel)⟩
theorem lw_p65 : lw_okq (⟨"AllHomeModel", "refusal", "(II)I"⟩, 33) := ⟨⟨by decide +kernel, by decide +kernel⟩, List.mem_of_getElem? (i := 665) (by decide +kernel), List.mem_of_getElem? (i := 1058) (by decide +kernel), List.mem_of_getElem? (i := 1059) (by decide +kernel)⟩
def lw_privs_5 : List (MethodName × Nat) := [(⟨"AllHomeModel", "tells", "(II)I"⟩, 33), (⟨"AllHomeModel", "refusal", "(II)I"⟩, 33)]
theorem lw_r5 : ∀ q ∈ lw_privs_5, lw_okq q := List.forall_mem_cons.mpr ⟨lw_p64, List.forall_mem_cons.mpr ⟨lw_p65, fun _ h => absurd h List.not_mem_nil⟩⟩
def lw_privs : List (MethodName × Nat) := lw_privs_1 ++ (lw_privs_2 ++ (lw_privs_3 ++ (lw_privs_4 ++ (lw_privs_5))))
def lw_tbl : List Cond := k2_sels lw_privs ++ tables_1
theorem lw_privs_ok : ∀ q ∈ lw_privs, lw_okq q := by
  show ∀ q ∈ lw_privs_1 ++ (lw_privs_2 ++ (lw_privs_3 ++ (lw_privs_4 ++ (lw_privs_5)))), lw_okq q
  exact List.forall_mem_append.mpr ⟨lw_r1, List.forall_mem_append.mpr ⟨lw_r2, List.forall_mem_append.mpr ⟨lw_r3, List.forall_mem_append.mpr ⟨lw_r4, lw_r5⟩⟩⟩⟩
end
section
/-- the words that every warm state keeps -/
def zTb : List Cond := lw_tbl.filter goodWord
theorem zTb_in {w : Cond} (h : w ∈ lw_tbl) (hg : goodWord w = true) : w ∈ zTb := List.mem_filter.mpr ⟨h, hg⟩
theorem zTb_lw {w : Cond} (h : w ∈ zTb) : w ∈ lw_tbl := (List.mem_filter.mp h).1
/-- the words on nest mates -/
def zNs : List Cond := [(Jvm.Cond.methodLinkNest "AllHome" (15 : Nat) ({ cls := "AllHome$Huts", name := "<init>", desc := "()V" } : Jvm.MethodName) "AllHome"), (Jvm.Cond.methodLinkNest "AllHome" (46 : Nat) ({ cls := "AllHome$Acts", name := "<init>", desc := "()V" } : Jvm.MethodName) "AllHome"), (Jvm.Cond.methodLinkNest "AllHome" (58 : Nat) ({ cls := "AllHome$Shelf", name := "<init>", desc := "()V" } : Jvm.MethodName) "AllHome"), (Jvm.Cond.methodLinkNest "AllHome$Rules" (19 : Nat) ({ cls := "AllHome", name := "isKind", desc := "(I)Z" } : Jvm.MethodName) "AllHome"), (Jvm.Cond.fieldLinkNest "AllHome$Rules" (26 : Nat) "AllHome" "FAMILY" "[I" "AllHome"), (Jvm.Cond.methodLinkNest "AllHome$Rules" (104 : Nat) ({ cls := "AllHome", name := "isUnder", desc := "(II)Z" } : Jvm.MethodName) "AllHome"), (Jvm.Cond.methodLinkNest "AllHome$Run" (56 : Nat) ({ cls := "AllHome", name := "isOver", desc := "([I)Z" } : Jvm.MethodName) "AllHome"), (Jvm.Cond.methodLinkNest "AllHome$Orders" (112 : Nat) ({ cls := "AllHome", name := "isOver", desc := "([I)Z" } : Jvm.MethodName) "AllHome"), (Jvm.Cond.methodLinkNest "AllHome$Acts" (33 : Nat) ({ cls := "AllHome", name := "isKind", desc := "(I)Z" } : Jvm.MethodName) "AllHome"), (Jvm.Cond.fieldLinkNest "AllHome$Acts" (37 : Nat) "AllHome" "ABOVE" "[I" "AllHome")]
theorem zNs_in : ∀ w ∈ zNs, w ∈ lw_tbl := by decide +kernel
theorem zNs_on : ∀ w ∈ zNs, w.onTables = true := by decide +kernel
theorem zNs_warm {s U : State} (hW : s.WarmedH U.vm) (h : ∀ w ∈ zNs, va_Nw w s) : ∀ w ∈ zNs, va_Nw w U := by
  unfold zNs at h ⊢
  simp only [List.forall_mem_cons] at h ⊢
  obtain ⟨h0, h1, h2, h3, h4, h5, h6, h7, h8, h9, -⟩ := h
  exact ⟨va_Nw.warmM hW h0, va_Nw.warmM hW h1, va_Nw.warmM hW h2, va_Nw.warmM hW h3, va_Nw.warmF hW h4, va_Nw.warmM hW h5, va_Nw.warmM hW h6, va_Nw.warmM hW h7, va_Nw.warmM hW h8, va_Nw.warmF hW h9, fun _ h => absurd h List.not_mem_nil⟩
-- the classes: names, fields in the order of their numbers here, types; which words of the tables speak of them
def nR0 : String := "AllHome$Acts"
def nT0 : u_T := fun k => match k with
  | 0 => ("AllHome$Acts", "traced", "[I", true)
  | 1 => ("AllHome$Acts", "ran", "I", false)
  | 2 => ("AllHome$Acts", "kind", "I", false)
  | _ => ("AllHome$Acts", "number", "I", false)
def nY0 : Nat → FieldType := fun k => match k with
  | 0 => (.array .int)
  | 1 => .int
  | 2 => .int
  | _ => .int
theorem nN0 : ∀ a, a < 4 → ∀ b, b < 4 → a ≠ b → (nT0 a).2.1 ≠ (nT0 b).2.1 := by decide +kernel
theorem nP0 : ∀ k, k < 4 → parseFieldDescriptor (nT0 k).2.2.1 = some (nY0 k) := by decide +kernel
theorem nI0 : ∀ w ∈ u_ws nR0 nT0 4, w ∈ zTb := by decide +kernel
def nR1 : String := "AllHome$Huts"
def nT1 : u_T := fun k => match k with
  | 0 => ("AllHome$Huts", "goals", "[[I", true)
  | 1 => ("AllHome$Huts", "starts", "[[I", true)
  | 2 => ("AllHome$Huts", "lines", "[I", true)
  | _ => ("AllHome$Huts", "size", "I", false)
def nY1 : Nat → FieldType := fun k => match k with
  | 0 => (.array (.array .int))
  | 1 => (.array (.array .int))
  | 2 => (.array .int)
  | _ => .int
theorem nN1 : ∀ a, a < 4 → ∀ b, b < 4 → a ≠ b → (nT1 a).2.1 ≠ (nT1 b).2.1 := by decide +kernel
theorem nP1 : ∀ k, k < 4 → parseFieldDescriptor (nT1 k).2.2.1 = some (nY1 k) := by decide +kernel
theorem nI1 : ∀ w ∈ u_ws nR1 nT1 4, w ∈ zTb := by decide +kernel
def nR2 : String := "AllHome$Orders"
def nT2 : u_T := fun k => match k with
  | 0 => ("AllHome$Orders", "huts", "LAllHome$Huts;", true)
  | 1 => ("AllHome$Orders", "rules", "LAllHome$Rules;", true)
  | 2 => ("AllHome$Orders", "found", "[[I", true)
  | 3 => ("AllHome$Orders", "prints", "[I", true)
  | 4 => ("AllHome$Orders", "ahead", "[I", true)
  | 5 => ("AllHome$Orders", "stepHere", "[I", true)
  | 6 => ("AllHome$Orders", "depth", "[I", true)
  | 7 => ("AllHome$Orders", "next", "[[I", true)
  | 8 => ("AllHome$Orders", "nexts", "[I", true)
  | 9 => ("AllHome$Orders", "canSay", "[Z", true)
  | 10 => ("AllHome$Orders", "spare", "[I", true)
  | 11 => ("AllHome$Orders", "size", "I", false)
  | 12 => ("AllHome$Orders", "big", "Z", false)
  | _ => ("AllHome$Orders", "explored", "I", false)
def nY2 : Nat → FieldType := fun k => match k with
  | 0 => (.object "AllHome$Huts")
  | 1 => (.object "AllHome$Rules")
  | 2 => (.array (.array .int))
  | 3 => (.array .int)
  | 4 => (.array .int)
  | 5 => (.array .int)
  | 6 => (.array .int)
  | 7 => (.array (.array .int))
  | 8 => (.array .int)
  | 9 => (.array .boolean)
  | 10 => (.array .int)
  | 11 => .int
  | 12 => .boolean
  | _ => .int
theorem nN2 : ∀ a, a < 14 → ∀ b, b < 14 → a ≠ b → (nT2 a).2.1 ≠ (nT2 b).2.1 := by decide +kernel
theorem nP2 : ∀ k, k < 14 → parseFieldDescriptor (nT2 k).2.2.1 = some (nY2 k) := by decide +kernel
theorem nI2 : ∀ w ∈ u_ws nR2 nT2 14, w ∈ zTb := by decide +kernel
def nR3 : String := "AllHome$Rules"
def nT3 : u_T := fun k => match k with
  | 0 => ("AllHome$Rules", "huts", "LAllHome$Huts;", true)
  | 1 => ("AllHome$Rules", "kind", "I", false)
  | _ => ("AllHome$Rules", "family", "I", false)
def nY3 : Nat → FieldType := fun k => match k with
  | 0 => (.object "AllHome$Huts")
  | 1 => .int
  | _ => .int
theorem nN3 : ∀ a, a < 3 → ∀ b, b < 3 → a ≠ b → (nT3 a).2.1 ≠ (nT3 b).2.1 := by decide +kernel
theorem nP3 : ∀ k, k < 3 → parseFieldDescriptor (nT3 k).2.2.1 = some (nY3 k) := by decide +kernel
theorem nI3 : ∀ w ∈ u_ws nR3 nT3 3, w ∈ zTb := by decide +kernel
def nR4 : String := "AllHome$Run"
def nT4 : u_T := fun k => match k with
  | 0 => ("AllHome$Run", "rules", "LAllHome$Rules;", true)
  | 1 => ("AllHome$Run", "cells", "[I", true)
  | 2 => ("AllHome$Run", "way", "I", false)
  | 3 => ("AllHome$Run", "done", "I", false)
  | 4 => ("AllHome$Run", "saidAt", "I", false)
  | _ => ("AllHome$Run", "overAt", "I", false)
def nY4 : Nat → FieldType := fun k => match k with
  | 0 => (.object "AllHome$Rules")
  | 1 => (.array .int)
  | 2 => .int
  | 3 => .int
  | 4 => .int
  | _ => .int
theorem nN4 : ∀ a, a < 6 → ∀ b, b < 6 → a ≠ b → (nT4 a).2.1 ≠ (nT4 b).2.1 := by decide +kernel
theorem nP4 : ∀ k, k < 6 → parseFieldDescriptor (nT4 k).2.2.1 = some (nY4 k) := by decide +kernel
theorem nI4 : ∀ w ∈ u_ws nR4 nT4 6, w ∈ zTb := by decide +kernel
def nR5 : String := "AllHome$Shelf"
def nT5 : u_T := fun k => match k with
  | 0 => ("AllHome$Shelf", "elements", "[J", true)
  | 1 => ("AllHome$Shelf", "length", "I", false)
  | 2 => ("AllHome$Shelf", "sort", "I", false)
  | _ => ("AllHome$Shelf", "way", "I", false)
def nY5 : Nat → FieldType := fun k => match k with
  | 0 => (.array .long)
  | 1 => .int
  | 2 => .int
  | _ => .int
theorem nN5 : ∀ a, a < 4 → ∀ b, b < 4 → a ≠ b → (nT5 a).2.1 ≠ (nT5 b).2.1 := by decide +kernel
theorem nP5 : ∀ k, k < 4 → parseFieldDescriptor (nT5 k).2.2.1 = some (nY5 k) := by decide +kernel
theorem nI5 : ∀ w ∈ u_ws nR5 nT5 4, w ∈ zTb := by decide +kernel
def nR6 : String := "AllHome"
def nT6 : u_T := fun k => match k with
  | 0 => ("AllHome", "tape", "[I", true)
  | 1 => ("AllHome", "tapeLength", "I", false)
  | 2 => ("AllHome", "huts", "LAllHome$Huts;", true)
  | 3 => ("AllHome", "kinds", "[I", true)
  | 4 => ("AllHome", "ways", "I", false)
  | 5 => ("AllHome", "runs", "[LAllHome$Run;", true)
  | 6 => ("AllHome", "runsBegun", "I", false)
  | 7 => ("AllHome", "spare", "[I", true)
  | 8 => ("AllHome", "orders", "LAllHome$Orders;", true)
  | 9 => ("AllHome", "plainOrders", "LAllHome$Orders;", true)
  | 10 => ("AllHome", "acts", "LAllHome$Acts;", true)
  | _ => ("AllHome", "shelves", "[LAllHome$Shelf;", true)
def nY6 : Nat → FieldType := fun k => match k with
  | 0 => (.array .int)
  | 1 => .int
  | 2 => (.object "AllHome$Huts")
  | 3 => (.array .int)
  | 4 => .int
  | 5 => (.array (.object "AllHome$Run"))
  | 6 => .int
  | 7 => (.array .int)
  | 8 => (.object "AllHome$Orders")
  | 9 => (.object "AllHome$Orders")
  | 10 => (.object "AllHome$Acts")
  | _ => (.array (.object "AllHome$Shelf"))
theorem nN6 : ∀ a, a < 12 → ∀ b, b < 12 → a ≠ b → (nT6 a).2.1 ≠ (nT6 b).2.1 := by decide +kernel
theorem nP6 : ∀ k, k < 12 → parseFieldDescriptor (nT6 k).2.2.1 = some (nY6 k) := by decide +kernel
theorem nI6 : ∀ w ∈ u_ws nR6 nT6 12, w ∈ zTb := by decide +kernel
def nR7 : String := "AllHomeModel"
def nT7 : u_T := fun k => match k with
  | 0 => ("AllHomeModel", "tape", "[I", true)
  | 1 => ("AllHomeModel", "tapeMany", "I", false)
  | 2 => ("AllHomeModel", "text", "[I", true)
  | 3 => ("AllHomeModel", "textMany", "[I", true)
  | 4 => ("AllHomeModel", "huts", "I", false)
  | 5 => ("AllHomeModel", "kind", "[I", true)
  | 6 => ("AllHomeModel", "ways", "I", false)
  | 7 => ("AllHomeModel", "now", "[I", true)
  | 8 => ("AllHomeModel", "sentWords", "I", false)
  | 9 => ("AllHomeModel", "sentNotes", "I", false)
  | 10 => ("AllHomeModel", "by", "I", false)
  | 11 => ("AllHomeModel", "isFull", "Z", false)
  | 12 => ("AllHomeModel", "kept", "[I", true)
  | 13 => ("AllHomeModel", "runWay", "[I", true)
  | 14 => ("AllHomeModel", "runSteps", "[I", true)
  | 15 => ("AllHomeModel", "runWords", "[I", true)
  | 16 => ("AllHomeModel", "runNotes", "[I", true)
  | 17 => ("AllHomeModel", "saidAt", "[I", true)
  | 18 => ("AllHomeModel", "overAt", "[I", true)
  | 19 => ("AllHomeModel", "runs", "I", false)
  | 20 => ("AllHomeModel", "found", "[I", true)
  | 21 => ("AllHomeModel", "ahead", "[I", true)
  | 22 => ("AllHomeModel", "byStep", "[I", true)
  | 23 => ("AllHomeModel", "canSay", "[Z", true)
  | 24 => ("AllHomeModel", "leads", "[Z", true)
  | 25 => ("AllHomeModel", "foundMany", "I", false)
  | 26 => ("AllHomeModel", "trace", "[I", true)
  | 27 => ("AllHomeModel", "ran", "I", false)
  | 28 => ("AllHomeModel", "acting", "I", false)
  | 29 => ("AllHomeModel", "shelf", "[I", true)
  | 30 => ("AllHomeModel", "many", "[I", true)
  | 31 => ("AllHomeModel", "items", "[J", true)
  | _ => ("AllHomeModel", "carried", "[J", true)
def nY7 : Nat → FieldType := fun k => match k with
  | 0 => (.array .int)
  | 1 => .int
  | 2 => (.array .int)
  | 3 => (.array .int)
  | 4 => .int
  | 5 => (.array .int)
  | 6 => .int
  | 7 => (.array .int)
  | 8 => .int
  | 9 => .int
  | 10 => .int
  | 11 => .boolean
  | 12 => (.array .int)
  | 13 => (.array .int)
  | 14 => (.array .int)
  | 15 => (.array .int)
  | 16 => (.array .int)
  | 17 => (.array .int)
  | 18 => (.array .int)
  | 19 => .int
  | 20 => (.array .int)
  | 21 => (.array .int)
  | 22 => (.array .int)
  | 23 => (.array .boolean)
  | 24 => (.array .boolean)
  | 25 => .int
  | 26 => (.array .int)
  | 27 => .int
  | 28 => .int
  | 29 => (.array .int)
  | 30 => (.array .int)
  | 31 => (.array .long)
  | _ => (.array .long)
theorem nN7 : ∀ a, a < 33 → ∀ b, b < 33 → a ≠ b → (nT7 a).2.1 ≠ (nT7 b).2.1 := by decide +kernel
theorem nP7 : ∀ k, k < 33 → parseFieldDescriptor (nT7 k).2.2.1 = some (nY7 k) := by decide +kernel
theorem nI7 : ∀ w ∈ u_ws nR7 nT7 33, w ∈ zTb := by decide +kernel
abbrev zCl : List vw_C := [(nR0, nT0, 4), (nR1, nT1, 4), (nR2, nT2, 14), (nR3, nT3, 3), (nR4, nT4, 6), (nR5, nT5, 4), (nR6, nT6, 12), (nR7, nT7, 33)]
end
section
/-! OUR OWN WORLD: every cell of the two systems has a number (its role); a model heap says what each role holds; references in it are roles. -/
abbrev zE : Type := (Nat × List Value) ⊕ (Nat × Nat × ((Nat → Int32) ⊕ (Nat → Int64) ⊕ (Nat → Option Nat)))
abbrev zH : Type := Nat → zE
/-- addresses of the roles, array classes, addresses of the static tables, what the kit asks of the classes -/
abbrev zG : Type := (Nat → Nat) × (Nat → ClassId) × (Nat → Nat) × va_G
def zNil : zE := .inl (99, [])
def zup (h : zH) (k : Nat) (e : zE) : zH := fun j => if j = k then e else h j
theorem zup_eq (h : zH) (k : Nat) (e : zE) : zup h k e k = e := if_pos rfl
theorem zup_ne {h : zH} {k j : Nat} {e : zE} (q : j ≠ k) : zup h k e j = h j := if_neg q
def zV (ad : Nat → Nat) : Value → Value := fun v => match v with
  | .ref k => .ref (ad k)
  | w => w
def zT (G : zG) : zE → va_E := fun e => match e with
  | .inl o => .inr (o.1, o.2.map (zV G.1))
  | .inr (t, n, .inl g) => .inl (G.2.1 t, n, .inl g)
  | .inr (t, n, .inr (.inl g)) => .inl (G.2.1 t, n, .inr (.inl g))
  | .inr (t, n, .inr (.inr g)) => .inl (G.2.1 t, n, .inr (.inr (.inr (.inr (fun i => (g i).map G.1)))))
def zW (G : zG) (K : Nat) (h : zH) : va_W := (List.range K).map fun k => (G.1 k, zT G (h k))
theorem zW_get {G : zG} {K : Nat} {h : zH} {k : Nat} (hk : k < K) : (zW G K h)[k]? = some (G.1 k, zT G (h k)) := by simp [zW, hk]
theorem zW_set {G : zG} {K : Nat} {h : zH} {k : Nat} {e : zE} {x : Nat × va_E} (hx : x = (G.1 k, zT G e)) : (zW G K h).set k x = zW G K (zup h k e) := by
  subst hx
  apply List.ext_getElem?
  intro j
  by_cases hj : j < K
  · rw [zW_get hj]
    by_cases e1 : j = k
    · subst e1
      rw [List.getElem?_set_self (by simp [zW]; exact hj), zup_eq]
    · rw [List.getElem?_set_ne (Ne.symm e1), zW_get hj, zup_ne e1]
  · rw [List.getElem?_eq_none (by simp [zW]; omega), List.getElem?_eq_none (by simp [zW]; omega)]
theorem zW_key {G : zG} {K : Nat} {h : zH} {k : Nat} {q : Nat × va_E} (hk : (zW G K h)[k]? = some q) : k < K ∧ q = (G.1 k, zT G (h k)) := by
  have hl : k < K := by
    have := (List.getElem?_eq_some_iff.mp hk).1
    simpa [zW] using this
  rw [zW_get hl] at hk
  exact ⟨hl, (Option.some.inj hk).symm⟩
theorem zD_any {A : Nat → Prop} {G : zG} {K : Nat} {h : zH} (h' : zH) (hD : va_D A (zW G K h)) : va_D A (zW G K h') := by
  refine ⟨fun i j x y hi hj hxy => ?_, fun k q hk => ?_⟩
  · obtain ⟨li, rfl⟩ := zW_key hi
    obtain ⟨lj, rfl⟩ := zW_key hj
    exact hD.1 i j _ _ (zW_get li) (zW_get lj) hxy
  · obtain ⟨lk, rfl⟩ := zW_key hk
    exact hD.2 k (G.1 k, zT G (h k)) (zW_get lk)
/-- the cells that a method of the finished systems may change -/
def zA (G : zG) (K : Nat) : Nat → Prop := fun q => ∃ k, k < K ∧ q = G.1 k
theorem zD_self {A : Nat → Prop} {G : zG} {K : Nat} {h : zH} (hD : va_D A (zW G K h)) : va_D (zA G K) (zW G K h) := by
  refine hD.weaken fun k q hk _ => ?_
  obtain ⟨lk, rfl⟩ := zW_key hk
  exact ⟨k, lk, rfl⟩
theorem zA_in {A : Nat → Prop} {G : zG} {K : Nat} {h : zH} (hD : va_D A (zW G K h)) : ∀ q, zA G K q → A q := by
  rintro q ⟨k, hk, rfl⟩
  exact hD.2 k _ (zW_get hk)
abbrev zty (G : zG) : List (ClassId × FieldType) := [(G.2.1 0, .int), (G.2.1 1, .long), (G.2.1 2, .boolean), (G.2.1 3, .object "AllHome$Run"), (G.2.1 4, .object "AllHome$Shelf"), (G.2.1 5, .array .int)]
-- the static tables
def zsn : Nat → String := fun i => match i with
  | 0 => "ABOVE"
  | 1 => "FAMILY"
  | 2 => "HUT_CELLS"
  | 3 => "HUT_FAMILY"
  | _ => "BODIES"
def zsl : Nat → List Int32 := fun i => match i with
  | 0 => [-1, 0, 0, 0, 3, 3, 2, 4, 5]
  | 1 => [0, 1, 2, 3, 4, 5, 2, 4, 5]
  | 2 => [0, 6, 12, 68, 75, 81, 87, 93, 99, 105, 111]
  | 3 => [-1, -1, -1, 1, 2, 2, 2, 4, 4, 5, 5]
  | _ => [1, 10, 11, 2, 20, 0, 0, 0, 0, 0, 30, 0, 0, 40, 0, 0, 50, 0, 0, 0, 0, 0, 61, 60, 0, 0, 70, 0, 0, 80, 0, 0, 0, 0, 0, 90]
def zST (G : zG) (A : Nat → Prop) (U : State) : Prop := ∀ i, i < 5 → va_Z "AllHome" (zsn i) "[I" (.ref (G.2.2.1 i)) A U U.heap ∧ va_T .int (G.2.2.1 i) (zsl i).length (fun j => .int ((zsl i).getD j 0)) A U U.heap
theorem zST.go {G : zG} {A B : Nat → Prop} {s U : State} {H : Heap} {locs : List Loc} (h : zST G A s) (hS : va_S A s.heap H locs) (hU : U.heap = H) (hvm : s.vm.Alike U.vm) (hBA : ∀ q, B q → A q) : zST G B U := by
  intro i hi
  obtain ⟨h1, h2⟩ := h i hi
  have hk : ∀ a : Nat, a < s.heap.size → ¬ A a → U.heap[a]? = s.heap[a]? := fun a h1 h2 => by rw [hU]; exact hS.2.1 a h1 h2
  exact ⟨((h1.moved hvm).kept hk).narrow hBA, ((h2.moved hvm).kept hk).narrow hBA⟩
/-- the heap holds the model heap -/
def zP (G : zG) (K : Nat) (h : zH) (H : Heap) : Prop := (∀ k, K ≤ k → h k = zNil) ∧ va_P G.2.2.2 zCl (zW G K h) H
/-- where a walk stands -/
def zI (G : zG) (K : Nat) (s : State) (A : Nat → Prop) (H : Heap) (locs : List Loc) (h : zH) : Prop := zP G K h H ∧ va_D A (zW G K h) ∧ va_S A s.heap H locs
/-- what a walk keeps -/
def zX (p : Program) (s : State) (m : MethodId) (args : Array Value) (meth : Method) (c : Code) (own : String) (cc : ByteArray) (nL : Nat) (ret : Option FieldType) (G : zG) (A : Nat → Prop) : Prop :=
  p.tables.exec = Jvm.exec ∧ c.code = cc ∧ c.maxLocals = nL ∧ s.vm.findClass own = some m.cls ∧ (∀ w ∈ zTb, w.before args s = true) ∧ meth.sig.returnType = ret ∧ meth.locks = false ∧ va_K G.2.2.2 zCl (zty G) s ∧ zST G A s ∧ ∀ w ∈ zNs, va_Nw w s
/-- a method's start and end -/
def zU (G : zG) (K : Nat) (h : zH) (U : State) : Prop := zP G K h U.heap ∧ va_D (zA G K) (zW G K h) ∧ va_K G.2.2.2 zCl (zty G) U ∧ zST G (zA G K) U ∧ ∀ w ∈ zNs, va_Nw w U
abbrev zPc (G : zG) (K : Nat) (h : zH) (av : List Value) : Array Value → State → Prop := va_Pc av (zU G K h)
abbrev zQi (G : zG) (K : Nat) (r : Int32) (h : zH) : Array Value → State → Outcome → State → Prop := va_Qi (S := Unit) (fun r' _ => r' = r) (fun _ t => zP G K h t.heap) (zA G K)
abbrev zQl (G : zG) (K : Nat) (r : Int64) (h : zH) : Array Value → State → Outcome → State → Prop := va_Ql (S := Unit) (fun r' _ => r' = r) (fun _ t => zP G K h t.heap) (zA G K)
abbrev zQv (G : zG) (K : Nat) (h : zH) : Array Value → State → Outcome → State → Prop := va_Qv (S := Unit) (fun _ => True) (fun _ t => zP G K h t.heap) (zA G K)
abbrev zR (n : Nat) : Room := { frames := n, cells := 0, slots := 0, locals := 60 * n }
abbrev zws (y : MethodName) (b : ByteArray) (n : Nat) (ret : Option FieldType) : List Cond := .code y b n ret :: zTb
abbrev zMi (l : Launch) (G : zG) (K : Nat) (y : MethodName) (b : ByteArray) (n d : Nat) (av : List Value) (h : zH) (r : Int32) (h' : zH) : Prop := Met l y (zws y b n (some .int)) (zR d) (zPc G K h av) (zQi G K r h') 0 0 (zA G K)
abbrev zMz (l : Launch) (G : zG) (K : Nat) (y : MethodName) (b : ByteArray) (n d : Nat) (av : List Value) (h : zH) (r : Int32) (h' : zH) : Prop := Met l y (zws y b n (some .boolean)) (zR d) (zPc G K h av) (zQi G K r h') 0 0 (zA G K)
abbrev zMl (l : Launch) (G : zG) (K : Nat) (y : MethodName) (b : ByteArray) (n d : Nat) (av : List Value) (h : zH) (r : Int64) (h' : zH) : Prop := Met l y (zws y b n (some .long)) (zR d) (zPc G K h av) (zQl G K r h') 0 0 (zA G K)
abbrev zMv (l : Launch) (G : zG) (K : Nat) (y : MethodName) (b : ByteArray) (n d : Nat) (av : List Value) (h : zH) (h' : zH) : Prop := Met l y (zws y b n none) (zR d) (zPc G K h av) (zQv G K h') 0 0 (zA G K)
-- what the walks read and write of the model heap
def zcls (h : zH) (a : Nat) : Nat := match h a with
  | .inl o => o.1
  | _ => 98
def zrI (h : zH) (a c j : Nat) : Option Int32 := match h a with
  | .inl o => if o.1 = c then (match o.2[j]? with | some (.int x) => some x | _ => none) else none
  | _ => none
def zrR (h : zH) (a c j : Nat) : Option Nat := match h a with
  | .inl o => if o.1 = c then (match o.2[j]? with | some (.ref x) => some x | _ => none) else none
  | _ => none
def zwV (h : zH) (a c j : Nat) (v : Value) : Option zH := match h a with
  | .inl o => if o.1 = c ∧ j < o.2.length then some (zup h a (.inl (c, o.2.set j v))) else none
  | _ => none
def zwI (h : zH) (a c j : Nat) (x : Int32) : Option zH := zwV h a c j (.int x)
def zwZ (h : zH) (a c j : Nat) (x : Int32) : Option zH := if x = 0 ∨ x = 1 then zwV h a c j (.int x) else none
def zwR (h : zH) (a c j : Nat) (x : Nat) : Option zH := zwV h a c j (.ref x)
def zout (i : Int32) (n : Nat) : Prop := i < 0 ∨ n ≤ i.toNatClampNeg
def zA32 (t : Nat) (h : zH) (a : Nat) (i : Int32) : Option Int32 := match h a with
  | .inr (t', n, .inl g) => if t' = t then (if i < 0 ∨ n ≤ i.toNatClampNeg then none else some (g i.toNatClampNeg)) else none
  | _ => none
abbrev zaI (h : zH) (a : Nat) (i : Int32) : Option Int32 := zA32 0 h a i
abbrev zaZ (h : zH) (a : Nat) (i : Int32) : Option Int32 := zA32 2 h a i
def zaJ (h : zH) (a : Nat) (i : Int32) : Option Int64 := match h a with
  | .inr (t', n, .inr (.inl g)) => if t' = 1 then (if i < 0 ∨ n ≤ i.toNatClampNeg then none else some (g i.toNatClampNeg)) else none
  | _ => none
def zaR (t : Nat) (h : zH) (a : Nat) (i : Int32) : Option Nat := match h a with
  | .inr (t', n, .inr (.inr g)) => if t' = t then (if i < 0 ∨ n ≤ i.toNatClampNeg then none else g i.toNatClampNeg) else none
  | _ => none
def zS32 (t : Nat) (h : zH) (a : Nat) (i x : Int32) : Option zH := match h a with
  | .inr (t', n, .inl g) => if t' = t then (if i < 0 ∨ n ≤ i.toNatClampNeg then none else some (zup h a (.inr (t, n, .inl (upd g i.toNatClampNeg x))))) else none
  | _ => none
abbrev zsI (h : zH) (a : Nat) (i x : Int32) : Option zH := zS32 0 h a i x
abbrev zsZ (h : zH) (a : Nat) (i x : Int32) : Option zH := zS32 2 h a i (vp_nar .boolean x)
def zsJ (h : zH) (a : Nat) (i : Int32) (x : Int64) : Option zH := match h a with
  | .inr (t', n, .inr (.inl g)) => if t' = 1 then (if i < 0 ∨ n ≤ i.toNatClampNeg then none else some (zup h a (.inr (1, n, .inr (.inl (vp_updL g i.toNatClampNeg x)))))) else none
  | _ => none
def zlen (h : zH) (a : Nat) : Option Int32 := match h a with
  | .inr (t, n, _) => if t < 6 then some (Int32.ofNat n) else none
  | _ => none
def ztab (i : Nat) (k : Int32) : Option Int32 := if k < 0 ∨ (zsl i).length ≤ k.toNatClampNeg then none else some ((zsl i).getD k.toNatClampNeg 0)
def zcpI (h : zH) (a : Nat) (sp : Int32) (b : Nat) (dp n : Int32) : Option zH := match h a, h b with
  | .inr (t, n0, .inl f), .inr (t', n1, .inl g) => if t = 0 ∧ t' = 0 ∧ ¬ sp < 0 ∧ ¬ dp < 0 ∧ ¬ n < 0 ∧ sp.toNatClampNeg + n.toNatClampNeg ≤ n0 ∧ dp.toNatClampNeg + n.toNatClampNeg ≤ n1 then some (zup h b (.inr (0, n1, .inl (va_cpy f g sp.toNatClampNeg dp.toNatClampNeg n.toNatClampNeg)))) else none
  | _, _ => none
def zcpJ (h : zH) (a : Nat) (sp : Int32) (b : Nat) (dp n : Int32) : Option zH := match h a, h b with
  | .inr (t, n0, .inr (.inl f)), .inr (t', n1, .inr (.inl g)) => if t = 1 ∧ t' = 1 ∧ ¬ sp < 0 ∧ ¬ dp < 0 ∧ ¬ n < 0 ∧ sp.toNatClampNeg + n.toNatClampNeg ≤ n0 ∧ dp.toNatClampNeg + n.toNatClampNeg ≤ n1 then some (zup h b (.inr (1, n1, .inr (.inl (va_cpy f g sp.toNatClampNeg dp.toNatClampNeg n.toNatClampNeg))))) else none
  | _, _ => none
/-- a loop, so many rounds at most -/
def zloop {S R : Type} (f : (S → Option R) → S → Option R) : Nat → S → Option R
  | 0 => fun _ => none
  | n + 1 => fun s => f (zloop f n) s
def zN : Nat := 1048576
theorem zif_t {α : Type} {c : Prop} [i : Decidable c] {a b z : α} (hc : c) (h : (if c then a else b) = z) : a = z := (if_pos hc).symm.trans h
theorem zif_f {α : Type} {c : Prop} [i : Decidable c] {a b z : α} (hc : ¬ c) (h : (if c then a else b) = z) : b = z := (if_neg hc).symm.trans h
theorem zbd {α β : Type} {o : Option α} {f : α → Option β} {z : β} (h : o.bind f = some z) : ∃ v, o = some v ∧ f v = some z := Option.bind_eq_some_iff.mp h
theorem zat_O {h : zH} {a c : Nat} (hc : zcls h a = c) (hn : c < 90) : ∃ fs, h a = .inl (c, fs) := by
  unfold zcls at hc
  split at hc
  · rename_i o heq
    exact ⟨o.2, by rw [heq, ← hc]⟩
  · omega
theorem zrI_at {h : zH} {a c j : Nat} {x : Int32} (hv : zrI h a c j = some x) : ∃ fs, h a = .inl (c, fs) ∧ fs[j]? = some (.int x) := by
  unfold zrI at hv
  split at hv
  · rename_i o heq
    split at hv
    · rename_i hc
      split at hv
      · rename_i y hy
        cases hv
        exact ⟨o.2, by rw [heq, ← hc], hy⟩
      · cases hv
    · cases hv
  · cases hv
theorem zrR_at {h : zH} {a c j : Nat} {x : Nat} (hv : zrR h a c j = some x) : ∃ fs, h a = .inl (c, fs) ∧ fs[j]? = some (.ref x) := by
  unfold zrR at hv
  split at hv
  · rename_i o heq
    split at hv
    · rename_i hc
      split at hv
      · rename_i y hy
        cases hv
        exact ⟨o.2, by rw [heq, ← hc], hy⟩
      · cases hv
    · cases hv
  · cases hv
theorem zwV_at {h h' : zH} {a c j : Nat} {v : Value} (hv : zwV h a c j v = some h') : ∃ fs, h a = .inl (c, fs) ∧ j < fs.length ∧ h' = zup h a (.inl (c, fs.set j v)) := by
  unfold zwV at hv
  split at hv
  · rename_i o heq
    split at hv
    · rename_i hc
      cases hv
      exact ⟨o.2, by rw [heq, ← hc.1], hc.2, rfl⟩
    · cases hv
  · cases hv
theorem zA32_at {t : Nat} {h : zH} {a : Nat} {i x : Int32} (hv : zA32 t h a i = some x) : ∃ n g, h a = .inr (t, n, .inl g) ∧ vp_in i n ∧ g i.toNatClampNeg = x := by
  unfold zA32 at hv
  split at hv
  · rename_i t' n g heq
    split at hv
    · rename_i ht
      split at hv
      · cases hv
      · rename_i hin
        cases hv
        exact ⟨n, g, by rw [heq, ht], hin, rfl⟩
    · cases hv
  · cases hv
theorem zaJ_at {h : zH} {a : Nat} {i : Int32} {x : Int64} (hv : zaJ h a i = some x) : ∃ n g, h a = .inr (1, n, .inr (.inl g)) ∧ vp_in i n ∧ g i.toNatClampNeg = x := by
  unfold zaJ at hv
  split at hv
  · rename_i t' n g heq
    split at hv
    · rename_i ht
      split at hv
      · cases hv
      · rename_i hin
        cases hv
        exact ⟨n, g, by rw [heq, ht], hin, rfl⟩
    · cases hv
  · cases hv
theorem zaR_at {t : Nat} {h : zH} {a : Nat} {i : Int32} {x : Nat} (hv : zaR t h a i = some x) : ∃ n g, h a = .inr (t, n, .inr (.inr g)) ∧ vp_in i n ∧ g i.toNatClampNeg = some x := by
  unfold zaR at hv
  split at hv
  · rename_i t' n g heq
    split at hv
    · rename_i ht
      split at hv
      · cases hv
      · rename_i hin
        exact ⟨n, g, by rw [heq, ht], hin, hv⟩
    · cases hv
  · cases hv
theorem zS32_at {t : Nat} {h h' : zH} {a : Nat} {i x : Int32} (hv : zS32 t h a i x = some h') : ∃ n g, h a = .inr (t, n, .inl g) ∧ vp_in i n ∧ h' = zup h a (.inr (t, n, .inl (upd g i.toNatClampNeg x))) := by
  unfold zS32 at hv
  split at hv
  · rename_i t' n g heq
    split at hv
    · rename_i ht
      split at hv
      · cases hv
      · rename_i hin
        cases hv
        exact ⟨n, g, by rw [heq, ht], hin, rfl⟩
    · cases hv
  · cases hv
theorem zsJ_at {h h' : zH} {a : Nat} {i : Int32} {x : Int64} (hv : zsJ h a i x = some h') : ∃ n g, h a = .inr (1, n, .inr (.inl g)) ∧ vp_in i n ∧ h' = zup h a (.inr (1, n, .inr (.inl (vp_updL g i.toNatClampNeg x)))) := by
  unfold zsJ at hv
  split at hv
  · rename_i t' n g heq
    split at hv
    · rename_i ht
      split at hv
      · cases hv
      · rename_i hin
        cases hv
        exact ⟨n, g, by rw [heq, ht], hin, rfl⟩
    · cases hv
  · cases hv
theorem zlen_at {h : zH} {a : Nat} {x : Int32} (hv : zlen h a = some x) : ∃ t n y, t < 6 ∧ h a = .inr (t, n, y) ∧ Int32.ofNat n = x := by
  unfold zlen at hv
  split at hv
  · rename_i t n y heq
    split at hv
    · rename_i ht
      cases hv
      exact ⟨t, n, y, ht, heq, rfl⟩
    · cases hv
  · cases hv
theorem zcpI_at {h h' : zH} {a b : Nat} {sp dp n : Int32} (hv : zcpI h a sp b dp n = some h') : ∃ n0 n1 f g, h a = .inr (0, n0, .inl f) ∧ h b = .inr (0, n1, .inl g) ∧ ¬ sp < 0 ∧ ¬ dp < 0 ∧ ¬ n < 0 ∧ sp.toNatClampNeg + n.toNatClampNeg ≤ n0 ∧ dp.toNatClampNeg + n.toNatClampNeg ≤ n1 ∧ h' = zup h b (.inr (0, n1, .inl (va_cpy f g sp.toNatClampNeg dp.toNatClampNeg n.toNatClampNeg))) := by
  unfold zcpI at hv
  split at hv
  · rename_i t n0 f t' n1 g ha hb
    split at hv
    · rename_i hc
      obtain ⟨rfl, rfl, c1, c2, c3, c4, c5⟩ := hc
      cases hv
      exact ⟨n0, n1, f, g, ha, hb, c1, c2, c3, c4, c5, rfl⟩
    · cases hv
  · cases hv
theorem zcpJ_at {h h' : zH} {a b : Nat} {sp dp n : Int32} (hv : zcpJ h a sp b dp n = some h') : ∃ n0 n1 f g, h a = .inr (1, n0, .inr (.inl f)) ∧ h b = .inr (1, n1, .inr (.inl g)) ∧ ¬ sp < 0 ∧ ¬ dp < 0 ∧ ¬ n < 0 ∧ sp.toNatClampNeg + n.toNatClampNeg ≤ n0 ∧ dp.toNatClampNeg + n.toNatClampNeg ≤ n1 ∧ h' = zup h b (.inr (1, n1, .inr (.inl (va_cpy f g sp.toNatClampNeg dp.toNatClampNeg n.toNatClampNeg)))) := by
  unfold zcpJ at hv
  split at hv
  · rename_i t n0 f t' n1 g ha hb
    split at hv
    · rename_i hc
      obtain ⟨rfl, rfl, c1, c2, c3, c4, c5⟩ := hc
      cases hv
      exact ⟨n0, n1, f, g, ha, hb, c1, c2, c3, c4, c5, rfl⟩
    · cases hv
  · cases hv
end
section
/-! ROWS OVER OUR OWN WORLD: an instruction that reads or writes cells, a call, an end. -/
theorem zlt {G : zG} {K : Nat} {s : State} {A : Nat → Prop} {H : Heap} {locs : List Loc} {h : zH} (hI : zI G K s A H locs h) {a : Nat} {e : zE} (ha : h a = e) (he : e ≠ zNil) : a < K := by
  rcases Nat.lt_or_ge a K with q | q
  · exact q
  · exact absurd (ha.symm.trans (hI.1.1 a q)) he
theorem znO {c : Nat} {fs : List Value} (h : c < 90) : (Sum.inl (c, fs) : zE) ≠ zNil := by
  intro q
  unfold zNil at q
  have := congrArg (fun z : zE => match z with | .inl o => o.1 | _ => 0) q
  simp at this
  omega
theorem znR {x : Nat × Nat × ((Nat → Int32) ⊕ (Nat → Int64) ⊕ (Nat → Option Nat))} : (Sum.inr x : zE) ≠ zNil := by
  intro q
  unfold zNil at q
  cases q
theorem zI_put {G : zG} {K : Nat} {s : State} {A : Nat → Prop} {H H1 : Heap} {locs locs1 : List Loc} {h : zH} {a : Nat} {e : zE} (hI : zI G K s A H locs h) (ha : a < K) {x : Nat × va_E} (hx : x = (G.1 a, zT G e)) (hP : va_P G.2.2.2 zCl ((zW G K h).set a x) H1) (hS : va_S A s.heap H1 locs1) : zI G K s A H1 locs1 (zup h a e) := by
  rw [zW_set hx] at hP
  refine ⟨⟨fun k hk => ?_, hP⟩, zD_any _ hI.2.1, hS⟩
  rw [zup_ne (by omega)]
  exact hI.1.1 k hk
/-- what the tables say of a field by its place in a class file -/
def zFd (own : String) (index ci j : Nat) : Prop := ci < 90 ∧ ∃ (C : String) (T : u_T) (N : Nat), zCl[ci]? = some (C, T, N) ∧ (∀ w ∈ u_ws C T N, w ∈ zTb) ∧ j < N ∧ Cond.fieldLink own index (T j).1 (T j).2.1 (T j).2.2.1 ∈ zTb
def zFp (own : String) (index ci j : Nat) (ty : FieldType) (fin : Bool) : Prop := ci < 90 ∧ ∃ (C : String) (T : u_T) (N : Nat) (ty0 : Nat → FieldType), zCl[ci]? = some (C, T, N) ∧ (∀ w ∈ u_ws C T N, w ∈ zTb) ∧ j < N ∧ Cond.fieldLink own index (T j).1 (T j).2.1 (T j).2.2.1 ∈ zTb ∧ (∀ k, k < N → parseFieldDescriptor (T k).2.2.1 = some (ty0 k)) ∧ (∀ a, a < N → ∀ b, b < N → a ≠ b → (T a).2.1 ≠ (T b).2.1) ∧ parseFieldDescriptor (T j).2.2.1 = some ty ∧ (T j).2.2.2 = fin ∧ (T j).1 = own
section ZR
variable {p : Program} {l : Launch} {e : Env} {R : Room} {s : State} {m : MethodId} {args : Array Value} {below : List Frame} {meth : Method} {c : Code} {H : Heap} {locs : List Loc} {cells slots : Nat} {Q : State → Prop}
variable {cc : ByteArray} {pc : Nat} {ls : Array Slot} {rest : List Value} {own : String} {nL : Nat} {ret : Option FieldType} {G : zG} {K : Nat} {A : Nat → Prop} {h h' : zH}
theorem z_getV (X : zX p s m args meth c own cc nL ret G A) (hI : zI G K s A H locs h) {index ci j a : Nat} (hF : zFd own index ci j) {fs : List Value} (ha : h a = .inl (ci, fs)) {v : Value} (hj : fs[j]? = some v) (hdg : decode cc pc = .ok (.getfield index, 3))
    (kk : W p l e R s m args below meth c H locs cells slots Q (F0 m (pc + 3) ls (zV G.1 v :: rest))) : W p l e R s m args below meth c H locs cells slots Q (F0 m pc ls (.ref (G.1 a) :: rest)) := by
  obtain ⟨hx, hb, hml, hown, hts, -, -, hK, -, -⟩ := X
  obtain ⟨h90, C, T, N, hc, hin, hjN, hlink⟩ := hF
  have hk := zlt hI ha (znO h90)
  refine va_get (v := zV G.1 v) (fs := fs.map (zV G.1)) hx hb hts hin hown hK hI.1.2 a (by rw [zW_get hk, ha]; rfl) hc j hjN (hts _ hlink) (fun _ h9 => h9) (by rw [List.getElem?_map, hj]; rfl) hdg kk
theorem z_getI (X : zX p s m args meth c own cc nL ret G A) (hI : zI G K s A H locs h) {index ci j a : Nat} (hF : zFd own index ci j) {x : Int32} (hv : zrI h a ci j = some x) (hdg : decode cc pc = .ok (.getfield index, 3))
    (kk : W p l e R s m args below meth c H locs cells slots Q (F0 m (pc + 3) ls (.int x :: rest))) : W p l e R s m args below meth c H locs cells slots Q (F0 m pc ls (.ref (G.1 a) :: rest)) := by
  obtain ⟨fs, ha, hj⟩ := zrI_at hv
  exact z_getV X hI hF ha hj hdg kk
theorem z_getR (X : zX p s m args meth c own cc nL ret G A) (hI : zI G K s A H locs h) {index ci j a : Nat} (hF : zFd own index ci j) {x : Nat} (hv : zrR h a ci j = some x) (hdg : decode cc pc = .ok (.getfield index, 3))
    (kk : W p l e R s m args below meth c H locs cells slots Q (F0 m (pc + 3) ls (.ref (G.1 x) :: rest))) : W p l e R s m args below meth c H locs cells slots Q (F0 m pc ls (.ref (G.1 a) :: rest)) := by
  obtain ⟨fs, ha, hj⟩ := zrR_at hv
  exact z_getV X hI hF ha hj hdg kk
theorem z_putV (X : zX p s m args meth c own cc nL ret G A) (hI : zI G K s A H locs h) {index ci j a : Nat} {ty : FieldType} (hF : zFp own index ci j ty false) {v : Value} (hv : zwV h a ci j v = some h') (hn : narrow ty (zV G.1 v) = zV G.1 v) (hfit : fits ty (zV G.1 v) = true) (hdg : decode cc pc = .ok (.putfield index, 3))
    (kk : ∀ (H1 : Heap) (locs1 : List Loc), zI G K s A H1 locs1 h' → W p l e R s m args below meth c H1 locs1 cells slots Q (F0 m (pc + 3) ls rest)) : W p l e R s m args below meth c H locs cells slots Q (F0 m pc ls (zV G.1 v :: .ref (G.1 a) :: rest)) := by
  obtain ⟨hx, hb, hml, hown, hts, -, -, hK, -, -⟩ := X
  obtain ⟨h90, C, T, N, ty0, hc, hin, hjN, hlink, hty, hnm, hd, hfin, -⟩ := hF
  obtain ⟨fs, ha, hj, rfl⟩ := zwV_at hv
  have hk := zlt hI ha (znO h90)
  refine va_put (v := zV G.1 v) (fs := fs.map (zV G.1)) hx hb hts hin ty0 hty hnm hown hK hI.1.2 hI.2.1 hI.2.2 a (by rw [zW_get hk, ha]; rfl) hc j hjN (hts _ hlink) (fun _ h9 => h9) hfin hd hn hfit (by rw [List.length_map]; exact hj) hdg (fun H1 locs1 hP hD hS => ?_)
  exact kk H1 locs1 (zI_put hI hk (by rw [zT, List.map_set]) hP hS)
theorem z_putF (X : zX p s m args meth c own cc nL ret G A) (hin0 : meth.name = "<init>") (hI : zI G K s A H locs h) {index ci j a : Nat} {ty : FieldType} (hF : zFp own index ci j ty true) {v : Value} (hv : zwV h a ci j v = some h') (hn : narrow ty (zV G.1 v) = zV G.1 v) (hfit : fits ty (zV G.1 v) = true) (hdg : decode cc pc = .ok (.putfield index, 3))
    (kk : ∀ (H1 : Heap) (locs1 : List Loc), zI G K s A H1 locs1 h' → W p l e R s m args below meth c H1 locs1 cells slots Q (F0 m (pc + 3) ls rest)) : W p l e R s m args below meth c H locs cells slots Q (F0 m pc ls (zV G.1 v :: .ref (G.1 a) :: rest)) := by
  obtain ⟨hx, hb, hml, hown, hts, -, -, hK, -, -⟩ := X
  obtain ⟨h90, C, T, N, ty0, hc, hin, hjN, hlink, hty, hnm, hd, hfin, hdecl⟩ := hF
  obtain ⟨fs, ha, hj, rfl⟩ := zwV_at hv
  have hk := zlt hI ha (znO h90)
  refine va_putF (v := zV G.1 v) (fs := fs.map (zV G.1)) hx hb hts hin ty0 hty hnm hown hK hI.1.2 hI.2.1 hI.2.2 a (by rw [zW_get hk, ha]; rfl) hc j hjN (hts _ hlink) (fun _ h9 => h9) hfin hin0 hdecl hd hn hfit (by rw [List.length_map]; exact hj) hdg (fun H1 locs1 hP hD hS => ?_)
  exact kk H1 locs1 (zI_put hI hk (by rw [zT, List.map_set]) hP hS)
theorem z_putI (X : zX p s m args meth c own cc nL ret G A) (hI : zI G K s A H locs h) {index ci j a : Nat} (hF : zFp own index ci j .int false) {x : Int32} (hv : zwI h a ci j x = some h') (hdg : decode cc pc = .ok (.putfield index, 3))
    (kk : ∀ (H1 : Heap) (locs1 : List Loc), zI G K s A H1 locs1 h' → W p l e R s m args below meth c H1 locs1 cells slots Q (F0 m (pc + 3) ls rest)) : W p l e R s m args below meth c H locs cells slots Q (F0 m pc ls (.int x :: .ref (G.1 a) :: rest)) :=
  z_putV (v := .int x) X hI hF hv rfl rfl hdg kk
theorem z_putZ (X : zX p s m args meth c own cc nL ret G A) (hI : zI G K s A H locs h) {index ci j a : Nat} (hF : zFp own index ci j .boolean false) {x : Int32} (hv : zwZ h a ci j x = some h') (hdg : decode cc pc = .ok (.putfield index, 3))
    (kk : ∀ (H1 : Heap) (locs1 : List Loc), zI G K s A H1 locs1 h' → W p l e R s m args below meth c H1 locs1 cells slots Q (F0 m (pc + 3) ls rest)) : W p l e R s m args below meth c H locs cells slots Q (F0 m pc ls (.int x :: .ref (G.1 a) :: rest)) := by
  unfold zwZ at hv
  split at hv
  · rename_i hc
    exact z_putV (v := .int x) X hI hF hv (by rcases hc with rfl | rfl <;> rfl) (by rcases hc with rfl | rfl <;> rfl) hdg kk
  · cases hv
theorem z_iald (X : zX p s m args meth c own cc nL ret G A) (hI : zI G K s A H locs h) {a : Nat} {i x : Int32} (hv : zaI h a i = some x) (hdg : decode cc pc = .ok (.iaload, 1))
    (kk : W p l e R s m args below meth c H locs cells slots Q (F0 m (pc + 1) ls (.int x :: rest))) : W p l e R s m args below meth c H locs cells slots Q (F0 m pc ls (.int i :: .ref (G.1 a) :: rest)) := by
  obtain ⟨hx, hb, hml, hown, hts, -, -, hK, -, -⟩ := X
  obtain ⟨n, g, ha, hin, rfl⟩ := zA32_at hv
  have hk := zlt hI ha znR
  exact va_iald (n := n) (f := g) hx hb hK hI.1.2 a 0 (by rw [zW_get hk, ha]; rfl) rfl hin hdg kk
theorem z_zald (X : zX p s m args meth c own cc nL ret G A) (hI : zI G K s A H locs h) {a : Nat} {i x : Int32} (hv : zaZ h a i = some x) (hdg : decode cc pc = .ok (.baload, 1))
    (kk : W p l e R s m args below meth c H locs cells slots Q (F0 m (pc + 1) ls (.int x :: rest))) : W p l e R s m args below meth c H locs cells slots Q (F0 m pc ls (.int i :: .ref (G.1 a) :: rest)) := by
  obtain ⟨hx, hb, hml, hown, hts, -, -, hK, -, -⟩ := X
  obtain ⟨n, g, ha, hin, rfl⟩ := zA32_at hv
  have hk := zlt hI ha znR
  exact va_zald (n := n) (f := g) hx hb hK hI.1.2 a 2 (by rw [zW_get hk, ha]; rfl) rfl hin hdg kk
theorem z_lald (X : zX p s m args meth c own cc nL ret G A) (hI : zI G K s A H locs h) {a : Nat} {i : Int32} {x : Int64} (hv : zaJ h a i = some x) (hdg : decode cc pc = .ok (.laload, 1))
    (kk : W p l e R s m args below meth c H locs cells slots Q (F0 m (pc + 1) ls (.long x :: rest))) : W p l e R s m args below meth c H locs cells slots Q (F0 m pc ls (.int i :: .ref (G.1 a) :: rest)) := by
  obtain ⟨hx, hb, hml, hown, hts, -, -, hK, -, -⟩ := X
  obtain ⟨n, g, ha, hin, rfl⟩ := zaJ_at hv
  have hk := zlt hI ha znR
  exact va_lald (n := n) (f := g) hx hb hK hI.1.2 a 1 (by rw [zW_get hk, ha]; rfl) rfl hin hdg kk
theorem z_iast (X : zX p s m args meth c own cc nL ret G A) (hI : zI G K s A H locs h) {a : Nat} {i x : Int32} (hv : zsI h a i x = some h') (hdg : decode cc pc = .ok (.iastore, 1))
    (kk : ∀ (H1 : Heap) (locs1 : List Loc), zI G K s A H1 locs1 h' → W p l e R s m args below meth c H1 locs1 cells slots Q (F0 m (pc + 1) ls rest)) : W p l e R s m args below meth c H locs cells slots Q (F0 m pc ls (.int x :: .int i :: .ref (G.1 a) :: rest)) := by
  obtain ⟨hx, hb, hml, hown, hts, -, -, hK, -, -⟩ := X
  obtain ⟨n, g, ha, hin, rfl⟩ := zS32_at hv
  have hk := zlt hI ha znR
  refine va_iast (n := n) (f := g) hx hb hK hI.1.2 hI.2.1 hI.2.2 a 0 (by rw [zW_get hk, ha]; rfl) rfl hin hdg (fun H1 locs1 hP hD hS => ?_)
  exact kk H1 locs1 (zI_put hI hk rfl hP hS)
theorem z_zast (X : zX p s m args meth c own cc nL ret G A) (hI : zI G K s A H locs h) {a : Nat} {i x : Int32} (hv : zsZ h a i x = some h') (hdg : decode cc pc = .ok (.bastore, 1))
    (kk : ∀ (H1 : Heap) (locs1 : List Loc), zI G K s A H1 locs1 h' → W p l e R s m args below meth c H1 locs1 cells slots Q (F0 m (pc + 1) ls rest)) : W p l e R s m args below meth c H locs cells slots Q (F0 m pc ls (.int x :: .int i :: .ref (G.1 a) :: rest)) := by
  obtain ⟨hx, hb, hml, hown, hts, -, -, hK, -, -⟩ := X
  obtain ⟨n, g, ha, hin, rfl⟩ := zS32_at hv
  have hk := zlt hI ha znR
  refine va_zast (n := n) (f := g) hx hb hK hI.1.2 hI.2.1 hI.2.2 a 2 (by rw [zW_get hk, ha]; rfl) rfl hin hdg (fun H1 locs1 hP hD hS => ?_)
  exact kk H1 locs1 (zI_put hI hk rfl hP hS)
theorem z_last (X : zX p s m args meth c own cc nL ret G A) (hI : zI G K s A H locs h) {a : Nat} {i : Int32} {x : Int64} (hv : zsJ h a i x = some h') (hdg : decode cc pc = .ok (.lastore, 1))
    (kk : ∀ (H1 : Heap) (locs1 : List Loc), zI G K s A H1 locs1 h' → W p l e R s m args below meth c H1 locs1 cells slots Q (F0 m (pc + 1) ls rest)) : W p l e R s m args below meth c H locs cells slots Q (F0 m pc ls (.long x :: .int i :: .ref (G.1 a) :: rest)) := by
  obtain ⟨hx, hb, hml, hown, hts, -, -, hK, -, -⟩ := X
  obtain ⟨n, g, ha, hin, rfl⟩ := zsJ_at hv
  have hk := zlt hI ha znR
  refine va_last (n := n) (f := g) hx hb hK hI.1.2 hI.2.1 hI.2.2 a 1 (by rw [zW_get hk, ha]; rfl) rfl hin hdg (fun H1 locs1 hP hD hS => ?_)
  exact kk H1 locs1 (zI_put hI hk rfl hP hS)
theorem z_aald (X : zX p s m args meth c own cc nL ret G A) (hI : zI G K s A H locs h) (t : Nat) (ty : FieldType) (ht : (zty G)[t]? = some (G.2.1 t, ty)) (hr : ty.isReference = true) {a : Nat} {i : Int32} {x : Nat} (hv : zaR t h a i = some x) (hdg : decode cc pc = .ok (.aaload, 1))
    (kk : W p l e R s m args below meth c H locs cells slots Q (F0 m (pc + 1) ls (.ref (G.1 x) :: rest))) : W p l e R s m args below meth c H locs cells slots Q (F0 m pc ls (.int i :: .ref (G.1 a) :: rest)) := by
  obtain ⟨hx, hb, hml, hown, hts, -, -, hK, -, -⟩ := X
  obtain ⟨n, g, ha, hin, hg⟩ := zaR_at hv
  have hk := zlt hI ha znR
  have hlt : i.toNatClampNeg < n := Nat.not_le.mp fun q => hin (Or.inr q)
  have hat : va_at G.2.2.2 zCl (G.1 a, zT G (h a)) H := hI.1.2 a _ (zW_get hk)
  rw [ha] at hat
  refine W.aald (v := .ref (G.1 x)) (ty := ty) hx hb hat ((hK.2 t _ ht).1 n (fun j => va_rf ((g j).map G.1))) hr (fun q => by cases q) (by show ¬ (i < 0 ∨ (arrV _ _ _).slots.size ≤ _); rw [arrV_size]; exact hin) (by show (arrV _ _ _).slots[_]? = _; rw [arrV_read _ _ hlt]; show some (va_rf ((g i.toNatClampNeg).map G.1)) = _; rw [hg]; rfl) rfl rfl hdg kk
theorem z_alen (X : zX p s m args meth c own cc nL ret G A) (hI : zI G K s A H locs h) {a : Nat} {x : Int32} (hv : zlen h a = some x) (hdg : decode cc pc = .ok (.arraylength, 1))
    (kk : W p l e R s m args below meth c H locs cells slots Q (F0 m (pc + 1) ls (.int x :: rest))) : W p l e R s m args below meth c H locs cells slots Q (F0 m pc ls (.ref (G.1 a) :: rest)) := by
  obtain ⟨hx, hb, hml, hown, hts, -, -, hK, -, -⟩ := X
  obtain ⟨t, n, y, ht, ha, rfl⟩ := zlen_at hv
  have hk := zlt hI ha znR
  obtain ⟨ty, hty⟩ : ∃ ty, (zty G)[t]? = some (G.2.1 t, ty) := by
    rcases (show t = 0 ∨ t = 1 ∨ t = 2 ∨ t = 3 ∨ t = 4 ∨ t = 5 by omega) with rfl | rfl | rfl | rfl | rfl | rfl <;> exact ⟨_, rfl⟩
  rcases y with g | g | g
  · exact va_alen (x := (n, .inl g)) (v := Int32.ofNat n) hx hb hK hI.1.2 a t (by rw [zW_get hk, ha]; rfl) hty rfl hdg kk
  · exact va_alen (x := (n, .inr (.inl g))) (v := Int32.ofNat n) hx hb hK hI.1.2 a t (by rw [zW_get hk, ha]; rfl) hty rfl hdg kk
  · exact va_alen (x := (n, .inr (.inr (.inr (.inr (fun i => (g i).map G.1)))))) (v := Int32.ofNat n) hx hb hK hI.1.2 a t (by rw [zW_get hk, ha]; rfl) hty rfl hdg kk
theorem z_gets (X : zX p s m args meth c own cc nL ret G A) (hI : zI G K s A H locs h) {index : Nat} (i : Nat) (hi : i < 5) (hl : Cond.fieldLink own index "AllHome" (zsn i) "[I" ∈ zTb) (hdg : decode cc pc = .ok (.getstatic index, 3))
    (kk : W p l e R s m args below meth c H locs cells slots Q (F0 m (pc + 3) ls (.ref (G.2.2.1 i) :: rest))) : W p l e R s m args below meth c H locs cells slots Q (F0 m pc ls rest) := by
  obtain ⟨hx, hb, hml, hown, hts, -, -, hK, hST, -⟩ := X
  exact va_gets hx hb (hST i hi).1 hI.2.2 hown (hts _ hl) (fun _ h9 => h9) hdg kk
theorem z_getsN (X : zX p s m args meth c own cc nL ret G A) (hI : zI G K s A H locs h) {index : Nat} (i : Nat) (hi : i < 5) (hl : Cond.fieldLinkNest own index "AllHome" (zsn i) "[I" "AllHome" ∈ zNs) (hdg : decode cc pc = .ok (.getstatic index, 3))
    (kk : W p l e R s m args below meth c H locs cells slots Q (F0 m (pc + 3) ls (.ref (G.2.2.1 i) :: rest))) : W p l e R s m args below meth c H locs cells slots Q (F0 m pc ls rest) := by
  obtain ⟨hx, hb, hml, hown, hts, -, -, hK, hST, hNs⟩ := X
  exact va_getsN hx hb (hST i hi).1 hI.2.2 hown (va_Nw.use (zNs_on _ hl) (hNs _ hl)) (fun _ h9 => h9) hdg kk
theorem z_tab (X : zX p s m args meth c own cc nL ret G A) (hI : zI G K s A H locs h) (i : Nat) (hi : i < 5) {k x : Int32} (hv : ztab i k = some x) (hdg : decode cc pc = .ok (.iaload, 1))
    (kk : W p l e R s m args below meth c H locs cells slots Q (F0 m (pc + 1) ls (.int x :: rest))) : W p l e R s m args below meth c H locs cells slots Q (F0 m pc ls (.int k :: .ref (G.2.2.1 i) :: rest)) := by
  obtain ⟨hx, hb, hml, hown, hts, -, -, hK, hST, -⟩ := X
  unfold ztab at hv
  split at hv
  · cases hv
  · rename_i hin
    cases hv
    exact va_ti hx hb (hST i hi).2 hI.2.2 hin rfl hdg kk
theorem z_tlen (X : zX p s m args meth c own cc nL ret G A) (hI : zI G K s A H locs h) (i : Nat) (hi : i < 5) {x : Int32} (hv : Int32.ofNat (zsl i).length = x) (hdg : decode cc pc = .ok (.arraylength, 1))
    (kk : W p l e R s m args below meth c H locs cells slots Q (F0 m (pc + 1) ls (.int x :: rest))) : W p l e R s m args below meth c H locs cells slots Q (F0 m pc ls (.ref (G.2.2.1 i) :: rest)) := by
  obtain ⟨hx, hb, hml, hown, hts, -, -, hK, hST, -⟩ := X
  exact va_tlen hx hb (hST i hi).2 hI.2.2 hv hdg kk
theorem z_cpI (X : zX p s m args meth c own cc nL ret G A) (hI : zI G K s A H locs h) (hls : ls.size = nL) {index : Nat} (hl : Cond.methodLink own index arraycopyName ∈ zTb) (hnat : Cond.native arraycopyName ∈ zTb) (hst : Cond.static arraycopyName ∈ zTb) (hini : Cond.initialized "java/lang/System" ∈ zTb) {a b : Nat} {sp dp n : Int32} (hv : zcpI h a sp b dp n = some h') (hR : 1 ≤ R.frames ∧ (rest.map fun v => v.category).sum + (nativeFrameWords "java/lang/System" "arraycopy" 5 + 11) ≤ R.locals) (hdg : decode cc pc = .ok (.invokestatic index, 3))
    (kk : ∀ (H1 : Heap) (locs1 : List Loc), zI G K s A H1 locs1 h' → W p l e R s m args below meth c H1 locs1 cells slots Q (F0 m (pc + 3) ls rest)) : W p l e R s m args below meth c H locs cells slots Q (F0 m pc ls (.int n :: .int dp :: .ref (G.1 b) :: .int sp :: .ref (G.1 a) :: rest)) := by
  obtain ⟨hx, hb, hml, hown, hts, -, -, hK, -, -⟩ := X
  obtain ⟨n0, n1, f, g, ha, hbb, c1, c2, c3, c4, c5, rfl⟩ := zcpI_at hv
  have hka := zlt hI ha znR
  have hkb := zlt hI hbb znR
  refine va_copyi (f := f) (g := g) (n0 := n0) (n1 := n1) (ty := .int) hx hb (by rw [hml, hls]) hown (hts _ hl) (hts _ hnat) (hts _ hst) (hts _ hini) hK hI.1.2 hI.2.1 hI.2.2 a b 0 0 (by rw [zW_get hka, ha]; rfl) (by rw [zW_get hkb, hbb]; rfl) rfl rfl rfl c1 c2 c3 c4 c5 (fun i _ => rfl) hR.1 hR.2 hdg (fun H1 locs1 hP hD hS => ?_)
  exact kk H1 locs1 (zI_put hI hkb rfl hP hS)
theorem z_cpJ (X : zX p s m args meth c own cc nL ret G A) (hI : zI G K s A H locs h) (hls : ls.size = nL) {index : Nat} (hl : Cond.methodLink own index arraycopyName ∈ zTb) (hnat : Cond.native arraycopyName ∈ zTb) (hst : Cond.static arraycopyName ∈ zTb) (hini : Cond.initialized "java/lang/System" ∈ zTb) {a b : Nat} {sp dp n : Int32} (hv : zcpJ h a sp b dp n = some h') (hR : 1 ≤ R.frames ∧ (rest.map fun v => v.category).sum + (nativeFrameWords "java/lang/System" "arraycopy" 5 + 11) ≤ R.locals) (hdg : decode cc pc = .ok (.invokestatic index, 3))
    (kk : ∀ (H1 : Heap) (locs1 : List Loc), zI G K s A H1 locs1 h' → W p l e R s m args below meth c H1 locs1 cells slots Q (F0 m (pc + 3) ls rest)) : W p l e R s m args below meth c H locs cells slots Q (F0 m pc ls (.int n :: .int dp :: .ref (G.1 b) :: .int sp :: .ref (G.1 a) :: rest)) := by
  obtain ⟨hx, hb, hml, hown, hts, -, -, hK, -, -⟩ := X
  obtain ⟨n0, n1, f, g, ha, hbb, c1, c2, c3, c4, c5, rfl⟩ := zcpJ_at hv
  have hka := zlt hI ha znR
  have hkb := zlt hI hbb znR
  refine va_copyl (f := f) (g := g) (n0 := n0) (n1 := n1) (ty := .long) hx hb (by rw [hml, hls]) hown (hts _ hl) (hts _ hnat) (hts _ hst) (hts _ hini) hK hI.1.2 hI.2.1 hI.2.2 a b 1 1 (by rw [zW_get hka, ha]; rfl) (by rw [zW_get hkb, hbb]; rfl) rfl rfl rfl c1 c2 c3 c4 c5 (fun i _ => rfl) hR.1 hR.2 hdg (fun H1 locs1 hP hD hS => ?_)
  exact kk H1 locs1 (zI_put hI hkb rfl hP hS)
-- ends
theorem z_iret (X : zX p s m args meth c own cc nL (some .int) G (zA G K)) (hI : zI G K s (zA G K) H locs h) {x : Int32} (hdg : decode cc pc = .ok (.ireturn, 1)) : W p l e R s m args below meth c H locs cells slots (MQ below (zQi G K x h) args s cells slots (zA G K)) (F0 m pc ls [.int x]) := by
  obtain ⟨hx, hb, hml, hown, hts, hr, hlocks, hK, hST, -⟩ := X
  exact W.iret (v := x) hx hb hr (fun t ht hW => ⟨⟨x, (), rfl, rfl, by show zP G K h t.heap; rw [ht]; exact hI.1⟩, hI.2.2.F ht⟩) hI.2.2.2.2 hdg hlocks
theorem z_zret (X : zX p s m args meth c own cc nL (some .boolean) G (zA G K)) (hI : zI G K s (zA G K) H locs h) {x : Int32} (hx01 : x = 0 ∨ x = 1) (hdg : decode cc pc = .ok (.ireturn, 1)) : W p l e R s m args below meth c H locs cells slots (MQ below (zQi G K x h) args s cells slots (zA G K)) (F0 m pc ls [.int x]) := by
  obtain ⟨hx, hb, hml, hown, hts, hr, hlocks, hK, hST, -⟩ := X
  exact W.zret (v := x) hx hb hr (by rcases hx01 with rfl | rfl <;> rfl) (fun t ht hW => ⟨⟨x, (), rfl, rfl, by show zP G K h t.heap; rw [ht]; exact hI.1⟩, hI.2.2.F ht⟩) hI.2.2.2.2 hdg hlocks
theorem z_lret (X : zX p s m args meth c own cc nL (some .long) G (zA G K)) (hI : zI G K s (zA G K) H locs h) {x : Int64} (hdg : decode cc pc = .ok (.lreturn, 1)) : W p l e R s m args below meth c H locs cells slots (MQ below (zQl G K x h) args s cells slots (zA G K)) (F0 m pc ls [.long x]) := by
  obtain ⟨hx, hb, hml, hown, hts, hr, hlocks, hK, hST, -⟩ := X
  exact W.lret (v := x) hx hb hr (fun t ht hW => ⟨⟨x, (), rfl, rfl, by show zP G K h t.heap; rw [ht]; exact hI.1⟩, hI.2.2.F ht⟩) hI.2.2.2.2 hdg hlocks
theorem z_vret (X : zX p s m args meth c own cc nL none G (zA G K)) (hI : zI G K s (zA G K) H locs h) (hdg : decode cc pc = .ok (.return_, 1)) : W p l e R s m args below meth c H locs cells slots (MQ below (zQv G K h) args s cells slots (zA G K)) (F0 m pc ls []) := by
  obtain ⟨hx, hb, hml, hown, hts, hr, hlocks, hK, hST, -⟩ := X
  exact W.vret hx hb hr (fun t ht hW => ⟨⟨(), rfl, trivial, by show zP G K h t.heap; rw [ht]; exact hI.1⟩, hI.2.2.F ht⟩) hI.2.2.2.2 hdg hlocks
end ZR
end
section
/-! CALLS OVER OUR OWN WORLD: what the tables say of a call by its place; the callee's contract in; the whole world goes with it. -/
theorem zG_ok {y : MethodName} {b : ByteArray} {n : Nat} {ret : Option FieldType} (h : Cond.code y b n ret ∈ zTb) : GoodIn zTb (zws y b n ret) := by
  intro w hw
  have h1 : w ∈ zTb := (List.mem_cons.mp hw).elim (fun q => q ▸ h) id
  exact ⟨h1, good_of_word (List.mem_filter.mp h1).2⟩
def zDc (y : MethodName) (n : Nat) : Prop := y.cls ≠ "java/lang/invoke/MethodHandle" ∧ y.cls ≠ "java/lang/invoke/VarHandle" ∧ (parseMethodDescriptor y.desc).map (fun d => d.parameters.length) = some n
def zCV (own : String) (idx : Nat) (y : MethodName) (b : ByteArray) (maxL : Nat) (ret : Option FieldType) (n ci : Nat) : Prop := Cond.methodLink own idx y ∈ zTb ∧ Cond.instanceMethod y ∈ zTb ∧ Cond.selects y.cls y y ∈ zTb ∧ Cond.initialized y.cls ∈ zTb ∧ Cond.code y b maxL ret ∈ zTb ∧ zDc y n ∧ ci < 90 ∧ ∃ q : vw_C, zCl[ci]? = some q ∧ q.1 = y.cls
def zCS (own : String) (idx : Nat) (y : MethodName) (b : ByteArray) (maxL : Nat) (ret : Option FieldType) (n : Nat) : Prop := Cond.methodLink own idx y ∈ zTb ∧ Cond.static y ∈ zTb ∧ Cond.initialized y.cls ∈ zTb ∧ Cond.code y b maxL ret ∈ zTb ∧ zDc y n
def zCN (own : String) (idx : Nat) (y : MethodName) (b : ByteArray) (maxL : Nat) (ret : Option FieldType) (n : Nat) : Prop := Cond.methodLinkNest own idx y "AllHome" ∈ zNs ∧ Cond.static y ∈ zTb ∧ Cond.initialized y.cls ∈ zTb ∧ Cond.code y b maxL ret ∈ zTb ∧ zDc y n
theorem zU_blind {G : zG} {K : Nat} {h : zH} {av : List Value} : FrameBlind (zPc G K h av) := by
  intro a U g mk q
  obtain ⟨q0, qP, qD, qK, qS, qN⟩ := q
  have hr : U.vm.Alike (U.calling g mk a).vm := Vm.Alike.refl U.vm
  exact ⟨q0, qP, qD, va_K.moved hr qK, fun i hi => ⟨(qS i hi).1.moved hr, (qS i hi).2.moved hr⟩, fun w hw => va_Nw.same (u := U) (U := U.calling g mk a) (zNs_on w hw) rfl (qN w hw)⟩
section ZC
variable {p : Program} {l : Launch} {e : Env} {R : Room} {s : State} {m : MethodId} {args : Array Value} {below : List Frame} {meth : Method} {c : Code} {H : Heap} {locs : List Loc} {cells slots : Nat} {Q : State → Prop}
variable {cc : ByteArray} {pc : Nat} {ls : Array Slot} {rest st0 : List Value} {own : String} {nL : Nat} {ret : Option FieldType} {G : zG} {K : Nat} {A : Nat → Prop} {h h' : zH}
variable {y : MethodName} {b : ByteArray} {maxL idx n d ci a : Nat} {As : List Value}
theorem zU_of (X : zX p s m args meth c own cc nL ret G A) (hI : zI G K s A H locs h) {U : State} (hU : U.heap = H) (hW : s.WarmedH U.vm) : zU G K h U := by
  obtain ⟨hx, hb, hml, hown, hts, -, -, hK, hST, hNs⟩ := X
  exact ⟨by rw [hU]; exact hI.1, zD_self hI.2.1, va_K.moved hW.alike hK, hST.go hI.2.2 hU hW.alike (zA_in hI.2.1), zNs_warm hW hNs⟩
theorem z_runV {Qc : Array Value → State → Outcome → State → Prop} {rt : Option FieldType} (X : zX p s m args meth c own cc nL ret G A) (hI : zI G K s A H locs h) (hls : ls.size = nL) (hM : Met l y (zws y b maxL rt) (zR d) (zPc G K h (.ref (G.1 a) :: As)) Qc 0 0 (zA G K)) (hC : zCV own idx y b maxL rt n ci) (hn : As.length = n) (hcls : zcls h a = ci) (hrest : (rest.map fun v => v.category).sum ≤ 8) (hR : d + 1 ≤ R.frames ∧ 8 + (maxL + 11) + 60 * d ≤ R.locals ∧ cells ≤ R.cells ∧ slots ≤ R.slots) (hst : st0 = As.reverse ++ .ref (G.1 a) :: rest) (hdg : decode cc pc = .ok (.invokevirtual idx, 3)) :
    va_Run p l e R s m args below meth c H locs cells slots 0 0 (F0 m pc ls st0) rest (Qc (Value.ref (G.1 a) :: As).toArray) (zA G K) := by
  have hU := fun (U : State) (hU : U.heap = H) (hW : s.WarmedH U.vm) => zU_of X hI hU hW
  obtain ⟨hx, hb, hml, hown, hts, -, -, hK, hST, hNs⟩ := X
  obtain ⟨c1, c2, c3, c4, c5, c6, c90, q, hq, hqc⟩ := hC
  obtain ⟨fs, ha⟩ := zat_O hcls c90
  have hk := zlt hI ha (znO c90)
  refine va_runV (C := y.cls) (As := As) (rest := rest) (n := n) (bytes := b) (maxL := maxL) (ret := rt) ⟨hx, hb, hml, hown, hts⟩ hM ⟨callB_of n hts (zG_ok c5) rfl rfl rfl (hts _ c4) (hts _ c1) c6 ⟨hR.1, hR.2.1⟩, hts _ c2, hts _ c3⟩ ⟨zU_blind, ?_, fun U hU1 hW => ⟨rfl, hU U hU1 hW⟩⟩ rfl hn hls hst (lv_room hrest) hdg hR.2.2
  rw [← hqc]
  exact va_recv hK hI.1.2 (ci := ci) (q0 := a) hq (by rw [zW_get hk, ha]; rfl)
theorem z_runS {Qc : Array Value → State → Outcome → State → Prop} {rt : Option FieldType} (X : zX p s m args meth c own cc nL ret G A) (hI : zI G K s A H locs h) (hls : ls.size = nL) (hM : Met l y (zws y b maxL rt) (zR d) (zPc G K h As) Qc 0 0 (zA G K)) (hC : zCS own idx y b maxL rt n) (hn : As.length = n) (hrest : (rest.map fun v => v.category).sum ≤ 8) (hR : d + 1 ≤ R.frames ∧ 8 + (maxL + 11) + 60 * d ≤ R.locals ∧ cells ≤ R.cells ∧ slots ≤ R.slots) (hst : st0 = As.reverse ++ rest) (hdg : decode cc pc = .ok (.invokestatic idx, 3)) :
    va_Run p l e R s m args below meth c H locs cells slots 0 0 (F0 m pc ls st0) rest (Qc As.toArray) (zA G K) := by
  have hU := fun (U : State) (hU : U.heap = H) (hW : s.WarmedH U.vm) => zU_of X hI hU hW
  obtain ⟨hx, hb, hml, hown, hts, -, -, hK, hST, hNs⟩ := X
  obtain ⟨c1, c2, c4, c5, c6⟩ := hC
  exact va_runS (As := As) (rest := rest) (n := n) (bytes := b) (maxL := maxL) (ret := rt) ⟨hx, hb, hml, hown, hts⟩ hM ⟨callB_of n hts (zG_ok c5) rfl rfl rfl (hts _ c4) (hts _ c1) c6 ⟨hR.1, hR.2.1⟩, hts _ c2⟩ ⟨zU_blind, fun U hU1 hW => ⟨rfl, hU U hU1 hW⟩⟩ rfl hn hls hst (lv_room hrest) hdg hR.2.2
theorem z_runN {Qc : Array Value → State → Outcome → State → Prop} {rt : Option FieldType} (X : zX p s m args meth c own cc nL ret G A) (hI : zI G K s A H locs h) (hls : ls.size = nL) (hM : Met l y (zws y b maxL rt) (zR d) (zPc G K h As) Qc 0 0 (zA G K)) (hC : zCN own idx y b maxL rt n) (hn : As.length = n) (hrest : (rest.map fun v => v.category).sum ≤ 8) (hR : d + 1 ≤ R.frames ∧ 8 + (maxL + 11) + 60 * d ≤ R.locals ∧ cells ≤ R.cells ∧ slots ≤ R.slots) (hst : st0 = As.reverse ++ rest) (hdg : decode cc pc = .ok (.invokestatic idx, 3)) :
    va_Run p l e R s m args below meth c H locs cells slots 0 0 (F0 m pc ls st0) rest (Qc As.toArray) (zA G K) := by
  have hU := fun (U : State) (hU : U.heap = H) (hW : s.WarmedH U.vm) => zU_of X hI hU hW
  obtain ⟨hx, hb, hml, hown, hts, -, -, hK, hST, hNs⟩ := X
  obtain ⟨c1, c2, c4, c5, c6⟩ := hC
  exact va_runSN (As := As) (rest := rest) (n := n) (bytes := b) (maxL := maxL) (ret := rt) ⟨hx, hb, hml, hown, hts⟩ hM ⟨va_cnB n hts (zG_ok c5) rfl rfl rfl (hNs _ c1) (hts _ c4) c6 ⟨hR.1, hR.2.1⟩, hts _ c2, trivial⟩ ⟨zU_blind, fun U hU1 hW => ⟨rfl, hU U hU1 hW⟩⟩ rfl hn hls hst (lv_room hrest) hdg hR.2.2
theorem z_ci {av : Array Value} {r : Int32} (hI : zI G K s A H locs h) (hr : va_Run p l e R s m args below meth c H locs cells slots 0 0 (F0 m pc ls st0) rest (zQi G K r h' av) (zA G K))
    (kk : ∀ (H1 : Heap) (locs1 : List Loc), zI G K s A H1 locs1 h' → W p l e R s m args below meth c H1 locs1 cells slots Q (F0 m (pc + 3) ls (.int r :: rest))) : W p l e R s m args below meth c H locs cells slots Q (F0 m pc ls st0) := by
  refine va_calli hr hI.2.2 (fun q _ => zA_in hI.2.1 q) (zA_in hI.2.1) (fun r' u t H1 locs1 ht hvm hp hB hz hk hS => ?_)
  subst hp
  exact kk H1 locs1 ⟨by rw [← ht]; exact hB, zD_any _ hI.2.1, hS⟩
theorem z_cl {av : Array Value} {r : Int64} (hI : zI G K s A H locs h) (hr : va_Run p l e R s m args below meth c H locs cells slots 0 0 (F0 m pc ls st0) rest (zQl G K r h' av) (zA G K))
    (kk : ∀ (H1 : Heap) (locs1 : List Loc), zI G K s A H1 locs1 h' → W p l e R s m args below meth c H1 locs1 cells slots Q (F0 m (pc + 3) ls (.long r :: rest))) : W p l e R s m args below meth c H locs cells slots Q (F0 m pc ls st0) := by
  refine va_calll hr hI.2.2 (fun q _ => zA_in hI.2.1 q) (zA_in hI.2.1) (fun r' u t H1 locs1 ht hvm hp hB hz hk hS => ?_)
  subst hp
  exact kk H1 locs1 ⟨by rw [← ht]; exact hB, zD_any _ hI.2.1, hS⟩
theorem z_cv {av : Array Value} (hI : zI G K s A H locs h) (hr : va_Run p l e R s m args below meth c H locs cells slots 0 0 (F0 m pc ls st0) rest (zQv G K h' av) (zA G K))
    (kk : ∀ (H1 : Heap) (locs1 : List Loc), zI G K s A H1 locs1 h' → W p l e R s m args below meth c H1 locs1 cells slots Q (F0 m (pc + 3) ls rest)) : W p l e R s m args below meth c H locs cells slots Q (F0 m pc ls st0) := by
  refine va_callv hr hI.2.2 (fun q _ => zA_in hI.2.1 q) (zA_in hI.2.1) (fun u t H1 locs1 ht hvm hp hB hz hk hS => ?_)
  exact kk H1 locs1 ⟨by rw [← ht]; exact hB, zD_any _ hI.2.1, hS⟩
end ZC
/-- a contract out of a walk from its entry -/
theorem zMet {l : Launch} {y : MethodName} {b : ByteArray} {n d : Nat} {rt : Option FieldType} {G : zG} {K : Nat} {h : zH} {av : List Value} {Qc : Array Value → State → Outcome → State → Prop} (hy : plainName y.cls = true) (hlen : (lg_sl av).length ≤ n)
    (body : ∀ (p : Program) (e : Env) (s : State) (m : MethodId) (below : List Frame) (meth : Method) (c : Code) (ls : Array Slot), zX p s m av.toArray meth c y.cls b n rt G (zA G K) → zI G K s (zA G K) s.heap [] h → lv_has ls n (lv_args 0 av) → W p l e (zR d) s m av.toArray below meth c s.heap [] 0 0 (MQ below Qc av.toArray s 0 0 (zA G K)) (F0 m 0 ls [])) : Met l y (zws y b n rt) (zR d) (zPc G K h av) Qc 0 0 (zA G K) := by
  refine Met.ofW (cc := b) (maxL := n) (ret := rt) hy rfl ?_
  intro p e s m args below meth c s₁ B hml hv
  obtain ⟨rfl, hP, hD, hK, hST, hNs⟩ := hv
  have hts := atoms_spec (ws := zws y b n rt) B.pre
  have hl := lv_entry av (n := n) hlen
  rw [lg_entry_eq]
  exact body p e s m below meth c _ ⟨B.exec, B.bytes, hml, findClass_of_methodNamed B.named, fun w hw => hts w (List.mem_cons_of_mem _ hw), B.returns, B.notSynchronized, hK, hST, hNs⟩ ⟨hP, hD, va_S.rf⟩ hl
end
