section
-- ===== PART A: goes FIRST, ahead of the names: the tables' words, and 'selects' of the private methods out of them =====
/-- a private method of a class that the tables say can be made, by its rows of tables_1 -/
def lw_okq (q : MethodName × Nat) : Prop := (q.1.cls ≠ "java/lang/invoke/MethodHandle" ∧ q.1.cls ≠ "java/lang/invoke/VarHandle") ∧ Cond.instantiable q.1.cls q.2 ∈ tables_1 ∧ Cond.privateMethod q.1 ∈ tables_1 ∧ Cond.instanceMethod q.1 ∈ tables_1
theorem lw_p0 : lw_okq (⟨"AllHome$Huts", "addWords", "(III)I"⟩, 4) := ⟨⟨by decide +kernel, by decide +kernel⟩, List.mem_of_getElem? (i := 21) (by decide +kernel), List.mem_of_getElem? (i := 231) (by decide +kernel), List.mem_of_getElem? (i := 232) (by decide +kernel)⟩
theorem lw_p1 : lw_okq (⟨"AllHome", "isWay", "(I)Z"⟩, 12) := ⟨⟨by decide +kernel, by decide +kernel⟩, List.mem_of_getElem? (i := 13) (by decide +kernel), List.mem_of_getElem? (i := 278) (by decide +kernel), List.mem_of_getElem? (i := 279) (by decide +kernel)⟩
theorem lw_p2 : lw_okq (⟨"AllHome", "isRun", "(I)Z"⟩, 12) := ⟨⟨by decide +kernel, by decide +kernel⟩, List.mem_of_getElem? (i := 13) (by decide +kernel), List.mem_of_getElem? (i := 304) (by decide +kernel), List.mem_of_getElem? (i := 305) (by decide +kernel)⟩
theorem lw_p3 : lw_okq (⟨"AllHome$Rules", "goOn", "([II)I"⟩, 3) := ⟨⟨by decide +kernel, by decide +kernel⟩, List.mem_of_getElem? (i := 52) (by decide +kernel), List.mem_of_getElem? (i := 319) (by decide +kernel), List.mem_of_getElem? (i := 320) (by decide +kernel)⟩
theorem lw_p4 : lw_okq (⟨"AllHome$Rules", "send", "([III)I"⟩, 3) := ⟨⟨by decide +kernel, by decide +kernel⟩, List.mem_of_getElem? (i := 52) (by decide +kernel), List.mem_of_getElem? (i := 326) (by decide +kernel), List.mem_of_getElem? (i := 327) (by decide +kernel)⟩
theorem lw_p5 : lw_okq (⟨"AllHome$Rules", "comeWord", "([II)I"⟩, 3) := ⟨⟨by decide +kernel, by decide +kernel⟩, List.mem_of_getElem? (i := 52) (by decide +kernel), List.mem_of_getElem? (i := 336) (by decide +kernel), List.mem_of_getElem? (i := 337) (by decide +kernel)⟩
theorem lw_p6 : lw_okq (⟨"AllHome$Rules", "comeNote", "([II)I"⟩, 3) := ⟨⟨by decide +kernel, by decide +kernel⟩, List.mem_of_getElem? (i := 52) (by decide +kernel), List.mem_of_getElem? (i := 349) (by decide +kernel), List.mem_of_getElem? (i := 350) (by decide +kernel)⟩
theorem lw_p7 : lw_okq (⟨"AllHome$Rules", "takeSums", "([IIII)I"⟩, 3) := ⟨⟨by decide +kernel, by decide +kernel⟩, List.mem_of_getElem? (i := 52) (by decide +kernel), List.mem_of_getElem? (i := 356) (by decide +kernel), List.mem_of_getElem? (i := 357) (by decide +kernel)⟩
theorem lw_p8 : lw_okq (⟨"AllHome$Rules", "ask", "([II)I"⟩, 3) := ⟨⟨by decide +kernel, by decide +kernel⟩, List.mem_of_getElem? (i := 52) (by decide +kernel), List.mem_of_getElem? (i := 361) (by decide +kernel), List.mem_of_getElem? (i := 362) (by decide +kernel)⟩
theorem lw_p9 : lw_okq (⟨"AllHome$Rules", "leaveTree", "([I)I"⟩, 3) := ⟨⟨by decide +kernel, by decide +kernel⟩, List.mem_of_getElem? (i := 52) (by decide +kernel), List.mem_of_getElem? (i := 373) (by decide +kernel), List.mem_of_getElem? (i := 374) (by decide +kernel)⟩
theorem lw_p10 : lw_okq (⟨"AllHome$Rules", "seesAllHome", "([I)Z"⟩, 3) := ⟨⟨by decide +kernel, by decide +kernel⟩, List.mem_of_getElem? (i := 52) (by decide +kernel), List.mem_of_getElem? (i := 377) (by decide +kernel), List.mem_of_getElem? (i := 378) (by decide +kernel)⟩
theorem lw_p11 : lw_okq (⟨"AllHome$Run", "hutsAwake", "()I"⟩, 6) := ⟨⟨by decide +kernel, by decide +kernel⟩, List.mem_of_getElem? (i := 132) (by decide +kernel), List.mem_of_getElem? (i := 417) (by decide +kernel), List.mem_of_getElem? (i := 418) (by decide +kernel)⟩
theorem lw_p12 : lw_okq (⟨"AllHome", "goThrough", "(I)I"⟩, 12) := ⟨⟨by decide +kernel, by decide +kernel⟩, List.mem_of_getElem? (i := 13) (by decide +kernel), List.mem_of_getElem? (i := 459) (by decide +kernel), List.mem_of_getElem? (i := 460) (by decide +kernel)⟩
theorem lw_p13 : lw_okq (⟨"AllHome$Orders", "addSpare", "(II)I"⟩, 14) := ⟨⟨by decide +kernel, by decide +kernel⟩, List.mem_of_getElem? (i := 45) (by decide +kernel), List.mem_of_getElem? (i := 469) (by decide +kernel), List.mem_of_getElem? (i := 470) (by decide +kernel)⟩
theorem lw_p14 : lw_okq (⟨"AllHome$Orders", "numbersOf", "([II)I"⟩, 14) := ⟨⟨by decide +kernel, by decide +kernel⟩, List.mem_of_getElem? (i := 45) (by decide +kernel), List.mem_of_getElem? (i := 477) (by decide +kernel), List.mem_of_getElem? (i := 478) (by decide +kernel)⟩
theorem lw_p15 : lw_okq (⟨"AllHome$Orders", "tryStep", "(III)V"⟩, 14) := ⟨⟨by decide +kernel, by decide +kernel⟩, List.mem_of_getElem? (i := 45) (by decide +kernel), List.mem_of_getElem? (i := 481) (by decide +kernel), List.mem_of_getElem? (i := 482) (by decide +kernel)⟩
def lw_privs_1 : List (MethodName × Nat) := [(⟨"AllHome$Huts", "addWords", "(III)I"⟩, 4), (⟨"AllHome", "isWay", "(I)Z"⟩, 12), (⟨"AllHome", "isRun", "(I)Z"⟩, 12), (⟨"AllHome$Rules", "goOn", "([II)I"⟩, 3), (⟨"AllHome$Rules", "send", "([III)I"⟩, 3), (⟨"AllHome$Rules", "comeWord", "([II)I"⟩, 3), (⟨"AllHome$Rules", "comeNote", "([II)I"⟩, 3), (⟨"AllHome$Rules", "takeSums", "([IIII)I"⟩, 3), (⟨"AllHome$Rules", "ask", "([II)I"⟩, 3), (⟨"AllHome$Rules", "leaveTree", "([I)I"⟩, 3), (⟨"AllHome$Rules", "seesAllHome", "([I)Z"⟩, 3), (⟨"AllHome$Run", "hutsAwake", "()I"⟩, 6), (⟨"AllHome", "goThrough", "(I)I"⟩, 12), (⟨"AllHome$Orders", "addSpare", "(II)I"⟩, 14), (⟨"AllHome$Orders", "numbersOf", "([II)I"⟩, 14), (⟨"AllHome$Orders", "tryStep", "(III)V"⟩, 14)]
theorem lw_r1 : ∀ q ∈ lw_privs_1, lw_okq q := List.forall_mem_cons.mpr ⟨lw_p0, List.forall_mem_cons.mpr ⟨lw_p1, List.forall_mem_cons.mpr ⟨lw_p2, List.forall_mem_cons.mpr ⟨lw_p3, List.forall_mem_cons.mpr ⟨lw_p4, List.forall_mem_cons.mpr ⟨lw_p5, List.forall_mem_cons.mpr ⟨lw_p6, List.forall_mem_cons.mpr ⟨lw_p7, List.forall_mem_cons.mpr ⟨lw_p8, List.forall_mem_cons.mpr ⟨lw_p9, List.forall_mem_cons.mpr ⟨lw_p10, List.forall_mem_cons.mpr ⟨lw_p11, List.forall_mem_cons.mpr ⟨lw_p12, List.forall_mem_cons.mpr ⟨lw_p13, List.forall_mem_cons.mpr ⟨lw_p14, List.forall_mem_cons.mpr ⟨lw_p15, fun _ h => absurd h List.not_mem_nil⟩⟩⟩⟩⟩⟩⟩⟩⟩⟩⟩⟩⟩⟩⟩⟩
theorem lw_p16 : lw_okq (⟨"AllHome$Orders", "findSpare", "()I"⟩, 14) := ⟨⟨by decide +kernel, by decide +kernel⟩, List.mem_of_getElem? (i := 45) (by decide +kernel), List.mem_of_getElem? (i := 486) (by decide +kernel), List.mem_of_getElem? (i := 487) (by decide +kernel)⟩
theorem lw_p17 : lw_okq (⟨"AllHome$Orders", "firstSaying", "(Z)I"⟩, 14) := ⟨⟨by decide +kernel, by decide +kernel⟩, List.mem_of_getElem? (i := 45) (by decide +kernel), List.mem_of_getElem? (i := 509) (by decide +kernel), List.mem_of_getElem? (i := 510) (by decide +kernel)⟩
theorem lw_p18 : lw_okq (⟨"AllHome$Orders", "spreadCanSay", "()Z"⟩, 14) := ⟨⟨by decide +kernel, by decide +kernel⟩, List.mem_of_getElem? (i := 45) (by decide +kernel), List.mem_of_getElem? (i := 535) (by decide +kernel), List.mem_of_getElem? (i := 536) (by decide +kernel)⟩
theorem lw_p19 : lw_okq (⟨"AllHome$Acts", "perform", "(IIII)I"⟩, 4) := ⟨⟨by decide +kernel, by decide +kernel⟩, List.mem_of_getElem? (i := 112) (by decide +kernel), List.mem_of_getElem? (i := 559) (by decide +kernel), List.mem_of_getElem? (i := 560) (by decide +kernel)⟩
theorem lw_p20 : lw_okq (⟨"AllHome$Acts", "begun", "(I)V"⟩, 4) := ⟨⟨by decide +kernel, by decide +kernel⟩, List.mem_of_getElem? (i := 112) (by decide +kernel), List.mem_of_getElem? (i := 570) (by decide +kernel), List.mem_of_getElem? (i := 571) (by decide +kernel)⟩
theorem lw_p21 : lw_okq (⟨"AllHome", "wantPlace", "(II)I"⟩, 12) := ⟨⟨by decide +kernel, by decide +kernel⟩, List.mem_of_getElem? (i := 13) (by decide +kernel), List.mem_of_getElem? (i := 609) (by decide +kernel), List.mem_of_getElem? (i := 610) (by decide +kernel)⟩
theorem lw_p22 : lw_okq (⟨"AllHome$Shelf", "lowestBits", "(J)J"⟩, 4) := ⟨⟨by decide +kernel, by decide +kernel⟩, List.mem_of_getElem? (i := 158) (by decide +kernel), List.mem_of_getElem? (i := 621) (by decide +kernel), List.mem_of_getElem? (i := 622) (by decide +kernel)⟩
theorem lw_p23 : lw_okq (⟨"AllHomeModel", "faultOf", "(I)I"⟩, 33) := ⟨⟨by decide +kernel, by decide +kernel⟩, List.mem_of_getElem? (i := 665) (by decide +kernel), List.mem_of_getElem? (i := 783) (by decide +kernel), List.mem_of_getElem? (i := 784) (by decide +kernel)⟩
theorem lw_p24 : lw_okq (⟨"AllHomeModel", "isHut", "(I)Z"⟩, 33) := ⟨⟨by decide +kernel, by decide +kernel⟩, List.mem_of_getElem? (i := 665) (by decide +kernel), List.mem_of_getElem? (i := 798) (by decide +kernel), List.mem_of_getElem? (i := 799) (by decide +kernel)⟩
theorem lw_p25 : lw_okq (⟨"AllHomeModel", "lines", "(I)I"⟩, 33) := ⟨⟨by decide +kernel, by decide +kernel⟩, List.mem_of_getElem? (i := 665) (by decide +kernel), List.mem_of_getElem? (i := 803) (by decide +kernel), List.mem_of_getElem? (i := 804) (by decide +kernel)⟩
theorem lw_p26 : lw_okq (⟨"AllHomeModel", "inLine", "(III)I"⟩, 33) := ⟨⟨by decide +kernel, by decide +kernel⟩, List.mem_of_getElem? (i := 665) (by decide +kernel), List.mem_of_getElem? (i := 807) (by decide +kernel), List.mem_of_getElem? (i := 808) (by decide +kernel)⟩
theorem lw_p27 : lw_okq (⟨"AllHomeModel", "isWay", "(I)Z"⟩, 33) := ⟨⟨by decide +kernel, by decide +kernel⟩, List.mem_of_getElem? (i := 665) (by decide +kernel), List.mem_of_getElem? (i := 824) (by decide +kernel), List.mem_of_getElem? (i := 825) (by decide +kernel)⟩
theorem lw_p28 : lw_okq (⟨"AllHomeModel", "begin", "(I)V"⟩, 33) := ⟨⟨by decide +kernel, by decide +kernel⟩, List.mem_of_getElem? (i := 665) (by decide +kernel), List.mem_of_getElem? (i := 832) (by decide +kernel), List.mem_of_getElem? (i := 833) (by decide +kernel)⟩
theorem lw_p29 : lw_okq (⟨"AllHomeModel", "keepRun", "(I)V"⟩, 33) := ⟨⟨by decide +kernel, by decide +kernel⟩, List.mem_of_getElem? (i := 665) (by decide +kernel), List.mem_of_getElem? (i := 836) (by decide +kernel), List.mem_of_getElem? (i := 837) (by decide +kernel)⟩
theorem lw_p30 : lw_okq (⟨"AllHomeModel", "isRun", "(I)Z"⟩, 33) := ⟨⟨by decide +kernel, by decide +kernel⟩, List.mem_of_getElem? (i := 665) (by decide +kernel), List.mem_of_getElem? (i := 844) (by decide +kernel), List.mem_of_getElem? (i := 845) (by decide +kernel)⟩
theorem lw_p31 : lw_okq (⟨"AllHomeModel", "stepOf", "(III)I"⟩, 33) := ⟨⟨by decide +kernel, by decide +kernel⟩, List.mem_of_getElem? (i := 665) (by decide +kernel), List.mem_of_getElem? (i := 848) (by decide +kernel), List.mem_of_getElem? (i := 849) (by decide +kernel)⟩
def lw_privs_2 : List (MethodName × Nat) := [(⟨"AllHome$Orders", "findSpare", "()I"⟩, 14), (⟨"AllHome$Orders", "firstSaying", "(Z)I"⟩, 14), (⟨"AllHome$Orders", "spreadCanSay", "()Z"⟩, 14), (⟨"AllHome$Acts", "perform", "(IIII)I"⟩, 4), (⟨"AllHome$Acts", "begun", "(I)V"⟩, 4), (⟨"AllHome", "wantPlace", "(II)I"⟩, 12), (⟨"AllHome$Shelf", "lowestBits", "(J)J"⟩, 4), (⟨"AllHomeModel", "faultOf", "(I)I"⟩, 33), (⟨"AllHomeModel", "isHut", "(I)Z"⟩, 33), (⟨"AllHomeModel", "lines", "(I)I"⟩, 33), (⟨"AllHomeModel", "inLine", "(III)I"⟩, 33), (⟨"AllHomeModel", "isWay", "(I)Z"⟩, 33), (⟨"AllHomeModel", "begin", "(I)V"⟩, 33), (⟨"AllHomeModel", "keepRun", "(I)V"⟩, 33), (⟨"AllHomeModel", "isRun", "(I)Z"⟩, 33), (⟨"AllHomeModel", "stepOf", "(III)I"⟩, 33)]
theorem lw_r2 : ∀ q ∈ lw_privs_2, lw_okq q := List.forall_mem_cons.mpr ⟨lw_p16, List.forall_mem_cons.mpr ⟨lw_p17, List.forall_mem_cons.mpr ⟨lw_p18, List.forall_mem_cons.mpr ⟨lw_p19, List.forall_mem_cons.mpr ⟨lw_p20, List.forall_mem_cons.mpr ⟨lw_p21, List.forall_mem_cons.mpr ⟨lw_p22, List.forall_mem_cons.mpr ⟨lw_p23, List.forall_mem_cons.mpr ⟨lw_p24, List.forall_mem_cons.mpr ⟨lw_p25, List.forall_mem_cons.mpr ⟨lw_p26, List.forall_mem_cons.mpr ⟨lw_p27, List.forall_mem_cons.mpr ⟨lw_p28, List.forall_mem_cons.mpr ⟨lw_p29, List.forall_mem_cons.mpr ⟨lw_p30, List.forall_mem_cons.mpr ⟨lw_p31, fun _ h => absurd h List.not_mem_nil⟩⟩⟩⟩⟩⟩⟩⟩⟩⟩⟩⟩⟩⟩⟩⟩
theorem lw_p32 : lw_okq (⟨"AllHomeModel", "takeRun", "(I)V"⟩, 33) := ⟨⟨by decide +kernel, by decide +kernel⟩, List.mem_of_getElem? (i := 665) (by decide +kernel), List.mem_of_getElem? (i := 852) (by decide +kernel), List.mem_of_getElem? (i := 853) (by decide +kernel)⟩
theorem lw_p33 : lw_okq (⟨"AllHomeModel", "doStep", "(II)I"⟩, 33) := ⟨⟨by decide +kernel, by decide +kernel⟩, List.mem_of_getElem? (i := 665) (by decide +kernel), List.mem_of_getElem? (i := 856) (by decide +kernel), List.mem_of_getElem? (i := 857) (by decide +kernel)⟩
theorem lw_p34 : lw_okq (⟨"AllHomeModel", "goOn", "(I)Z"⟩, 33) := ⟨⟨by decide +kernel, by decide +kernel⟩, List.mem_of_getElem? (i := 665) (by decide +kernel), List.mem_of_getElem? (i := 860) (by decide +kernel), List.mem_of_getElem? (i := 861) (by decide +kernel)⟩
theorem lw_p35 : lw_okq (⟨"AllHomeModel", "of", "(II)I"⟩, 33) := ⟨⟨by decide +kernel, by decide +kernel⟩, List.mem_of_getElem? (i := 665) (by decide +kernel), List.mem_of_getElem? (i := 864) (by decide +kernel), List.mem_of_getElem? (i := 865) (by decide +kernel)⟩
theorem lw_p36 : lw_okq (⟨"AllHomeModel", "sendWord", "(II)V"⟩, 33) := ⟨⟨by decide +kernel, by decide +kernel⟩, List.mem_of_getElem? (i := 665) (by decide +kernel), List.mem_of_getElem? (i := 868) (by decide +kernel), List.mem_of_getElem? (i := 869) (by decide +kernel)⟩
theorem lw_p37 : lw_okq (⟨"AllHomeModel", "add", "(III)V"⟩, 33) := ⟨⟨by decide +kernel, by decide +kernel⟩, List.mem_of_getElem? (i := 665) (by decide +kernel), List.mem_of_getElem? (i := 872) (by decide +kernel), List.mem_of_getElem? (i := 873) (by decide +kernel)⟩
theorem lw_p38 : lw_okq (⟨"AllHomeModel", "putLast", "(IIII)V"⟩, 33) := ⟨⟨by decide +kernel, by decide +kernel⟩, List.mem_of_getElem? (i := 665) (by decide +kernel), List.mem_of_getElem? (i := 882) (by decide +kernel), List.mem_of_getElem? (i := 883) (by decide +kernel)⟩
theorem lw_p39 : lw_okq (⟨"AllHomeModel", "become", "(III)V"⟩, 33) := ⟨⟨by decide +kernel, by decide +kernel⟩, List.mem_of_getElem? (i := 665) (by decide +kernel), List.mem_of_getElem? (i := 886) (by decide +kernel), List.mem_of_getElem? (i := 887) (by decide +kernel)⟩
theorem lw_p40 : lw_okq (⟨"AllHomeModel", "sendNote", "(III)V"⟩, 33) := ⟨⟨by decide +kernel, by decide +kernel⟩, List.mem_of_getElem? (i := 665) (by decide +kernel), List.mem_of_getElem? (i := 890) (by decide +kernel), List.mem_of_getElem? (i := 891) (by decide +kernel)⟩
theorem lw_p41 : lw_okq (⟨"AllHomeModel", "comes", "(I)Z"⟩, 33) := ⟨⟨by decide +kernel, by decide +kernel⟩, List.mem_of_getElem? (i := 665) (by decide +kernel), List.mem_of_getElem? (i := 894) (by decide +kernel), List.mem_of_getElem? (i := 895) (by decide +kernel)⟩
theorem lw_p42 : lw_okq (⟨"AllHomeModel", "words", "()I"⟩, 33) := ⟨⟨by decide +kernel, by decide +kernel⟩, List.mem_of_getElem? (i := 665) (by decide +kernel), List.mem_of_getElem? (i := 898) (by decide +kernel), List.mem_of_getElem? (i := 899) (by decide +kernel)⟩
theorem lw_p43 : lw_okq (⟨"AllHomeModel", "takeOut", "(II)V"⟩, 33) := ⟨⟨by decide +kernel, by decide +kernel⟩, List.mem_of_getElem? (i := 665) (by decide +kernel), List.mem_of_getElem? (i := 902) (by decide +kernel), List.mem_of_getElem? (i := 903) (by decide +kernel)⟩
theorem lw_p44 : lw_okq (⟨"AllHomeModel", "noteComes", "(I)Z"⟩, 33) := ⟨⟨by decide +kernel, by decide +kernel⟩, List.mem_of_getElem? (i := 665) (by decide +kernel), List.mem_of_getElem? (i := 906) (by decide +kernel), List.mem_of_getElem? (i := 907) (by decide +kernel)⟩
theorem lw_p45 : lw_okq (⟨"AllHomeModel", "notes", "()I"⟩, 33) := ⟨⟨by decide +kernel, by decide +kernel⟩, List.mem_of_getElem? (i := 665) (by decide +kernel), List.mem_of_getElem? (i := 910) (by decide +kernel), List.mem_of_getElem? (i := 911) (by decide +kernel)⟩
theorem lw_p46 : lw_okq (⟨"AllHomeModel", "stoneAt", "(III)V"⟩, 33) := ⟨⟨by decide +kernel, by decide +kernel⟩, List.mem_of_getElem? (i := 665) (by decide +kernel), List.mem_of_getElem? (i := 914) (by decide +kernel), List.mem_of_getElem? (i := 915) (by decide +kernel)⟩
theorem lw_p47 : lw_okq (⟨"AllHomeModel", "sumsAt", "(III)V"⟩, 33) := ⟨⟨by decide +kernel, by decide +kernel⟩, List.mem_of_getElem? (i := 665) (by decide +kernel), List.mem_of_getElem? (i := 918) (by decide +kernel), List.mem_of_getElem? (i := 919) (by decide +kernel)⟩
def lw_privs_3 : List (MethodName × Nat) := [(⟨"AllHomeModel", "takeRun", "(I)V"⟩, 33), (⟨"AllHomeModel", "doStep", "(II)I"⟩, 33), (⟨"AllHomeModel", "goOn", "(I)Z"⟩, 33), (⟨"AllHomeModel", "of", "(II)I"⟩, 33), (⟨"AllHomeModel", "sendWord", "(II)V"⟩, 33), (⟨"AllHomeModel", "add", "(III)V"⟩, 33), (⟨"AllHomeModel", "putLast", "(IIII)V"⟩, 33), (⟨"AllHomeModel", "become", "(III)V"⟩, 33), (⟨"AllHomeModel", "sendNote", "(III)V"⟩, 33), (⟨"AllHomeModel", "comes", "(I)Z"⟩, 33), (⟨"AllHomeModel", "words", "()I"⟩, 33), (⟨"AllHomeModel", "takeOut", "(II)V"⟩, 33), (⟨"AllHomeModel", "noteComes", "(I)Z"⟩, 33), (⟨"AllHomeModel", "notes", "()I"⟩, 33), (⟨"AllHomeModel", "stoneAt", "(III)V"⟩, 33), (⟨"AllHomeModel", "sumsAt", "(III)V"⟩, 33)]
theorem lw_r3 : ∀ q ∈ lw_privs_3, lw_okq q := List.forall_mem_cons.mpr ⟨lw_p32, List.forall_mem_cons.mpr ⟨lw_p33, List.forall_mem_cons.mpr ⟨lw_p34, List.forall_mem_cons.mpr ⟨lw_p35, List.forall_mem_cons.mpr ⟨lw_p36, List.forall_mem_cons.mpr ⟨lw_p37, List.forall_mem_cons.mpr ⟨lw_p38, List.forall_mem_cons.mpr ⟨lw_p39, List.forall_mem_cons.mpr ⟨lw_p40, List.forall_mem_cons.mpr ⟨lw_p41, List.forall_mem_cons.mpr ⟨lw_p42, List.forall_mem_cons.mpr ⟨lw_p43, List.forall_mem_cons.mpr ⟨lw_p44, List.forall_mem_cons.mpr ⟨lw_p45, List.forall_mem_cons.mpr ⟨lw_p46, List.forall_mem_cons.mpr ⟨lw_p47, fun _ h => absurd h List.not_mem_nil⟩⟩⟩⟩⟩⟩⟩⟩⟩⟩⟩⟩⟩⟩⟩⟩
theorem lw_p48 : lw_okq (⟨"AllHomeModel", "asks", "(I)Z"⟩, 33) := ⟨⟨by decide +kernel, by decide +kernel⟩, List.mem_of_getElem? (i := 665) (by decide +kernel), List.mem_of_getElem? (i := 922) (by decide +kernel), List.mem_of_getElem? (i := 923) (by decide +kernel)⟩
theorem lw_p49 : lw_okq (⟨"AllHomeModel", "behind", "()V"⟩, 33) := ⟨⟨by decide +kernel, by decide +kernel⟩, List.mem_of_getElem? (i := 665) (by decide +kernel), List.mem_of_getElem? (i := 926) (by decide +kernel), List.mem_of_getElem? (i := 927) (by decide +kernel)⟩
theorem lw_p50 : lw_okq (⟨"AllHomeModel", "isOver", "()Z"⟩, 33) := ⟨⟨by decide +kernel, by decide +kernel⟩, List.mem_of_getElem? (i := 665) (by decide +kernel), List.mem_of_getElem? (i := 930) (by decide +kernel), List.mem_of_getElem? (i := 931) (by decide +kernel)⟩
theorem lw_p51 : lw_okq (⟨"AllHomeModel", "noOrders", "(I)I"⟩, 33) := ⟨⟨by decide +kernel, by decide +kernel⟩, List.mem_of_getElem? (i := 665) (by decide +kernel), List.mem_of_getElem? (i := 969) (by decide +kernel), List.mem_of_getElem? (i := 970) (by decide +kernel)⟩
theorem lw_p52 : lw_okq (⟨"AllHomeModel", "findAll", "(I)I"⟩, 33) := ⟨⟨by decide +kernel, by decide +kernel⟩, List.mem_of_getElem? (i := 665) (by decide +kernel), List.mem_of_getElem? (i := 973) (by decide +kernel), List.mem_of_getElem? (i := 974) (by decide +kernel)⟩
theorem lw_p53 : lw_okq (⟨"AllHomeModel", "keepState", "(II)V"⟩, 33) := ⟨⟨by decide +kernel, by decide +kernel⟩, List.mem_of_getElem? (i := 665) (by decide +kernel), List.mem_of_getElem? (i := 977) (by decide +kernel), List.mem_of_getElem? (i := 978) (by decide +kernel)⟩
theorem lw_p54 : lw_okq (⟨"AllHomeModel", "goFrom", "(I)V"⟩, 33) := ⟨⟨by decide +kernel, by decide +kernel⟩, List.mem_of_getElem? (i := 665) (by decide +kernel), List.mem_of_getElem? (i := 981) (by decide +kernel), List.mem_of_getElem? (i := 982) (by decide +kernel)⟩
theorem lw_p55 : lw_okq (⟨"AllHomeModel", "bringBack", "(I)V"⟩, 33) := ⟨⟨by decide +kernel, by decide +kernel⟩, List.mem_of_getElem? (i := 665) (by decide +kernel), List.mem_of_getElem? (i := 985) (by decide +kernel), List.mem_of_getElem? (i := 986) (by decide +kernel)⟩
theorem lw_p56 : lw_okq (⟨"AllHomeModel", "findState", "()I"⟩, 33) := ⟨⟨by decide +kernel, by decide +kernel⟩, List.mem_of_getElem? (i := 665) (by decide +kernel), List.mem_of_getElem? (i := 989) (by decide +kernel), List.mem_of_getElem? (i := 990) (by decide +kernel)⟩
theorem lw_p57 : lw_okq (⟨"AllHomeModel", "stepsTo", "(I)I"⟩, 33) := ⟨⟨by decide +kernel, by decide +kernel⟩, List.mem_of_getElem? (i := 665) (by decide +kernel), List.mem_of_getElem? (i := 997) (by decide +kernel), List.mem_of_getElem? (i := 998) (by decide +kernel)⟩
theorem lw_p58 : lw_okq (⟨"AllHomeModel", "workMany", "()I"⟩, 33) := ⟨⟨by decide +kernel, by decide +kernel⟩, List.mem_of_getElem? (i := 665) (by decide +kernel), List.mem_of_getElem? (i := 1009) (by decide +kernel), List.mem_of_getElem? (i := 1010) (by decide +kernel)⟩
theorem lw_p59 : lw_okq (⟨"AllHomeModel", "worksAlike", "(II)Z"⟩, 33) := ⟨⟨by decide +kernel, by decide +kernel⟩, List.mem_of_getElem? (i := 665) (by decide +kernel), List.mem_of_getElem? (i := 1013) (by decide +kernel), List.mem_of_getElem? (i := 1014) (by decide +kernel)⟩
theorem lw_p60 : lw_okq (⟨"AllHomeModel", "sends", "(II)I"⟩, 33) := ⟨⟨by decide +kernel, by decide +kernel⟩, List.mem_of_getElem? (i := 665) (by decide +kernel), List.mem_of_getElem? (i := 1022) (by decide +kernel), List.mem_of_getElem? (i := 1023) (by decide +kernel)⟩
theorem lw_p61 : lw_okq (⟨"AllHomeModel", "ranBody", "(I)V"⟩, 33) := ⟨⟨by decide +kernel, by decide +kernel⟩, List.mem_of_getElem? (i := 665) (by decide +kernel), List.mem_of_getElem? (i := 1026) (by decide +kernel), List.mem_of_getElem? (i := 1027) (by decide +kernel)⟩
theorem lw_p62 : lw_okq (⟨"AllHomeModel", "asksOf", "(II)I"⟩, 33) := ⟨⟨by decide +kernel, by decide +kernel⟩, List.mem_of_getElem? (i := 665) (by decide +kernel), List.mem_of_getElem? (i := 1030) (by decide +kernel), List.mem_of_getElem? (i := 1031) (by decide +kernel)⟩
theorem lw_p63 : lw_okq (⟨"AllHomeModel", "owes", "(II)I"⟩, 33) := ⟨⟨by decide +kernel, by decide +kernel⟩, List.mem_of_getElem? (i := 665) (by decide +kernel), List.mem_of_getElem? (i := 1034) (by decide +kernel), List.mem_of_getElem? (i := 1035) (by decide +kernel)⟩
def lw_privs_4 : List (MethodName × Nat) := [(⟨"AllHomeModel", "asks", "(I)Z"⟩, 33), (⟨"AllHomeModel", "behind", "()V"⟩, 33), (⟨"AllHomeModel", "isOver", "()Z"⟩, 33), (⟨"AllHomeModel", "noOrders", "(I)I"⟩, 33), (⟨"AllHomeModel", "findAll", "(I)I"⟩, 33), (⟨"AllHomeModel", "keepState", "(II)V"⟩, 33), (⟨"AllHomeModel", "goFrom", "(I)V"⟩, 33), (⟨"AllHomeModel", "bringBack", "(I)V"⟩, 33), (⟨"AllHomeModel", "findState", "()I"⟩, 33), (⟨"AllHomeModel", "stepsTo", "(I)I"⟩, 33), (⟨"AllHomeModel", "workMany", "()I"⟩, 33), (⟨"AllHomeModel", "worksAlike", "(II)Z"⟩, 33), (⟨"AllHomeModel", "sends", "(II)I"⟩, 33), (⟨"AllHomeModel", "ranBody", "(I)V"⟩, 33), (⟨"AllHomeModel", "asksOf", "(II)I"⟩, 33), (⟨"AllHomeModel", "owes", "(II)I"⟩, 33)]
theorem lw_r4 : ∀ q ∈ lw_privs_4, lw_okq q := List.forall_mem_cons.mpr ⟨lw_p48, List.forall_mem_cons.mpr ⟨lw_p49, List.forall_mem_cons.mpr ⟨lw_p50, List.forall_mem_cons.mpr ⟨lw_p51, List.forall_mem_cons.mpr ⟨lw_p52, List.forall_mem_cons.mpr ⟨lw_p53, List.forall_mem_cons.mpr ⟨lw_p54, List.forall_mem_cons.mpr ⟨lw_p55, List.forall_mem_cons.mpr ⟨lw_p56, List.forall_mem_cons.mpr ⟨lw_p57, List.forall_mem_cons.mpr ⟨lw_p58, List.forall_mem_cons.mpr ⟨lw_p59, List.forall_mem_cons.mpr ⟨lw_p60, List.forall_mem_cons.mpr ⟨lw_p61, List.forall_mem_cons.mpr ⟨lw_p62, List.forall_mem_cons.mpr ⟨lw_p63, fun _ h => absurd h List.not_mem_nil⟩⟩⟩⟩⟩⟩⟩⟩⟩⟩⟩⟩⟩⟩⟩⟩
theorem lw_p64 : lw_okq (⟨"AllHomeModel", "tells", "(II)I"⟩, 33) := ⟨⟨by decide +kernel, by decide +kernel⟩, List.mem_of_getElem? (i := 665) (by decide +kernel), List.mem_of_getElem? (i := 1038) (by decide +kernel), List.mem_of_getElem? (i := 1039) (by decide +kernel)⟩
theorem lw_p65 : lw_okq (⟨"AllHomeModel", "refusal", "(II)I"⟩, 33) := ⟨⟨by decide +kernel, by decide +kernel⟩, List.mem_of_getElem? (i := 665) (by decide +kernel), List.mem_of_getElem? (i := 1058) (by decide +kernel), List.mem_of_getElem? (i := 1059) (by decide +kernel)⟩
def lw_privs_5 : List (MethodName × Nat) := [(⟨"AllHomeModel", "tells", "(II)I"⟩, 33), (⟨"AllHomeModel", "refusal", "(II)I"⟩, 33)]
theorem lw_r5 : ∀ q ∈ lw_privs_5, lw_okq q := List.forall_mem_cons.mpr ⟨lw_p64, List.forall_mem_cons.mpr ⟨lw_p65, fun _ h => absurd h List.not_mem_nil⟩⟩
def lw_privs : List (MethodName × Nat) := lw_privs_1 ++ (lw_privs_2 ++ (lw_privs_3 ++ (lw_privs_4 ++ (lw_privs_5))))
def lw_tbl : List Cond := k2_sels lw_privs ++ tables_1
theorem lw_privs_ok : ∀ q ∈ lw_privs, lw_okq q := by
  show ∀ q ∈ lw_privs_1 ++ (lw_privs_2 ++ (lw_privs_3 ++ (lw_privs_4 ++ (lw_privs_5)))), lw_okq q
  exact List.forall_mem_append.mpr ⟨lw_r1, List.forall_mem_append.mpr ⟨lw_r2, List.forall_mem_append.mpr ⟨lw_r3, List.forall_mem_append.mpr ⟨lw_r4, lw_r5⟩⟩⟩⟩
end
section
/-- the words that every warm state keeps -/
def zTb : List Cond := lw_tbl.filter goodWord
theorem zTb_in {w : Cond} (h : w ∈ lw_tbl) (hg : goodWord w = true) : w ∈ zTb := List.mem_filter.mpr ⟨h, hg⟩
theorem zTb_lw {w : Cond} (h : w ∈ zTb) : w ∈ lw_tbl := (List.mem_filter.mp h).1
/-- the words on nest mates -/
def zNs : List Cond := [(Jvm.Cond.methodLinkNest "AllHome" (15 : Nat) ({ cls := "AllHome$Huts", name := "<init>", desc := "()V" } : Jvm.MethodName) "AllHome"), (Jvm.Cond.methodLinkNest "AllHome" (46 : Nat) ({ cls := "AllHome$Acts", name := "<init>", desc := "()V" } : Jvm.MethodName) "AllHome"), (Jvm.Cond.methodLinkNest "AllHome" (58 : Nat) ({ cls := "AllHome$Shelf", name := "<init>", desc := "()V" } : Jvm.MethodName) "AllHome"), (Jvm.Cond.methodLinkNest "AllHome$Rules" (19 : Nat) ({ cls := "AllHome", name := "isKind", desc := "(I)Z" } : Jvm.MethodName) "AllHome"), (Jvm.Cond.fieldLinkNest "AllHome$Rules" (26 : Nat) "AllHome" "FAMILY" "[I" "AllHome"), (Jvm.Cond.methodLinkNest "AllHome$Rules" (104 : Nat) ({ cls := "AllHome", name := "isUnder", desc := "(II)Z" } : Jvm.MethodName) "AllHome"), (Jvm.Cond.methodLinkNest "AllHome$Run" (56 : Nat) ({ cls := "AllHome", name := "isOver", desc := "([I)Z" } : Jvm.MethodName) "AllHome"), (Jvm.Cond.methodLinkNest "AllHome$Orders" (112 : Nat) ({ cls := "AllHome", name := "isOver", desc := "([I)Z" } : Jvm.MethodName) "AllHome"), (Jvm.Cond.methodLinkNest "AllHome$Acts" (33 : Nat) ({ cls := "AllHome", name := "isKind", desc := "(I)Z" } : Jvm.MethodName) "AllHome"), (Jvm.Cond.fieldLinkNest "AllHome$Acts" (37 : Nat) "AllHome" "ABOVE" "[I" "AllHome")]
theorem zNs_in : ∀ w ∈ zNs, w ∈ lw_tbl := by decide +kernel
theorem zNs_on : ∀ w ∈ zNs, w.onTables = true := by decide +kernel
theorem zNs_warm {s U : State} (hW : s.WarmedH U.vm) (h : ∀ w ∈ zNs, va_Nw w s) : ∀ w ∈ zNs, va_Nw w U := by
  unfold zNs at h ⊢
  simp only [List.forall_mem_cons] at h ⊢
  obtain ⟨h0, h1, h2, h3, h4, h5, h6, h7, h8, h9, -⟩ := h
  exact ⟨va_Nw.warmM hW h0, va_Nw.warmM hW h1, va_Nw.warmM hW h2, va_Nw.warmM hW h3, va_Nw.warmF hW h4, va_Nw.warmM hW h5, va_Nw.warmM hW h6, va_Nw.warmM hW h7, va_Nw.warmM hW h8, va_Nw.warmF hW h9, fun _ h => absurd h List.not_mem_nil⟩
-- the classes: names, fields in the order of their numbers here, types; which words of the tables speak of them
def nR0 : String := "AllHome$Acts"
def nT0 : u_T := fun k => match k with
  | 0 => ("AllHome$Acts", "traced", "[I", true)
  | 1 => ("AllHome$Acts", "ran", "I", false)
  | 2 => ("AllHome$Acts", "kind", "I", false)
  | _ => ("AllHome$Acts", "number", "I", false)
def nY0 : Nat → FieldType := fun k => match k with
  | 0 => (.array .int)
  | 1 => .int
  | 2 => .int
  | _ => .int
theorem nN0 : ∀ a, a < 4 → ∀ b, b < 4 → a ≠ b → (nT0 a).2.1 ≠ (nT0 b).2.1 := by decide +kernel
theorem nP0 : ∀ k, k < 4 → parseFieldDescriptor (nT0 k).2.2.1 = some (nY0 k) := by decide +kernel
theorem nI0 : ∀ w ∈ u_ws nR0 nT0 4, w ∈ zTb := by decide +kernel
def nR1 : String := "AllHome$Huts"
def nT1 : u_T := fun k => match k with
  | 0 => ("AllHome$Huts", "goals", "[[I", true)
  | 1 => ("AllHome$Huts", "starts", "[[I", true)
  | 2 => ("AllHome$Huts", "lines", "[I", true)
  | _ => ("AllHome$Huts", "size", "I", false)
def nY1 : Nat → FieldType := fun k => match k with
  | 0 => (.array (.array .int))
  | 1 => (.array (.array .int))
  | 2 => (.array .int)
  | _ => .int
theorem nN1 : ∀ a, a < 4 → ∀ b, b < 4 → a ≠ b → (nT1 a).2.1 ≠ (nT1 b).2.1 := by decide +kernel
theorem nP1 : ∀ k, k < 4 → parseFieldDescriptor (nT1 k).2.2.1 = some (nY1 k) := by decide +kernel
theorem nI1 : ∀ w ∈ u_ws nR1 nT1 4, w ∈ zTb := by decide +kernel
def nR2 : String := "AllHome$Orders"
def nT2 : u_T := fun k => match k with
  | 0 => ("AllHome$Orders", "huts", "LAllHome$Huts;", true)
  | 1 => ("AllHome$Orders", "rules", "LAllHome$Rules;", true)
  | 2 => ("AllHome$Orders", "found", "[[I", true)
  | 3 => ("AllHome$Orders", "prints", "[I", true)
  | 4 => ("AllHome$Orders", "ahead", "[I", true)
  | 5 => ("AllHome$Orders", "stepHere", "[I", true)
  | 6 => ("AllHome$Orders", "depth", "[I", true)
  | 7 => ("AllHome$Orders", "next", "[[I", true)
  | 8 => ("AllHome$Orders", "nexts", "[I", true)
  | 9 => ("AllHome$Orders", "canSay", "[Z", true)
  | 10 => ("AllHome$Orders", "spare", "[I", true)
  | 11 => ("AllHome$Orders", "size", "I", false)
  | 12 => ("AllHome$Orders", "big", "Z", false)
  | _ => ("AllHome$Orders", "explored", "I", false)
def nY2 : Nat → FieldType := fun k => match k with
  | 0 => (.object "AllHome$Huts")
  | 1 => (.object "AllHome$Rules")
  | 2 => (.array (.array .int))
  | 3 => (.array .int)
  | 4 => (.array .int)
  | 5 => (.array .int)
  | 6 => (.array .int)
  | 7 => (.array (.array .int))
  | 8 => (.array .int)
  | 9 => (.array .boolean)
  | 10 => (.array .int)
  | 11 => .int
  | 12 => .boolean
  | _ => .int
theorem nN2 : ∀ a, a < 14 → ∀ b, b < 14 → a ≠ b → (nT2 a).2.1 ≠ (nT2 b).2.1 := by decide +kernel
theorem nP2 : ∀ k, k < 14 → parseFieldDescriptor (nT2 k).2.2.1 = some (nY2 k) := by decide +kernel
theorem nI2 : ∀ w ∈ u_ws nR2 nT2 14, w ∈ zTb := by decide +kernel
def nR3 : String := "AllHome$Rules"
def nT3 : u_T := fun k => match k with
  | 0 => ("AllHome$Rules", "huts", "LAllHome$Huts;", true)
  | 1 => ("AllHome$Rules", "kind", "I", false)
  | _ => ("AllHome$Rules", "family", "I", false)
def nY3 : Nat → FieldType := fun k => match k with
  | 0 => (.object "AllHome$Huts")
  | 1 => .int
  | _ => .int
theorem nN3 : ∀ a, a < 3 → ∀ b, b < 3 → a ≠ b → (nT3 a).2.1 ≠ (nT3 b).2.1 := by decide +kernel
theorem nP3 : ∀ k, k < 3 → parseFieldDescriptor (nT3 k).2.2.1 = some (nY3 k) := by decide +kernel
theorem nI3 : ∀ w ∈ u_ws nR3 nT3 3, w ∈ zTb := by decide +kernel
def nR4 : String := "AllHome$Run"
def nT4 : u_T := fun k => match k with
  | 0 => ("AllHome$Run", "rules", "LAllHome$Rules;", true)
  | 1 => ("AllHome$Run", "cells", "[I", true)
  | 2 => ("AllHome$Run", "way", "I", false)
  | 3 => ("AllHome$Run", "done", "I", false)
  | 4 => ("AllHome$Run", "saidAt", "I", false)
  | _ => ("AllHome$Run", "overAt", "I", false)
def nY4 : Nat → FieldType := fun k => match k with
  | 0 => (.object "AllHome$Rules")
  | 1 => (.array .int)
  | 2 => .int
  | 3 => .int
  | 4 => .int
  | _ => .int
theorem nN4 : ∀ a, a < 6 → ∀ b, b < 6 → a ≠ b → (nT4 a).2.1 ≠ (nT4 b).2.1 := by decide +kernel
theorem nP4 : ∀ k, k < 6 → parseFieldDescriptor (nT4 k).2.2.1 = some (nY4 k) := by decide +kernel
theorem nI4 : ∀ w ∈ u_ws nR4 nT4 6, w ∈ zTb := by decide +kernel
def nR5 : String := "AllHome$Shelf"
def nT5 : u_T := fun k => match k with
  | 0 => ("AllHome$Shelf", "elements", "[J", true)
  | 1 => ("AllHome$Shelf", "length", "I", false)
  | 2 => ("AllHome$Shelf", "sort", "I", false)
  | _ => ("AllHome$Shelf", "way", "I", false)
def nY5 : Nat → FieldType := fun k => match k with
  | 0 => (.array .long)
  | 1 => .int
  | 2 => .int
  | _ => .int
theorem nN5 : ∀ a, a < 4 → ∀ b, b < 4 → a ≠ b → (nT5 a).2.1 ≠ (nT5 b).2.1 := by decide +kernel
theorem nP5 : ∀ k, k < 4 → parseFieldDescriptor (nT5 k).2.2.1 = some (nY5 k) := by decide +kernel
theorem nI5 : ∀ w ∈ u_ws nR5 nT5 4, w ∈ zTb := by decide +kernel
def nR6 : String := "AllHome"
def nT6 : u_T := fun k => match k with
  | 0 => ("AllHome", "tape", "[I", true)
  | 1 => ("AllHome", "tapeLength", "I", false)
  | 2 => ("AllHome", "huts", "LAllHome$Huts;", true)
  | 3 => ("AllHome", "kinds", "[I", true)
  | 4 => ("AllHome", "ways", "I", false)
  | 5 => ("AllHome", "runs", "[LAllHome$Run;", true)
  | 6 => ("AllHome", "runsBegun", "I", false)
  | 7 => ("AllHome", "spare", "[I", true)
  | 8 => ("AllHome", "orders", "LAllHome$Orders;", true)
  | 9 => ("AllHome", "plainOrders", "LAllHome$Orders;", true)
  | 10 => ("AllHome", "acts", "LAllHome$Acts;", true)
  | _ => ("AllHome", "shelves", "[LAllHome$Shelf;", true)
def nY6 : Nat → FieldType := fun k => match k with
  | 0 => (.array .int)
  | 1 => .int
  | 2 => (.object "AllHome$Huts")
  | 3 => (.array .int)
  | 4 => .int
  | 5 => (.array (.object "AllHome$Run"))
  | 6 => .int
  | 7 => (.array .int)
  | 8 => (.object "AllHome$Orders")
  | 9 => (.object "AllHome$Orders")
  | 10 => (.object "AllHome$Acts")
  | _ => (.array (.object "AllHome$Shelf"))
theorem nN6 : ∀ a, a < 12 → ∀ b, b < 12 → a ≠ b → (nT6 a).2.1 ≠ (nT6 b).2.1 := by decide +kernel
theorem nP6 : ∀ k, k < 12 → parseFieldDescriptor (nT6 k).2.2.1 = some (nY6 k) := by decide +kernel
theorem nI6 : ∀ w ∈ u_ws nR6 nT6 12, w ∈ zTb := by decide +kernel
def nR7 : String := "AllHomeModel"
def nT7 : u_T := fun k => match k with
  | 0 => ("AllHomeModel", "tape", "[I", true)
  | 1 => ("AllHomeModel", "tapeMany", "I", false)
  | 2 => ("AllHomeModel", "text", "[I", true)
  | 3 => ("AllHomeModel", "textMany", "[I", true)
  | 4 => ("AllHomeModel", "huts", "I", false)
  | 5 => ("AllHomeModel", "kind", "[I", true)
  | 6 => ("AllHomeModel", "ways", "I", false)
  | 7 => ("AllHomeModel", "now", "[I", true)
  | 8 => ("AllHomeModel", "sentWords", "I", false)
  | 9 => ("AllHomeModel", "sentNotes", "I", false)
  | 10 => ("AllHomeModel", "by", "I", false)
  | 11 => ("AllHomeModel", "isFull", "Z", false)
  | 12 => ("AllHomeModel", "kept", "[I", true)
  | 13 => ("AllHomeModel", "runWay", "[I", true)
  | 14 => ("AllHomeModel", "runSteps", "[I", true)
  | 15 => ("AllHomeModel", "runWords", "[I", true)
  | 16 => ("AllHomeModel", "runNotes", "[I", true)
  | 17 => ("AllHomeModel", "saidAt", "[I", true)
  | 18 => ("AllHomeModel", "overAt", "[I", true)
  | 19 => ("AllHomeModel", "runs", "I", false)
  | 20 => ("AllHomeModel", "found", "[I", true)
  | 21 => ("AllHomeModel", "ahead", "[I", true)
  | 22 => ("AllHomeModel", "byStep", "[I", true)
  | 23 => ("AllHomeModel", "canSay", "[Z", true)
  | 24 => ("AllHomeModel", "leads", "[Z", true)
  | 25 => ("AllHomeModel", "foundMany", "I", false)
  | 26 => ("AllHomeModel", "trace", "[I", true)
  | 27 => ("AllHomeModel", "ran", "I", false)
  | 28 => ("AllHomeModel", "acting", "I", false)
  | 29 => ("AllHomeModel", "shelf", "[I", true)
  | 30 => ("AllHomeModel", "many", "[I", true)
  | 31 => ("AllHomeModel", "items", "[J", true)
  | _ => ("AllHomeModel", "carried", "[J", true)
def nY7 : Nat → FieldType := fun k => match k with
  | 0 => (.array .int)
  | 1 => .int
  | 2 => (.array .int)
  | 3 => (.array .int)
  | 4 => .int
  | 5 => (.array .int)
  | 6 => .int
  | 7 => (.array .int)
  | 8 => .int
  | 9 => .int
  | 10 => .int
  | 11 => .boolean
  | 12 => (.array .int)
  | 13 => (.array .int)
  | 14 => (.array .int)
  | 15 => (.array .int)
  | 16 => (.array .int)
  | 17 => (.array .int)
  | 18 => (.array .int)
  | 19 => .int
  | 20 => (.array .int)
  | 21 => (.array .int)
  | 22 => (.array .int)
  | 23 => (.array .boolean)
  | 24 => (.array .boolean)
  | 25 => .int
  | 26 => (.array .int)
  | 27 => .int
  | 28 => .int
  | 29 => (.array .int)
  | 30 => (.array .int)
  | 31 => (.array .long)
  | _ => (.array .long)
theorem nN7 : ∀ a, a < 33 → ∀ b, b < 33 → a ≠ b → (nT7 a).2.1 ≠ (nT7 b).2.1 := by decide +kernel
theorem nP7 : ∀ k, k < 33 → parseFieldDescriptor (nT7 k).2.2.1 = some (nY7 k) := by decide +kernel
theorem nI7 : ∀ w ∈ u_ws nR7 nT7 33, w ∈ zTb := by decide +kernel
abbrev zCl : List vw_C := [(nR0, nT0, 4), (nR1, nT1, 4), (nR2, nT2, 14), (nR3, nT3, 3), (nR4, nT4, 6), (nR5, nT5, 4), (nR6, nT6, 12), (nR7, nT7, 33)]
end
section
/-! OUR OWN WORLD: every cell of the two systems has a number (its role); a model heap says what each role holds; references in it are roles. -/
abbrev zE : Type := (Nat × List Value) ⊕ (Nat × Nat × ((Nat → Int32) ⊕ (Nat → Int64) ⊕ (Nat → Option Nat)))
abbrev zH : Type := Nat → zE
/-- addresses of the roles, array classes, addresses of the static tables, what the kit asks of the classes -/
abbrev zG : Type := (Nat → Nat) × (Nat → ClassId) × (Nat → Nat) × va_G
def zNil : zE := .inl (99, [])
def zup (h : zH) (k : Nat) (e : zE) : zH := fun j => if j = k then e else h j
theorem zup_eq (h : zH) (k : Nat) (e : zE) : zup h k e k = e := if_pos rfl
theorem zup_ne {h : zH} {k j : Nat} {e : zE} (q : j ≠ k) : zup h k e j = h j := if_neg q
def zV (ad : Nat → Nat) : Value → Value := fun v => match v with
  | .ref k => .ref (ad k)
  | w => w
def zT (G : zG) : zE → va_E := fun e => match e with
  | .inl o => .inr (o.1, o.2.map (zV G.1))
  | .inr (t, n, .inl g) => .inl (G.2.1 t, n, .inl g)
  | .inr (t, n, .inr (.inl g)) => .inl (G.2.1 t, n, .inr (.inl g))
  | .inr (t, n, .inr (.inr g)) => .inl (G.2.1 t, n, .inr (.inr (.inr (.inr (fun i => (g i).map G.1)))))
def zW (G : zG) (K : Nat) (h : zH) : va_W := (List.range K).map fun k => (G.1 k, zT G (h k))
theorem zW_get {G : zG} {K : Nat} {h : zH} {k : Nat} (hk : k < K) : (zW G K h)[k]? = some (G.1 k, zT G (h k)) := by simp [zW, hk]
theorem zW_set {G : zG} {K : Nat} {h : zH} {k : Nat} {e : zE} {x : Nat × va_E} (hx : x = (G.1 k, zT G e)) : (zW G K h).set k x = zW G K (zup h k e) := by
  subst hx
  apply List.ext_getElem?
  intro j
  by_cases hj : j < K
  · rw [zW_get hj]
    by_cases e1 : j = k
    · subst e1
      rw [List.getElem?_set_self (by simp [zW]; exact hj), zup_eq]
    · rw [List.getElem?_set_ne (Ne.symm e1), zW_get hj, zup_ne e1]
  · rw [List.getElem?_eq_none (by simp [zW]; omega), List.getElem?_eq_none (by simp [zW]; omega)]
theorem zW_key {G : zG} {K : Nat} {h : zH} {k : Nat} {q : Nat × va_E} (hk : (zW G K h)[k]? = some q) : k < K ∧ q = (G.1 k, zT G (h k)) := by
  have hl : k < K := by
    have := (List.getElem?_eq_some_iff.mp hk).1
    simpa [zW] using this
  rw [zW_get hl] at hk
  exact ⟨hl, (Option.some.inj hk).symm⟩
theorem zD_any {A : Nat → Prop} {G : zG} {K : Nat} {h : zH} (h' : zH) (hD : va_D A (zW G K h)) : va_D A (zW G K h') := by
  refine ⟨fun i j x y hi hj hxy => ?_, fun k q hk => ?_⟩
  · obtain ⟨li, rfl⟩ := zW_key hi
    obtain ⟨lj, rfl⟩ := zW_key hj
    exact hD.1 i j _ _ (zW_get li) (zW_get lj) hxy
  · obtain ⟨lk, rfl⟩ := zW_key hk
    exact hD.2 k (G.1 k, zT G (h k)) (zW_get lk)
/-- the cells that a method of the finished systems may change -/
def zA (G : zG) (K : Nat) : Nat → Prop := fun q => ∃ k, k < K ∧ q = G.1 k
theorem zD_self {A : Nat → Prop} {G : zG} {K : Nat} {h : zH} (hD : va_D A (zW G K h)) : va_D (zA G K) (zW G K h) := by
  refine hD.weaken fun k q hk _ => ?_
  obtain ⟨lk, rfl⟩ := zW_key hk
  exact ⟨k, lk, rfl⟩
theorem zA_in {A : Nat → Prop} {G : zG} {K : Nat} {h : zH} (hD : va_D A (zW G K h)) : ∀ q, zA G K q → A q := by
  rintro q ⟨k, hk, rfl⟩
  exact hD.2 k _ (zW_get hk)
abbrev zty (G : zG) : List (ClassId × FieldType) := [(G.2.1 0, .int), (G.2.1 1, .long), (G.2.1 2, .boolean), (G.2.1 3, .object "AllHome$Run"), (G.2.1 4, .object "AllHome$Shelf"), (G.2.1 5, .array .int)]
-- the static tables
def zsn : Nat → String := fun i => match i with
  | 0 => "ABOVE"
  | 1 => "FAMILY"
  | 2 => "HUT_CELLS"
  | 3 => "HUT_FAMILY"
  | _ => "BODIES"
def zsl : Nat → List Int32 := fun i => match i with
  | 0 => [-1, 0, 0, 0, 3, 3, 2, 4, 5]
  | 1 => [0, 1, 2, 3, 4, 5, 2, 4, 5]
  | 2 => [0, 6, 12, 68, 75, 81, 87, 93, 99, 105, 111]
  | 3 => [-1, -1, -1, 1, 2, 2, 2, 4, 4, 5, 5]
  | _ => [1, 10, 11, 2, 20, 0, 0, 0, 0, 0, 30, 0, 0, 40, 0, 0, 50, 0, 0, 0, 0, 0, 61, 60, 0, 0, 70, 0, 0, 80, 0, 0, 0, 0, 0, 90]
def zST (G : zG) (A : Nat → Prop) (U : State) : Prop := ∀ i, i < 5 → va_Z "AllHome" (zsn i) "[I" (.ref (G.2.2.1 i)) A U U.heap ∧ va_T .int (G.2.2.1 i) (zsl i).length (fun j => .int ((zsl i).getD j 0)) A U U.heap
theorem zST.go {G : zG} {A B : Nat → Prop} {s U : State} {H : Heap} {locs : List Loc} (h : zST G A s) (hS : va_S A s.heap H locs) (hU : U.heap = H) (hvm : s.vm.Alike U.vm) (hBA : ∀ q, B q → A q) : zST G B U := by
  intro i hi
  obtain ⟨h1, h2⟩ := h i hi
  have hk : ∀ a : Nat, a < s.heap.size → ¬ A a → U.heap[a]? = s.heap[a]? := fun a h1 h2 => by rw [hU]; exact hS.2.1 a h1 h2
  exact ⟨((h1.moved hvm).kept hk).narrow hBA, ((h2.moved hvm).kept hk).narrow hBA⟩
/-- the heap holds the model heap -/
def zP (G : zG) (K : Nat) (h : zH) (H : Heap) : Prop := (∀ k, K ≤ k → h k = zNil) ∧ va_P G.2.2.2 zCl (zW G K h) H
/-- where a walk stands -/
def zI (G : zG) (K : Nat) (s : State) (A : Nat → Prop) (H : Heap) (locs : List Loc) (h : zH) : Prop := zP G K h H ∧ va_D A (zW G K h) ∧ va_S A s.heap H locs
/-- what a walk keeps -/
def zX (p : Program) (s : State) (m : MethodId) (args : Array Value) (meth : Method) (c : Code) (own : String) (cc : ByteArray) (nL : Nat) (ret : Option FieldType) (G : zG) (A : Nat → Prop) : Prop :=
  p.tables.exec = Jvm.exec ∧ c.code = cc ∧ c.maxLocals = nL ∧ s.vm.findClass own = some m.cls ∧ (∀ w ∈ zTb, w.before args s = true) ∧ meth.sig.returnType = ret ∧ meth.locks = false ∧ va_K G.2.2.2 zCl (zty G) s ∧ zST G A s ∧ ∀ w ∈ zNs, va_Nw w s
/-- a method's start and end -/
def zU (G : zG) (K : Nat) (h : zH) (U : State) : Prop := zP G K h U.heap ∧ va_D (zA G K) (zW G K h) ∧ va_K G.2.2.2 zCl (zty G) U ∧ zST G (zA G K) U ∧ ∀ w ∈ zNs, va_Nw w U
abbrev zPc (G : zG) (K : Nat) (h : zH) (av : List Value) : Array Value → State → Prop := va_Pc av (zU G K h)
abbrev zQi (G : zG) (K : Nat) (r : Int32) (h : zH) : Array Value → State → Outcome → State → Prop := va_Qi (S := Unit) (fun r' _ => r' = r) (fun _ t => zP G K h t.heap) (zA G K)
abbrev zQl (G : zG) (K : Nat) (r : Int64) (h : zH) : Array Value → State → Outcome → State → Prop := va_Ql (S := Unit) (fun r' _ => r' = r) (fun _ t => zP G K h t.heap) (zA G K)
abbrev zQv (G : zG) (K : Nat) (h : zH) : Array Value → State → Outcome → State → Prop := va_Qv (S := Unit) (fun _ => True) (fun _ t => zP G K h t.heap) (zA G K)
abbrev zR (n : Nat) : Room := { frames := n, cells := 0, slots := 0, locals := 60 * n }
abbrev zws (y : MethodName) (b : ByteArray) (n : Nat) (ret : Option FieldType) : List Cond := .code y b n ret :: zTb
abbrev zMi (l : Launch) (G : zG) (K : Nat) (y : MethodName) (b : ByteArray) (n d : Nat) (av : List Value) (h : zH) (r : Int32) (h' : zH) : Prop := Met l y (zws y b n (some .int)) (zR d) (zPc G K h av) (zQi G K r h') 0 0 (zA G K)
abbrev zMz (l : Launch) (G : zG) (K : Nat) (y : MethodName) (b : ByteArray) (n d : Nat) (av : List Value) (h : zH) (r : Int32) (h' : zH) : Prop := Met l y (zws y b n (some .boolean)) (zR d) (zPc G K h av) (zQi G K r h') 0 0 (zA G K)
abbrev zMl (l : Launch) (G : zG) (K : Nat) (y : MethodName) (b : ByteArray) (n d : Nat) (av : List Value) (h : zH) (r : Int64) (h' : zH) : Prop := Met l y (zws y b n (some .long)) (zR d) (zPc G K h av) (zQl G K r h') 0 0 (zA G K)
abbrev zMv (l : Launch) (G : zG) (K : Nat) (y : MethodName) (b : ByteArray) (n d : Nat) (av : List Value) (h : zH) (h' : zH) : Prop := Met l y (zws y b n none) (zR d) (zPc G K h av) (zQv G K h') 0 0 (zA G K)
-- what the walks read and write of the model heap
def zcls (h : zH) (a : Nat) : Nat := match h a with
  | .inl o => o.1
  | _ => 98
def zrI (h : zH) (a c j : Nat) : Option Int32 := match h a with
  | .inl o => if o.1 = c then (match o.2[j]? with | some (.int x) => some x | _ => none) else none
  | _ => none
def zrR (h : zH) (a c j : Nat) : Option Nat := match h a with
  | .inl o => if o.1 = c then (match o.2[j]? with | some (.ref x) => some x | _ => none) else none
  | _ => none
def zwV (h : zH) (a c j : Nat) (v : Value) : Option zH := match h a with
  | .inl o => if o.1 = c ∧ j < o.2.length then some (zup h a (.inl (c, o.2.set j v))) else none
  | _ => none
def zwI (h : zH) (a c j : Nat) (x : Int32) : Option zH := zwV h a c j (.int x)
def zwZ (h : zH) (a c j : Nat) (x : Int32) : Option zH := if x = 0 ∨ x = 1 then zwV h a c j (.int x) else none
def zwR (h : zH) (a c j : Nat) (x : Nat) : Option zH := zwV h a c j (.ref x)
def zout (i : Int32) (n : Nat) : Prop := i < 0 ∨ n ≤ i.toNatClampNeg
def zA32 (t : Nat) (h : zH) (a : Nat) (i : Int32) : Option Int32 := match h a with
  | .inr (t', n, .inl g) => if t' = t then (if i < 0 ∨ n ≤ i.toNatClampNeg then none else some (g i.toNatClampNeg)) else none
  | _ => none
abbrev zaI (h : zH) (a : Nat) (i : Int32) : Option Int32 := zA32 0 h a i
abbrev zaZ (h : zH) (a : Nat) (i : Int32) : Option Int32 := zA32 2 h a i
def zaJ (h : zH) (a : Nat) (i : Int32) : Option Int64 := match h a with
  | .inr (t', n, .inr (.inl g)) => if t' = 1 then (if i < 0 ∨ n ≤ i.toNatClampNeg then none else some (g i.toNatClampNeg)) else none
  | _ => none
def zaR (t : Nat) (h : zH) (a : Nat) (i : Int32) : Option Nat := match h a with
  | .inr (t', n, .inr (.inr g)) => if t' = t then (if i < 0 ∨ n ≤ i.toNatClampNeg then none else g i.toNatClampNeg) else none
  | _ => none
def zS32 (t : Nat) (h : zH) (a : Nat) (i x : Int32) : Option zH := match h a with
  | .inr (t', n, .inl g) => if t' = t then (if i < 0 ∨ n ≤ i.toNatClampNeg then none else some (zup h a (.inr (t, n, .inl (upd g i.toNatClampNeg x))))) else none
  | _ => none
abbrev zsI (h : zH) (a : Nat) (i x : Int32) : Option zH := zS32 0 h a i x
abbrev zsZ (h : zH) (a : Nat) (i x : Int32) : Option zH := zS32 2 h a i (vp_nar .boolean x)
def zsJ (h : zH) (a : Nat) (i : Int32) (x : Int64) : Option zH := match h a with
  | .inr (t', n, .inr (.inl g)) => if t' = 1 then (if i < 0 ∨ n ≤ i.toNatClampNeg then none else some (zup h a (.inr (1, n, .inr (.inl (vp_updL g i.toNatClampNeg x)))))) else none
  | _ => none
def zlen (h : zH) (a : Nat) : Option Int32 := match h a with
  | .inr (t, n, _) => if t < 6 then some (Int32.ofNat n) else none
  | _ => none
def ztab (i : Nat) (k : Int32) : Option Int32 := if k < 0 ∨ (zsl i).length ≤ k.toNatClampNeg then none else some ((zsl i).getD k.toNatClampNeg 0)
def zcpI (h : zH) (a : Nat) (sp : Int32) (b : Nat) (dp n : Int32) : Option zH := match h a, h b with
  | .inr (t, n0, .inl f), .inr (t', n1, .inl g) => if t = 0 ∧ t' = 0 ∧ ¬ sp < 0 ∧ ¬ dp < 0 ∧ ¬ n < 0 ∧ sp.toNatClampNeg + n.toNatClampNeg ≤ n0 ∧ dp.toNatClampNeg + n.toNatClampNeg ≤ n1 then some (zup h b (.inr (0, n1, .inl (va_cpy f g sp.toNatClampNeg dp.toNatClampNeg n.toNatClampNeg)))) else none
  | _, _ => none
def zcpJ (h : zH) (a : Nat) (sp : Int32) (b : Nat) (dp n : Int32) : Option zH := match h a, h b with
  | .inr (t, n0, .inr (.inl f)), .inr (t', n1, .inr (.inl g)) => if t = 1 ∧ t' = 1 ∧ ¬ sp < 0 ∧ ¬ dp < 0 ∧ ¬ n < 0 ∧ sp.toNatClampNeg + n.toNatClampNeg ≤ n0 ∧ dp.toNatClampNeg + n.toNatClampNeg ≤ n1 then some (zup h b (.inr (1, n1, .inr (.inl (va_cpy f g sp.toNatClampNeg dp.toNatClampNeg n.toNatClampNeg))))) else none
  | _, _ => none
/-- a loop, so many rounds at most -/
def zloop {S R : Type} (f : (S → Option R) → S → Option R) : Nat → S → Option R
  | 0 => fun _ => none
  | n + 1 => fun s => f (zloop f n) s
def zN : Nat := 1048576
theorem zif_t {α : Type} {c : Prop} [i : Decidable c] {a b z : α} (hc : c) (h : (if c then a else b) = z) : a = z := (if_pos hc).symm.trans h
theorem zif_f {α : Type} {c : Prop} [i : Decidable c] {a b z : α} (hc : ¬ c) (h : (if c then a else b) = z) : b = z := (if_neg hc).symm.trans h
theorem zbd {α β : Type} {o : Option α} {f : α → Option β} {z : β} (h : o.bind f = some z) : ∃ v, o = some v ∧ f v = some z := Option.bind_eq_some_iff.mp h
theorem zat_O {h : zH} {a c : Nat} (hc : zcls h a = c) (hn : c < 90) : ∃ fs, h a = .inl (c, fs) := by
  unfold zcls at hc
  split at hc
  · rename_i o heq
    exact ⟨o.2, by rw [heq, ← hc]⟩
  · omega
theorem zrI_at {h : zH} {a c j : Nat} {x : Int32} (hv : zrI h a c j = some x) : ∃ fs, h a = .inl (c, fs) ∧ fs[j]? = some (.int x) := by
  unfold zrI at hv
  split at hv
  · rename_i o heq
    split at hv
    · rename_i hc
      split at hv
      · rename_i y hy
        cases hv
        exact ⟨o.2, by rw [heq, ← hc], hy⟩
      · cases hv
    · cases hv
  · cases hv
theorem zrR_at {h : zH} {a c j : Nat} {x : Nat} (hv : zrR h a c j = some x) : ∃ fs, h a = .inl (c, fs) ∧ fs[j]? = some (.ref x) := by
  unfold zrR at hv
  split at hv
  · rename_i o heq
    split at hv
    · rename_i hc
      split at hv
      · rename_i y hy
        cases hv
        exact ⟨o.2, by rw [heq, ← hc], hy⟩
      · cases hv
    · cases hv
  · cases hv
theorem zwV_at {h h' : zH} {a c j : Nat} {v : Value} (hv : zwV h a c j v = some h') : ∃ fs, h a = .inl (c, fs) ∧ j < fs.length ∧ h' = zup h a (.inl (c, fs.set j v)) := by
  unfold zwV at hv
  split at hv
  · rename_i o heq
    split at hv
    · rename_i hc
      cases hv
      exact ⟨o.2, by rw [heq, ← hc.1], hc.2, rfl⟩
    · cases hv
  · cases hv
theorem zA32_at {t : Nat} {h : zH} {a : Nat} {i x : Int32} (hv : zA32 t h a i = some x) : ∃ n g, h a = .inr (t, n, .inl g) ∧ vp_in i n ∧ g i.toNatClampNeg = x := by
  unfold zA32 at hv
  split at hv
  · rename_i t' n g heq
    split at hv
    · rename_i ht
      split at hv
      · cases hv
      · rename_i hin
        cases hv
        exact ⟨n, g, by rw [heq, ht], hin, rfl⟩
    · cases hv
  · cases hv
theorem zaJ_at {h : zH} {a : Nat} {i : Int32} {x : Int64} (hv : zaJ h a i = some x) : ∃ n g, h a = .inr (1, n, .inr (.inl g)) ∧ vp_in i n ∧ g i.toNatClampNeg = x := by
  unfold zaJ at hv
  split at hv
  · rename_i t' n g heq
    split at hv
    · rename_i ht
      split at hv
      · cases hv
      · rename_i hin
        cases hv
        exact ⟨n, g, by rw [heq, ht], hin, rfl⟩
    · cases hv
  · cases hv
theorem zaR_at {t : Nat} {h : zH} {a : Nat} {i : Int32} {x : Nat} (hv : zaR t h a i = some x) : ∃ n g, h a = .inr (t, n, .inr (.inr g)) ∧ vp_in i n ∧ g i.toNatClampNeg = some x := by
  unfold zaR at hv
  split at hv
  · rename_i t' n g heq
    split at hv
    · rename_i ht
      split at hv
      · cases hv
      · rename_i hin
        exact ⟨n, g, by rw [heq, ht], hin, hv⟩
    · cases hv
  · cases hv
theorem zS32_at {t : Nat} {h h' : zH} {a : Nat} {i x : Int32} (hv : zS32 t h a i x = some h') : ∃ n g, h a = .inr (t, n, .inl g) ∧ vp_in i n ∧ h' = zup h a (.inr (t, n, .inl (upd g i.toNatClampNeg x))) := by
  unfold zS32 at hv
  split at hv
  · rename_i t' n g heq
    split at hv
    · rename_i ht
      split at hv
      · cases hv
      · rename_i hin
        cases hv
        exact ⟨n, g, by rw [heq, ht], hin, rfl⟩
    · cases hv
  · cases hv
theorem zsJ_at {h h' : zH} {a : Nat} {i : Int32} {x : Int64} (hv : zsJ h a i x = some h') : ∃ n g, h a = .inr (1, n, .inr (.inl g)) ∧ vp_in i n ∧ h' = zup h a (.inr (1, n, .inr (.inl (vp_updL g i.toNatClampNeg x)))) := by
  unfold zsJ at hv
  split at hv
  · rename_i t' n g heq
    split at hv
    · rename_i ht
      split at hv
      · cases hv
      · rename_i hin
        cases hv
        exact ⟨n, g, by rw [heq, ht], hin, rfl⟩
    · cases hv
  · cases hv
theorem zlen_at {h : zH} {a : Nat} {x : Int32} (hv : zlen h a = some x) : ∃ t n y, t < 6 ∧ h a = .inr (t, n, y) ∧ Int32.ofNat n = x := by
  unfold zlen at hv
  split at hv
  · rename_i t n y heq
    split at hv
    · rename_i ht
      cases hv
      exact ⟨t, n, y, ht, heq, rfl⟩
    · cases hv
  · cases hv
theorem zcpI_at {h h' : zH} {a b : Nat} {sp dp n : Int32} (hv : zcpI h a sp b dp n = some h') : ∃ n0 n1 f g, h a = .inr (0, n0, .inl f) ∧ h b = .inr (0, n1, .inl g) ∧ ¬ sp < 0 ∧ ¬ dp < 0 ∧ ¬ n < 0 ∧ sp.toNatClampNeg + n.toNatClampNeg ≤ n0 ∧ dp.toNatClampNeg + n.toNatClampNeg ≤ n1 ∧ h' = zup h b (.inr (0, n1, .inl (va_cpy f g sp.toNatClampNeg dp.toNatClampNeg n.toNatClampNeg))) := by
  unfold zcpI at hv
  split at hv
  · rename_i t n0 f t' n1 g ha hb
    split at hv
    · rename_i hc
      obtain ⟨rfl, rfl, c1, c2, c3, c4, c5⟩ := hc
      cases hv
      exact ⟨n0, n1, f, g, ha, hb, c1, c2, c3, c4, c5, rfl⟩
    · cases hv
  · cases hv
theorem zcpJ_at {h h' : zH} {a b : Nat} {sp dp n : Int32} (hv : zcpJ h a sp b dp n = some h') : ∃ n0 n1 f g, h a = .inr (1, n0, .inr (.inl f)) ∧ h b = .inr (1, n1, .inr (.inl g)) ∧ ¬ sp < 0 ∧ ¬ dp < 0 ∧ ¬ n < 0 ∧ sp.toNatClampNeg + n.toNatClampNeg ≤ n0 ∧ dp.toNatClampNeg + n.toNatClampNeg ≤ n1 ∧ h' = zup h b (.inr (1, n1, .inr (.inl (va_cpy f g sp.toNatClampNeg dp.toNatClampNeg n.toNatClampNeg)))) := by
  unfold zcpJ at hv
  split at hv
  · rename_i t n0 f t' n1 g ha hb
    split at hv
    · rename_i hc
      obtain ⟨rfl, rfl, c1, c2, c3, c4, c5⟩ := hc
      cases hv
      exact ⟨n0, n1, f, g, ha, hb, c1, c2, c3, c4, c5, rfl⟩
    · cases hv
  · cases hv
/-- a call on an object of a class -/
def zcv {α : Type} (h : zH) (a ci : Nat) (o : Option α) : Option α := if zcls h a = ci then o else none
theorem zcv_at {α : Type} {h : zH} {a ci : Nat} {o : Option α} {v : α} (hv : zcv h a ci o = some v) : zcls h a = ci ∧ o = some v := by
  unfold zcv at hv
  split at hv
  · exact ⟨by assumption, hv⟩
  · cases hv
/-- behind what gives a number and a heap -/
def zb2 {α β : Type} (o : Option (α × zH)) (f : α → zH → Option β) : Option β := match o with
  | some (a, h) => f a h
  | none => none
theorem zb2_at {α β : Type} {o : Option (α × zH)} {f : α → zH → Option β} {z : β} (h : zb2 o f = some z) : ∃ v h1, o = some (v, h1) ∧ f v h1 = some z := by
  rcases o with _ | ⟨v, h1⟩
  · cases h
  · exact ⟨v, h1, rfl, h⟩
/-- an answer that is true or false -/
def zbl {α : Type} (x : Int32) (o : Option α) : Option α := if x = 0 ∨ x = 1 then o else none
theorem zbl_at {α : Type} {x : Int32} {o : Option α} {v : α} (hv : zbl x o = some v) : (x = 0 ∨ x = 1) ∧ o = some v := by
  unfold zbl at hv
  split at hv
  · exact ⟨by assumption, hv⟩
  · cases hv
end
section
/-! ROWS OVER OUR OWN WORLD: an instruction that reads or writes cells, a call, an end. -/
theorem zlt {G : zG} {K : Nat} {s : State} {A : Nat → Prop} {H : Heap} {locs : List Loc} {h : zH} (hI : zI G K s A H locs h) {a : Nat} {e : zE} (ha : h a = e) (he : e ≠ zNil) : a < K := by
  rcases Nat.lt_or_ge a K with q | q
  · exact q
  · exact absurd (ha.symm.trans (hI.1.1 a q)) he
theorem znO {c : Nat} {fs : List Value} (h : c < 90) : (Sum.inl (c, fs) : zE) ≠ zNil := by
  intro q
  unfold zNil at q
  have := congrArg (fun z : zE => match z with | .inl o => o.1 | _ => 0) q
  simp at this
  omega
theorem znR {x : Nat × Nat × ((Nat → Int32) ⊕ (Nat → Int64) ⊕ (Nat → Option Nat))} : (Sum.inr x : zE) ≠ zNil := by
  intro q
  unfold zNil at q
  cases q
theorem zI_put {G : zG} {K : Nat} {s : State} {A : Nat → Prop} {H H1 : Heap} {locs locs1 : List Loc} {h : zH} {a : Nat} {e : zE} (hI : zI G K s A H locs h) (ha : a < K) {x : Nat × va_E} (hx : x = (G.1 a, zT G e)) (hP : va_P G.2.2.2 zCl ((zW G K h).set a x) H1) (hS : va_S A s.heap H1 locs1) : zI G K s A H1 locs1 (zup h a e) := by
  rw [zW_set hx] at hP
  refine ⟨⟨fun k hk => ?_, hP⟩, zD_any _ hI.2.1, hS⟩
  rw [zup_ne (by omega)]
  exact hI.1.1 k hk
/-- what the tables say of a field by its place in a class file -/
def zFd (own : String) (index ci j : Nat) : Prop := ci < 90 ∧ ∃ (C : String) (T : u_T) (N : Nat), zCl[ci]? = some (C, T, N) ∧ (∀ w ∈ u_ws C T N, w ∈ zTb) ∧ j < N ∧ Cond.fieldLink own index (T j).1 (T j).2.1 (T j).2.2.1 ∈ zTb
def zFp (own : String) (index ci j : Nat) (ty : FieldType) (fin : Bool) : Prop := ci < 90 ∧ ∃ (C : String) (T : u_T) (N : Nat) (ty0 : Nat → FieldType), zCl[ci]? = some (C, T, N) ∧ (∀ w ∈ u_ws C T N, w ∈ zTb) ∧ j < N ∧ Cond.fieldLink own index (T j).1 (T j).2.1 (T j).2.2.1 ∈ zTb ∧ (∀ k, k < N → parseFieldDescriptor (T k).2.2.1 = some (ty0 k)) ∧ (∀ a, a < N → ∀ b, b < N → a ≠ b → (T a).2.1 ≠ (T b).2.1) ∧ parseFieldDescriptor (T j).2.2.1 = some ty ∧ (T j).2.2.2 = fin ∧ (T j).1 = own
section ZR
variable {p : Program} {l : Launch} {e : Env} {R : Room} {s : State} {m : MethodId} {args : Array Value} {below : List Frame} {meth : Method} {c : Code} {H : Heap} {locs : List Loc} {cells slots : Nat} {Q : State → Prop}
variable {cc : ByteArray} {pc : Nat} {ls : Array Slot} {rest : List Value} {own : String} {nL : Nat} {ret : Option FieldType} {G : zG} {K : Nat} {A : Nat → Prop} {h h' : zH}
theorem z_getV (X : zX p s m args meth c own cc nL ret G A) (hI : zI G K s A H locs h) {index ci j a : Nat} (hF : zFd own index ci j) {fs : List Value} (ha : h a = .inl (ci, fs)) {v : Value} (hj : fs[j]? = some v) (hdg : decode cc pc = .ok (.getfield index, 3))
    (kk : W p l e R s m args below meth c H locs cells slots Q (F0 m (pc + 3) ls (zV G.1 v :: rest))) : W p l e R s m args below meth c H locs cells slots Q (F0 m pc ls (.ref (G.1 a) :: rest)) := by
  obtain ⟨hx, hb, hml, hown, hts, -, -, hK, -, -⟩ := X
  obtain ⟨h90, C, T, N, hc, hin, hjN, hlink⟩ := hF
  have hk := zlt hI ha (znO h90)
  refine va_get (v := zV G.1 v) (fs := fs.map (zV G.1)) hx hb hts hin hown hK hI.1.2 a (by rw [zW_get hk, ha]; rfl) hc j hjN (hts _ hlink) (fun _ h9 => h9) (by rw [List.getElem?_map, hj]; rfl) hdg kk
theorem z_getI (X : zX p s m args meth c own cc nL ret G A) (hI : zI G K s A H locs h) {index ci j a : Nat} (hF : zFd own index ci j) {x : Int32} (hv : zrI h a ci j = some x) (hdg : decode cc pc = .ok (.getfield index, 3))
    (kk : W p l e R s m args below meth c H locs cells slots Q (F0 m (pc + 3) ls (.int x :: rest))) : W p l e R s m args below meth c H locs cells slots Q (F0 m pc ls (.ref (G.1 a) :: rest)) := by
  obtain ⟨fs, ha, hj⟩ := zrI_at hv
  exact z_getV X hI hF ha hj hdg kk
theorem z_getR (X : zX p s m args meth c own cc nL ret G A) (hI : zI G K s A H locs h) {index ci j a : Nat} (hF : zFd own index ci j) {x : Nat} (hv : zrR h a ci j = some x) (hdg : decode cc pc = .ok (.getfield index, 3))
    (kk : W p l e R s m args below meth c H locs cells slots Q (F0 m (pc + 3) ls (.ref (G.1 x) :: rest))) : W p l e R s m args below meth c H locs cells slots Q (F0 m pc ls (.ref (G.1 a) :: rest)) := by
  obtain ⟨fs, ha, hj⟩ := zrR_at hv
  exact z_getV X hI hF ha hj hdg kk
theorem z_putV (X : zX p s m args meth c own cc nL ret G A) (hI : zI G K s A H locs h) {index ci j a : Nat} {ty : FieldType} (hF : zFp own index ci j ty false) {v : Value} (hv : zwV h a ci j v = some h') (hn : narrow ty (zV G.1 v) = zV G.1 v) (hfit : fits ty (zV G.1 v) = true) (hdg : decode cc pc = .ok (.putfield index, 3))
    (kk : ∀ (H1 : Heap) (locs1 : List Loc), zI G K s A H1 locs1 h' → W p l e R s m args below meth c H1 locs1 cells slots Q (F0 m (pc + 3) ls rest)) : W p l e R s m args below meth c H locs cells slots Q (F0 m pc ls (zV G.1 v :: .ref (G.1 a) :: rest)) := by
  obtain ⟨hx, hb, hml, hown, hts, -, -, hK, -, -⟩ := X
  obtain ⟨h90, C, T, N, ty0, hc, hin, hjN, hlink, hty, hnm, hd, hfin, -⟩ := hF
  obtain ⟨fs, ha, hj, rfl⟩ := zwV_at hv
  have hk := zlt hI ha (znO h90)
  refine va_put (v := zV G.1 v) (fs := fs.map (zV G.1)) hx hb hts hin ty0 hty hnm hown hK hI.1.2 hI.2.1 hI.2.2 a (by rw [zW_get hk, ha]; rfl) hc j hjN (hts _ hlink) (fun _ h9 => h9) hfin hd hn hfit (by rw [List.length_map]; exact hj) hdg (fun H1 locs1 hP hD hS => ?_)
  exact kk H1 locs1 (zI_put hI hk (by rw [zT, List.map_set]) hP hS)
theorem z_putF (X : zX p s m args meth c own cc nL ret G A) (hin0 : meth.name = "<init>") (hI : zI G K s A H locs h) {index ci j a : Nat} {ty : FieldType} (hF : zFp own index ci j ty true) {v : Value} (hv : zwV h a ci j v = some h') (hn : narrow ty (zV G.1 v) = zV G.1 v) (hfit : fits ty (zV G.1 v) = true) (hdg : decode cc pc = .ok (.putfield index, 3))
    (kk : ∀ (H1 : Heap) (locs1 : List Loc), zI G K s A H1 locs1 h' → W p l e R s m args below meth c H1 locs1 cells slots Q (F0 m (pc + 3) ls rest)) : W p l e R s m args below meth c H locs cells slots Q (F0 m pc ls (zV G.1 v :: .ref (G.1 a) :: rest)) := by
  obtain ⟨hx, hb, hml, hown, hts, -, -, hK, -, -⟩ := X
  obtain ⟨h90, C, T, N, ty0, hc, hin, hjN, hlink, hty, hnm, hd, hfin, hdecl⟩ := hF
  obtain ⟨fs, ha, hj, rfl⟩ := zwV_at hv
  have hk := zlt hI ha (znO h90)
  refine va_putF (v := zV G.1 v) (fs := fs.map (zV G.1)) hx hb hts hin ty0 hty hnm hown hK hI.1.2 hI.2.1 hI.2.2 a (by rw [zW_get hk, ha]; rfl) hc j hjN (hts _ hlink) (fun _ h9 => h9) hfin hin0 hdecl hd hn hfit (by rw [List.length_map]; exact hj) hdg (fun H1 locs1 hP hD hS => ?_)
  exact kk H1 locs1 (zI_put hI hk (by rw [zT, List.map_set]) hP hS)
theorem z_putI (X : zX p s m args meth c own cc nL ret G A) (hI : zI G K s A H locs h) {index ci j a : Nat} (hF : zFp own index ci j .int false) {x : Int32} (hv : zwI h a ci j x = some h') (hdg : decode cc pc = .ok (.putfield index, 3))
    (kk : ∀ (H1 : Heap) (locs1 : List Loc), zI G K s A H1 locs1 h' → W p l e R s m args below meth c H1 locs1 cells slots Q (F0 m (pc + 3) ls rest)) : W p l e R s m args below meth c H locs cells slots Q (F0 m pc ls (.int x :: .ref (G.1 a) :: rest)) :=
  z_putV (v := .int x) X hI hF hv rfl rfl hdg kk
theorem z_putZ (X : zX p s m args meth c own cc nL ret G A) (hI : zI G K s A H locs h) {index ci j a : Nat} (hF : zFp own index ci j .boolean false) {x : Int32} (hv : zwZ h a ci j x = some h') (hdg : decode cc pc = .ok (.putfield index, 3))
    (kk : ∀ (H1 : Heap) (locs1 : List Loc), zI G K s A H1 locs1 h' → W p l e R s m args below meth c H1 locs1 cells slots Q (F0 m (pc + 3) ls rest)) : W p l e R s m args below meth c H locs cells slots Q (F0 m pc ls (.int x :: .ref (G.1 a) :: rest)) := by
  unfold zwZ at hv
  split at hv
  · rename_i hc
    exact z_putV (v := .int x) X hI hF hv (by rcases hc with rfl | rfl <;> rfl) (by rcases hc with rfl | rfl <;> rfl) hdg kk
  · cases hv
theorem z_iald (X : zX p s m args meth c own cc nL ret G A) (hI : zI G K s A H locs h) {a : Nat} {i x : Int32} (hv : zaI h a i = some x) (hdg : decode cc pc = .ok (.iaload, 1))
    (kk : W p l e R s m args below meth c H locs cells slots Q (F0 m (pc + 1) ls (.int x :: rest))) : W p l e R s m args below meth c H locs cells slots Q (F0 m pc ls (.int i :: .ref (G.1 a) :: rest)) := by
  obtain ⟨hx, hb, hml, hown, hts, -, -, hK, -, -⟩ := X
  obtain ⟨n, g, ha, hin, rfl⟩ := zA32_at hv
  have hk := zlt hI ha znR
  exact va_iald (n := n) (f := g) hx hb hK hI.1.2 a 0 (by rw [zW_get hk, ha]; rfl) rfl hin hdg kk
theorem z_zald (X : zX p s m args meth c own cc nL ret G A) (hI : zI G K s A H locs h) {a : Nat} {i x : Int32} (hv : zaZ h a i = some x) (hdg : decode cc pc = .ok (.baload, 1))
    (kk : W p l e R s m args below meth c H locs cells slots Q (F0 m (pc + 1) ls (.int x :: rest))) : W p l e R s m args below meth c H locs cells slots Q (F0 m pc ls (.int i :: .ref (G.1 a) :: rest)) := by
  obtain ⟨hx, hb, hml, hown, hts, -, -, hK, -, -⟩ := X
  obtain ⟨n, g, ha, hin, rfl⟩ := zA32_at hv
  have hk := zlt hI ha znR
  exact va_zald (n := n) (f := g) hx hb hK hI.1.2 a 2 (by rw [zW_get hk, ha]; rfl) rfl hin hdg kk
theorem z_lald (X : zX p s m args meth c own cc nL ret G A) (hI : zI G K s A H locs h) {a : Nat} {i : Int32} {x : Int64} (hv : zaJ h a i = some x) (hdg : decode cc pc = .ok (.laload, 1))
    (kk : W p l e R s m args below meth c H locs cells slots Q (F0 m (pc + 1) ls (.long x :: rest))) : W p l e R s m args below meth c H locs cells slots Q (F0 m pc ls (.int i :: .ref (G.1 a) :: rest)) := by
  obtain ⟨hx, hb, hml, hown, hts, -, -, hK, -, -⟩ := X
  obtain ⟨n, g, ha, hin, rfl⟩ := zaJ_at hv
  have hk := zlt hI ha znR
  exact va_lald (n := n) (f := g) hx hb hK hI.1.2 a 1 (by rw [zW_get hk, ha]; rfl) rfl hin hdg kk
theorem z_iast (X : zX p s m args meth c own cc nL ret G A) (hI : zI G K s A H locs h) {a : Nat} {i x : Int32} (hv : zsI h a i x = some h') (hdg : decode cc pc = .ok (.iastore, 1))
    (kk : ∀ (H1 : Heap) (locs1 : List Loc), zI G K s A H1 locs1 h' → W p l e R s m args below meth c H1 locs1 cells slots Q (F0 m (pc + 1) ls rest)) : W p l e R s m args below meth c H locs cells slots Q (F0 m pc ls (.int x :: .int i :: .ref (G.1 a) :: rest)) := by
  obtain ⟨hx, hb, hml, hown, hts, -, -, hK, -, -⟩ := X
  obtain ⟨n, g, ha, hin, rfl⟩ := zS32_at hv
  have hk := zlt hI ha znR
  refine va_iast (n := n) (f := g) hx hb hK hI.1.2 hI.2.1 hI.2.2 a 0 (by rw [zW_get hk, ha]; rfl) rfl hin hdg (fun H1 locs1 hP hD hS => ?_)
  exact kk H1 locs1 (zI_put hI hk rfl hP hS)
theorem z_zast (X : zX p s m args meth c own cc nL ret G A) (hI : zI G K s A H locs h) {a : Nat} {i x : Int32} (hv : zsZ h a i x = some h') (hdg : decode cc pc = .ok (.bastore, 1))
    (kk : ∀ (H1 : Heap) (locs1 : List Loc), zI G K s A H1 locs1 h' → W p l e R s m args below meth c H1 locs1 cells slots Q (F0 m (pc + 1) ls rest)) : W p l e R s m args below meth c H locs cells slots Q (F0 m pc ls (.int x :: .int i :: .ref (G.1 a) :: rest)) := by
  obtain ⟨hx, hb, hml, hown, hts, -, -, hK, -, -⟩ := X
  obtain ⟨n, g, ha, hin, rfl⟩ := zS32_at hv
  have hk := zlt hI ha znR
  refine va_zast (n := n) (f := g) hx hb hK hI.1.2 hI.2.1 hI.2.2 a 2 (by rw [zW_get hk, ha]; rfl) rfl hin hdg (fun H1 locs1 hP hD hS => ?_)
  exact kk H1 locs1 (zI_put hI hk rfl hP hS)
theorem z_last (X : zX p s m args meth c own cc nL ret G A) (hI : zI G K s A H locs h) {a : Nat} {i : Int32} {x : Int64} (hv : zsJ h a i x = some h') (hdg : decode cc pc = .ok (.lastore, 1))
    (kk : ∀ (H1 : Heap) (locs1 : List Loc), zI G K s A H1 locs1 h' → W p l e R s m args below meth c H1 locs1 cells slots Q (F0 m (pc + 1) ls rest)) : W p l e R s m args below meth c H locs cells slots Q (F0 m pc ls (.long x :: .int i :: .ref (G.1 a) :: rest)) := by
  obtain ⟨hx, hb, hml, hown, hts, -, -, hK, -, -⟩ := X
  obtain ⟨n, g, ha, hin, rfl⟩ := zsJ_at hv
  have hk := zlt hI ha znR
  refine va_last (n := n) (f := g) hx hb hK hI.1.2 hI.2.1 hI.2.2 a 1 (by rw [zW_get hk, ha]; rfl) rfl hin hdg (fun H1 locs1 hP hD hS => ?_)
  exact kk H1 locs1 (zI_put hI hk rfl hP hS)
theorem z_aald (X : zX p s m args meth c own cc nL ret G A) (hI : zI G K s A H locs h) (t : Nat) (ty : FieldType) (ht : (zty G)[t]? = some (G.2.1 t, ty)) (hr : ty.isReference = true) {a : Nat} {i : Int32} {x : Nat} (hv : zaR t h a i = some x) (hdg : decode cc pc = .ok (.aaload, 1))
    (kk : W p l e R s m args below meth c H locs cells slots Q (F0 m (pc + 1) ls (.ref (G.1 x) :: rest))) : W p l e R s m args below meth c H locs cells slots Q (F0 m pc ls (.int i :: .ref (G.1 a) :: rest)) := by
  obtain ⟨hx, hb, hml, hown, hts, -, -, hK, -, -⟩ := X
  obtain ⟨n, g, ha, hin, hg⟩ := zaR_at hv
  have hk := zlt hI ha znR
  have hlt : i.toNatClampNeg < n := Nat.not_le.mp fun q => hin (Or.inr q)
  have hat : va_at G.2.2.2 zCl (G.1 a, zT G (h a)) H := hI.1.2 a _ (zW_get hk)
  rw [ha] at hat
  refine W.aald (v := .ref (G.1 x)) (ty := ty) hx hb hat ((hK.2 t _ ht).1 n (fun j => va_rf ((g j).map G.1))) hr (fun q => by cases q) (by show ¬ (i < 0 ∨ (arrV _ _ _).slots.size ≤ _); rw [arrV_size]; exact hin) (by show (arrV _ _ _).slots[_]? = _; rw [arrV_read _ _ hlt]; show some (va_rf ((g i.toNatClampNeg).map G.1)) = _; rw [hg]; rfl) rfl rfl hdg kk
theorem z_alen (X : zX p s m args meth c own cc nL ret G A) (hI : zI G K s A H locs h) {a : Nat} {x : Int32} (hv : zlen h a = some x) (hdg : decode cc pc = .ok (.arraylength, 1))
    (kk : W p l e R s m args below meth c H locs cells slots Q (F0 m (pc + 1) ls (.int x :: rest))) : W p l e R s m args below meth c H locs cells slots Q (F0 m pc ls (.ref (G.1 a) :: rest)) := by
  obtain ⟨hx, hb, hml, hown, hts, -, -, hK, -, -⟩ := X
  obtain ⟨t, n, y, ht, ha, rfl⟩ := zlen_at hv
  have hk := zlt hI ha znR
  obtain ⟨ty, hty⟩ : ∃ ty, (zty G)[t]? = some (G.2.1 t, ty) := by
    rcases (show t = 0 ∨ t = 1 ∨ t = 2 ∨ t = 3 ∨ t = 4 ∨ t = 5 by omega) with rfl | rfl | rfl | rfl | rfl | rfl <;> exact ⟨_, rfl⟩
  rcases y with g | g | g
  · exact va_alen (x := (n, .inl g)) (v := Int32.ofNat n) hx hb hK hI.1.2 a t (by rw [zW_get hk, ha]; rfl) hty rfl hdg kk
  · exact va_alen (x := (n, .inr (.inl g))) (v := Int32.ofNat n) hx hb hK hI.1.2 a t (by rw [zW_get hk, ha]; rfl) hty rfl hdg kk
  · exact va_alen (x := (n, .inr (.inr (.inr (.inr (fun i => (g i).map G.1)))))) (v := Int32.ofNat n) hx hb hK hI.1.2 a t (by rw [zW_get hk, ha]; rfl) hty rfl hdg kk
theorem z_gets (X : zX p s m args meth c own cc nL ret G A) (hI : zI G K s A H locs h) {index : Nat} (i : Nat) (hi : i < 5) (hl : Cond.fieldLink own index "AllHome" (zsn i) "[I" ∈ zTb) (hdg : decode cc pc = .ok (.getstatic index, 3))
    (kk : W p l e R s m args below meth c H locs cells slots Q (F0 m (pc + 3) ls (.ref (G.2.2.1 i) :: rest))) : W p l e R s m args below meth c H locs cells slots Q (F0 m pc ls rest) := by
  obtain ⟨hx, hb, hml, hown, hts, -, -, hK, hST, -⟩ := X
  exact va_gets hx hb (hST i hi).1 hI.2.2 hown (hts _ hl) (fun _ h9 => h9) hdg kk
theorem z_getsN (X : zX p s m args meth c own cc nL ret G A) (hI : zI G K s A H locs h) {index : Nat} (i : Nat) (hi : i < 5) (hl : Cond.fieldLinkNest own index "AllHome" (zsn i) "[I" "AllHome" ∈ zNs) (hdg : decode cc pc = .ok (.getstatic index, 3))
    (kk : W p l e R s m args below meth c H locs cells slots Q (F0 m (pc + 3) ls (.ref (G.2.2.1 i) :: rest))) : W p l e R s m args below meth c H locs cells slots Q (F0 m pc ls rest) := by
  obtain ⟨hx, hb, hml, hown, hts, -, -, hK, hST, hNs⟩ := X
  exact va_getsN hx hb (hST i hi).1 hI.2.2 hown (va_Nw.use (zNs_on _ hl) (hNs _ hl)) (fun _ h9 => h9) hdg kk
theorem z_tab (X : zX p s m args meth c own cc nL ret G A) (hI : zI G K s A H locs h) (i : Nat) (hi : i < 5) {k x : Int32} (hv : ztab i k = some x) (hdg : decode cc pc = .ok (.iaload, 1))
    (kk : W p l e R s m args below meth c H locs cells slots Q (F0 m (pc + 1) ls (.int x :: rest))) : W p l e R s m args below meth c H locs cells slots Q (F0 m pc ls (.int k :: .ref (G.2.2.1 i) :: rest)) := by
  obtain ⟨hx, hb, hml, hown, hts, -, -, hK, hST, -⟩ := X
  unfold ztab at hv
  split at hv
  · cases hv
  · rename_i hin
    cases hv
    exact va_ti hx hb (hST i hi).2 hI.2.2 hin rfl hdg kk
theorem z_tlen (X : zX p s m args meth c own cc nL ret G A) (hI : zI G K s A H locs h) (i : Nat) (hi : i < 5) {x : Int32} (hv : Int32.ofNat (zsl i).length = x) (hdg : decode cc pc = .ok (.arraylength, 1))
    (kk : W p l e R s m args below meth c H locs cells slots Q (F0 m (pc + 1) ls (.int x :: rest))) : W p l e R s m args below meth c H locs cells slots Q (F0 m pc ls (.ref (G.2.2.1 i) :: rest)) := by
  obtain ⟨hx, hb, hml, hown, hts, -, -, hK, hST, -⟩ := X
  exact va_tlen hx hb (hST i hi).2 hI.2.2 hv hdg kk
theorem z_cpI (X : zX p s m args meth c own cc nL ret G A) (hI : zI G K s A H locs h) (hls : ls.size = nL) {index : Nat} (hl : Cond.methodLink own index arraycopyName ∈ zTb) (hnat : Cond.native arraycopyName ∈ zTb) (hst : Cond.static arraycopyName ∈ zTb) (hini : Cond.initialized "java/lang/System" ∈ zTb) {a b : Nat} {sp dp n : Int32} (hv : zcpI h a sp b dp n = some h') (hR : 1 ≤ R.frames ∧ (rest.map fun v => v.category).sum + (nativeFrameWords "java/lang/System" "arraycopy" 5 + 11) ≤ R.locals) (hdg : decode cc pc = .ok (.invokestatic index, 3))
    (kk : ∀ (H1 : Heap) (locs1 : List Loc), zI G K s A H1 locs1 h' → W p l e R s m args below meth c H1 locs1 cells slots Q (F0 m (pc + 3) ls rest)) : W p l e R s m args below meth c H locs cells slots Q (F0 m pc ls (.int n :: .int dp :: .ref (G.1 b) :: .int sp :: .ref (G.1 a) :: rest)) := by
  obtain ⟨hx, hb, hml, hown, hts, -, -, hK, -, -⟩ := X
  obtain ⟨n0, n1, f, g, ha, hbb, c1, c2, c3, c4, c5, rfl⟩ := zcpI_at hv
  have hka := zlt hI ha znR
  have hkb := zlt hI hbb znR
  refine va_copyi (f := f) (g := g) (n0 := n0) (n1 := n1) (ty := .int) hx hb (by rw [hml, hls]) hown (hts _ hl) (hts _ hnat) (hts _ hst) (hts _ hini) hK hI.1.2 hI.2.1 hI.2.2 a b 0 0 (by rw [zW_get hka, ha]; rfl) (by rw [zW_get hkb, hbb]; rfl) rfl rfl rfl c1 c2 c3 c4 c5 (fun i _ => rfl) hR.1 hR.2 hdg (fun H1 locs1 hP hD hS => ?_)
  exact kk H1 locs1 (zI_put hI hkb rfl hP hS)
theorem z_cpJ (X : zX p s m args meth c own cc nL ret G A) (hI : zI G K s A H locs h) (hls : ls.size = nL) {index : Nat} (hl : Cond.methodLink own index arraycopyName ∈ zTb) (hnat : Cond.native arraycopyName ∈ zTb) (hst : Cond.static arraycopyName ∈ zTb) (hini : Cond.initialized "java/lang/System" ∈ zTb) {a b : Nat} {sp dp n : Int32} (hv : zcpJ h a sp b dp n = some h') (hR : 1 ≤ R.frames ∧ (rest.map fun v => v.category).sum + (nativeFrameWords "java/lang/System" "arraycopy" 5 + 11) ≤ R.locals) (hdg : decode cc pc = .ok (.invokestatic index, 3))
    (kk : ∀ (H1 : Heap) (locs1 : List Loc), zI G K s A H1 locs1 h' → W p l e R s m args below meth c H1 locs1 cells slots Q (F0 m (pc + 3) ls rest)) : W p l e R s m args below meth c H locs cells slots Q (F0 m pc ls (.int n :: .int dp :: .ref (G.1 b) :: .int sp :: .ref (G.1 a) :: rest)) := by
  obtain ⟨hx, hb, hml, hown, hts, -, -, hK, -, -⟩ := X
  obtain ⟨n0, n1, f, g, ha, hbb, c1, c2, c3, c4, c5, rfl⟩ := zcpJ_at hv
  have hka := zlt hI ha znR
  have hkb := zlt hI hbb znR
  refine va_copyl (f := f) (g := g) (n0 := n0) (n1 := n1) (ty := .long) hx hb (by rw [hml, hls]) hown (hts _ hl) (hts _ hnat) (hts _ hst) (hts _ hini) hK hI.1.2 hI.2.1 hI.2.2 a b 1 1 (by rw [zW_get hka, ha]; rfl) (by rw [zW_get hkb, hbb]; rfl) rfl rfl rfl c1 c2 c3 c4 c5 (fun i _ => rfl) hR.1 hR.2 hdg (fun H1 locs1 hP hD hS => ?_)
  exact kk H1 locs1 (zI_put hI hkb rfl hP hS)
-- ends
theorem z_iret (X : zX p s m args meth c own cc nL (some .int) G (zA G K)) (hI : zI G K s (zA G K) H locs h) {x : Int32} (hdg : decode cc pc = .ok (.ireturn, 1)) : W p l e R s m args below meth c H locs cells slots (MQ below (zQi G K x h) args s cells slots (zA G K)) (F0 m pc ls [.int x]) := by
  obtain ⟨hx, hb, hml, hown, hts, hr, hlocks, hK, hST, -⟩ := X
  exact W.iret (v := x) hx hb hr (fun t ht hW => ⟨⟨x, (), rfl, rfl, by show zP G K h t.heap; rw [ht]; exact hI.1⟩, hI.2.2.F ht⟩) hI.2.2.2.2 hdg hlocks
theorem z_zret (X : zX p s m args meth c own cc nL (some .boolean) G (zA G K)) (hI : zI G K s (zA G K) H locs h) {x : Int32} (hx01 : x = 0 ∨ x = 1) (hdg : decode cc pc = .ok (.ireturn, 1)) : W p l e R s m args below meth c H locs cells slots (MQ below (zQi G K x h) args s cells slots (zA G K)) (F0 m pc ls [.int x]) := by
  obtain ⟨hx, hb, hml, hown, hts, hr, hlocks, hK, hST, -⟩ := X
  exact W.zret (v := x) hx hb hr (by rcases hx01 with rfl | rfl <;> rfl) (fun t ht hW => ⟨⟨x, (), rfl, rfl, by show zP G K h t.heap; rw [ht]; exact hI.1⟩, hI.2.2.F ht⟩) hI.2.2.2.2 hdg hlocks
theorem z_lret (X : zX p s m args meth c own cc nL (some .long) G (zA G K)) (hI : zI G K s (zA G K) H locs h) {x : Int64} (hdg : decode cc pc = .ok (.lreturn, 1)) : W p l e R s m args below meth c H locs cells slots (MQ below (zQl G K x h) args s cells slots (zA G K)) (F0 m pc ls [.long x]) := by
  obtain ⟨hx, hb, hml, hown, hts, hr, hlocks, hK, hST, -⟩ := X
  exact W.lret (v := x) hx hb hr (fun t ht hW => ⟨⟨x, (), rfl, rfl, by show zP G K h t.heap; rw [ht]; exact hI.1⟩, hI.2.2.F ht⟩) hI.2.2.2.2 hdg hlocks
theorem z_vret (X : zX p s m args meth c own cc nL none G (zA G K)) (hI : zI G K s (zA G K) H locs h) (hdg : decode cc pc = .ok (.return_, 1)) : W p l e R s m args below meth c H locs cells slots (MQ below (zQv G K h) args s cells slots (zA G K)) (F0 m pc ls []) := by
  obtain ⟨hx, hb, hml, hown, hts, hr, hlocks, hK, hST, -⟩ := X
  exact W.vret hx hb hr (fun t ht hW => ⟨⟨(), rfl, trivial, by show zP G K h t.heap; rw [ht]; exact hI.1⟩, hI.2.2.F ht⟩) hI.2.2.2.2 hdg hlocks
end ZR
end
section
/-! CALLS OVER OUR OWN WORLD: what the tables say of a call by its place; the callee's contract in; the whole world goes with it. -/
theorem zG_ok {y : MethodName} {b : ByteArray} {n : Nat} {ret : Option FieldType} (h : Cond.code y b n ret ∈ zTb) : GoodIn zTb (zws y b n ret) := by
  intro w hw
  have h1 : w ∈ zTb := (List.mem_cons.mp hw).elim (fun q => q ▸ h) id
  exact ⟨h1, good_of_word (List.mem_filter.mp h1).2⟩
def zDc (y : MethodName) (n : Nat) : Prop := y.cls ≠ "java/lang/invoke/MethodHandle" ∧ y.cls ≠ "java/lang/invoke/VarHandle" ∧ (parseMethodDescriptor y.desc).map (fun d => d.parameters.length) = some n
def zCV (own : String) (idx : Nat) (y : MethodName) (b : ByteArray) (maxL : Nat) (ret : Option FieldType) (n ci : Nat) : Prop := Cond.methodLink own idx y ∈ zTb ∧ Cond.instanceMethod y ∈ zTb ∧ Cond.selects y.cls y y ∈ zTb ∧ Cond.initialized y.cls ∈ zTb ∧ Cond.code y b maxL ret ∈ zTb ∧ zDc y n ∧ ci < 90 ∧ ∃ q : vw_C, zCl[ci]? = some q ∧ q.1 = y.cls
def zCS (own : String) (idx : Nat) (y : MethodName) (b : ByteArray) (maxL : Nat) (ret : Option FieldType) (n : Nat) : Prop := Cond.methodLink own idx y ∈ zTb ∧ Cond.static y ∈ zTb ∧ Cond.initialized y.cls ∈ zTb ∧ Cond.code y b maxL ret ∈ zTb ∧ zDc y n
def zCN (own : String) (idx : Nat) (y : MethodName) (b : ByteArray) (maxL : Nat) (ret : Option FieldType) (n : Nat) : Prop := Cond.methodLinkNest own idx y "AllHome" ∈ zNs ∧ Cond.static y ∈ zTb ∧ Cond.initialized y.cls ∈ zTb ∧ Cond.code y b maxL ret ∈ zTb ∧ zDc y n
theorem zU_blind {G : zG} {K : Nat} {h : zH} {av : List Value} : FrameBlind (zPc G K h av) := by
  intro a U g mk q
  obtain ⟨q0, qP, qD, qK, qS, qN⟩ := q
  have hr : U.vm.Alike (U.calling g mk a).vm := Vm.Alike.refl U.vm
  exact ⟨q0, qP, qD, va_K.moved hr qK, fun i hi => ⟨(qS i hi).1.moved hr, (qS i hi).2.moved hr⟩, fun w hw => va_Nw.same (u := U) (U := U.calling g mk a) (zNs_on w hw) rfl (qN w hw)⟩
section ZC
variable {p : Program} {l : Launch} {e : Env} {R : Room} {s : State} {m : MethodId} {args : Array Value} {below : List Frame} {meth : Method} {c : Code} {H : Heap} {locs : List Loc} {cells slots : Nat} {Q : State → Prop}
variable {cc : ByteArray} {pc : Nat} {ls : Array Slot} {rest st0 : List Value} {own : String} {nL : Nat} {ret : Option FieldType} {G : zG} {K : Nat} {A : Nat → Prop} {h h' : zH}
variable {y : MethodName} {b : ByteArray} {maxL idx n d ci a : Nat} {As : List Value}
theorem zU_of (X : zX p s m args meth c own cc nL ret G A) (hI : zI G K s A H locs h) {U : State} (hU : U.heap = H) (hW : s.WarmedH U.vm) : zU G K h U := by
  obtain ⟨hx, hb, hml, hown, hts, -, -, hK, hST, hNs⟩ := X
  exact ⟨by rw [hU]; exact hI.1, zD_self hI.2.1, va_K.moved hW.alike hK, hST.go hI.2.2 hU hW.alike (zA_in hI.2.1), zNs_warm hW hNs⟩
theorem z_runV {Qc : Array Value → State → Outcome → State → Prop} {rt : Option FieldType} (X : zX p s m args meth c own cc nL ret G A) (hI : zI G K s A H locs h) (hls : ls.size = nL) (hM : Met l y (zws y b maxL rt) (zR d) (zPc G K h (.ref (G.1 a) :: As)) Qc 0 0 (zA G K)) (hC : zCV own idx y b maxL rt n ci) (hn : As.length = n) (hcls : zcls h a = ci) (hrest : (rest.map fun v => v.category).sum ≤ 8) (hR : d + 1 ≤ R.frames ∧ 8 + (maxL + 11) + 60 * d ≤ R.locals ∧ cells ≤ R.cells ∧ slots ≤ R.slots) (hst : st0 = As.reverse ++ .ref (G.1 a) :: rest) (hdg : decode cc pc = .ok (.invokevirtual idx, 3)) :
    va_Run p l e R s m args below meth c H locs cells slots 0 0 (F0 m pc ls st0) rest (Qc (Value.ref (G.1 a) :: As).toArray) (zA G K) := by
  have hU := fun (U : State) (hU : U.heap = H) (hW : s.WarmedH U.vm) => zU_of X hI hU hW
  obtain ⟨hx, hb, hml, hown, hts, -, -, hK, hST, hNs⟩ := X
  obtain ⟨c1, c2, c3, c4, c5, c6, c90, q, hq, hqc⟩ := hC
  obtain ⟨fs, ha⟩ := zat_O hcls c90
  have hk := zlt hI ha (znO c90)
  refine va_runV (C := y.cls) (As := As) (rest := rest) (n := n) (bytes := b) (maxL := maxL) (ret := rt) ⟨hx, hb, hml, hown, hts⟩ hM ⟨callB_of n hts (zG_ok c5) rfl rfl rfl (hts _ c4) (hts _ c1) c6 ⟨hR.1, hR.2.1⟩, hts _ c2, hts _ c3⟩ ⟨zU_blind, ?_, fun U hU1 hW => ⟨rfl, hU U hU1 hW⟩⟩ rfl hn hls hst (lv_room hrest) hdg hR.2.2
  rw [← hqc]
  exact va_recv hK hI.1.2 (ci := ci) (q0 := a) hq (by rw [zW_get hk, ha]; rfl)
theorem z_runS {Qc : Array Value → State → Outcome → State → Prop} {rt : Option FieldType} (X : zX p s m args meth c own cc nL ret G A) (hI : zI G K s A H locs h) (hls : ls.size = nL) (hM : Met l y (zws y b maxL rt) (zR d) (zPc G K h As) Qc 0 0 (zA G K)) (hC : zCS own idx y b maxL rt n) (hn : As.length = n) (hrest : (rest.map fun v => v.category).sum ≤ 8) (hR : d + 1 ≤ R.frames ∧ 8 + (maxL + 11) + 60 * d ≤ R.locals ∧ cells ≤ R.cells ∧ slots ≤ R.slots) (hst : st0 = As.reverse ++ rest) (hdg : decode cc pc = .ok (.invokestatic idx, 3)) :
    va_Run p l e R s m args below meth c H locs cells slots 0 0 (F0 m pc ls st0) rest (Qc As.toArray) (zA G K) := by
  have hU := fun (U : State) (hU : U.heap = H) (hW : s.WarmedH U.vm) => zU_of X hI hU hW
  obtain ⟨hx, hb, hml, hown, hts, -, -, hK, hST, hNs⟩ := X
  obtain ⟨c1, c2, c4, c5, c6⟩ := hC
  exact va_runS (As := As) (rest := rest) (n := n) (bytes := b) (maxL := maxL) (ret := rt) ⟨hx, hb, hml, hown, hts⟩ hM ⟨callB_of n hts (zG_ok c5) rfl rfl rfl (hts _ c4) (hts _ c1) c6 ⟨hR.1, hR.2.1⟩, hts _ c2⟩ ⟨zU_blind, fun U hU1 hW => ⟨rfl, hU U hU1 hW⟩⟩ rfl hn hls hst (lv_room hrest) hdg hR.2.2
theorem z_runN {Qc : Array Value → State → Outcome → State → Prop} {rt : Option FieldType} (X : zX p s m args meth c own cc nL ret G A) (hI : zI G K s A H locs h) (hls : ls.size = nL) (hM : Met l y (zws y b maxL rt) (zR d) (zPc G K h As) Qc 0 0 (zA G K)) (hC : zCN own idx y b maxL rt n) (hn : As.length = n) (hrest : (rest.map fun v => v.category).sum ≤ 8) (hR : d + 1 ≤ R.frames ∧ 8 + (maxL + 11) + 60 * d ≤ R.locals ∧ cells ≤ R.cells ∧ slots ≤ R.slots) (hst : st0 = As.reverse ++ rest) (hdg : decode cc pc = .ok (.invokestatic idx, 3)) :
    va_Run p l e R s m args below meth c H locs cells slots 0 0 (F0 m pc ls st0) rest (Qc As.toArray) (zA G K) := by
  have hU := fun (U : State) (hU : U.heap = H) (hW : s.WarmedH U.vm) => zU_of X hI hU hW
  obtain ⟨hx, hb, hml, hown, hts, -, -, hK, hST, hNs⟩ := X
  obtain ⟨c1, c2, c4, c5, c6⟩ := hC
  exact va_runSN (As := As) (rest := rest) (n := n) (bytes := b) (maxL := maxL) (ret := rt) ⟨hx, hb, hml, hown, hts⟩ hM ⟨va_cnB n hts (zG_ok c5) rfl rfl rfl (hNs _ c1) (hts _ c4) c6 ⟨hR.1, hR.2.1⟩, hts _ c2, trivial⟩ ⟨zU_blind, fun U hU1 hW => ⟨rfl, hU U hU1 hW⟩⟩ rfl hn hls hst (lv_room hrest) hdg hR.2.2
theorem z_ci {av : Array Value} {r : Int32} (hI : zI G K s A H locs h) (hr : va_Run p l e R s m args below meth c H locs cells slots 0 0 (F0 m pc ls st0) rest (zQi G K r h' av) (zA G K))
    (kk : ∀ (H1 : Heap) (locs1 : List Loc), zI G K s A H1 locs1 h' → W p l e R s m args below meth c H1 locs1 cells slots Q (F0 m (pc + 3) ls (.int r :: rest))) : W p l e R s m args below meth c H locs cells slots Q (F0 m pc ls st0) := by
  refine va_calli hr hI.2.2 (fun q _ => zA_in hI.2.1 q) (zA_in hI.2.1) (fun r' u t H1 locs1 ht hvm hp hB hz hk hS => ?_)
  subst hp
  exact kk H1 locs1 ⟨by rw [← ht]; exact hB, zD_any _ hI.2.1, hS⟩
theorem z_cl {av : Array Value} {r : Int64} (hI : zI G K s A H locs h) (hr : va_Run p l e R s m args below meth c H locs cells slots 0 0 (F0 m pc ls st0) rest (zQl G K r h' av) (zA G K))
    (kk : ∀ (H1 : Heap) (locs1 : List Loc), zI G K s A H1 locs1 h' → W p l e R s m args below meth c H1 locs1 cells slots Q (F0 m (pc + 3) ls (.long r :: rest))) : W p l e R s m args below meth c H locs cells slots Q (F0 m pc ls st0) := by
  refine va_calll hr hI.2.2 (fun q _ => zA_in hI.2.1 q) (zA_in hI.2.1) (fun r' u t H1 locs1 ht hvm hp hB hz hk hS => ?_)
  subst hp
  exact kk H1 locs1 ⟨by rw [← ht]; exact hB, zD_any _ hI.2.1, hS⟩
theorem z_cv {av : Array Value} (hI : zI G K s A H locs h) (hr : va_Run p l e R s m args below meth c H locs cells slots 0 0 (F0 m pc ls st0) rest (zQv G K h' av) (zA G K))
    (kk : ∀ (H1 : Heap) (locs1 : List Loc), zI G K s A H1 locs1 h' → W p l e R s m args below meth c H1 locs1 cells slots Q (F0 m (pc + 3) ls rest)) : W p l e R s m args below meth c H locs cells slots Q (F0 m pc ls st0) := by
  refine va_callv hr hI.2.2 (fun q _ => zA_in hI.2.1 q) (zA_in hI.2.1) (fun u t H1 locs1 ht hvm hp hB hz hk hS => ?_)
  exact kk H1 locs1 ⟨by rw [← ht]; exact hB, zD_any _ hI.2.1, hS⟩
end ZC
/-- a contract out of a walk from its entry -/
theorem zMet {l : Launch} {y : MethodName} {b : ByteArray} {n d : Nat} {rt : Option FieldType} {G : zG} {K : Nat} {h : zH} {av : List Value} {Qc : Array Value → State → Outcome → State → Prop} (hy : plainName y.cls = true) (hlen : (lg_sl av).length ≤ n)
    (body : ∀ (p : Program) (e : Env) (s : State) (m : MethodId) (below : List Frame) (meth : Method) (c : Code) (ls : Array Slot), zX p s m av.toArray meth c y.cls b n rt G (zA G K) → zI G K s (zA G K) s.heap [] h → lv_has ls n (lv_args 0 av) → W p l e (zR d) s m av.toArray below meth c s.heap [] 0 0 (MQ below Qc av.toArray s 0 0 (zA G K)) (F0 m 0 ls [])) : Met l y (zws y b n rt) (zR d) (zPc G K h av) Qc 0 0 (zA G K) := by
  refine Met.ofW (cc := b) (maxL := n) (ret := rt) hy rfl ?_
  intro p e s m args below meth c s₁ B hml hv
  obtain ⟨rfl, hP, hD, hK, hST, hNs⟩ := hv
  have hts := atoms_spec (ws := zws y b n rt) B.pre
  have hl := lv_entry av (n := n) hlen
  rw [lg_entry_eq]
  exact body p e s m below meth c _ ⟨B.exec, B.bytes, hml, findClass_of_methodNamed B.named, fun w hw => hts w (List.mem_cons_of_mem _ hw), B.returns, B.notSynchronized, hK, hST, hNs⟩ ⟨hP, hD, va_S.rf⟩ hl
theorem zs1 {α : Type} {a r : α} (h : some a = some r) : r = a := (Option.some.inj h).symm
theorem zs2 {α β : Type} {a r : α} {b q : β} (h : some (a, b) = some (r, q)) : r = a ∧ q = b := by
  have h1 := Option.some.inj h
  exact ⟨(congrArg Prod.fst h1).symm, (congrArg Prod.snd h1).symm⟩
end
section
/-! WHAT EACH METHOD DOES TO THE MODEL HEAP, out of its bytecode by program (wip/whole/sym.py) -/
-- AllHome.feed(II)I
def g_Home_feed_28 (a0 : Nat) (x1 : Int32) (x2 : Int32) (k28 : (Int32 × zH) → Option (Int32 × zH)) (u : Int32 × zH) : Option (Int32 × zH) :=
(if x1 ≤ u.1 then ((zrI u.2 a0 6 1).bind fun v62 => ((zwI u.2 a0 6 1 (v62 + x1)).bind fun h67 => ((zrI h67 a0 6 1).bind fun v71 => (some (v71, h67)))))
  else ((zrR u.2 a0 6 0).bind fun v34 => ((zrI u.2 a0 6 1).bind fun v38 => ((zsI u.2 v34 (v38 + u.1) ((x2 >>> (((8 : Int32) * u.1) &&& 31)) &&& (255 : Int32))).bind fun h53 => (k28 ((u.1 + (1 : Int32)), h53))))))
def m_Home_feed (a0 : Nat) (x1 : Int32) (x2 : Int32) (h : zH) : Option (Int32 × zH) :=
  (if x1 < (1 : Int32) then (some ((-1 : Int32), h))
  else (if x1 ≤ (4 : Int32) then ((zrI h a0 6 1).bind fun v13 => (if v13 ≤ ((60 : Int32) - x1) then (zloop (g_Home_feed_28 a0 x1 x2) zN ((0 : Int32), h))
      else (some ((-3 : Int32), h))))
    else (some ((-1 : Int32), h))))
-- AllHome$Huts.size()I
def m_Huts_size (a0 : Nat) (h : zH) : Option Int32 :=
  ((zrI h a0 1 3).bind fun v1 => (some v1))
-- AllHome$Huts.addWords(III)I
def g_Huts_addWords_3 (a0 : Nat) (x1 : Int32) (x2 : Int32) (x3 : Int32) (k3 : (Int32 × zH) → Option (Int32 × zH)) (u : Int32 × zH) : Option (Int32 × zH) :=
(if x3 ≤ u.1 then (some ((if (270 : Int32) < (x1 + x3) then (270 : Int32) else (x1 + x3)), u.2))
  else (if (270 : Int32) ≤ (x1 + u.1) then (some ((if (270 : Int32) < (x1 + x3) then (270 : Int32) else (x1 + x3)), u.2))
    else ((zrR u.2 a0 1 0).bind fun v20 => ((zrI u.2 a0 1 3).bind fun v24 => ((zaR 5 u.2 v20 v24).bind fun v27 => ((zsI u.2 v27 (x1 + u.1) x2).bind fun h33 => (k3 ((u.1 + (1 : Int32)), h33))))))))
def m_Huts_addWords (a0 : Nat) (x1 : Int32) (x2 : Int32) (x3 : Int32) (h : zH) : Option (Int32 × zH) :=
  (zloop (g_Huts_addWords_3 a0 x1 x2 x3) zN ((0 : Int32), h))
-- AllHome$Huts.read([II)I
def g_Huts_read_136 (a0 : Nat) (a1 : Nat) (x2 : Int32) (x3 : Int32) (x4 : Int32) (x5 : Int32) (x6 : Int32) (x7 : Int32) (h : zH) (k38 : (Int32 × Int32 × Int32 × Int32 × zH) → Option (Int32 × zH)) : Option (Int32 × zH) :=
(if x7 < (50 : Int32) then (some (x6, h))
  else (if (57 : Int32) < x7 then (some (x6, h))
    else (if x5 = 0 then (k38 (x3, x4, (x7 - (48 : Int32)), (x6 + (1 : Int32)), h))
      else (some (x6, h)))))
def g_Huts_read_105 (a0 : Nat) (a1 : Nat) (x2 : Int32) (x3 : Int32) (x4 : Int32) (x5 : Int32) (x6 : Int32) (x7 : Int32) (h : zH) (k38 : (Int32 × Int32 × Int32 × Int32 × zH) → Option (Int32 × zH)) : Option (Int32 × zH) :=
(if x7 = (59 : Int32) then (if x5 = 0 then ((zrR h a0 1 1).bind fun v121 => ((zrI h a0 1 3).bind fun v125 => ((zaR 5 h v121 v125).bind fun v128 => ((zsI h v128 (x3 + (1 : Int32)) x4).bind fun h132 => (k38 ((x3 + (1 : Int32)), x4, x5, (x6 + (1 : Int32)), h132))))))
    else (g_Huts_read_136 a0 a1 x2 x3 x4 x5 x6 x7 h k38))
  else (g_Huts_read_136 a0 a1 x2 x3 x4 x5 x6 x7 h k38))
def g_Huts_read_38 (a0 : Nat) (a1 : Nat) (x2 : Int32) (k38 : (Int32 × Int32 × Int32 × Int32 × zH) → Option (Int32 × zH)) (u : Int32 × Int32 × Int32 × Int32 × zH) : Option (Int32 × zH) :=
(if x2 ≤ u.2.2.2.1 then (if u.2.2.1 = 0 then ((zrR u.2.2.2.2 a0 1 1).bind fun v182 => ((zrI u.2.2.2.2 a0 1 3).bind fun v186 => ((zaR 5 u.2.2.2.2 v182 v186).bind fun v189 => ((zsI u.2.2.2.2 v189 (u.1 + (1 : Int32)) u.2.1).bind fun h195 => ((zrR h195 a0 1 2).bind fun v197 => ((zrI h195 a0 1 3).bind fun v201 => ((zsI h195 v197 v201 (u.1 + (1 : Int32))).bind fun h207 => ((zrI h207 a0 1 3).bind fun v210 => ((zwI h207 a0 1 3 (v210 + (1 : Int32))).bind fun h215 => (some ((-1 : Int32), h215)))))))))))
    else (some (x2, u.2.2.2.2)))
  else ((zaI u.2.2.2.2 a1 u.2.2.2.1).bind fun v47 => (if (v47 - (97 : Int32)) < 0 then (g_Huts_read_105 a0 a1 x2 u.1 u.2.1 u.2.2.1 u.2.2.2.1 v47 u.2.2.2.2 k38)
    else (if (6 : Int32) ≤ (v47 - (97 : Int32)) then (g_Huts_read_105 a0 a1 x2 u.1 u.2.1 u.2.2.1 u.2.2.2.1 v47 u.2.2.2.2 k38)
      else ((zrI u.2.2.2.2 a0 1 3).bind fun v72 => (if (v47 - (97 : Int32)) = v72 then (g_Huts_read_105 a0 a1 x2 u.1 u.2.1 u.2.2.1 u.2.2.2.1 v47 u.2.2.2.2 k38)
        else (if u.2.2.1 = 0 then (zb2 (zcv u.2.2.2.2 a0 1 (m_Huts_addWords a0 u.2.1 (v47 - (97 : Int32)) (1 : Int32) u.2.2.2.2)) fun v94 h94 => (k38 (u.1, v94, (0 : Int32), (u.2.2.2.1 + (1 : Int32)), h94)))
          else (zb2 (zcv u.2.2.2.2 a0 1 (m_Huts_addWords a0 u.2.1 (v47 - (97 : Int32)) u.2.2.1 u.2.2.2.2)) fun v94 h94 => (k38 (u.1, v94, (0 : Int32), (u.2.2.2.1 + (1 : Int32)), h94))))))))))
def m_Huts_read (a0 : Nat) (a1 : Nat) (x2 : Int32) (h : zH) : Option (Int32 × zH) :=
  ((zrI h a0 1 3).bind fun v1 => (if (6 : Int32) ≤ v1 then (some ((0 : Int32), h))
  else (if x2 < 0 then (some ((0 : Int32), h))
    else (if (60 : Int32) < x2 then (some ((0 : Int32), h))
      else ((zlen h a1).bind fun v21 => (if x2 ≤ v21 then (zloop (g_Huts_read_38 a0 a1 x2) zN ((0 : Int32), (0 : Int32), (0 : Int32), (0 : Int32), h))
        else (some ((0 : Int32), h))))))))
-- AllHome$Orders.forget()V
def m_Orders_forget (a0 : Nat) (h : zH) : Option zH :=
  ((zwI h a0 2 13 (-1 : Int32)).bind fun h2 => (some h2))
-- AllHome.hut()I
def m_Home_hut (a0 : Nat) (h : zH) : Option (Int32 × zH) :=
  ((zrI h a0 6 6).bind fun v1 => (if v1 ≤ 0 then ((zrR h a0 6 2).bind fun v11 => ((zcv h v11 1 (m_Huts_size v11 h)).bind fun v14 => (if v14 < (6 : Int32) then ((zrR h a0 6 2).bind fun v26 => ((zrR h a0 6 0).bind fun v30 => ((zrI h a0 6 1).bind fun v34 => (zb2 (zcv h v26 1 (m_Huts_read v26 v30 v34 h)) fun v37 h37 => ((zwI h37 a0 6 1 (0 : Int32)).bind fun h43 => (if v37 = (-1 : Int32) then ((zrR h43 a0 6 8).bind fun v57 => ((zcv h43 v57 2 (m_Orders_forget v57 h43)).bind fun h60 => ((zrR h60 a0 6 9).bind fun v64 => ((zcv h60 v64 2 (m_Orders_forget v64 h60)).bind fun h67 => ((zrR h67 a0 6 2).bind fun v71 => ((zcv h67 v71 1 (m_Huts_size v71 h67)).bind fun v74 => (some ((v74 - (1 : Int32)), h67))))))))
      else (some (((-100 : Int32) - v37), h43))))))))
    else (some ((-3 : Int32), h)))))
  else (some ((-5 : Int32), h))))
-- AllHome$Huts.has(I)Z
def m_Huts_has (a0 : Nat) (x1 : Int32) (h : zH) : Option Int32 :=
  (if x1 < 0 then (some (0 : Int32))
  else ((zrI h a0 1 3).bind fun v6 => (if v6 ≤ x1 then (some (0 : Int32))
    else (some (1 : Int32)))))
-- AllHome$Huts.linesOf(I)I
def m_Huts_linesOf (a0 : Nat) (x1 : Int32) (h : zH) : Option Int32 :=
  ((zcv h a0 1 (m_Huts_has a0 x1 h)).bind fun v2 => (if v2 = 0 then (some (0 : Int32))
  else ((zrR h a0 1 2).bind fun v9 => ((zaI h v9 x1).bind fun v13 => (some v13)))))
-- AllHome$Huts.wordsOf(II)I
def m_Huts_wordsOf (a0 : Nat) (x1 : Int32) (x2 : Int32) (h : zH) : Option Int32 :=
  ((zcv h a0 1 (m_Huts_has a0 x1 h)).bind fun v2 => (if v2 = 0 then (some (0 : Int32))
  else (if x2 < 0 then (some (0 : Int32))
    else ((zrR h a0 1 2).bind fun v14 => ((zaI h v14 x1).bind fun v18 => (if x2 < v18 then ((zrR h a0 1 1).bind fun v25 => ((zaR 5 h v25 x1).bind fun v29 => ((zaI h v29 (x2 + (1 : Int32))).bind fun v33 => ((zrR h a0 1 1).bind fun v35 => ((zaR 5 h v35 x1).bind fun v39 => ((zaI h v39 x2).bind fun v41 => (some (v33 - v41))))))))
      else (some (0 : Int32))))))))
-- AllHome.line(II)I
def m_Home_line (a0 : Nat) (x1 : Int32) (x2 : Int32) (h : zH) : Option Int32 :=
  ((zrR h a0 6 2).bind fun v1 => ((zcv h v1 1 (m_Huts_has v1 x1 h)).bind fun v5 => (if v5 = 0 then (some (-1 : Int32))
  else (if x2 < (-1 : Int32) then (some (-1 : Int32))
    else ((zrR h a0 6 2).bind fun v18 => ((zcv h v18 1 (m_Huts_linesOf v18 x1 h)).bind fun v22 => (if x2 < v22 then (if x2 = (-1 : Int32) then ((zrR h a0 6 2).bind fun v36 => ((zcv h v36 1 (m_Huts_linesOf v36 x1 h)).bind fun v40 => (some v40)))
        else ((zrR h a0 6 2).bind fun v47 => ((zcv h v47 1 (m_Huts_wordsOf v47 x1 x2 h)).bind fun v52 => (some v52))))
      else (some (-1 : Int32)))))))))
-- AllHome$Huts.goal(III)I
def m_Huts_goal (a0 : Nat) (x1 : Int32) (x2 : Int32) (x3 : Int32) (h : zH) : Option Int32 :=
  ((zcv h a0 1 (m_Huts_has a0 x1 h)).bind fun v2 => (if v2 = 0 then (some (-1 : Int32))
  else (if x2 < 0 then (some (-1 : Int32))
    else ((zrR h a0 1 2).bind fun v14 => ((zaI h v14 x1).bind fun v18 => (if x2 < v18 then ((zrR h a0 1 1).bind fun v25 => ((zaR 5 h v25 x1).bind fun v29 => ((zaI h v29 (x2 + (1 : Int32))).bind fun v33 => ((zrR h a0 1 1).bind fun v35 => ((zaR 5 h v35 x1).bind fun v39 => ((zaI h v39 x2).bind fun v41 => (if x3 < 0 then (some (-1 : Int32))
        else (if (v33 - v41) ≤ x3 then (some (-1 : Int32))
          else ((zrR h a0 1 0).bind fun v56 => ((zaR 5 h v56 x1).bind fun v60 => ((zrR h a0 1 1).bind fun v62 => ((zaR 5 h v62 x1).bind fun v66 => ((zaI h v66 x2).bind fun v68 => ((zaI h v60 (v68 + x3)).bind fun v71 => (some v71)))))))))))))))
      else (some (-1 : Int32))))))))
-- AllHome.goesTo(III)I
def m_Home_goesTo (a0 : Nat) (x1 : Int32) (x2 : Int32) (x3 : Int32) (h : zH) : Option Int32 :=
  ((zrR h a0 6 2).bind fun v1 => ((zcv h v1 1 (m_Huts_has v1 x1 h)).bind fun v5 => (if v5 = 0 then (some (-1 : Int32))
  else (if x3 < 0 then (some (-1 : Int32))
    else ((zrR h a0 6 2).bind fun v17 => ((zcv h v17 1 (m_Huts_wordsOf v17 x1 x2 h)).bind fun v22 => (if x3 < v22 then ((zrR h a0 6 2).bind fun v31 => ((zcv h v31 1 (m_Huts_goal v31 x1 x2 x3 h)).bind fun v37 => (some v37)))
      else (some (-1 : Int32)))))))))
-- AllHome.isKind(I)Z
def m_Home_isKind (x0 : Int32) (h : zH) : Option Int32 :=
  (if x0 < 0 then (some (0 : Int32))
  else (if (9 : Int32) ≤ x0 then (some (0 : Int32))
    else (some (1 : Int32))))
-- AllHome.way(I)I
def m_Home_way (a0 : Nat) (x1 : Int32) (h : zH) : Option (Int32 × zH) :=
  ((m_Home_isKind x1 h).bind fun v1 => (if v1 = 0 then (some ((-1 : Int32), h))
  else ((zrI h a0 6 4).bind fun v10 => (if v10 < (10 : Int32) then ((zrR h a0 6 3).bind fun v22 => ((zrI h a0 6 4).bind fun v26 => ((zsI h v22 v26 x1).bind fun h30 => ((zrI h30 a0 6 4).bind fun v33 => ((zwI h30 a0 6 4 (v33 + (1 : Int32))).bind fun h38 => ((zrI h38 a0 6 4).bind fun v42 => (some ((v42 - (1 : Int32)), h38))))))))
    else (some ((-3 : Int32), h))))))
-- AllHome.isWay(I)Z
def m_Home_isWay (a0 : Nat) (x1 : Int32) (h : zH) : Option Int32 :=
  (if x1 < 0 then (some (0 : Int32))
  else ((zrI h a0 6 4).bind fun v6 => (if v6 ≤ x1 then (some (0 : Int32))
    else (some (1 : Int32)))))
-- AllHome.kindOf(I)I
def m_Home_kindOf (a0 : Nat) (x1 : Int32) (h : zH) : Option Int32 :=
  ((zcv h a0 6 (m_Home_isWay a0 x1 h)).bind fun v2 => (if v2 = 0 then (some (-1 : Int32))
  else ((zrR h a0 6 3).bind fun v9 => ((zaI h v9 x1).bind fun v13 => (some v13)))))
-- java/util/Arrays.fill([II)V
def g_Fill_I_5 (a0 : Nat) (x1 : Int32) (x3 : Int32) (k5 : (Int32 × zH) → Option zH) (u : Int32 × zH) : Option zH :=
(if x3 ≤ u.1 then (some u.2)
  else ((zsI u.2 a0 u.1 x1).bind fun h13 => (k5 ((u.1 + (1 : Int32)), h13))))
def m_Fill_I (a0 : Nat) (x1 : Int32) (h : zH) : Option zH :=
  ((zlen h a0).bind fun v3 => (zloop (g_Fill_I_5 a0 x1 v3) zN ((0 : Int32), h)))
-- AllHome$Rules.begin([II)V
def g_Rules_begin_77 (a1 : Nat) (k77 : (Int32 × zH) → Option zH) (u : Int32 × zH) : Option zH :=
(if (6 : Int32) ≤ u.1 then (some u.2)
  else ((zsI u.2 a1 ((81 : Int32) + u.1) (-1 : Int32)).bind fun h89 => (k77 ((u.1 + (1 : Int32)), h89))))
def g_Rules_begin_62 (a0 : Nat) (a1 : Nat) (h : zH) : Option zH :=
((zrI h a0 3 2).bind fun v63 => (if v63 = (2 : Int32) then ((zsI h a1 (87 : Int32) (1 : Int32)).bind fun h74 => (zloop (g_Rules_begin_77 a1) zN ((0 : Int32), h74)))
  else (some h)))
def g_Rules_begin_13 (a0 : Nat) (a1 : Nat) (c0 : Nat) (y1 : Int32) (h : zH) : Option zH :=
((zwI h c0 3 1 y1).bind fun h13 => ((zrI h13 a0 3 1).bind fun v21 => ((ztab 1 v21).bind fun v24 => ((zwI h13 a0 3 2 v24).bind fun h25 => ((m_Fill_I a1 (0 : Int32) h25).bind fun h30 => ((zsI h30 a1 (0 : Int32) (1 : Int32)).bind fun h36 => ((zsI h36 a1 (6 : Int32) (1 : Int32)).bind fun h41 => ((zrI h41 a0 3 2).bind fun v43 => (if v43 = (1 : Int32) then ((zsI h41 a1 (68 : Int32) (64 : Int32)).bind fun h55 => ((zsI h55 a1 (74 : Int32) (64 : Int32)).bind fun h61 => (g_Rules_begin_62 a0 a1 h61)))
  else (g_Rules_begin_62 a0 a1 h41))))))))))
def m_Rules_begin (a0 : Nat) (a1 : Nat) (x2 : Int32) (h : zH) : Option zH :=
  ((m_Home_isKind x2 h).bind fun v2 => (if v2 = 0 then (g_Rules_begin_13 a0 a1 a0 (0 : Int32) h)
  else (g_Rules_begin_13 a0 a1 a0 x2 h)))
-- AllHome$Run.begin(II)V
def m_Run_begin (a0 : Nat) (x1 : Int32) (x2 : Int32) (h : zH) : Option zH :=
  ((zrR h a0 4 0).bind fun v1 => ((zrR h a0 4 1).bind fun v5 => ((zcv h v1 3 (m_Rules_begin v1 v5 x2 h)).bind fun h9 => ((zwI h9 a0 4 2 x1).bind fun h14 => ((zwI h14 a0 4 3 (0 : Int32)).bind fun h19 => ((zwI h19 a0 4 4 (-2 : Int32)).bind fun h25 => ((zwI h25 a0 4 5 (-2 : Int32)).bind fun h31 => (some h31))))))))
-- AllHome.run(I)I
def m_Home_run (a0 : Nat) (x1 : Int32) (h : zH) : Option (Int32 × zH) :=
  ((zcv h a0 6 (m_Home_isWay a0 x1 h)).bind fun v2 => (if v2 = 0 then (some ((-1 : Int32), h))
  else ((zrR h a0 6 2).bind fun v11 => ((zcv h v11 1 (m_Huts_size v11 h)).bind fun v14 => (if v14 = 0 then (some ((-5 : Int32), h))
    else ((zrI h a0 6 6).bind fun v24 => (if v24 < (4 : Int32) then ((zrR h a0 6 5).bind fun v35 => ((zrI h a0 6 6).bind fun v39 => ((zaR 3 h v35 v39).bind fun v42 => ((zrR h a0 6 3).bind fun v45 => ((zaI h v45 x1).bind fun v49 => ((zcv h v42 4 (m_Run_begin v42 x1 v49 h)).bind fun h50 => ((zrI h50 a0 6 6).bind fun v55 => ((zwI h50 a0 6 6 (v55 + (1 : Int32))).bind fun h60 => ((zrI h60 a0 6 6).bind fun v64 => (some ((v64 - (1 : Int32)), h60)))))))))))
      else (some ((-3 : Int32), h)))))))))
-- AllHome.isRun(I)Z
def m_Home_isRun (a0 : Nat) (x1 : Int32) (h : zH) : Option Int32 :=
  (if x1 < 0 then (some (0 : Int32))
  else ((zrI h a0 6 6).bind fun v6 => (if v6 ≤ x1 then (some (0 : Int32))
    else (some (1 : Int32)))))
-- AllHome$Rules.partUnits([II)I
def g_Rules_partUnits_30 (a0 : Nat) (x1 : Int32) (h : zH) : Option (Int32 × zH) :=
((zaI h a0 ((68 : Int32) + x1)).bind fun v35 => ((zaI h a0 ((68 : Int32) + x1)).bind fun v45 => ((zsI h a0 ((68 : Int32) + x1) (v45 - (v35 / (2 : Int32)))).bind fun h48 => (some ((v35 / (2 : Int32)), h48)))))
def m_Rules_partUnits (a0 : Nat) (x1 : Int32) (h : zH) : Option (Int32 × zH) :=
  ((zaI h a0 ((68 : Int32) + x1)).bind fun v5 => (if (1 : Int32) < v5 then (g_Rules_partUnits_30 a0 x1 h)
  else ((zaI h a0 ((68 : Int32) + x1)).bind fun v16 => ((zsI h a0 ((68 : Int32) + x1) (v16 + (64 : Int32))).bind fun h20 => ((zaI h20 a0 (74 : Int32)).bind fun v25 => ((zsI h20 a0 (74 : Int32) (v25 + (64 : Int32))).bind fun h29 => (g_Rules_partUnits_30 a0 x1 h29)))))))
-- AllHome$Rules.send([III)I
def g_Rules_send_109 (a0 : Nat) (a1 : Nat) (x2 : Int32) (x3 : Int32) (x4 : Int32) (h : zH) : Option (Int32 × zH) :=
((zrR h a0 3 0).bind fun v110 => ((zcv h v110 1 (m_Huts_has v110 x3 h)).bind fun v114 => (if v114 = 0 then (some ((1 : Int32), h))
  else ((zaI h a1 (18 : Int32)).bind fun v125 => (if v125 < 0 then (some ((-3 : Int32), h))
    else (if v125 < (8 : Int32) then ((zsI h a1 ((19 : Int32) + v125) x2).bind fun h150 => ((zsI h150 a1 ((27 : Int32) + v125) x3).bind fun h158 => ((zsI h158 a1 ((35 : Int32) + v125) x4).bind fun h167 => ((zsI h167 a1 (18 : Int32) (v125 + (1 : Int32))).bind fun h175 => (some ((1 : Int32), h175))))))
      else (some ((-3 : Int32), h))))))))
def m_Rules_send (a0 : Nat) (a1 : Nat) (x2 : Int32) (x3 : Int32) (h : zH) : Option (Int32 × zH) :=
  ((zaI h a1 ((12 : Int32) + x2)).bind fun v6 => ((zsI h a1 ((12 : Int32) + x2) (v6 + (1 : Int32))).bind fun h9 => ((zaI h9 a1 (121 : Int32)).bind fun v14 => ((zsI h9 a1 (121 : Int32) (v14 + (1 : Int32))).bind fun h17 => ((zrI h17 a0 3 2).bind fun v22 => (if v22 = (1 : Int32) then (zb2 (m_Rules_partUnits a1 x2 h17) fun v62 h62 => (g_Rules_send_109 a0 a1 x2 x3 v62 h62))
  else (if v22 = (2 : Int32) then ((zaI h17 a1 ((75 : Int32) + x2)).bind fun v76 => ((zsI h17 a1 ((75 : Int32) + x2) (v76 + (1 : Int32))).bind fun h79 => (g_Rules_send_109 a0 a1 x2 x3 (0 : Int32) h79)))
  else (if v22 = (3 : Int32) then (g_Rules_send_109 a0 a1 x2 x3 (0 : Int32) h17)
  else (if v22 = (4 : Int32) then ((zaI h17 a1 ((93 : Int32) + x2)).bind fun v89 => ((zsI h17 a1 ((93 : Int32) + x2) (v89 + (1 : Int32))).bind fun h92 => (g_Rules_send_109 a0 a1 x2 x3 (0 : Int32) h92)))
  else (if v22 = (5 : Int32) then ((zaI h17 a1 ((105 : Int32) + x2)).bind fun v102 => ((zsI h17 a1 ((105 : Int32) + x2) (v102 + (1 : Int32))).bind fun h105 => (g_Rules_send_109 a0 a1 x2 x3 (0 : Int32) h105)))
  else (g_Rules_send_109 a0 a1 x2 x3 (0 : Int32) h17)))))))))))
-- AllHome$Rules.sendNote([IIII)I
def m_Rules_sendNote (a0 : Nat) (x1 : Int32) (x2 : Int32) (x3 : Int32) (h : zH) : Option (Int32 × zH) :=
  ((zaI h a0 (43 : Int32)).bind fun v3 => (if v3 < 0 then (some ((-3 : Int32), h))
  else (if v3 < (8 : Int32) then ((zsI h a0 ((44 : Int32) + v3) x1).bind fun h28 => ((zsI h28 a0 ((52 : Int32) + v3) x2).bind fun h36 => ((zsI h36 a0 ((60 : Int32) + v3) x3).bind fun h44 => ((zsI h44 a0 (43 : Int32) (v3 + (1 : Int32))).bind fun h52 => ((zaI h52 a0 (122 : Int32)).bind fun v57 => ((zsI h52 a0 (122 : Int32) (v57 + (1 : Int32))).bind fun h60 => (some ((1 : Int32), h60))))))))
    else (some ((-3 : Int32), h)))))
-- AllHome$Rules.goOn([II)I
def m_Rules_goOn (a0 : Nat) (a1 : Nat) (x2 : Int32) (h : zH) : Option (Int32 × zH) :=
  ((zrR h a0 3 0).bind fun v1 => ((zcv h v1 1 (m_Huts_has v1 x2 h)).bind fun v5 => (if v5 = 0 then (some ((-5 : Int32), h))
  else ((zaI h a1 ((0 : Int32) + x2)).bind fun v15 => (if v15 = 0 then (some ((-5 : Int32), h))
    else ((zaI h a1 ((6 : Int32) + x2)).bind fun v27 => ((zaI h a1 ((12 : Int32) + x2)).bind fun v36 => ((zrR h a0 3 0).bind fun v38 => ((zcv h v38 1 (m_Huts_wordsOf v38 x2 (v27 - (1 : Int32)) h)).bind fun v43 => (if v43 ≤ v36 then ((zsI h a1 ((0 : Int32) + x2) (0 : Int32)).bind fun h76 => ((zaI h76 a1 ((68 : Int32) + x2)).bind fun v82 => ((zrI h76 a0 3 2).bind fun v86 => (if v86 = (1 : Int32) then (if x2 = 0 then (some ((1 : Int32), h76))
          else (if v82 = 0 then (some ((1 : Int32), h76))
            else ((zsI h76 a1 ((68 : Int32) + x2) (0 : Int32)).bind fun h110 => (zb2 (m_Rules_sendNote a1 (0 : Int32) v82 (0 : Int32) h110) fun v116 h116 => (some (v116, h116))))))
        else (some ((1 : Int32), h76))))))
      else ((zrR h a0 3 0).bind fun v53 => ((zaI h a1 ((12 : Int32) + x2)).bind fun v63 => ((zcv h v53 1 (m_Huts_goal v53 x2 (v27 - (1 : Int32)) v63 h)).bind fun v64 => (zb2 (zcv h a0 3 (m_Rules_send a0 a1 x2 v64 h)) fun v67 h67 => (some (v67, h67))))))))))))))))
-- AllHome$Rules.closeGap([III)V
def g_Rules_closeGap_2 (a0 : Nat) (x1 : Int32) (k2 : (Int32 × zH) → Option zH) (u : Int32 × zH) : Option zH :=
(if (7 : Int32) ≤ u.1 then ((zsI u.2 a0 ((x1 + (8 : Int32)) - (1 : Int32)) (0 : Int32)).bind fun h34 => (some h34))
  else ((zaI u.2 a0 ((x1 + u.1) + (1 : Int32))).bind fun v18 => ((zsI u.2 a0 (x1 + u.1) v18).bind fun h19 => (k2 ((u.1 + (1 : Int32)), h19)))))
def m_Rules_closeGap (a0 : Nat) (x1 : Int32) (x2 : Int32) (h : zH) : Option zH :=
  (zloop (g_Rules_closeGap_2 a0 x1) zN (x2, h))
-- AllHome$Rules.takeAwayWord([II)V
def m_Rules_takeAwayWord (a0 : Nat) (x1 : Int32) (h : zH) : Option zH :=
  ((zaI h a0 (18 : Int32)).bind fun v4 => ((zsI h a0 (18 : Int32) (v4 - (1 : Int32))).bind fun h7 => ((m_Rules_closeGap a0 (19 : Int32) x1 h7).bind fun h12 => ((m_Rules_closeGap a0 (27 : Int32) x1 h12).bind fun h19 => ((m_Rules_closeGap a0 (35 : Int32) x1 h19).bind fun h26 => (some h26))))))
-- AllHome$Rules.joinTree([III)I
def m_Rules_joinTree (a0 : Nat) (x1 : Int32) (x2 : Int32) (h : zH) : Option (Int32 × zH) :=
  ((zaI h a0 ((87 : Int32) + x2)).bind fun v5 => (if v5 = (1 : Int32) then (zb2 (m_Rules_sendNote a0 x1 (0 : Int32) (0 : Int32) h) fun v14 h14 => (some (v14, h14)))
  else ((zsI h a0 ((87 : Int32) + x2) (1 : Int32)).bind fun h24 => ((zsI h24 a0 ((81 : Int32) + x2) x1).bind fun h31 => (some ((1 : Int32), h31))))))
-- AllHome$Rules.comeWord([II)I
def g_Rules_comeWord_78 (a0 : Nat) (a1 : Nat) (x3 : Int32) (x4 : Int32) (x5 : Int32) (h : zH) : Option (Int32 × zH) :=
((zrI h a0 3 2).bind fun v79 => (if v79 = (1 : Int32) then ((zaI h a1 ((68 : Int32) + x4)).bind fun v123 => ((zsI h a1 ((68 : Int32) + x4) (v123 + x5)).bind fun h127 => (some ((1 : Int32), h127))))
  else (if v79 = (2 : Int32) then (zb2 (m_Rules_joinTree a1 x3 x4 h) fun v135 h135 => (some (v135, h135)))
  else (if v79 = (3 : Int32) then (some ((1 : Int32), h))
  else (if v79 = (4 : Int32) then ((zaI h a1 ((93 : Int32) + x4)).bind fun v146 => ((zsI h a1 ((93 : Int32) + x4) (v146 - (1 : Int32))).bind fun h149 => ((zrI h149 a0 3 1).bind fun v157 => (if v157 = (7 : Int32) then ((zsI h149 a1 ((99 : Int32) + x4) (0 : Int32)).bind fun h170 => (some ((1 : Int32), h170)))
          else ((zsI h149 a1 ((99 : Int32) + x4) (1 : Int32)).bind fun h170 => (some ((1 : Int32), h170)))))))
  else (if v79 = (5 : Int32) then ((zaI h a1 ((111 : Int32) + x4)).bind fun v181 => ((zsI h a1 ((111 : Int32) + x4) (v181 + (1 : Int32))).bind fun h184 => (some ((1 : Int32), h184))))
  else (some ((1 : Int32), h))))))))
def m_Rules_comeWord (a0 : Nat) (a1 : Nat) (x2 : Int32) (h : zH) : Option (Int32 × zH) :=
  (if x2 < 0 then (some ((-5 : Int32), h))
  else ((zaI h a1 (18 : Int32)).bind fun v8 => (if x2 < v8 then ((zaI h a1 ((19 : Int32) + x2)).bind fun v20 => ((zaI h a1 ((27 : Int32) + x2)).bind fun v27 => ((zaI h a1 ((35 : Int32) + x2)).bind fun v35 => ((m_Rules_takeAwayWord a1 x2 h).bind fun h40 => ((zaI h40 a1 ((0 : Int32) + v27)).bind fun v48 => (if v48 = 0 then ((zsI h40 a1 ((0 : Int32) + v27) (1 : Int32)).bind fun h58 => ((zaI h58 a1 ((6 : Int32) + v27)).bind fun v66 => ((zsI h58 a1 ((6 : Int32) + v27) (v66 + (1 : Int32))).bind fun h69 => ((zsI h69 a1 ((12 : Int32) + v27) (0 : Int32)).bind fun h77 => (g_Rules_comeWord_78 a0 a1 v20 v27 v35 h77)))))
      else (g_Rules_comeWord_78 a0 a1 v20 v27 v35 h40)))))))
    else (some ((-5 : Int32), h)))))
-- AllHome$Rules.takeStone([IIII)I
def g_Rules_takeStone_51 (a0 : Nat) (x1 : Int32) (x2 : Int32) (y0 : Int32) (h : zH) : Option (Int32 × zH) :=
((zsI h a0 ((99 : Int32) + x1) (0 : Int32)).bind fun h59 => ((zaI h59 a0 ((93 : Int32) + x1)).bind fun v70 => (zb2 (m_Rules_sendNote a0 (x1 - (1 : Int32)) (x2 + v70) y0 h59) fun v74 h74 => (some (v74, h74)))))
def m_Rules_takeStone (a0 : Nat) (x1 : Int32) (x2 : Int32) (x3 : Int32) (h : zH) : Option (Int32 × zH) :=
  (if x1 = 0 then (if x3 = 0 then ((zaI h a0 (99 : Int32)).bind fun v11 => (if v11 = 0 then ((zaI h a0 (93 : Int32)).bind fun v19 => (if (x2 + v19) = 0 then ((zsI h a0 (120 : Int32) (1 : Int32)).bind fun h28 => (some ((1 : Int32), h28)))
        else (some ((1 : Int32), h))))
      else (some ((1 : Int32), h))))
    else (some ((1 : Int32), h)))
  else (if x3 = (1 : Int32) then (g_Rules_takeStone_51 a0 x1 x2 (1 : Int32) h)
    else ((zaI h a0 ((99 : Int32) + x1)).bind fun v41 => (if v41 = (1 : Int32) then (g_Rules_takeStone_51 a0 x1 x2 (1 : Int32) h)
      else (g_Rules_takeStone_51 a0 x1 x2 (0 : Int32) h)))))
-- AllHome$Rules.takeSums([IIII)I
def g_Rules_takeSums_109 (a1 : Nat) (x3 : Int32) (x4 : Int32) (h : zH) : Option (Int32 × zH) :=
((zsI h a1 (117 : Int32) (1 : Int32)).bind fun h113 => ((zsI h113 a1 (118 : Int32) x3).bind fun h118 => ((zsI h118 a1 (119 : Int32) x4).bind fun h124 => (some ((1 : Int32), h124)))))
def g_Rules_takeSums_80 (a0 : Nat) (a1 : Nat) (x3 : Int32) (x4 : Int32) (y0 : Int32) (h : zH) : Option (Int32 × zH) :=
(if x3 = x4 then ((zrI h a0 3 1).bind fun v89 => (if v89 = (8 : Int32) then ((zsI h a1 (120 : Int32) (1 : Int32)).bind fun h106 => (some ((1 : Int32), h106)))
    else (if y0 = 0 then (g_Rules_takeSums_109 a1 x3 x4 h)
      else ((zsI h a1 (120 : Int32) (1 : Int32)).bind fun h106 => (some ((1 : Int32), h106))))))
  else (g_Rules_takeSums_109 a1 x3 x4 h))
def g_Rules_takeSums_24 (a1 : Nat) (x2 : Int32) (x3 : Int32) (x4 : Int32) (y0 : Int32) (h : zH) : Option (Int32 × zH) :=
((zaI h a1 ((105 : Int32) + x2)).bind fun v35 => ((zaI h a1 ((111 : Int32) + x2)).bind fun v44 => (zb2 (m_Rules_sendNote a1 y0 (x3 + v35) (x4 + v44) h) fun v46 h46 => (some (v46, h46)))))
def m_Rules_takeSums (a0 : Nat) (a1 : Nat) (x2 : Int32) (x3 : Int32) (x4 : Int32) (h : zH) : Option (Int32 × zH) :=
  (if x2 = 0 then ((zaI h a1 (117 : Int32)).bind fun v53 => (if v53 = (1 : Int32) then ((zaI h a1 (118 : Int32)).bind fun v61 => (if v61 = x3 then ((zaI h a1 (119 : Int32)).bind fun v69 => (if v69 = x4 then (g_Rules_takeSums_80 a0 a1 x3 x4 (1 : Int32) h)
        else (g_Rules_takeSums_80 a0 a1 x3 x4 (0 : Int32) h)))
      else (g_Rules_takeSums_80 a0 a1 x3 x4 (0 : Int32) h)))
    else (g_Rules_takeSums_80 a0 a1 x3 x4 (0 : Int32) h)))
  else ((zrR h a0 3 0).bind fun v8 => ((zcv h v8 1 (m_Huts_size v8 h)).bind fun v11 => (if v11 ≤ (x2 + (1 : Int32)) then (g_Rules_takeSums_24 a1 x2 x3 x4 (0 : Int32) h)
    else (g_Rules_takeSums_24 a1 x2 x3 x4 (x2 + (1 : Int32)) h)))))
-- AllHome$Rules.comeNote([II)I
def g_Rules_comeNote_58 (a0 : Nat) (a1 : Nat) (x2 : Int32) (x3 : Int32) (x4 : Int32) (x5 : Int32) (h : zH) : Option (Int32 × zH) :=
((zaI h a1 (43 : Int32)).bind fun v62 => ((zsI h a1 (43 : Int32) (v62 - (1 : Int32))).bind fun h65 => ((m_Rules_closeGap a1 (44 : Int32) x2 h65).bind fun h70 => ((m_Rules_closeGap a1 (52 : Int32) x2 h70).bind fun h77 => ((m_Rules_closeGap a1 (60 : Int32) x2 h77).bind fun h84 => ((zrI h84 a0 3 2).bind fun v88 => (if v88 = (1 : Int32) then ((zaI h84 a1 ((68 : Int32) + x3)).bind fun v130 => ((zsI h84 a1 ((68 : Int32) + x3) (v130 + x4)).bind fun h134 => (some ((1 : Int32), h134))))
  else (if v88 = (2 : Int32) then ((zaI h84 a1 ((75 : Int32) + x3)).bind fun v143 => ((zsI h84 a1 ((75 : Int32) + x3) (v143 - (1 : Int32))).bind fun h146 => (some ((1 : Int32), h146))))
  else (if v88 = (3 : Int32) then (some ((1 : Int32), h84))
  else (if v88 = (4 : Int32) then (zb2 (m_Rules_takeStone a1 x3 x4 x5 h84) fun v155 h155 => (some (v155, h155)))
  else (if v88 = (5 : Int32) then (zb2 (zcv h84 a0 3 (m_Rules_takeSums a0 a1 x3 x4 x5 h84)) fun v166 h166 => (some (v166, h166)))
  else (some ((1 : Int32), h84)))))))))))))
def m_Rules_comeNote (a0 : Nat) (a1 : Nat) (x2 : Int32) (h : zH) : Option (Int32 × zH) :=
  (if x2 < 0 then (some ((-5 : Int32), h))
  else ((zaI h a1 (43 : Int32)).bind fun v8 => (if x2 < v8 then ((zaI h a1 ((44 : Int32) + x2)).bind fun v20 => ((zaI h a1 ((52 : Int32) + x2)).bind fun v27 => ((zaI h a1 ((60 : Int32) + x2)).bind fun v35 => ((zrI h a0 3 2).bind fun v39 => (if v39 = (4 : Int32) then ((zaI h a1 ((0 : Int32) + v20)).bind fun v50 => (if v50 = (1 : Int32) then (some ((-5 : Int32), h))
        else (g_Rules_comeNote_58 a0 a1 x2 v20 v27 v35 h)))
      else (g_Rules_comeNote_58 a0 a1 x2 v20 v27 v35 h))))))
    else (some ((-5 : Int32), h)))))
-- AllHome.isUnder(II)Z
def g_Home_isUnder_4 (x1 : Int32) (h : zH) (k4 : (Int32 × Int32) → Option Int32) (u : Int32 × Int32) : Option Int32 :=
(if (9 : Int32) ≤ u.2 then (some (0 : Int32))
  else ((m_Home_isKind u.1 h).bind fun v11 => (if v11 = 0 then (some (0 : Int32))
    else (if u.1 = x1 then (some (1 : Int32))
      else ((ztab 0 u.1).bind fun v28 => (k4 (v28, (u.2 + (1 : Int32)))))))))
def m_Home_isUnder (x0 : Int32) (x1 : Int32) (h : zH) : Option Int32 :=
  (zloop (g_Home_isUnder_4 x1 h) zN (x0, (0 : Int32)))
-- AllHome$Rules.ask([II)I
def m_Rules_ask (a0 : Nat) (a1 : Nat) (x2 : Int32) (h : zH) : Option (Int32 × zH) :=
  (if x2 = 0 then ((zrI h a0 3 1).bind fun v5 => ((m_Home_isUnder v5 (3 : Int32) h).bind fun v9 => (if v9 = 0 then (some ((-5 : Int32), h))
    else ((zaI h a1 (43 : Int32)).bind fun v18 => (if 0 < v18 then (some ((-5 : Int32), h))
      else ((zaI h a1 (0 : Int32)).bind fun v24 => (if v24 = (1 : Int32) then (some ((-5 : Int32), h))
        else ((zrI h a0 3 2).bind fun v33 => (if v33 = (4 : Int32) then ((zsI h a1 (99 : Int32) (0 : Int32)).bind fun h44 => ((zrR h44 a0 3 0).bind fun v47 => ((zcv h44 v47 1 (m_Huts_size v47 h44)).bind fun v50 => (zb2 (m_Rules_sendNote a1 (v50 - (1 : Int32)) (0 : Int32) (0 : Int32) h44) fun v57 h57 => (some (v57, h57))))))
          else ((zrI h a0 3 2).bind fun v62 => (if v62 = (5 : Int32) then ((zrR h a0 3 0).bind fun v71 => ((zcv h v71 1 (m_Huts_size v71 h)).bind fun v74 => (if v74 ≤ (1 : Int32) then ((zaI h a1 (105 : Int32)).bind fun v89 => ((zaI h a1 (111 : Int32)).bind fun v93 => (zb2 (m_Rules_sendNote a1 (0 : Int32) v89 v93 h) fun v94 h94 => (some (v94, h94)))))
              else ((zaI h a1 (105 : Int32)).bind fun v89 => ((zaI h a1 (111 : Int32)).bind fun v93 => (zb2 (m_Rules_sendNote a1 (1 : Int32) v89 v93 h) fun v94 h94 => (some (v94, h94))))))))
            else (some ((1 : Int32), h)))))))))))))
  else (some ((-5 : Int32), h)))
-- AllHome$Rules.lose([II)I
def m_Rules_lose (a0 : Nat) (x1 : Int32) (h : zH) : Option (Int32 × zH) :=
  (if x1 < 0 then (some ((-5 : Int32), h))
  else ((zaI h a0 (18 : Int32)).bind fun v8 => (if x1 < v8 then ((m_Rules_takeAwayWord a0 x1 h).bind fun h17 => (some ((1 : Int32), h17)))
    else (some ((-5 : Int32), h)))))
-- AllHome$Rules.leaveTree([I)I
def g_Rules_leaveTree_43 (a0 : Nat) (a1 : Nat) (x2 : Int32) (x3 : Int32) (y0 : Int32) (h : zH) (k4 : (Int32 × Int32 × zH) → Option (Int32 × zH)) : Option (Int32 × zH) :=
(if y0 = 0 then (k4 (x2, (x3 + (1 : Int32)), h))
  else ((zaI h a1 ((87 : Int32) + x3)).bind fun v55 => (if v55 = (1 : Int32) then ((zaI h a1 ((0 : Int32) + x3)).bind fun v64 => (if v64 = 0 then ((zaI h a1 ((81 : Int32) + x3)).bind fun v74 => (zb2 (m_Rules_sendNote a1 v74 (0 : Int32) (0 : Int32) h) fun v77 h77 => ((zsI h77 a1 ((87 : Int32) + x3) (0 : Int32)).bind fun h87 => ((zsI h87 a1 ((81 : Int32) + x3) (-1 : Int32)).bind fun h94 => (k4 (v77, (x3 + (1 : Int32)), h94))))))
      else (k4 (x2, (x3 + (1 : Int32)), h))))
    else (k4 (x2, (x3 + (1 : Int32)), h)))))
def g_Rules_leaveTree_4 (a0 : Nat) (a1 : Nat) (k4 : (Int32 × Int32 × zH) → Option (Int32 × zH)) (u : Int32 × Int32 × zH) : Option (Int32 × zH) :=
((zrR u.2.2 a0 3 0).bind fun v6 => ((zcv u.2.2 v6 1 (m_Huts_size v6 u.2.2)).bind fun v9 => (if v9 ≤ u.2.1 then (some (u.1, u.2.2))
  else (if u.1 = (1 : Int32) then ((zrI u.2.2 a0 3 1).bind fun v21 => (if v21 = (6 : Int32) then (g_Rules_leaveTree_43 a0 a1 u.1 u.2.1 (1 : Int32) u.2.2 k4)
      else ((zaI u.2.2 a1 ((75 : Int32) + u.2.1)).bind fun v34 => (if v34 = 0 then (g_Rules_leaveTree_43 a0 a1 u.1 u.2.1 (1 : Int32) u.2.2 k4)
        else (g_Rules_leaveTree_43 a0 a1 u.1 u.2.1 (0 : Int32) u.2.2 k4)))))
    else (some (u.1, u.2.2))))))
def m_Rules_leaveTree (a0 : Nat) (a1 : Nat) (h : zH) : Option (Int32 × zH) :=
  (zloop (g_Rules_leaveTree_4 a0 a1) zN ((1 : Int32), (1 : Int32), h))
-- AllHome$Rules.seesAllHome([I)Z
def g_Rules_seesAllHome_54 (x2 : Int32) (y0 : Int32) (h : zH) : Option Int32 :=
(if x2 = 0 then (if y0 = 0 then (some (0 : Int32))
    else (some (1 : Int32)))
  else (some (1 : Int32)))
def g_Rules_seesAllHome_33 (a0 : Nat) (a1 : Nat) (y0 : Int32) (h : zH) : Option Int32 :=
((zrI h a0 3 2).bind fun v35 => (if v35 = (2 : Int32) then ((zaI h a1 (75 : Int32)).bind fun v45 => (if 0 < v45 then (g_Rules_seesAllHome_54 y0 (0 : Int32) h)
    else (g_Rules_seesAllHome_54 y0 (1 : Int32) h)))
  else (g_Rules_seesAllHome_54 y0 (0 : Int32) h)))
def m_Rules_seesAllHome (a0 : Nat) (a1 : Nat) (h : zH) : Option Int32 :=
  ((zaI h a1 (0 : Int32)).bind fun v2 => (if v2 = (1 : Int32) then (some (0 : Int32))
  else ((zrI h a0 3 2).bind fun v10 => (if v10 = (1 : Int32) then ((zaI h a1 (68 : Int32)).bind fun v20 => ((zaI h a1 (74 : Int32)).bind fun v24 => (if v20 = v24 then (g_Rules_seesAllHome_33 a0 a1 (1 : Int32) h)
      else (g_Rules_seesAllHome_33 a0 a1 (0 : Int32) h))))
    else (g_Rules_seesAllHome_33 a0 a1 (0 : Int32) h)))))
-- AllHome$Rules.apply([III)I
def g_Rules_apply_115 (a0 : Nat) (a1 : Nat) (x4 : Int32) (h : zH) : Option (Int32 × zH) :=
(if x4 = (1 : Int32) then ((zcv h a0 3 (m_Rules_seesAllHome a0 a1 h)).bind fun v123 => (if v123 = 0 then (some (x4, h))
    else ((zsI h a1 (120 : Int32) (1 : Int32)).bind fun h133 => (some (x4, h133)))))
  else (some (x4, h)))
def g_Rules_apply_94 (a0 : Nat) (a1 : Nat) (x4 : Int32) (h : zH) : Option (Int32 × zH) :=
(if x4 = (1 : Int32) then ((zrI h a0 3 2).bind fun v101 => (if v101 = (2 : Int32) then (zb2 (zcv h a0 3 (m_Rules_leaveTree a0 a1 h)) fun v110 h110 => (g_Rules_apply_115 a0 a1 v110 h110))
    else (g_Rules_apply_115 a0 a1 x4 h)))
  else (g_Rules_apply_115 a0 a1 x4 h))
def m_Rules_apply (a0 : Nat) (a1 : Nat) (x2 : Int32) (x3 : Int32) (h : zH) : Option (Int32 × zH) :=
  (if x2 = (0 : Int32) then (zb2 (zcv h a0 3 (m_Rules_goOn a0 a1 x3 h)) fun v43 h43 => (g_Rules_apply_94 a0 a1 v43 h43))
  else (if x2 = (1 : Int32) then (zb2 (zcv h a0 3 (m_Rules_comeWord a0 a1 x3 h)) fun v54 h54 => (g_Rules_apply_94 a0 a1 v54 h54))
  else (if x2 = (2 : Int32) then (zb2 (zcv h a0 3 (m_Rules_comeNote a0 a1 x3 h)) fun v65 h65 => (g_Rules_apply_94 a0 a1 v65 h65))
  else (if x2 = (3 : Int32) then (zb2 (zcv h a0 3 (m_Rules_ask a0 a1 x3 h)) fun v76 h76 => (g_Rules_apply_94 a0 a1 v76 h76))
  else (if x2 = (4 : Int32) then (zb2 (m_Rules_lose a1 x3 h) fun v86 h86 => (g_Rules_apply_94 a0 a1 v86 h86))
  else (g_Rules_apply_94 a0 a1 (-5 : Int32) h))))))
-- AllHome.isOver([I)Z
def g_Home_isOver_2 (a0 : Nat) (h : zH) (k2 : (Int32) → Option Int32) (u : Int32) : Option Int32 :=
(if (6 : Int32) ≤ u then ((zaI h a0 (18 : Int32)).bind fun v28 => (if v28 = 0 then (some (1 : Int32))
    else (some (0 : Int32))))
  else ((zaI h a0 ((0 : Int32) + u)).bind fun v12 => (if v12 = (1 : Int32) then (some (0 : Int32))
    else (k2 (u + (1 : Int32))))))
def m_Home_isOver (a0 : Nat) (h : zH) : Option Int32 :=
  (zloop (g_Home_isOver_2 a0 h) zN (0 : Int32))
-- AllHome$Run.advance([III)I
def g_Run_advance_83 (a0 : Nat) (h : zH) : Option (Int32 × zH) :=
((zrR h a0 4 1).bind fun v84 => ((m_Home_isOver v84 h).bind fun v87 => (if v87 = 0 then ((zwI h a0 4 5 (-2 : Int32)).bind fun h96 => ((zrI h96 a0 4 3).bind fun v120 => (some (v120, h96))))
  else ((zrI h a0 4 5).bind fun v103 => (if v103 = (-2 : Int32) then ((zrI h a0 4 3).bind fun v113 => ((zwI h a0 4 5 v113).bind fun h116 => ((zrI h116 a0 4 3).bind fun v120 => (some (v120, h116)))))
    else ((zrI h a0 4 3).bind fun v120 => (some (v120, h))))))))
def m_Run_advance (a0 : Nat) (a1 : Nat) (x2 : Int32) (x3 : Int32) (h : zH) : Option (Int32 × zH) :=
  ((zrR h a0 4 1).bind fun v1 => ((zcpI h v1 (0 : Int32) a1 (0 : Int32) (123 : Int32)).bind fun h9 => ((zrR h9 a0 4 0).bind fun v13 => (zb2 (zcv h9 v13 3 (m_Rules_apply v13 a1 x2 x3 h9)) fun v19 h19 => (if v19 = (1 : Int32) then ((zrR h19 a0 4 1).bind fun v36 => ((zcpI h19 a1 (0 : Int32) v36 (0 : Int32) (123 : Int32)).bind fun h42 => ((zrI h42 a0 4 3).bind fun v47 => ((zwI h42 a0 4 3 (v47 + (1 : Int32))).bind fun h52 => ((zrR h52 a0 4 1).bind fun v56 => ((zaI h52 v56 (120 : Int32)).bind fun v61 => (if v61 = (1 : Int32) then ((zrI h52 a0 4 4).bind fun v67 => (if v67 = (-2 : Int32) then ((zrI h52 a0 4 3).bind fun v77 => ((zwI h52 a0 4 4 v77).bind fun h80 => (g_Run_advance_83 a0 h80)))
      else (g_Run_advance_83 a0 h52)))
    else (g_Run_advance_83 a0 h52))))))))
  else (some (v19, h19)))))))
-- AllHome.step(III)I
def m_Home_step (a0 : Nat) (x1 : Int32) (x2 : Int32) (x3 : Int32) (h : zH) : Option (Int32 × zH) :=
  ((zcv h a0 6 (m_Home_isRun a0 x1 h)).bind fun v2 => (if v2 = 0 then (some ((-1 : Int32), h))
  else (if x2 < 0 then (some ((-1 : Int32), h))
    else (if x2 ≤ (4 : Int32) then ((zrR h a0 6 5).bind fun v20 => ((zaR 3 h v20 x1).bind fun v24 => ((zrR h a0 6 7).bind fun v26 => (zb2 (zcv h v24 4 (m_Run_advance v24 v26 x2 x3 h)) fun v31 h31 => (some (v31, h31))))))
      else (some ((-1 : Int32), h))))))
-- AllHome.isShelf(I)Z
def m_Home_isShelf (x0 : Int32) (h : zH) : Option Int32 :=
  (if x0 < 0 then (some (0 : Int32))
  else (if (6 : Int32) ≤ x0 then (some (0 : Int32))
    else (some (1 : Int32))))
-- AllHome$Shelf.isEmpty()Z
def m_Shelf_isEmpty (a0 : Nat) (h : zH) : Option Int32 :=
  ((zrI h a0 5 3).bind fun v1 => (if v1 = (-1 : Int32) then ((zrI h a0 5 2).bind fun v9 => (if v9 = (-1 : Int32) then (some (1 : Int32))
    else (some (0 : Int32))))
  else (some (0 : Int32))))
-- AllHome$Shelf.isRowOf(I)Z
def m_Shelf_isRowOf (a0 : Nat) (x1 : Int32) (h : zH) : Option Int32 :=
  ((zrI h a0 5 2).bind fun v1 => (if v1 = x1 then (some (1 : Int32))
  else (some (0 : Int32))))
-- AllHome$Shelf.hasPlace(I)Z
def m_Shelf_hasPlace (a0 : Nat) (x1 : Int32) (h : zH) : Option Int32 :=
  (if x1 < 0 then (some (0 : Int32))
  else ((zrI h a0 5 1).bind fun v6 => (if v6 ≤ x1 then (some (0 : Int32))
    else (some (1 : Int32)))))
-- AllHome$Shelf.at(I)J
def m_Shelf_at (a0 : Nat) (x1 : Int32) (h : zH) : Option Int64 :=
  ((zcv h a0 5 (m_Shelf_hasPlace a0 x1 h)).bind fun v2 => (if v2 = 0 then (some (-9223372036854775808 : Int64))
  else ((zrR h a0 5 0).bind fun v9 => ((zaJ h v9 x1).bind fun v13 => (some v13)))))
-- AllHome.steps(IIII)I
def g_Home_steps_63 (a0 : Nat) (x1 : Int32) (x3 : Int32) (x4 : Int32) (a5 : Nat) (k63 : (Int32 × zH) → Option (Int32 × zH)) (u : Int32 × zH) : Option (Int32 × zH) :=
(if x4 ≤ u.1 then (some (u.1, u.2))
  else ((zcv u.2 a5 5 (m_Shelf_hasPlace a5 x3 u.2)).bind fun v73 => (if v73 = 0 then (some (u.1, u.2))
    else ((zcv u.2 a5 5 (m_Shelf_hasPlace a5 (x3 + u.1) u.2)).bind fun v85 => (if v85 = 0 then (some (u.1, u.2))
      else ((zcv u.2 a5 5 (m_Shelf_at a5 (x3 + u.1) u.2)).bind fun v97 => (if v97.toInt32 < 0 then (some (u.1, u.2))
        else ((zrR u.2 a0 6 5).bind fun v109 => ((zaR 3 u.2 v109 x1).bind fun v113 => ((zrR u.2 a0 6 7).bind fun v115 => (zb2 (zcv u.2 v113 4 (m_Run_advance v113 v115 (v97.toInt32 / (100 : Int32)) (v97.toInt32 - v97.toInt32 / (100 : Int32) * (100 : Int32)) u.2)) fun v128 h128 => (if 0 ≤ v128 then (k63 ((u.1 + (1 : Int32)), h128))
          else (some (u.1, h128))))))))))))))
def m_Home_steps (a0 : Nat) (x1 : Int32) (x2 : Int32) (x3 : Int32) (x4 : Int32) (h : zH) : Option (Int32 × zH) :=
  ((zcv h a0 6 (m_Home_isRun a0 x1 h)).bind fun v2 => (if v2 = 0 then (some ((-1 : Int32), h))
  else ((m_Home_isShelf x2 h).bind fun v9 => (if v9 = 0 then (some ((-1 : Int32), h))
    else (if x4 < (1 : Int32) then (some ((-1 : Int32), h))
      else (if x4 ≤ (60 : Int32) then ((zrR h a0 6 11).bind fun v31 => ((zaR 4 h v31 x2).bind fun v35 => ((zcv h v35 5 (m_Shelf_isEmpty v35 h)).bind fun v40 => (if v40 = 0 then ((zcv h v35 5 (m_Shelf_isRowOf v35 (1 : Int32) h)).bind fun v51 => (if v51 = 0 then (some ((-12 : Int32), h))
            else (zloop (g_Home_steps_63 a0 x1 x3 x4 v35) zN ((0 : Int32), h))))
          else (some ((0 : Int32), h))))))
        else (some ((-1 : Int32), h))))))))
-- AllHome$Run.hutsAwake()I
def g_Run_hutsAwake_4 (a0 : Nat) (h : zH) (k4 : (Int32 × Int32) → Option Int32) (u : Int32 × Int32) : Option Int32 :=
(if (6 : Int32) ≤ u.2 then (some u.1)
  else ((zrR h a0 4 1).bind fun v12 => ((zaI h v12 ((0 : Int32) + u.2)).bind fun v18 => (k4 ((u.1 + v18), (u.2 + (1 : Int32)))))))
def m_Run_hutsAwake (a0 : Nat) (h : zH) : Option Int32 :=
  (zloop (g_Run_hutsAwake_4 a0 h) zN ((0 : Int32), (0 : Int32)))
-- AllHome$Run.tell(I)I
def m_Run_tell (a0 : Nat) (x1 : Int32) (h : zH) : Option Int32 :=
  (if x1 = (0 : Int32) then ((zrI h a0 4 2).bind fun v61 => (some v61))
  else (if x1 = (1 : Int32) then ((zrI h a0 4 3).bind fun v66 => (some v66))
  else (if x1 = (2 : Int32) then ((zrR h a0 4 1).bind fun v71 => ((zaI h v71 (18 : Int32)).bind fun v76 => (some v76)))
  else (if x1 = (3 : Int32) then ((zrR h a0 4 1).bind fun v79 => ((zaI h v79 (43 : Int32)).bind fun v84 => (some v84)))
  else (if x1 = (4 : Int32) then ((zrR h a0 4 1).bind fun v87 => ((m_Home_isOver v87 h).bind fun v90 => (if v90 = 0 then (some (0 : Int32))
            else (some (1 : Int32)))))
  else (if x1 = (5 : Int32) then ((zrR h a0 4 1).bind fun v103 => ((zaI h v103 (120 : Int32)).bind fun v108 => (some v108)))
  else (if x1 = (6 : Int32) then ((zcv h a0 4 (m_Run_hutsAwake a0 h)).bind fun v111 => (some v111))
  else (if x1 = (7 : Int32) then ((zrR h a0 4 1).bind fun v116 => ((zaI h v116 (121 : Int32)).bind fun v121 => (some v121)))
  else (if x1 = (8 : Int32) then ((zrR h a0 4 1).bind fun v124 => ((zaI h v124 (122 : Int32)).bind fun v129 => (some v129)))
  else (if x1 = (9 : Int32) then ((zrI h a0 4 4).bind fun v132 => (some v132))
  else (if x1 = (10 : Int32) then ((zrI h a0 4 5).bind fun v137 => (some v137))
  else (some (-1 : Int32)))))))))))))
-- AllHome.ofRun(II)I
def m_Home_ofRun (a0 : Nat) (x1 : Int32) (x2 : Int32) (h : zH) : Option Int32 :=
  ((zcv h a0 6 (m_Home_isRun a0 x1 h)).bind fun v2 => (if v2 = 0 then (some (-1 : Int32))
  else ((zrR h a0 6 5).bind fun v9 => ((zaR 3 h v9 x1).bind fun v13 => ((zcv h v13 4 (m_Run_tell v13 x2 h)).bind fun v15 => (some v15))))))
-- AllHome$Rules.family()I
def m_Rules_family (a0 : Nat) (h : zH) : Option Int32 :=
  ((zrI h a0 3 2).bind fun v1 => (some v1))
-- AllHome$Run.family()I
def m_Run_family (a0 : Nat) (h : zH) : Option Int32 :=
  ((zrR h a0 4 0).bind fun v1 => ((zcv h v1 3 (m_Rules_family v1 h)).bind fun v4 => (some v4)))
-- AllHome$Run.cell(I)I
def m_Run_cell (a0 : Nat) (x1 : Int32) (h : zH) : Option Int32 :=
  (if x1 < 0 then (some (-2000000000 : Int32))
  else (if (123 : Int32) ≤ x1 then (some (-2000000000 : Int32))
    else ((zrR h a0 4 1).bind fun v11 => ((zaI h v11 x1).bind fun v15 => (some v15)))))
-- AllHome.ofHut(III)I
def g_Home_ofHut_63 (a0 : Nat) (x1 : Int32) (x2 : Int32) (x3 : Int32) (h : zH) : Option Int32 :=
((zrR h a0 6 5).bind fun v64 => ((zaR 3 h v64 x1).bind fun v68 => ((ztab 2 x3).bind fun v73 => ((zcv h v68 4 (m_Run_cell v68 (v73 + x2) h)).bind fun v76 => (some v76)))))
def m_Home_ofHut (a0 : Nat) (x1 : Int32) (x2 : Int32) (x3 : Int32) (h : zH) : Option Int32 :=
  ((zcv h a0 6 (m_Home_isRun a0 x1 h)).bind fun v2 => (if v2 = 0 then (some (-2000000000 : Int32))
  else ((zrR h a0 6 2).bind fun v9 => ((zcv h v9 1 (m_Huts_has v9 x2 h)).bind fun v13 => (if v13 = 0 then (some (-2000000000 : Int32))
    else (if x3 < 0 then (some (-2000000000 : Int32))
      else (if x3 < (11 : Int32) then ((ztab 3 x3).bind fun v38 => (if v38 = (-1 : Int32) then (g_Home_ofHut_63 a0 x1 x2 x3 h)
          else ((ztab 3 x3).bind fun v47 => ((zrR h a0 6 5).bind fun v49 => ((zaR 3 h v49 x1).bind fun v53 => ((zcv h v53 4 (m_Run_family v53 h)).bind fun v54 => (if v47 = v54 then (g_Home_ofHut_63 a0 x1 x2 x3 h)
            else (some (-2000000000 : Int32)))))))))
        else (some (-2000000000 : Int32)))))))))
-- AllHome.word(III)I
def m_Home_word (a0 : Nat) (x1 : Int32) (x2 : Int32) (x3 : Int32) (h : zH) : Option Int32 :=
  ((zcv h a0 6 (m_Home_isRun a0 x1 h)).bind fun v2 => (if v2 = 0 then (some (-1 : Int32))
  else (if x2 < 0 then (some (-1 : Int32))
    else ((zrR h a0 6 5).bind fun v14 => ((zaR 3 h v14 x1).bind fun v18 => ((zcv h v18 4 (m_Run_cell v18 (18 : Int32) h)).bind fun v21 => (if x2 < v21 then (if x3 = (0 : Int32) then ((zrR h a0 6 5).bind fun v57 => ((zaR 3 h v57 x1).bind fun v61 => ((zcv h v61 4 (m_Run_cell v61 ((19 : Int32) + x2) h)).bind fun v66 => (some v66))))
        else (if x3 = (1 : Int32) then ((zrR h a0 6 5).bind fun v71 => ((zaR 3 h v71 x1).bind fun v75 => ((zcv h v75 4 (m_Run_cell v75 ((27 : Int32) + x2) h)).bind fun v80 => (some v80))))
        else (if x3 = (2 : Int32) then ((zrR h a0 6 5).bind fun v85 => ((zaR 3 h v85 x1).bind fun v89 => ((zcv h v89 4 (m_Run_cell v89 ((35 : Int32) + x2) h)).bind fun v94 => (some v94))))
        else (some (-1 : Int32)))))
      else (some (-1 : Int32)))))))))
-- AllHome.note(III)I
def m_Home_note (a0 : Nat) (x1 : Int32) (x2 : Int32) (x3 : Int32) (h : zH) : Option Int32 :=
  ((zcv h a0 6 (m_Home_isRun a0 x1 h)).bind fun v2 => (if v2 = 0 then (some (-2000000000 : Int32))
  else (if x2 < 0 then (some (-2000000000 : Int32))
    else ((zrR h a0 6 5).bind fun v14 => ((zaR 3 h v14 x1).bind fun v18 => ((zcv h v18 4 (m_Run_cell v18 (43 : Int32) h)).bind fun v21 => (if x2 < v21 then (if x3 = (0 : Int32) then ((zrR h a0 6 5).bind fun v57 => ((zaR 3 h v57 x1).bind fun v61 => ((zcv h v61 4 (m_Run_cell v61 ((44 : Int32) + x2) h)).bind fun v66 => (some v66))))
        else (if x3 = (1 : Int32) then ((zrR h a0 6 5).bind fun v71 => ((zaR 3 h v71 x1).bind fun v75 => ((zcv h v75 4 (m_Run_cell v75 ((52 : Int32) + x2) h)).bind fun v80 => (some v80))))
        else (if x3 = (2 : Int32) then ((zrR h a0 6 5).bind fun v85 => ((zaR 3 h v85 x1).bind fun v89 => ((zcv h v89 4 (m_Run_cell v89 ((60 : Int32) + x2) h)).bind fun v94 => (some v94))))
        else (some (-2000000000 : Int32)))))
      else (some (-2000000000 : Int32)))))))))
-- AllHome.total(I)I
def m_Home_total (a0 : Nat) (x1 : Int32) (h : zH) : Option Int32 :=
  ((zcv h a0 6 (m_Home_isRun a0 x1 h)).bind fun v2 => (if v2 = 0 then (some (-1 : Int32))
  else ((zrR h a0 6 5).bind fun v11 => ((zaR 3 h v11 x1).bind fun v15 => ((zcv h v15 4 (m_Run_family v15 h)).bind fun v16 => (if v16 = (1 : Int32) then ((zrR h a0 6 5).bind fun v24 => ((zaR 3 h v24 x1).bind fun v28 => ((zcv h v28 4 (m_Run_cell v28 (74 : Int32) h)).bind fun v31 => (some v31))))
    else (some (-2 : Int32))))))))
-- AllHome$Orders.printOf([I)I
def g_Orders_printOf_4 (a0 : Nat) (h : zH) (k4 : (Int32 × Int32) → Option Int32) (u : Int32 × Int32) : Option Int32 :=
(if (121 : Int32) ≤ u.2 then (some u.1)
  else ((zaI h a0 u.2).bind fun v16 => (k4 (((u.1 * (31 : Int32)) + v16), (u.2 + (1 : Int32))))))
def m_Orders_printOf (a0 : Nat) (h : zH) : Option Int32 :=
  (zloop (g_Orders_printOf_4 a0 h) zN ((0 : Int32), (0 : Int32)))
-- AllHome$Orders.addSpare(II)I
def g_Orders_addSpare_105 (a0 : Nat) (c0 : Nat) (y1 : Int32) (y2 : Int32) (h : zH) : Option (Int32 × zH) :=
((zsI h c0 y1 y2).bind fun h105 => ((zrR h105 a0 2 8).bind fun v107 => ((zrI h105 a0 2 11).bind fun v111 => ((zsI h105 v107 v111 (0 : Int32)).bind fun h115 => ((zrI h115 a0 2 11).bind fun v118 => ((zwI h115 a0 2 11 (v118 + (1 : Int32))).bind fun h123 => ((zrI h123 a0 2 11).bind fun v127 => (some ((v127 - (1 : Int32)), h123)))))))))
def m_Orders_addSpare (a0 : Nat) (x1 : Int32) (x2 : Int32) (h : zH) : Option (Int32 × zH) :=
  ((zrI h a0 2 11).bind fun v1 => (if v1 < (150 : Int32) then ((zrR h a0 2 10).bind fun v18 => ((zrR h a0 2 2).bind fun v23 => ((zrI h a0 2 11).bind fun v27 => ((zaR 5 h v23 v27).bind fun v30 => ((zcpI h v18 (0 : Int32) v30 (0 : Int32) (123 : Int32)).bind fun h34 => ((zrR h34 a0 2 3).bind fun v38 => ((zrI h34 a0 2 11).bind fun v42 => ((zrR h34 a0 2 10).bind fun v46 => ((m_Orders_printOf v46 h34).bind fun v49 => ((zsI h34 v38 v42 v49).bind fun h52 => ((zrR h52 a0 2 4).bind fun v54 => ((zrI h52 a0 2 11).bind fun v58 => ((zsI h52 v54 v58 x1).bind fun h62 => ((zrR h62 a0 2 5).bind fun v64 => ((zrI h62 a0 2 11).bind fun v68 => ((zsI h62 v64 v68 x2).bind fun h72 => ((zrR h72 a0 2 6).bind fun v74 => ((zrI h72 a0 2 11).bind fun v78 => (if x1 < 0 then (g_Orders_addSpare_105 a0 v74 v78 (0 : Int32) h72)
    else ((zrI h72 a0 2 11).bind fun v87 => (if v87 ≤ x1 then (g_Orders_addSpare_105 a0 v74 v78 (0 : Int32) h72)
      else ((zrR h72 a0 2 6).bind fun v94 => ((zaI h72 v94 x1).bind fun v98 => (g_Orders_addSpare_105 a0 v74 v78 (v98 + (1 : Int32)) h72))))))))))))))))))))))))
  else ((zwZ h a0 2 12 (1 : Int32)).bind fun h12 => (some ((-1 : Int32), h12)))))
-- AllHome$Orders.numbersOf([II)I
def m_Orders_numbersOf (a0 : Nat) (a1 : Nat) (x2 : Int32) (h : zH) : Option Int32 :=
  (if x2 = (0 : Int32) then ((zrR h a0 2 0).bind fun v29 => ((zcv h v29 1 (m_Huts_size v29 h)).bind fun v32 => (some v32)))
  else (if x2 = (1 : Int32) then ((zaI h a1 (18 : Int32)).bind fun v39 => (some v39))
  else (if x2 = (2 : Int32) then ((zaI h a1 (43 : Int32)).bind fun v44 => (some v44))
  else (some (1 : Int32)))))
-- AllHome$Orders.alike([I[II)Z
def g_Orders_alike_2 (a0 : Nat) (a1 : Nat) (x2 : Int32) (h : zH) (k2 : (Int32) → Option Int32) (u : Int32) : Option Int32 :=
(if x2 ≤ u then (some (1 : Int32))
  else ((zaI h a0 u).bind fun v9 => ((zaI h a1 u).bind fun v12 => (if v9 = v12 then (k2 (u + (1 : Int32)))
    else (some (0 : Int32))))))
def m_Orders_alike (a0 : Nat) (a1 : Nat) (x2 : Int32) (h : zH) : Option Int32 :=
  (zloop (g_Orders_alike_2 a0 a1 x2 h) zN (0 : Int32))
-- AllHome$Orders.findSpare()I
def g_Orders_findSpare_10 (a0 : Nat) (x1 : Int32) (h : zH) (k10 : (Int32) → Option Int32) (u : Int32) : Option Int32 :=
((zrI h a0 2 11).bind fun v12 => (if v12 ≤ u then (some (-1 : Int32))
  else ((zrR h a0 2 3).bind fun v19 => ((zaI h v19 u).bind fun v23 => (if v23 = x1 then ((zrR h a0 2 2).bind fun v29 => ((zaR 5 h v29 u).bind fun v33 => ((zrR h a0 2 10).bind fun v35 => ((m_Orders_alike v33 v35 (121 : Int32) h).bind fun v40 => (if v40 = 0 then (k10 (u + (1 : Int32)))
      else (some u))))))
    else (k10 (u + (1 : Int32))))))))
def m_Orders_findSpare (a0 : Nat) (h : zH) : Option Int32 :=
  ((zrR h a0 2 10).bind fun v1 => ((m_Orders_printOf v1 h).bind fun v4 => (zloop (g_Orders_findSpare_10 a0 v4 h) zN (0 : Int32))))
-- AllHome$Orders.tryStep(III)V
def g_Orders_tryStep_60 (a0 : Nat) (x1 : Int32) (x4 : Int32) (h : zH) : Option zH :=
(if x4 = (-1 : Int32) then (some h)
  else ((zrR h a0 2 8).bind fun v67 => ((zaI h v67 x1).bind fun v71 => (if (21 : Int32) ≤ v71 then (some h)
    else ((zrR h a0 2 7).bind fun v78 => ((zaR 5 h v78 x1).bind fun v82 => ((zrR h a0 2 8).bind fun v84 => ((zaI h v84 x1).bind fun v88 => ((zsI h v82 v88 x4).bind fun h91 => ((zrR h91 a0 2 8).bind fun v93 => ((zaI h91 v93 x1).bind fun v98 => ((zsI h91 v93 x1 (v98 + (1 : Int32))).bind fun h101 => (some h101)))))))))))))
def m_Orders_tryStep (a0 : Nat) (x1 : Int32) (x2 : Int32) (x3 : Int32) (h : zH) : Option zH :=
  ((zrR h a0 2 2).bind fun v1 => ((zaR 5 h v1 x1).bind fun v5 => ((zrR h a0 2 10).bind fun v8 => ((zcpI h v5 (0 : Int32) v8 (0 : Int32) (123 : Int32)).bind fun h14 => ((zrR h14 a0 2 1).bind fun v18 => ((zrR h14 a0 2 10).bind fun v22 => (zb2 (zcv h14 v18 3 (m_Rules_apply v18 v22 x2 x3 h14)) fun v27 h27 => (if v27 = (1 : Int32) then ((zcv h27 a0 2 (m_Orders_findSpare a0 h27)).bind fun v36 => (if v36 = (-1 : Int32) then (zb2 (zcv h27 a0 2 (m_Orders_addSpare a0 x1 (((100 : Int32) * x2) + x3) h27)) fun v55 h55 => (g_Orders_tryStep_60 a0 x1 v55 h55))
    else (g_Orders_tryStep_60 a0 x1 v36 h27)))
  else (some h27)))))))))
-- AllHome$Orders.explore(I)V
def g_Orders_explore_120 (a0 : Nat) (x2 : Int32) (x3 : Int32) (x4 : Int32) (x5 : Int32) (k60 : (Int32 × zH) → Option zH) (k97 : (Int32 × zH) → Option zH) (k120 : (Int32 × zH) → Option zH) (u : Int32 × zH) : Option zH :=
(if x5 ≤ u.1 then (k97 ((x4 + (1 : Int32)), u.2))
  else ((zrI u.2 a0 2 12).bind fun v128 => (if v128 = 0 then ((zcv u.2 a0 2 (m_Orders_tryStep a0 x2 x4 u.1 u.2)).bind fun h140 => (k120 ((u.1 + (1 : Int32)), h140)))
    else (k97 ((x4 + (1 : Int32)), u.2)))))
def g_Orders_explore_97 (a0 : Nat) (x2 : Int32) (x3 : Int32) (k60 : (Int32 × zH) → Option zH) (k97 : (Int32 × zH) → Option zH) (u : Int32 × zH) : Option zH :=
(if x3 < u.1 then (k60 ((x2 + (1 : Int32)), u.2))
  else ((zrR u.2 a0 2 2).bind fun v105 => ((zaR 5 u.2 v105 x2).bind fun v109 => ((zcv u.2 a0 2 (m_Orders_numbersOf a0 v109 u.1 u.2)).bind fun v112 => (zloop (g_Orders_explore_120 a0 x2 x3 u.1 v112 k60 k97) zN ((0 : Int32), u.2))))))
def g_Orders_explore_60 (a0 : Nat) (k60 : (Int32 × zH) → Option zH) (u : Int32 × zH) : Option zH :=
((zrI u.2 a0 2 11).bind fun v62 => (if v62 ≤ u.1 then (some u.2)
  else (if (150 : Int32) ≤ u.1 then (some u.2)
    else ((zrR u.2 a0 2 2).bind fun v76 => ((zaR 5 u.2 v76 u.1).bind fun v80 => ((zaI u.2 v80 (120 : Int32)).bind fun v83 => (if v83 = (1 : Int32) then (zloop (g_Orders_explore_97 a0 u.1 (-1 : Int32) k60) zN ((0 : Int32), u.2))
      else (zloop (g_Orders_explore_97 a0 u.1 (3 : Int32) k60) zN ((0 : Int32), u.2)))))))))
def g_Orders_explore_36 (a0 : Nat) (x1 : Int32) (c0 : Nat) (y1 : Int32) (h : zH) : Option zH :=
((zwZ h c0 2 12 y1).bind fun h36 => ((zrR h36 a0 2 1).bind fun v40 => ((zrR h36 a0 2 10).bind fun v44 => ((zcv h36 v40 3 (m_Rules_begin v40 v44 x1 h36)).bind fun h48 => (zb2 (zcv h48 a0 2 (m_Orders_addSpare a0 (-1 : Int32) (0 : Int32) h48)) fun v54 h54 => (zloop (g_Orders_explore_60 a0) zN ((0 : Int32), h54)))))))
def m_Orders_explore (a0 : Nat) (x1 : Int32) (h : zH) : Option zH :=
  ((zrI h a0 2 13).bind fun v2 => (if x1 = v2 then (some h)
  else ((zwI h a0 2 13 x1).bind fun h11 => ((zwI h11 a0 2 11 (0 : Int32)).bind fun h16 => ((zrR h16 a0 2 0).bind fun v21 => ((zcv h16 v21 1 (m_Huts_size v21 h16)).bind fun v24 => (if v24 ≤ (4 : Int32) then (g_Orders_explore_36 a0 x1 a0 (0 : Int32) h16)
    else (g_Orders_explore_36 a0 x1 a0 (1 : Int32) h16))))))))
-- AllHome$Orders.isBig()Z
def m_Orders_isBig (a0 : Nat) (h : zH) : Option Int32 :=
  ((zrI h a0 2 12).bind fun v1 => (zbl v1 (some v1)))
-- AllHome.goThrough(I)I
def m_Home_goThrough (a0 : Nat) (x1 : Int32) (h : zH) : Option (Int32 × zH) :=
  ((zcv h a0 6 (m_Home_isWay a0 x1 h)).bind fun v2 => (if v2 = 0 then (some ((-1 : Int32), h))
  else ((zrR h a0 6 2).bind fun v11 => ((zcv h v11 1 (m_Huts_size v11 h)).bind fun v14 => (if v14 = 0 then (some ((-5 : Int32), h))
    else ((zrR h a0 6 8).bind fun v24 => ((zrR h a0 6 3).bind fun v28 => ((zaI h v28 x1).bind fun v32 => ((zcv h v24 2 (m_Orders_explore v24 v32 h)).bind fun h33 => ((zrR h33 a0 6 8).bind fun v37 => ((zcv h33 v37 2 (m_Orders_isBig v37 h33)).bind fun v40 => (if v40 = 0 then (some ((1 : Int32), h33))
      else (some ((-4 : Int32), h33))))))))))))))
-- AllHome$Orders.size()I
def m_Orders_size (a0 : Nat) (h : zH) : Option Int32 :=
  ((zrI h a0 2 11).bind fun v1 => (some v1))
-- AllHome.states(I)I
def m_Home_states (a0 : Nat) (x1 : Int32) (h : zH) : Option (Int32 × zH) :=
  (zb2 (zcv h a0 6 (m_Home_goThrough a0 x1 h)) fun v2 h2 => (if 0 ≤ v2 then ((zrR h2 a0 6 8).bind fun v15 => ((zcv h2 v15 2 (m_Orders_size v15 h2)).bind fun v18 => (some (v18, h2))))
  else (some (v2, h2))))
-- AllHome$Orders.firstSaying(Z)I
def g_Orders_firstSaying_2 (a0 : Nat) (x1 : Int32) (h : zH) (k2 : (Int32) → Option Int32) (u : Int32) : Option Int32 :=
((zrI h a0 2 11).bind fun v4 => (if v4 ≤ u then (some (-1 : Int32))
  else ((zrR h a0 2 2).bind fun v11 => ((zaR 5 h v11 u).bind fun v15 => ((zaI h v15 (120 : Int32)).bind fun v18 => (if v18 = (1 : Int32) then ((zrR h a0 2 2).bind fun v24 => ((zaR 5 h v24 u).bind fun v28 => ((m_Home_isOver v28 h).bind fun v29 => (if v29 = x1 then (some u)
      else (k2 (u + (1 : Int32)))))))
    else (k2 (u + (1 : Int32)))))))))
def m_Orders_firstSaying (a0 : Nat) (x1 : Int32) (h : zH) : Option Int32 :=
  (zloop (g_Orders_firstSaying_2 a0 x1 h) zN (0 : Int32))
-- AllHome$Orders.early()I
def m_Orders_early (a0 : Nat) (h : zH) : Option Int32 :=
  ((zcv h a0 2 (m_Orders_firstSaying a0 (0 : Int32) h)).bind fun v2 => (some v2))
-- AllHome$Orders.soon()I
def m_Orders_soon (a0 : Nat) (h : zH) : Option Int32 :=
  ((zcv h a0 2 (m_Orders_firstSaying a0 (1 : Int32) h)).bind fun v2 => (some v2))
-- AllHome$Orders.stepsTo(I)I
def m_Orders_stepsTo (a0 : Nat) (x1 : Int32) (h : zH) : Option Int32 :=
  (if x1 < 0 then (some (0 : Int32))
  else ((zrI h a0 2 11).bind fun v6 => (if v6 ≤ x1 then (some (0 : Int32))
    else ((zrR h a0 2 6).bind fun v13 => ((zaI h v13 x1).bind fun v17 => (some v17))))))
-- AllHome$Orders.stepOnTheWayTo(II)I
def g_Orders_stepOnTheWayTo_42 (a0 : Nat) (x3 : Int32) (h : zH) : Option Int32 :=
(if x3 < 0 then (some (-1 : Int32))
  else ((zrI h a0 2 11).bind fun v48 => (if v48 ≤ x3 then (some (-1 : Int32))
    else ((zrR h a0 2 5).bind fun v55 => ((zaI h v55 x3).bind fun v59 => (some v59))))))
def g_Orders_stepOnTheWayTo_11 (a0 : Nat) (x2 : Int32) (h : zH) (k11 : (Int32 × Int32) → Option Int32) (u : Int32 × Int32) : Option Int32 :=
(if u.2 ≤ x2 then (g_Orders_stepOnTheWayTo_42 a0 u.1 h)
  else (if u.1 < 0 then (g_Orders_stepOnTheWayTo_42 a0 u.1 h)
    else ((zrI h a0 2 11).bind fun v23 => (if v23 ≤ u.1 then (g_Orders_stepOnTheWayTo_42 a0 u.1 h)
      else ((zrR h a0 2 4).bind fun v30 => ((zaI h v30 u.1).bind fun v34 => (k11 (v34, (u.2 + (-1 : Int32))))))))))
def m_Orders_stepOnTheWayTo (a0 : Nat) (x1 : Int32) (x2 : Int32) (h : zH) : Option Int32 :=
  ((zcv h a0 2 (m_Orders_stepsTo a0 x1 h)).bind fun v4 => (zloop (g_Orders_stepOnTheWayTo_11 a0 x2 h) zN (x1, (v4 - (1 : Int32)))))
-- AllHome.least(III)I
def g_Home_least_52 (a0 : Nat) (x3 : Int32) (y0 : Int32) (h : zH) : Option (Int32 × zH) :=
(if y0 = (-1 : Int32) then (some ((-2 : Int32), h))
  else ((zrR h a0 6 8).bind fun v64 => ((zcv h v64 2 (m_Orders_stepsTo v64 y0 h)).bind fun v69 => (if x3 = (-1 : Int32) then (some (v69, h))
    else (if v69 ≤ x3 then (some ((-1 : Int32), h))
      else ((zrR h a0 6 8).bind fun v89 => ((zcv h v89 2 (m_Orders_stepOnTheWayTo v89 y0 x3 h)).bind fun v95 => (some (v95, h)))))))))
def m_Home_least (a0 : Nat) (x1 : Int32) (x2 : Int32) (x3 : Int32) (h : zH) : Option (Int32 × zH) :=
  (if x2 < 0 then (some ((-1 : Int32), h))
  else (if (1 : Int32) < x2 then (some ((-1 : Int32), h))
    else (if (-1 : Int32) ≤ x3 then (zb2 (zcv h a0 6 (m_Home_goThrough a0 x1 h)) fun v18 h18 => (if 0 ≤ v18 then (if x2 = 0 then ((zrR h18 a0 6 8).bind fun v36 => ((zcv h18 v36 2 (m_Orders_early v36 h18)).bind fun v39 => (g_Home_least_52 a0 x3 v39 h18)))
          else ((zrR h18 a0 6 8).bind fun v46 => ((zcv h18 v46 2 (m_Orders_soon v46 h18)).bind fun v49 => (g_Home_least_52 a0 x3 v49 h18))))
        else (some (v18, h18))))
      else (some ((-1 : Int32), h)))))
-- AllHome$Orders.spreadCanSay()Z
def g_Orders_spreadCanSay_15 (a0 : Nat) (x2 : Int32) (k9 : (Int32 × Int32 × zH) → Option (Int32 × zH)) (k15 : (Int32 × Int32 × zH) → Option (Int32 × zH)) (u : Int32 × Int32 × zH) : Option (Int32 × zH) :=
((zrR u.2.2 a0 2 8).bind fun v17 => ((zaI u.2.2 v17 x2).bind fun v21 => (if v21 ≤ u.2.1 then (k9 (u.1, (x2 + (-1 : Int32)), u.2.2))
  else ((zrR u.2.2 a0 2 9).bind fun v26 => ((zaZ u.2.2 v26 x2).bind fun v30 => (if v30 = 0 then ((zrR u.2.2 a0 2 9).bind fun v35 => ((zrR u.2.2 a0 2 7).bind fun v39 => ((zaR 5 u.2.2 v39 x2).bind fun v43 => ((zaI u.2.2 v43 u.2.1).bind fun v45 => ((zaZ u.2.2 v35 v45).bind fun v46 => (if v46 = 0 then (k15 (u.1, (u.2.1 + (1 : Int32)), u.2.2))
      else ((zrR u.2.2 a0 2 9).bind fun v51 => ((zsZ u.2.2 v51 x2 (1 : Int32)).bind fun h56 => (k15 ((1 : Int32), (u.2.1 + (1 : Int32)), h56))))))))))
    else (k9 (u.1, (x2 + (-1 : Int32)), u.2.2))))))))
def g_Orders_spreadCanSay_9 (a0 : Nat) (k9 : (Int32 × Int32 × zH) → Option (Int32 × zH)) (u : Int32 × Int32 × zH) : Option (Int32 × zH) :=
(if u.2.1 < 0 then (zbl u.1 (some (u.1, u.2.2)))
  else (zloop (g_Orders_spreadCanSay_15 a0 u.2.1 k9) zN (u.1, (0 : Int32), u.2.2)))
def m_Orders_spreadCanSay (a0 : Nat) (h : zH) : Option (Int32 × zH) :=
  ((zrI h a0 2 11).bind fun v3 => (zloop (g_Orders_spreadCanSay_9 a0) zN ((0 : Int32), (v3 - (1 : Int32)), h)))
-- AllHome$Orders.stuckStates()I
def g_Orders_stuckStates_70 (a0 : Nat) (h : zH) (k70 : (Int32 × Int32) → Option (Int32 × zH)) (u : Int32 × Int32) : Option (Int32 × zH) :=
((zrI h a0 2 11).bind fun v72 => (if v72 ≤ u.2 then (some (u.1, h))
  else ((zrR h a0 2 9).bind fun v80 => ((zaZ h v80 u.2).bind fun v84 => (if v84 = 0 then (k70 ((u.1 + (1 : Int32)), (u.2 + (1 : Int32))))
    else (k70 ((u.1 + (0 : Int32)), (u.2 + (1 : Int32)))))))))
def g_Orders_stuckStates_44 (a0 : Nat) (k44 : (Int32 × Int32 × zH) → Option (Int32 × zH)) (u : Int32 × Int32 × zH) : Option (Int32 × zH) :=
(if (150 : Int32) ≤ u.2.1 then (zloop (g_Orders_stuckStates_70 a0 u.2.2) zN ((0 : Int32), (0 : Int32)))
  else (if u.1 = 0 then (zloop (g_Orders_stuckStates_70 a0 u.2.2) zN ((0 : Int32), (0 : Int32)))
    else (zb2 (zcv u.2.2 a0 2 (m_Orders_spreadCanSay a0 u.2.2)) fun v56 h56 => (k44 (v56, (u.2.1 + (1 : Int32)), h56)))))
def g_Orders_stuckStates_2 (a0 : Nat) (k2 : (Int32 × zH) → Option (Int32 × zH)) (u : Int32 × zH) : Option (Int32 × zH) :=
((zrI u.2 a0 2 11).bind fun v4 => (if v4 ≤ u.1 then (zloop (g_Orders_stuckStates_44 a0) zN ((1 : Int32), (0 : Int32), u.2))
  else ((zrR u.2 a0 2 9).bind fun v11 => ((zrR u.2 a0 2 2).bind fun v16 => ((zaR 5 u.2 v16 u.1).bind fun v20 => ((zaI u.2 v20 (120 : Int32)).bind fun v23 => (if v23 = (1 : Int32) then ((zsZ u.2 v11 u.1 (1 : Int32)).bind fun h33 => (k2 ((u.1 + (1 : Int32)), h33)))
    else ((zsZ u.2 v11 u.1 (0 : Int32)).bind fun h33 => (k2 ((u.1 + (1 : Int32)), h33))))))))))
def m_Orders_stuckStates (a0 : Nat) (h : zH) : Option (Int32 × zH) :=
  (zloop (g_Orders_stuckStates_2 a0) zN ((0 : Int32), h))
-- AllHome.stuck(I)I
def m_Home_stuck (a0 : Nat) (x1 : Int32) (h : zH) : Option (Int32 × zH) :=
  (zb2 (zcv h a0 6 (m_Home_goThrough a0 x1 h)) fun v2 h2 => (if 0 ≤ v2 then ((zrR h2 a0 6 8).bind fun v15 => (zb2 (zcv h2 v15 2 (m_Orders_stuckStates v15 h2)) fun v18 h18 => (some (v18, h18))))
  else (some (v2, h2))))
-- AllHome$Orders.unlikeWorks()I
def g_Orders_unlikeWorks_60 (a0 : Nat) (x1 : Int32) (x2 : Int32) (x3 : Int32) (h : zH) (k4 : (Int32 × Int32) → Option Int32) : Option Int32 :=
(if x3 = 0 then (k4 ((x1 + (0 : Int32)), (x2 + (1 : Int32))))
  else (k4 ((x1 + (1 : Int32)), (x2 + (1 : Int32)))))
def g_Orders_unlikeWorks_17 (a0 : Nat) (x1 : Int32) (x2 : Int32) (h : zH) (k4 : (Int32 × Int32) → Option Int32) (k17 : (Int32 × Int32) → Option Int32) (u : Int32 × Int32) : Option Int32 :=
(if x2 ≤ u.2 then (g_Orders_unlikeWorks_60 a0 x1 x2 u.1 h k4)
  else (if u.1 = 0 then (g_Orders_unlikeWorks_60 a0 x1 x2 u.1 h k4)
    else ((zrR h a0 2 2).bind fun v28 => ((zaR 5 h v28 x2).bind fun v32 => ((zrR h a0 2 2).bind fun v34 => ((zaR 5 h v34 u.2).bind fun v39 => ((m_Orders_alike v32 v39 (35 : Int32) h).bind fun v42 => (if v42 = 0 then (k17 ((1 : Int32), (u.2 + (1 : Int32))))
      else (k17 ((0 : Int32), (u.2 + (1 : Int32))))))))))))
def g_Orders_unlikeWorks_4 (a0 : Nat) (h : zH) (k4 : (Int32 × Int32) → Option Int32) (u : Int32 × Int32) : Option Int32 :=
((zrI h a0 2 11).bind fun v6 => (if v6 ≤ u.2 then (some u.1)
  else (zloop (g_Orders_unlikeWorks_17 a0 u.1 u.2 h k4) zN ((1 : Int32), (0 : Int32)))))
def m_Orders_unlikeWorks (a0 : Nat) (h : zH) : Option Int32 :=
  (zloop (g_Orders_unlikeWorks_4 a0 h) zN ((0 : Int32), (0 : Int32)))
-- AllHome.work(II)I
def m_Home_work (a0 : Nat) (x1 : Int32) (x2 : Int32) (h : zH) : Option (Int32 × zH) :=
  (if x2 < 0 then (some ((-1 : Int32), h))
  else (if x2 ≤ (1 : Int32) then (zb2 (zcv h a0 6 (m_Home_goThrough a0 x1 h)) fun v13 h13 => (if 0 ≤ v13 then (if x2 = 0 then ((zrR h13 a0 6 8).bind fun v28 => ((zcv h13 v28 2 (m_Orders_unlikeWorks v28 h13)).bind fun v31 => (some (v31, h13))))
        else ((zrR h13 a0 6 9).bind fun v36 => ((zcv h13 v36 2 (m_Orders_explore v36 (0 : Int32) h13)).bind fun h40 => ((zrR h40 a0 6 9).bind fun v44 => ((zcv h40 v44 2 (m_Orders_isBig v44 h40)).bind fun v47 => (if v47 = 0 then ((zrR h40 a0 6 8).bind fun v57 => ((zcv h40 v57 2 (m_Orders_unlikeWorks v57 h40)).bind fun v60 => ((zrR h40 a0 6 9).bind fun v64 => ((zcv h40 v64 2 (m_Orders_unlikeWorks v64 h40)).bind fun v67 => (if v60 = v67 then (some ((1 : Int32), h40))
            else (some ((0 : Int32), h40)))))))
          else (some ((-4 : Int32), h40))))))))
      else (some (v13, h13))))
    else (some ((-1 : Int32), h))))
-- AllHome$Acts.clear()V
def m_Acts_clear (a0 : Nat) (h : zH) : Option zH :=
  ((zwI h a0 0 1 (0 : Int32)).bind fun h2 => (some h2))
-- AllHome$Acts.bodyOf(II)I
def m_Acts_bodyOf (x0 : Int32) (x1 : Int32) (h : zH) : Option Int32 :=
  ((m_Home_isKind x0 h).bind fun v1 => (if v1 = 0 then (some (0 : Int32))
  else (if x1 < 0 then (some (0 : Int32))
    else (if x1 < (4 : Int32) then ((ztab 4 ((x0 * (4 : Int32)) + x1)).bind fun v26 => (some v26))
      else (some (0 : Int32))))))
-- AllHome$Acts.begun(I)V
def m_Acts_begun (a0 : Nat) (x1 : Int32) (h : zH) : Option zH :=
  ((zrI h a0 0 1).bind fun v1 => (if (24 : Int32) ≤ v1 then ((zrI h a0 0 1).bind fun v21 => ((zwI h a0 0 1 (v21 + (1 : Int32))).bind fun h26 => (some h26)))
  else ((zrR h a0 0 0).bind fun v10 => ((zrI h a0 0 1).bind fun v14 => ((zsI h v10 v14 x1).bind fun h18 => ((zrI h18 a0 0 1).bind fun v21 => ((zwI h18 a0 0 1 (v21 + (1 : Int32))).bind fun h26 => (some h26))))))))
-- AllHome$Acts.perform(IIII)I
def g_Acts_perform_48 (a0 : Nat) (x2 : Int32) (x3 : Int32) (x4 : Int32) (x5 : Int32) (h : zH) (kk : (Nat × Int32 × Int32 × Int32 × Int32 × zH) → Option (Int32 × zH)) : Option (Int32 × zH) :=
((m_Acts_bodyOf x5 x2 h).bind fun v51 => (if v51 = 0 then (some ((0 : Int32), h))
  else (if x4 ≤ (30 : Int32) then ((zcv h a0 0 (m_Acts_begun a0 v51 h)).bind fun h73 => ((ztab 0 x5).bind fun v81 => (if v51 = (1 : Int32) then ((zrI h73 a0 0 3).bind fun v210 => (some ((x3 + v210), h73)))
      else (if v51 = (2 : Int32) then ((zrI h73 a0 0 2).bind fun v217 => (zb2 (zcv h73 a0 0 (kk (a0, v217, (1 : Int32), x3, (x4 + (1 : Int32)), h73))) fun v224 h224 => ((zrI h224 a0 0 2).bind fun v229 => (zb2 (zcv h224 a0 0 (kk (a0, v229, (2 : Int32), (1 : Int32), (x4 + (1 : Int32)), h224))) fun v236 h236 => (some ((v224 - v236), h236))))))
      else (if v51 = (10 : Int32) then ((zrI h73 a0 0 2).bind fun v243 => (zb2 (zcv h73 a0 0 (kk (a0, v243, (0 : Int32), x3, (x4 + (1 : Int32)), h73))) fun v250 h250 => (some ((v250 * (2 : Int32)), h250))))
      else (if v51 = (11 : Int32) then ((zrI h73 a0 0 3).bind fun v258 => (some ((x3 ^^^ v258), h73)))
      else (if v51 = (20 : Int32) then (zb2 (zcv h73 a0 0 (kk (a0, v81, (0 : Int32), x3, (x4 + (1 : Int32)), h73))) fun v270 h270 => (some ((v270 / (2 : Int32)), h270)))
      else (if v51 = (30 : Int32) then (zb2 (zcv h73 a0 0 (kk (a0, v81, (2 : Int32), x3, (x4 + (1 : Int32)), h73))) fun v283 h283 => ((zrI h283 a0 0 2).bind fun v288 => (zb2 (zcv h283 a0 0 (kk (a0, v288, (0 : Int32), (2 : Int32), (x4 + (1 : Int32)), h283))) fun v295 h295 => (some ((v283 + v295), h295)))))
      else (if v51 = (40 : Int32) then (zb2 (zcv h73 a0 0 (kk (a0, v81, (1 : Int32), x3, (x4 + (1 : Int32)), h73))) fun v307 h307 => (some ((v307 - (1 : Int32)), h307)))
      else (if v51 = (50 : Int32) then (zb2 (zcv h73 a0 0 (kk (a0, v81, (0 : Int32), x3, (x4 + (1 : Int32)), h73))) fun v320 h320 => (some ((v320 * (3 : Int32)), h320)))
      else (if v51 = (60 : Int32) then (zb2 (zcv h73 a0 0 (kk (a0, v81, (3 : Int32), x3, (x4 + (1 : Int32)), h73))) fun v333 h333 => (some ((v333 ^^^ (5 : Int32)), h333)))
      else (if v51 = (61 : Int32) then (zb2 (zcv h73 a0 0 (kk (a0, v81, (2 : Int32), (x3 + (1 : Int32)), (x4 + (1 : Int32)), h73))) fun v348 h348 => (some (v348, h348)))
      else (if v51 = (70 : Int32) then (zb2 (zcv h73 a0 0 (kk (a0, v81, (2 : Int32), x3, (x4 + (1 : Int32)), h73))) fun v359 h359 => (some ((-v359), h359)))
      else (if v51 = (80 : Int32) then (zb2 (zcv h73 a0 0 (kk (a0, v81, (1 : Int32), x3, (x4 + (1 : Int32)), h73))) fun v371 h371 => (zb2 (zcv h371 a0 0 (kk (a0, v81, (0 : Int32), x3, (x4 + (1 : Int32)), h371))) fun v381 h381 => (some ((v371 + v381), h381))))
      else (if v51 = (90 : Int32) then (zb2 (zcv h73 a0 0 (kk (a0, v81, (3 : Int32), x3, (x4 + (1 : Int32)), h73))) fun v393 h393 => (some ((v393 * (2 : Int32)), h393)))
      else (some ((0 : Int32), h73)))))))))))))))))
    else (some ((0 : Int32), h)))))
def g_Acts_perform_6 (a0 : Nat) (x2 : Int32) (x3 : Int32) (x4 : Int32) (h : zH) (kk : (Nat × Int32 × Int32 × Int32 × Int32 × zH) → Option (Int32 × zH)) (k6 : (Int32 × Int32) → Option (Int32 × zH)) (u : Int32 × Int32) : Option (Int32 × zH) :=
(if (9 : Int32) ≤ u.2 then (g_Acts_perform_48 a0 x2 x3 x4 u.1 h kk)
  else ((m_Acts_bodyOf u.1 x2 h).bind fun v16 => (if v16 = 0 then ((m_Home_isKind u.1 h).bind fun v24 => (if v24 = 0 then (k6 ((-1 : Int32), (u.2 + (1 : Int32))))
      else ((ztab 0 u.1).bind fun v35 => (k6 (v35, (u.2 + (1 : Int32)))))))
    else (g_Acts_perform_48 a0 x2 x3 x4 u.1 h kk))))
def g_Acts_perform_0 (kk : (Nat × Int32 × Int32 × Int32 × Int32 × zH) → Option (Int32 × zH)) (u : Nat × Int32 × Int32 × Int32 × Int32 × zH) : Option (Int32 × zH) :=
  (zloop (g_Acts_perform_6 u.1 u.2.2.1 u.2.2.2.1 u.2.2.2.2.1 u.2.2.2.2.2 kk) zN (u.2.1, (0 : Int32)))
def m_Acts_perform (n : Nat) (a0 : Nat) (x1 : Int32) (x2 : Int32) (x3 : Int32) (x4 : Int32) (h : zH) : Option (Int32 × zH) := zloop g_Acts_perform_0 n (a0, x1, x2, x3, x4, h)
-- AllHome$Acts.begin(IIII)I
def m_Acts_begin (a0 : Nat) (x1 : Int32) (x2 : Int32) (x3 : Int32) (x4 : Int32) (h : zH) : Option (Int32 × zH) :=
  ((zwI h a0 0 2 x1).bind fun h2 => ((zwI h2 a0 0 3 x2).bind fun h7 => ((zrI h7 a0 0 2).bind fun v12 => (zb2 (zcv h7 a0 0 (m_Acts_perform 40 a0 v12 x3 x4 (0 : Int32) h7)) fun v19 h19 => (some (v19, h19))))))
-- AllHome.act(III)I
def m_Home_act (a0 : Nat) (x1 : Int32) (x2 : Int32) (x3 : Int32) (h : zH) : Option (Int32 × zH) :=
  ((zrR h a0 6 10).bind fun v1 => ((zcv h v1 0 (m_Acts_clear v1 h)).bind fun h4 => ((zcv h4 a0 6 (m_Home_isWay a0 x1 h4)).bind fun v9 => (if v9 = 0 then (some ((0 : Int32), h4))
  else (if x2 < 0 then (some ((0 : Int32), h4))
    else (if x2 < (4 : Int32) then ((zrR h4 a0 6 10).bind fun v27 => ((zrR h4 a0 6 3).bind fun v31 => ((zaI h4 v31 x1).bind fun v35 => (zb2 (zcv h4 v27 0 (m_Acts_begin v27 v35 x1 x2 x3 h4)) fun v39 h39 => (some (v39, h39))))))
      else (some ((0 : Int32), h4))))))))
-- AllHome$Acts.traced(I)I
def m_Acts_traced (a0 : Nat) (x1 : Int32) (h : zH) : Option Int32 :=
  (if x1 < 0 then (some (-1 : Int32))
  else ((zrI h a0 0 1).bind fun v6 => (if v6 ≤ x1 then (some (-1 : Int32))
    else (if (24 : Int32) ≤ x1 then (some (-1 : Int32))
      else ((zrR h a0 0 0).bind fun v19 => ((zaI h v19 x1).bind fun v23 => (some v23)))))))
-- AllHome.trace(I)I
def m_Home_trace (a0 : Nat) (x1 : Int32) (h : zH) : Option Int32 :=
  ((zrR h a0 6 10).bind fun v1 => ((zcv h v1 0 (m_Acts_traced v1 x1 h)).bind fun v5 => (some v5)))
-- AllHome$Shelf.holdWay(I)V
def m_Shelf_holdWay (a0 : Nat) (x1 : Int32) (h : zH) : Option zH :=
  ((zwI h a0 5 3 x1).bind fun h2 => ((zwI h2 a0 5 2 (-1 : Int32)).bind fun h7 => ((zwI h7 a0 5 1 (0 : Int32)).bind fun h12 => (some h12))))
-- AllHome.keep(II)I
def m_Home_keep (a0 : Nat) (x1 : Int32) (x2 : Int32) (h : zH) : Option (Int32 × zH) :=
  ((m_Home_isShelf x1 h).bind fun v1 => (if v1 = 0 then (some ((-1 : Int32), h))
  else (if x2 = (-1 : Int32) then ((zrR h a0 6 11).bind fun v23 => ((zaR 4 h v23 x1).bind fun v27 => ((zcv h v27 5 (m_Shelf_holdWay v27 x2 h)).bind fun h29 => (some ((1 : Int32), h29)))))
    else ((zcv h a0 6 (m_Home_isWay a0 x2 h)).bind fun v14 => (if v14 = 0 then (some ((-1 : Int32), h))
      else ((zrR h a0 6 11).bind fun v23 => ((zaR 4 h v23 x1).bind fun v27 => ((zcv h v27 5 (m_Shelf_holdWay v27 x2 h)).bind fun h29 => (some ((1 : Int32), h29))))))))))
-- java/util/Arrays.fill([JJ)V
def g_Fill_J_6 (a0 : Nat) (x1 : Int64) (x4 : Int32) (k6 : (Int32 × zH) → Option zH) (u : Int32 × zH) : Option zH :=
(if x4 ≤ u.1 then (some u.2)
  else ((zsJ u.2 a0 u.1 x1).bind fun h15 => (k6 ((u.1 + (1 : Int32)), h15))))
def m_Fill_J (a0 : Nat) (x1 : Int64) (h : zH) : Option zH :=
  ((zlen h a0).bind fun v3 => (zloop (g_Fill_J_6 a0 x1 v3) zN ((0 : Int32), h)))
-- AllHome$Shelf.holdRow(II)V
def m_Shelf_holdRow (a0 : Nat) (x1 : Int32) (x2 : Int32) (h : zH) : Option zH :=
  ((zwI h a0 5 3 (-1 : Int32)).bind fun h2 => ((zwI h2 a0 5 2 x1).bind fun h7 => ((zwI h7 a0 5 1 (if (0 : Int32) < (if (60 : Int32) < x2 then (60 : Int32) else x2) then (if (60 : Int32) < x2 then (60 : Int32) else x2) else (0 : Int32))).bind fun h21 => ((zrR h21 a0 5 0).bind fun v25 => ((m_Fill_J v25 (0 : Int64) h21).bind fun h29 => (some h29))))))
-- AllHome.row(III)I
def m_Home_row (a0 : Nat) (x1 : Int32) (x2 : Int32) (x3 : Int32) (h : zH) : Option (Int32 × zH) :=
  ((m_Home_isShelf x1 h).bind fun v1 => (if v1 = 0 then (some ((-1 : Int32), h))
  else (if x2 < 0 then (some ((-1 : Int32), h))
    else (if (4 : Int32) < x2 then (some ((-1 : Int32), h))
      else (if x3 ≤ (60 : Int32) then (if 0 ≤ x3 then ((zrR h a0 6 11).bind fun v32 => ((zaR 4 h v32 x1).bind fun v36 => ((zcv h v36 5 (m_Shelf_holdRow v36 x2 x3 h)).bind fun h39 => (some ((1 : Int32), h39)))))
          else (some ((-14 : Int32), h)))
        else (some ((-1 : Int32), h)))))))
-- AllHome$Shelf.isRow()Z
def m_Shelf_isRow (a0 : Nat) (h : zH) : Option Int32 :=
  ((zrI h a0 5 2).bind fun v1 => (if v1 = (-1 : Int32) then (some (0 : Int32))
  else (some (1 : Int32))))
-- AllHome.wantPlace(II)I
def m_Home_wantPlace (a0 : Nat) (x1 : Int32) (x2 : Int32) (h : zH) : Option Int32 :=
  ((m_Home_isShelf x1 h).bind fun v1 => (if v1 = 0 then (some (-1 : Int32))
  else ((zrR h a0 6 11).bind fun v10 => ((zaR 4 h v10 x1).bind fun v14 => ((zcv h v14 5 (m_Shelf_isEmpty v14 h)).bind fun v15 => (if v15 = 0 then ((zrR h a0 6 11).bind fun v25 => ((zaR 4 h v25 x1).bind fun v29 => ((zcv h v29 5 (m_Shelf_isRow v29 h)).bind fun v30 => (if v30 = 0 then (some (-12 : Int32))
      else ((zrR h a0 6 11).bind fun v40 => ((zaR 4 h v40 x1).bind fun v44 => ((zcv h v44 5 (m_Shelf_hasPlace v44 x2 h)).bind fun v46 => (if v46 = 0 then (some (-13 : Int32))
        else (some (1 : Int32))))))))))
    else (some (-11 : Int32))))))))
-- AllHome$Shelf.lowestBits(J)J
def m_Shelf_lowestBits (a0 : Nat) (x1 : Int64) (h : zH) : Option Int64 :=
  ((zrI h a0 5 2).bind fun v1 => (if v1 = (0 : Int32) then (some x1.toInt32.toInt8.toInt32.toInt64)
  else (if v1 = (1 : Int32) then (some x1.toInt32.toInt16.toInt32.toInt64)
  else (if v1 = (2 : Int32) then (some x1.toInt32.toInt64)
  else (if v1 = (3 : Int32) then (some x1)
  else (if v1 = (4 : Int32) then (if (lg_cmp x1 (0 : Int64)) = 0 then (some (0 : Int64))
            else (some (1 : Int64)))
  else (some x1)))))))
-- AllHome$Shelf.set(IJ)V
def m_Shelf_set (a0 : Nat) (x1 : Int32) (x2 : Int64) (h : zH) : Option zH :=
  ((zcv h a0 5 (m_Shelf_hasPlace a0 x1 h)).bind fun v2 => (if v2 = 0 then (some h)
  else ((zrR h a0 5 0).bind fun v9 => ((zcv h a0 5 (m_Shelf_lowestBits a0 x2 h)).bind fun v15 => ((zsJ h v9 x1 v15).bind fun h18 => (some h18))))))
-- AllHome.put(IIJ)I
def m_Home_put (a0 : Nat) (x1 : Int32) (x2 : Int32) (x3 : Int64) (h : zH) : Option (Int32 × zH) :=
  ((zcv h a0 6 (m_Home_wantPlace a0 x1 x2 h)).bind fun v3 => (if 0 ≤ v3 then ((zrR h a0 6 11).bind fun v17 => ((zaR 4 h v17 x1).bind fun v21 => ((zcv h v21 5 (m_Shelf_set v21 x2 x3 h)).bind fun h24 => (some ((1 : Int32), h24)))))
  else (some (v3, h))))
-- AllHome.element(II)J
def m_Home_element (a0 : Nat) (x1 : Int32) (x2 : Int32) (h : zH) : Option Int64 :=
  ((zcv h a0 6 (m_Home_wantPlace a0 x1 x2 h)).bind fun v3 => (if 0 ≤ v3 then ((zrR h a0 6 11).bind fun v16 => ((zaR 4 h v16 x1).bind fun v20 => ((zcv h v20 5 (m_Shelf_at v20 x2 h)).bind fun v22 => (some v22))))
  else (some (-9223372036854775808 : Int64))))
-- AllHome$Shelf.sort()I
def m_Shelf_sort (a0 : Nat) (h : zH) : Option Int32 :=
  ((zrI h a0 5 2).bind fun v1 => (some v1))
-- AllHome$Shelf.hasPlaces(II)Z
def m_Shelf_hasPlaces (a0 : Nat) (x1 : Int32) (x2 : Int32) (h : zH) : Option Int32 :=
  (if x2 < 0 then (some (0 : Int32))
  else (if x1 < 0 then (some (0 : Int32))
    else ((zrI h a0 5 1).bind fun v10 => (if (v10 - x2) < x1 then (some (0 : Int32))
      else (some (1 : Int32))))))
-- AllHome$Shelf.copyTo(ILAllHome$Shelf;II)V
def m_Shelf_copyTo (a0 : Nat) (x1 : Int32) (a2 : Nat) (x3 : Int32) (x4 : Int32) (h : zH) : Option zH :=
  ((zcv h a0 5 (m_Shelf_hasPlaces a0 x1 x4 h)).bind fun v4 => (if v4 = 0 then (some h)
  else ((zcv h a2 5 (m_Shelf_hasPlaces a2 x3 x4 h)).bind fun v14 => (if v14 = 0 then (some h)
    else ((zrR h a0 5 0).bind fun v21 => ((zrR h a2 5 0).bind fun v26 => ((zcpJ h v21 x1 v26 x3 x4).bind fun h32 => (some h32))))))))
-- AllHome.shift(IIIII)I
def m_Home_shift (a0 : Nat) (x1 : Int32) (x2 : Int32) (x3 : Int32) (x4 : Int32) (x5 : Int32) (h : zH) : Option (Int32 × zH) :=
  ((m_Home_isShelf x1 h).bind fun v1 => (if v1 = 0 then (some ((-1 : Int32), h))
  else ((m_Home_isShelf x3 h).bind fun v8 => (if v8 = 0 then (some ((-1 : Int32), h))
    else ((zrR h a0 6 11).bind fun v17 => ((zaR 4 h v17 x1).bind fun v21 => ((zrR h a0 6 11).bind fun v25 => ((zaR 4 h v25 x3).bind fun v29 => ((zcv h v21 5 (m_Shelf_isEmpty v21 h)).bind fun v34 => (if v34 = 0 then ((zcv h v29 5 (m_Shelf_isEmpty v29 h)).bind fun v42 => (if v42 = 0 then ((zcv h v21 5 (m_Shelf_isRow v21 h)).bind fun v53 => (if v53 = 0 then (some ((-12 : Int32), h))
          else ((zcv h v21 5 (m_Shelf_sort v21 h)).bind fun v63 => ((zcv h v29 5 (m_Shelf_isRowOf v29 v63 h)).bind fun v66 => (if v66 = 0 then (some ((-12 : Int32), h))
            else ((zcv h v21 5 (m_Shelf_hasPlaces v21 x2 x5 h)).bind fun v80 => (if v80 = 0 then (some ((-13 : Int32), h))
              else ((zcv h v29 5 (m_Shelf_hasPlaces v29 x4 x5 h)).bind fun v92 => (if v92 = 0 then (some ((-13 : Int32), h))
                else ((zcv h v21 5 (m_Shelf_copyTo v21 x2 v29 x4 x5 h)).bind fun h110 => (some (x5, h110))))))))))))
        else (some ((-11 : Int32), h))))
      else (some ((-11 : Int32), h))))))))))))
-- AllHome$Shelf.heldWay()I
def m_Shelf_heldWay (a0 : Nat) (h : zH) : Option Int32 :=
  ((zrI h a0 5 3).bind fun v1 => (some v1))
-- AllHome.taken(II)I
def m_Home_taken (a0 : Nat) (x1 : Int32) (x2 : Int32) (h : zH) : Option Int32 :=
  ((m_Home_isShelf x1 h).bind fun v1 => (if v1 = 0 then (some (-1 : Int32))
  else ((m_Home_isKind x2 h).bind fun v8 => (if v8 = 0 then (some (-1 : Int32))
    else ((zrR h a0 6 11).bind fun v17 => ((zaR 4 h v17 x1).bind fun v21 => ((zcv h v21 5 (m_Shelf_isEmpty v21 h)).bind fun v22 => (if v22 = 0 then ((zrR h a0 6 11).bind fun v32 => ((zaR 4 h v32 x1).bind fun v36 => ((zcv h v36 5 (m_Shelf_heldWay v36 h)).bind fun v37 => ((zcv h a0 6 (m_Home_isWay a0 v37 h)).bind fun v43 => (if v43 = 0 then (some (-12 : Int32))
        else ((zrR h a0 6 3).bind fun v50 => ((zaI h v50 v37).bind fun v54 => ((m_Home_isUnder v54 x2 h).bind fun v56 => (if v56 = 0 then (some (-12 : Int32))
          else ((zrR h a0 6 3).bind fun v66 => ((zaI h v66 v37).bind fun v70 => (some v70))))))))))))
      else (some (-11 : Int32))))))))))
-- AllHome$Acts.ran()I
def m_Acts_ran (a0 : Nat) (h : zH) : Option Int32 :=
  ((zrI h a0 0 1).bind fun v1 => (some v1))
-- AllHome.count(I)I
def m_Home_count (a0 : Nat) (x1 : Int32) (h : zH) : Option Int32 :=
  (if x1 = (0 : Int32) then ((zrR h a0 6 2).bind fun v37 => ((zcv h v37 1 (m_Huts_size v37 h)).bind fun v40 => (some v40)))
  else (if x1 = (1 : Int32) then ((zrI h a0 6 4).bind fun v45 => (some v45))
  else (if x1 = (2 : Int32) then ((zrI h a0 6 6).bind fun v50 => (some v50))
  else (if x1 = (3 : Int32) then ((zrI h a0 6 1).bind fun v55 => (some v55))
  else (if x1 = (4 : Int32) then ((zrR h a0 6 10).bind fun v60 => ((zcv h v60 0 (m_Acts_ran v60 h)).bind fun v63 => (some v63)))
  else (some (-1 : Int32)))))))
-- AllHomeModel.within(JJJ)Z
def m_Model_within (x0 : Int64) (x2 : Int64) (x4 : Int64) (h : zH) : Option Int32 :=
  (if (lg_cmp x0 x2) < 0 then (some (0 : Int32))
  else (if 0 < (lg_cmp x0 x4) then (some (0 : Int32))
    else (some (1 : Int32))))
-- AllHomeModel.isHut(I)Z
def m_Model_isHut (a0 : Nat) (x1 : Int32) (h : zH) : Option Int32 :=
  (if x1 < 0 then (some (0 : Int32))
  else ((zrI h a0 7 4).bind fun v6 => (if v6 ≤ x1 then (some (0 : Int32))
    else (some (1 : Int32)))))
-- AllHomeModel.isWay(I)Z
def m_Model_isWay (a0 : Nat) (x1 : Int32) (h : zH) : Option Int32 :=
  (if x1 < 0 then (some (0 : Int32))
  else ((zrI h a0 7 6).bind fun v6 => (if v6 ≤ x1 then (some (0 : Int32))
    else (some (1 : Int32)))))
-- AllHomeModel.feed(II)I
def g_Model_feed_30 (a0 : Nat) (x1 : Int32) (x2 : Int32) (k30 : (Int32 × zH) → Option (Int32 × zH)) (u : Int32 × zH) : Option (Int32 × zH) :=
(if x1 ≤ u.1 then ((zrI u.2 a0 7 1).bind fun v71 => (some (v71, u.2)))
  else ((zrR u.2 a0 7 0).bind fun v36 => ((zrI u.2 a0 7 1).bind fun v40 => ((zsI u.2 v36 v40 ((x2 >>> (((8 : Int32) * u.1) &&& 31)) &&& (255 : Int32))).bind fun h53 => ((zrI h53 a0 7 1).bind fun v56 => ((zwI h53 a0 7 1 (v56 + (1 : Int32))).bind fun h61 => (k30 ((u.1 + (1 : Int32)), h61))))))))
def m_Model_feed (a0 : Nat) (x1 : Int32) (x2 : Int32) (h : zH) : Option (Int32 × zH) :=
  ((m_Model_within x1.toInt64 (1 : Int64) (4 : Int64) h).bind fun v6 => (if v6 = 0 then (some ((-1 : Int32), h))
  else ((zrI h a0 7 1).bind fun v15 => (if (v15 + x1) ≤ (60 : Int32) then (zloop (g_Model_feed_30 a0 x1 x2) zN ((0 : Int32), h))
    else (some ((-3 : Int32), h))))))
-- AllHomeModel.isOther(II)Z
def m_Model_isOther (x0 : Int32) (x1 : Int32) (h : zH) : Option Int32 :=
  ((m_Model_within x0.toInt64 (97 : Int64) (102 : Int64) h).bind fun v8 => (if v8 = 0 then (some (0 : Int32))
  else (if (x0 - (97 : Int32)) = x1 then (some (0 : Int32))
    else (some (1 : Int32)))))
-- AllHomeModel.faultOf(I)I
def g_Model_faultOf_2 (a0 : Nat) (x1 : Int32) (h : zH) (k2 : (Int32) → Option Int32) (u : Int32) : Option Int32 :=
((zrI h a0 7 1).bind fun v4 => (if v4 ≤ u then (some (-1 : Int32))
  else ((zrR h a0 7 0).bind fun v11 => ((zaI h v11 u).bind fun v15 => ((m_Model_within v15.toInt64 (50 : Int64) (57 : Int64) h).bind fun v25 => (if v25 = 0 then (if v15 = (59 : Int32) then (k2 (u + (1 : Int32)))
      else ((m_Model_isOther v15 x1 h).bind fun v65 => (if v65 = 0 then (some u)
        else (k2 (u + (1 : Int32))))))
    else ((zrI h a0 7 1).bind fun v36 => (if (u + (1 : Int32)) = v36 then (some (u + (1 : Int32)))
      else ((zrR h a0 7 0).bind fun v43 => ((zaI h v43 (u + (1 : Int32))).bind fun v47 => ((m_Model_isOther v47 x1 h).bind fun v49 => (if v49 = 0 then (some (u + (1 : Int32)))
        else (k2 ((u + (1 : Int32)) + (1 : Int32)))))))))))))))
def m_Model_faultOf (a0 : Nat) (x1 : Int32) (h : zH) : Option Int32 :=
  (zloop (g_Model_faultOf_2 a0 x1 h) zN (0 : Int32))
-- AllHomeModel.hut()I
def g_Model_hut_52 (a0 : Nat) (x2 : Int32) (k52 : (Int32 × zH) → Option (Int32 × zH)) (u : Int32 × zH) : Option (Int32 × zH) :=
(if x2 ≤ u.1 then ((zrR u.2 a0 7 3).bind fun v84 => ((zrI u.2 a0 7 4).bind fun v88 => ((zsI u.2 v84 v88 x2).bind fun h92 => ((zrI h92 a0 7 4).bind fun v95 => ((zwI h92 a0 7 4 (v95 + (1 : Int32))).bind fun h100 => ((zrI h100 a0 7 4).bind fun v104 => (some ((v104 - (1 : Int32)), h100))))))))
  else ((zrR u.2 a0 7 2).bind fun v58 => ((zrI u.2 a0 7 4).bind fun v64 => ((zrR u.2 a0 7 0).bind fun v71 => ((zaI u.2 v71 u.1).bind fun v75 => ((zsI u.2 v58 (((60 : Int32) * v64) + u.1) v75).bind fun h76 => (k52 ((u.1 + (1 : Int32)), h76))))))))
def m_Model_hut (a0 : Nat) (h : zH) : Option (Int32 × zH) :=
  ((zrI h a0 7 19).bind fun v1 => (if v1 ≤ 0 then ((zrI h a0 7 4).bind fun v11 => (if v11 = (6 : Int32) then (some ((-3 : Int32), h))
    else ((zrI h a0 7 4).bind fun v24 => ((zcv h a0 7 (m_Model_faultOf a0 v24 h)).bind fun v27 => ((zrI h a0 7 1).bind fun v32 => ((zwI h a0 7 1 (0 : Int32)).bind fun h38 => (if v27 < 0 then (zloop (g_Model_hut_52 a0 v32) zN ((0 : Int32), h38))
      else (some (((-100 : Int32) - v27), h38)))))))))
  else (some ((-5 : Int32), h))))
-- AllHomeModel.lines(I)I
def g_Model_lines_4 (a0 : Nat) (x1 : Int32) (h : zH) (k4 : (Int32 × Int32) → Option Int32) (u : Int32 × Int32) : Option Int32 :=
((zrR h a0 7 3).bind fun v6 => ((zaI h v6 x1).bind fun v10 => (if v10 ≤ u.2 then (some u.1)
  else ((zrR h a0 7 2).bind fun v16 => ((zaI h v16 (((60 : Int32) * x1) + u.2)).bind fun v25 => (if v25 = (59 : Int32) then (k4 ((u.1 + (1 : Int32)), (u.2 + (1 : Int32))))
    else (k4 ((u.1 + (0 : Int32)), (u.2 + (1 : Int32))))))))))
def m_Model_lines (a0 : Nat) (x1 : Int32) (h : zH) : Option Int32 :=
  (zloop (g_Model_lines_4 a0 x1 h) zN ((1 : Int32), (0 : Int32)))
-- AllHomeModel.inLine(III)I
def g_Model_inLine_15 (a0 : Nat) (x1 : Int32) (x2 : Int32) (x3 : Int32) (h : zH) (k15 : (Int32 × Int32 × Int32 × Int32) → Option Int32) (u : Int32 × Int32 × Int32 × Int32) : Option Int32 :=
((zrR h a0 7 3).bind fun v18 => ((zaI h v18 x1).bind fun v22 => (if v22 ≤ u.2.2.2 then (if 0 ≤ x3 then (some (-1 : Int32))
    else (some u.2.1))
  else ((zrR h a0 7 2).bind fun v27 => ((zaI h v27 (((60 : Int32) * x1) + u.2.2.2)).bind fun v37 => (if v37 = (59 : Int32) then (k15 ((u.1 + (1 : Int32)), u.2.1, u.2.2.1, (u.2.2.2 + (1 : Int32))))
    else ((m_Model_within v37.toInt64 (50 : Int64) (57 : Int64) h).bind fun v62 => (if v62 = 0 then (if u.1 = x2 then (if x3 < u.2.1 then (k15 (u.1, (u.2.1 + u.2.2.1), (1 : Int32), (u.2.2.2 + (1 : Int32))))
          else (if (u.2.1 + u.2.2.1) ≤ x3 then (k15 (u.1, (u.2.1 + u.2.2.1), (1 : Int32), (u.2.2.2 + (1 : Int32))))
            else (some (v37 - (97 : Int32)))))
        else (k15 (u.1, u.2.1, (1 : Int32), (u.2.2.2 + (1 : Int32)))))
      else (k15 (u.1, u.2.1, (v37 - (48 : Int32)), (u.2.2.2 + (1 : Int32))))))))))))
def m_Model_inLine (a0 : Nat) (x1 : Int32) (x2 : Int32) (x3 : Int32) (h : zH) : Option Int32 :=
  (zloop (g_Model_inLine_15 a0 x1 x2 x3 h) zN ((0 : Int32), (0 : Int32), (1 : Int32), (0 : Int32)))
-- AllHomeModel.line(II)I
def g_Model_line_27 (a0 : Nat) (x1 : Int32) (x2 : Int32) (y0 : Int64) (y1 : Int64) (c2 : Nat) (y3 : Int32) (h : zH) : Option Int32 :=
((zcv h c2 7 (m_Model_lines c2 y3 h)).bind fun v27 => ((m_Model_within y0 y1 (v27 - (1 : Int32)).toInt64 h).bind fun v33 => (if v33 = 0 then (some (-1 : Int32))
  else (if 0 ≤ x2 then ((zcv h a0 7 (m_Model_inLine a0 x1 x2 (-1 : Int32) h)).bind fun v57 => (some v57))
    else ((zcv h a0 7 (m_Model_lines a0 x1 h)).bind fun v47 => (some v47))))))
def m_Model_line (a0 : Nat) (x1 : Int32) (x2 : Int32) (h : zH) : Option Int32 :=
  ((zcv h a0 7 (m_Model_isHut a0 x1 h)).bind fun v2 => (if v2 = 0 then (some (-1 : Int32))
  else ((zcv h a0 7 (m_Model_isHut a0 x1 h)).bind fun v16 => (if v16 = 0 then (g_Model_line_27 a0 x1 x2 x2.toInt64 (-1 : Int64) a0 (0 : Int32) h)
    else (g_Model_line_27 a0 x1 x2 x2.toInt64 (-1 : Int64) a0 x1 h)))))
-- AllHomeModel.goesTo(III)I
def g_Model_goesTo_25 (a0 : Nat) (x1 : Int32) (x2 : Int32) (x3 : Int32) (y0 : Int64) (y1 : Int64) (c2 : Nat) (y3 : Int32) (h : zH) : Option Int32 :=
((zcv h c2 7 (m_Model_lines c2 y3 h)).bind fun v25 => ((m_Model_within y0 y1 (v25 - (1 : Int32)).toInt64 h).bind fun v31 => (if v31 = 0 then (some (-1 : Int32))
  else (if 0 ≤ x3 then ((zcv h a0 7 (m_Model_inLine a0 x1 x2 x3 h)).bind fun v47 => (some v47))
    else (some (-1 : Int32))))))
def m_Model_goesTo (a0 : Nat) (x1 : Int32) (x2 : Int32) (x3 : Int32) (h : zH) : Option Int32 :=
  ((zcv h a0 7 (m_Model_isHut a0 x1 h)).bind fun v2 => (if v2 = 0 then (some (-1 : Int32))
  else ((zcv h a0 7 (m_Model_isHut a0 x1 h)).bind fun v14 => (if v14 = 0 then (g_Model_goesTo_25 a0 x1 x2 x3 x2.toInt64 (0 : Int64) a0 (0 : Int32) h)
    else (g_Model_goesTo_25 a0 x1 x2 x3 x2.toInt64 (0 : Int64) a0 x1 h)))))
-- AllHomeModel.way(I)I
def m_Model_way (a0 : Nat) (x1 : Int32) (h : zH) : Option (Int32 × zH) :=
  ((m_Model_within x1.toInt64 (0 : Int64) (8 : Int64) h).bind fun v6 => (if v6 = 0 then (some ((-1 : Int32), h))
  else ((zrI h a0 7 6).bind fun v15 => (if v15 = (10 : Int32) then (some ((-3 : Int32), h))
    else ((zrR h a0 7 5).bind fun v27 => ((zrI h a0 7 6).bind fun v31 => ((zsI h v27 v31 x1).bind fun h35 => ((zrI h35 a0 7 6).bind fun v38 => ((zwI h35 a0 7 6 (v38 + (1 : Int32))).bind fun h43 => ((zrI h43 a0 7 6).bind fun v47 => (some ((v47 - (1 : Int32)), h43))))))))))))
-- AllHomeModel.kindOf(I)I
def m_Model_kindOf (a0 : Nat) (x1 : Int32) (h : zH) : Option Int32 :=
  ((zcv h a0 7 (m_Model_isWay a0 x1 h)).bind fun v2 => (if v2 = 0 then (some (-1 : Int32))
  else ((zrR h a0 7 5).bind fun v9 => ((zaI h v9 x1).bind fun v13 => (some v13)))))
-- AllHomeModel.above(I)I
def m_Model_above (x0 : Int32) (h : zH) : Option Int32 :=
  (if x0 = (4 : Int32) then (some (3 : Int32))
  else (if x0 = (5 : Int32) then (some (3 : Int32))
    else (if x0 = (6 : Int32) then (some (2 : Int32))
      else (if x0 = (7 : Int32) then (some (4 : Int32))
        else (if x0 = (8 : Int32) then (some (5 : Int32))
          else (some (0 : Int32)))))))
-- AllHomeModel.isUnder(II)Z
def g_Model_isUnder_2 (x1 : Int32) (h : zH) (k2 : (Int32) → Option Int32) (u : Int32) : Option Int32 :=
(if u = x1 then (if u = x1 then (some (1 : Int32))
    else (some (0 : Int32)))
  else (if u ≤ 0 then (if u = x1 then (some (1 : Int32))
      else (some (0 : Int32)))
    else ((m_Model_above u h).bind fun v12 => (k2 v12))))
def m_Model_isUnder (x0 : Int32) (x1 : Int32) (h : zH) : Option Int32 :=
  (zloop (g_Model_isUnder_2 x1 h) zN x0)
-- AllHomeModel.begin(I)V
def g_Model_begin_121 (a0 : Nat) (c0 : Nat) (y1 : Int32) (h : zH) : Option zH :=
((zsI h c0 y1 (1 : Int32)).bind fun h126 => ((zwI h126 a0 7 8 (0 : Int32)).bind fun h129 => ((zwI h129 a0 7 9 (0 : Int32)).bind fun h134 => (some h134))))
def g_Model_begin_105 (a0 : Nat) (x1 : Int32) (h : zH) : Option zH :=
((zrR h a0 7 7).bind fun v106 => (if x1 = (2 : Int32) then (g_Model_begin_121 a0 v106 (5 : Int32) h)
  else (if x1 = (6 : Int32) then (g_Model_begin_121 a0 v106 (5 : Int32) h)
    else ((zsI h v106 (5 : Int32) (0 : Int32)).bind fun h126 => ((zwI h126 a0 7 8 (0 : Int32)).bind fun h129 => ((zwI h129 a0 7 9 (0 : Int32)).bind fun h134 => (some h134)))))))
def g_Model_begin_28 (a0 : Nat) (x1 : Int32) (k28 : (Int32 × zH) → Option zH) (u : Int32 × zH) : Option zH :=
((zrI u.2 a0 7 4).bind fun v30 => (if v30 ≤ u.1 then ((zrR u.2 a0 7 7).bind fun v70 => ((zsI u.2 v70 (0 : Int32) (1 : Int32)).bind fun h75 => ((zrR h75 a0 7 7).bind fun v77 => ((zsI h75 v77 (1 : Int32) (1 : Int32)).bind fun h82 => (if x1 = (1 : Int32) then ((zrR h82 a0 7 7).bind fun v89 => ((zsI h82 v89 (3 : Int32) (64 : Int32)).bind fun h95 => ((zrR h95 a0 7 7).bind fun v97 => ((zsI h95 v97 (86 : Int32) (64 : Int32)).bind fun h104 => (g_Model_begin_105 a0 x1 h104)))))
    else (g_Model_begin_105 a0 x1 h82))))))
  else ((zrR u.2 a0 7 7).bind fun v37 => (if x1 = (2 : Int32) then ((zsI u.2 v37 (((6 : Int32) * u.1) + (4 : Int32)) (-1 : Int32)).bind fun h62 => (k28 ((u.1 + (1 : Int32)), h62)))
    else (if x1 = (6 : Int32) then ((zsI u.2 v37 (((6 : Int32) * u.1) + (4 : Int32)) (-1 : Int32)).bind fun h62 => (k28 ((u.1 + (1 : Int32)), h62)))
      else ((zsI u.2 v37 (((6 : Int32) * u.1) + (4 : Int32)) (0 : Int32)).bind fun h62 => (k28 ((u.1 + (1 : Int32)), h62))))))))
def g_Model_begin_7 (a0 : Nat) (x1 : Int32) (k7 : (Int32 × zH) → Option zH) (u : Int32 × zH) : Option zH :=
(if (91 : Int32) ≤ u.1 then (zloop (g_Model_begin_28 a0 x1) zN ((0 : Int32), u.2))
  else ((zrR u.2 a0 7 7).bind fun v14 => ((zsI u.2 v14 u.1 (0 : Int32)).bind fun h19 => (k7 ((u.1 + (1 : Int32)), h19)))))
def m_Model_begin (a0 : Nat) (x1 : Int32) (h : zH) : Option zH :=
  ((zwI h a0 7 10 x1).bind fun h2 => (zloop (g_Model_begin_7 a0 x1) zN ((0 : Int32), h2)))
-- AllHomeModel.of(II)I
def m_Model_of (a0 : Nat) (x1 : Int32) (x2 : Int32) (h : zH) : Option Int32 :=
  ((zrR h a0 7 7).bind fun v1 => ((zaI h v1 (((6 : Int32) * x1) + x2)).bind fun v10 => (some v10)))
-- AllHomeModel.add(III)V
def m_Model_add (a0 : Nat) (x1 : Int32) (x2 : Int32) (x3 : Int32) (h : zH) : Option zH :=
  ((zrR h a0 7 7).bind fun v1 => ((zaI h v1 (((6 : Int32) * x1) + x2)).bind fun v11 => ((zsI h v1 (((6 : Int32) * x1) + x2) (v11 + x3)).bind fun h14 => (some h14))))
-- AllHomeModel.become(III)V
def m_Model_become (a0 : Nat) (x1 : Int32) (x2 : Int32) (x3 : Int32) (h : zH) : Option zH :=
  ((zrR h a0 7 7).bind fun v1 => ((zsI h v1 (((6 : Int32) * x1) + x2) x3).bind fun h11 => (some h11)))
-- AllHomeModel.words()I
def m_Model_words (a0 : Nat) (h : zH) : Option Int32 :=
  ((zrR h a0 7 7).bind fun v1 => ((zaI h v1 (36 : Int32)).bind fun v6 => (some v6)))
-- AllHomeModel.notes()I
def m_Model_notes (a0 : Nat) (h : zH) : Option Int32 :=
  ((zrR h a0 7 7).bind fun v1 => ((zaI h v1 (61 : Int32)).bind fun v6 => (some v6)))
-- AllHomeModel.putLast(IIII)V
def m_Model_putLast (a0 : Nat) (x1 : Int32) (x2 : Int32) (x3 : Int32) (x4 : Int32) (h : zH) : Option zH :=
  ((zrR h a0 7 7).bind fun v1 => ((zaI h v1 x1).bind fun v5 => (if v5 = (8 : Int32) then ((zwZ h a0 7 11 (1 : Int32)).bind fun h17 => (some h17))
  else ((zrR h a0 7 7).bind fun v22 => ((zsI h v22 ((x1 + (1 : Int32)) + ((3 : Int32) * v5)) x2).bind fun h34 => ((zrR h34 a0 7 7).bind fun v36 => ((zsI h34 v36 ((x1 + (2 : Int32)) + ((3 : Int32) * v5)) x3).bind fun h48 => ((zrR h48 a0 7 7).bind fun v50 => ((zsI h48 v50 ((x1 + (3 : Int32)) + ((3 : Int32) * v5)) x4).bind fun h63 => ((zrR h63 a0 7 7).bind fun v65 => ((zaI h63 v65 x1).bind fun v70 => ((zsI h63 v65 x1 (v70 + (1 : Int32))).bind fun h73 => (some h73)))))))))))))
-- AllHomeModel.takeOut(II)V
def g_Model_takeOut_53 (a0 : Nat) (x1 : Int32) (x3 : Int32) (k53 : (Int32 × zH) → Option zH) (u : Int32 × zH) : Option zH :=
(if (3 : Int32) ≤ u.1 then ((zrR u.2 a0 7 7).bind fun v82 => ((zsI u.2 v82 x1 x3).bind fun h87 => (some h87)))
  else ((zrR u.2 a0 7 7).bind fun v60 => ((zsI u.2 v60 (((x1 + (1 : Int32)) + ((3 : Int32) * x3)) + u.1) (0 : Int32)).bind fun h74 => (k53 ((u.1 + (1 : Int32)), h74)))))
def g_Model_takeOut_14 (a0 : Nat) (x1 : Int32) (x3 : Int32) (k14 : (Int32 × zH) → Option zH) (u : Int32 × zH) : Option zH :=
(if ((3 : Int32) * x3) ≤ u.1 then (zloop (g_Model_takeOut_53 a0 x1 x3) zN ((0 : Int32), u.2))
  else ((zrR u.2 a0 7 7).bind fun v23 => ((zrR u.2 a0 7 7).bind fun v33 => ((zaI u.2 v33 ((x1 + (4 : Int32)) + u.1)).bind fun v42 => ((zsI u.2 v23 ((x1 + (1 : Int32)) + u.1) v42).bind fun h43 => (k14 ((u.1 + (1 : Int32)), h43)))))))
def m_Model_takeOut (a0 : Nat) (x1 : Int32) (x2 : Int32) (h : zH) : Option zH :=
  ((zrR h a0 7 7).bind fun v1 => ((zaI h v1 x1).bind fun v5 => (zloop (g_Model_takeOut_14 a0 x1 (v5 - (1 : Int32))) zN (((3 : Int32) * x2), h))))
-- AllHomeModel.sendNote(III)V
def m_Model_sendNote (a0 : Nat) (x1 : Int32) (x2 : Int32) (x3 : Int32) (h : zH) : Option zH :=
  ((zcv h a0 7 (m_Model_putLast a0 (61 : Int32) x1 x2 x3 h)).bind fun h6 => ((zrI h6 a0 7 9).bind fun v11 => ((zwI h6 a0 7 9 (v11 + (1 : Int32))).bind fun h16 => (some h16))))
-- AllHomeModel.sendWord(II)V
def g_Model_sendWord_117 (a0 : Nat) (x1 : Int32) (x2 : Int32) (x3 : Int32) (h : zH) : Option zH :=
((zrI h a0 7 4).bind fun v119 => (if v119 ≤ x2 then (some h)
  else ((zcv h a0 7 (m_Model_putLast a0 (36 : Int32) x1 x2 x3 h)).bind fun h131 => (some h131))))
def g_Model_sendWord_57 (a0 : Nat) (x1 : Int32) (x2 : Int32) (h : zH) : Option zH :=
((zcv h a0 7 (m_Model_of a0 x1 (3 : Int32) h)).bind fun v60 => ((zcv h a0 7 (m_Model_add a0 x1 (3 : Int32) (-(v60 / (2 : Int32))) h)).bind fun h71 => (g_Model_sendWord_117 a0 x1 x2 (v60 / (2 : Int32)) h71)))
def m_Model_sendWord (a0 : Nat) (x1 : Int32) (x2 : Int32) (h : zH) : Option zH :=
  ((zcv h a0 7 (m_Model_add a0 x1 (2 : Int32) (1 : Int32) h)).bind fun h4 => ((zrI h4 a0 7 8).bind fun v9 => ((zwI h4 a0 7 8 (v9 + (1 : Int32))).bind fun h14 => ((zrI h14 a0 7 10).bind fun v20 => (if v20 = (1 : Int32) then ((zcv h14 a0 7 (m_Model_of a0 x1 (3 : Int32) h14)).bind fun v30 => (if (1 : Int32) < v30 then (g_Model_sendWord_57 a0 x1 x2 h14)
    else ((zcv h14 a0 7 (m_Model_add a0 x1 (3 : Int32) (64 : Int32) h14)).bind fun h42 => ((zrR h42 a0 7 7).bind fun v46 => ((zaI h42 v46 (86 : Int32)).bind fun v52 => ((zsI h42 v46 (86 : Int32) (v52 + (64 : Int32))).bind fun h56 => (g_Model_sendWord_57 a0 x1 x2 h56)))))))
  else ((zrI h14 a0 7 10).bind fun v78 => ((m_Model_isUnder v78 (2 : Int32) h14).bind fun v82 => (if v82 = 0 then ((zrI h14 a0 7 10).bind fun v89 => ((m_Model_isUnder v89 (4 : Int32) h14).bind fun v93 => (if v93 = 0 then ((zrI h14 a0 7 10).bind fun v100 => ((m_Model_isUnder v100 (5 : Int32) h14).bind fun v104 => (if v104 = 0 then (g_Model_sendWord_117 a0 x1 x2 (0 : Int32) h14)
        else ((zcv h14 a0 7 (m_Model_add a0 x1 (3 : Int32) (1 : Int32) h14)).bind fun h114 => (g_Model_sendWord_117 a0 x1 x2 (0 : Int32) h114)))))
      else ((zcv h14 a0 7 (m_Model_add a0 x1 (3 : Int32) (1 : Int32) h14)).bind fun h114 => (g_Model_sendWord_117 a0 x1 x2 (0 : Int32) h114)))))
    else ((zcv h14 a0 7 (m_Model_add a0 x1 (3 : Int32) (1 : Int32) h14)).bind fun h114 => (g_Model_sendWord_117 a0 x1 x2 (0 : Int32) h114))))))))))
-- AllHomeModel.goOn(I)Z
def g_Model_goOn_57 (a0 : Nat) (x1 : Int32) (y0 : Int32) (h : zH) : Option (Int32 × zH) :=
(if y0 < 0 then ((zcv h a0 7 (m_Model_become a0 x1 (0 : Int32) (0 : Int32) h)).bind fun h74 => ((zrI h74 a0 7 10).bind fun v78 => (if v78 = (1 : Int32) then (if x1 ≤ 0 then (some ((1 : Int32), h74))
      else ((zcv h74 a0 7 (m_Model_of a0 x1 (3 : Int32) h74)).bind fun v92 => (if v92 ≤ 0 then (some ((1 : Int32), h74))
        else ((zcv h74 a0 7 (m_Model_of a0 x1 (3 : Int32) h74)).bind fun v103 => ((zcv h74 a0 7 (m_Model_sendNote a0 (0 : Int32) v103 (0 : Int32) h74)).bind fun h107 => ((zcv h107 a0 7 (m_Model_become a0 x1 (3 : Int32) (0 : Int32) h107)).bind fun h114 => (some ((1 : Int32), h114))))))))
    else (some ((1 : Int32), h74)))))
  else ((zcv h a0 7 (m_Model_sendWord a0 x1 y0 h)).bind fun h65 => (some ((1 : Int32), h65))))
def m_Model_goOn (a0 : Nat) (x1 : Int32) (h : zH) : Option (Int32 × zH) :=
  (if x1 < 0 then (some ((0 : Int32), h))
  else ((zrI h a0 7 4).bind fun v6 => (if v6 ≤ x1 then (some ((0 : Int32), h))
    else ((zcv h a0 7 (m_Model_of a0 x1 (0 : Int32) h)).bind fun v15 => (if v15 = 0 then (some ((0 : Int32), h))
      else ((zcv h a0 7 (m_Model_of a0 x1 (1 : Int32) h)).bind fun v26 => ((zcv h a0 7 (m_Model_lines a0 x1 h)).bind fun v35 => (if v35 ≤ (v26 - (1 : Int32)) then (g_Model_goOn_57 a0 x1 (-1 : Int32) h)
        else ((zcv h a0 7 (m_Model_of a0 x1 (2 : Int32) h)).bind fun v47 => ((zcv h a0 7 (m_Model_inLine a0 x1 (v26 - (1 : Int32)) v47 h)).bind fun v50 => (g_Model_goOn_57 a0 x1 v50 h)))))))))))
-- AllHomeModel.comes(I)Z
def g_Model_comes_88 (a0 : Nat) (x2 : Int32) (x3 : Int32) (x4 : Int32) (h : zH) : Option (Int32 × zH) :=
((zrI h a0 7 10).bind fun v89 => (if v89 = (1 : Int32) then ((zcv h a0 7 (m_Model_add a0 x3 (3 : Int32) x4 h)).bind fun h101 => (some ((1 : Int32), h101)))
  else ((zrI h a0 7 10).bind fun v108 => ((m_Model_isUnder v108 (2 : Int32) h).bind fun v112 => (if v112 = 0 then ((zrI h a0 7 10).bind fun v155 => ((m_Model_isUnder v155 (4 : Int32) h).bind fun v159 => (if v159 = 0 then ((zrI h a0 7 10).bind fun v196 => ((m_Model_isUnder v196 (5 : Int32) h).bind fun v200 => (if v200 = 0 then (some ((1 : Int32), h))
        else ((zcv h a0 7 (m_Model_add a0 x3 (4 : Int32) (1 : Int32) h)).bind fun h210 => (some ((1 : Int32), h210))))))
      else ((zcv h a0 7 (m_Model_add a0 x3 (3 : Int32) (-1 : Int32) h)).bind fun h169 => ((zrI h169 a0 7 10).bind fun v176 => (if v176 = (7 : Int32) then ((zcv h169 a0 7 (m_Model_become a0 x3 (4 : Int32) (0 : Int32) h169)).bind fun h189 => (some ((1 : Int32), h189)))
        else ((zcv h169 a0 7 (m_Model_become a0 x3 (4 : Int32) (1 : Int32) h169)).bind fun h189 => (some ((1 : Int32), h189)))))))))
    else ((zcv h a0 7 (m_Model_of a0 x3 (5 : Int32) h)).bind fun v121 => (if v121 = 0 then ((zcv h a0 7 (m_Model_become a0 x3 (5 : Int32) (1 : Int32) h)).bind fun h131 => ((zcv h131 a0 7 (m_Model_become a0 x3 (4 : Int32) x2 h131)).bind fun h138 => (some ((1 : Int32), h138))))
      else ((zcv h a0 7 (m_Model_sendNote a0 x2 (0 : Int32) (0 : Int32) h)).bind fun h148 => (some ((1 : Int32), h148))))))))))
def m_Model_comes (a0 : Nat) (x1 : Int32) (h : zH) : Option (Int32 × zH) :=
  (if x1 < 0 then (some ((0 : Int32), h))
  else ((zcv h a0 7 (m_Model_words a0 h)).bind fun v6 => (if x1 < v6 then ((zrR h a0 7 7).bind fun v15 => ((zaI h v15 ((37 : Int32) + ((3 : Int32) * x1))).bind fun v24 => ((zrR h a0 7 7).bind fun v27 => ((zaI h v27 ((38 : Int32) + ((3 : Int32) * x1))).bind fun v36 => ((zrR h a0 7 7).bind fun v39 => ((zaI h v39 ((39 : Int32) + ((3 : Int32) * x1))).bind fun v48 => ((zcv h a0 7 (m_Model_takeOut a0 (36 : Int32) x1 h)).bind fun h55 => ((zcv h55 a0 7 (m_Model_of a0 v36 (0 : Int32) h55)).bind fun v61 => (if v61 = 0 then ((zcv h55 a0 7 (m_Model_become a0 v36 (0 : Int32) (1 : Int32) h55)).bind fun h71 => ((zcv h71 a0 7 (m_Model_add a0 v36 (1 : Int32) (1 : Int32) h71)).bind fun h78 => ((zcv h78 a0 7 (m_Model_become a0 v36 (2 : Int32) (0 : Int32) h78)).bind fun h85 => (g_Model_comes_88 a0 v24 v36 v48 h85))))
      else (g_Model_comes_88 a0 v24 v36 v48 h55))))))))))
    else (some ((0 : Int32), h)))))
-- AllHomeModel.stoneAt(III)V
def g_Model_stoneAt_74 (a0 : Nat) (x1 : Int32) (x2 : Int32) (y0 : Int32) (h : zH) : Option zH :=
((zcv h a0 7 (m_Model_become a0 x1 (4 : Int32) (0 : Int32) h)).bind fun h80 => ((zcv h80 a0 7 (m_Model_of a0 x1 (3 : Int32) h80)).bind fun v91 => ((zcv h80 a0 7 (m_Model_sendNote a0 (x1 - (1 : Int32)) (x2 + v91) y0 h80)).bind fun h97 => (some h97))))
def g_Model_stoneAt_33 (a0 : Nat) (y0 : Int32) (h : zH) : Option zH :=
((zrR h a0 7 7).bind fun v36 => (if y0 = 0 then ((zrR h a0 7 7).bind fun v51 => ((zaI h v51 (87 : Int32)).bind fun v56 => ((zsI h v36 (87 : Int32) v56).bind fun h57 => (some h57))))
  else ((zsI h v36 (87 : Int32) (1 : Int32)).bind fun h57 => (some h57))))
def m_Model_stoneAt (a0 : Nat) (x1 : Int32) (x2 : Int32) (x3 : Int32) (h : zH) : Option zH :=
  (if x1 = 0 then (if x3 = 0 then ((zcv h a0 7 (m_Model_of a0 (0 : Int32) (4 : Int32) h)).bind fun v11 => (if v11 = 0 then ((zcv h a0 7 (m_Model_of a0 (0 : Int32) (3 : Int32) h)).bind fun v21 => (if (x2 + v21) = 0 then (g_Model_stoneAt_33 a0 (1 : Int32) h)
        else (g_Model_stoneAt_33 a0 (0 : Int32) h)))
      else (g_Model_stoneAt_33 a0 (0 : Int32) h)))
    else (g_Model_stoneAt_33 a0 (0 : Int32) h))
  else ((zcv h a0 7 (m_Model_of a0 x1 (4 : Int32) h)).bind fun v62 => (if v62 = (1 : Int32) then (g_Model_stoneAt_74 a0 x1 x2 (1 : Int32) h)
    else (g_Model_stoneAt_74 a0 x1 x2 x3 h))))
-- AllHomeModel.sumsAt(III)V
def g_Model_sumsAt_106 (a0 : Nat) (x2 : Int32) (x3 : Int32) (y0 : Int32) (h : zH) : Option zH :=
(if y0 = 0 then ((zrR h a0 7 7).bind fun v125 => ((zsI h v125 (88 : Int32) (1 : Int32)).bind fun h131 => ((zrR h131 a0 7 7).bind fun v133 => ((zsI h131 v133 (89 : Int32) x2).bind fun h139 => ((zrR h139 a0 7 7).bind fun v141 => ((zsI h139 v141 (90 : Int32) x3).bind fun h147 => (some h147)))))))
  else ((zrR h a0 7 7).bind fun v114 => ((zsI h v114 (87 : Int32) (1 : Int32)).bind fun h120 => (some h120))))
def g_Model_sumsAt_80 (a0 : Nat) (x2 : Int32) (x3 : Int32) (y0 : Int32) (h : zH) : Option zH :=
(if x2 = x3 then ((zrI h a0 7 10).bind fun v88 => (if v88 = (8 : Int32) then (g_Model_sumsAt_106 a0 x2 x3 (1 : Int32) h)
    else (if y0 = 0 then (g_Model_sumsAt_106 a0 x2 x3 (0 : Int32) h)
      else (g_Model_sumsAt_106 a0 x2 x3 (1 : Int32) h))))
  else (g_Model_sumsAt_106 a0 x2 x3 (0 : Int32) h))
def g_Model_sumsAt_22 (a0 : Nat) (x1 : Int32) (x2 : Int32) (x3 : Int32) (c0 : Nat) (y1 : Int32) (h : zH) : Option zH :=
((zcv h a0 7 (m_Model_of a0 x1 (3 : Int32) h)).bind fun v26 => ((zcv h a0 7 (m_Model_of a0 x1 (4 : Int32) h)).bind fun v34 => ((zcv h c0 7 (m_Model_sendNote c0 y1 (x2 + v26) (x3 + v34) h)).bind fun h38 => (some h38))))
def m_Model_sumsAt (a0 : Nat) (x1 : Int32) (x2 : Int32) (x3 : Int32) (h : zH) : Option zH :=
  (if x1 ≤ 0 then ((zrR h a0 7 7).bind fun v43 => ((zaI h v43 (88 : Int32)).bind fun v48 => (if v48 = (1 : Int32) then ((zrR h a0 7 7).bind fun v54 => ((zaI h v54 (89 : Int32)).bind fun v59 => (if v59 = x2 then ((zrR h a0 7 7).bind fun v65 => ((zaI h v65 (90 : Int32)).bind fun v70 => (if v70 = x3 then (g_Model_sumsAt_80 a0 x2 x3 (1 : Int32) h)
        else (g_Model_sumsAt_80 a0 x2 x3 (0 : Int32) h))))
      else (g_Model_sumsAt_80 a0 x2 x3 (0 : Int32) h))))
    else (g_Model_sumsAt_80 a0 x2 x3 (0 : Int32) h))))
  else ((zrI h a0 7 4).bind fun v9 => (if v9 ≤ (x1 + (1 : Int32)) then (g_Model_sumsAt_22 a0 x1 x2 x3 a0 (0 : Int32) h)
    else (g_Model_sumsAt_22 a0 x1 x2 x3 a0 (x1 + (1 : Int32)) h))))
-- AllHomeModel.noteComes(I)Z
def g_Model_noteComes_74 (a0 : Nat) (x1 : Int32) (x2 : Int32) (x3 : Int32) (x4 : Int32) (h : zH) : Option (Int32 × zH) :=
((zcv h a0 7 (m_Model_takeOut a0 (61 : Int32) x1 h)).bind fun h78 => ((zrI h78 a0 7 10).bind fun v82 => (if v82 = (1 : Int32) then ((zcv h78 a0 7 (m_Model_add a0 x2 (3 : Int32) x3 h78)).bind fun h93 => (some ((1 : Int32), h93)))
  else ((zrI h78 a0 7 10).bind fun v100 => ((m_Model_isUnder v100 (2 : Int32) h78).bind fun v104 => (if v104 = 0 then ((zrI h78 a0 7 10).bind fun v121 => ((m_Model_isUnder v121 (4 : Int32) h78).bind fun v125 => (if v125 = 0 then ((zrI h78 a0 7 10).bind fun v143 => ((m_Model_isUnder v143 (5 : Int32) h78).bind fun v147 => (if v147 = 0 then (some ((1 : Int32), h78))
        else ((zcv h78 a0 7 (m_Model_sumsAt a0 x2 x3 x4 h78)).bind fun h158 => (some ((1 : Int32), h158))))))
      else ((zcv h78 a0 7 (m_Model_stoneAt a0 x2 x3 x4 h78)).bind fun h136 => (some ((1 : Int32), h136))))))
    else ((zcv h78 a0 7 (m_Model_add a0 x2 (3 : Int32) (-1 : Int32) h78)).bind fun h114 => (some ((1 : Int32), h114)))))))))
def m_Model_noteComes (a0 : Nat) (x1 : Int32) (h : zH) : Option (Int32 × zH) :=
  (if x1 < 0 then (some ((0 : Int32), h))
  else ((zcv h a0 7 (m_Model_notes a0 h)).bind fun v6 => (if x1 < v6 then ((zrR h a0 7 7).bind fun v15 => ((zaI h v15 ((62 : Int32) + ((3 : Int32) * x1))).bind fun v24 => ((zrR h a0 7 7).bind fun v27 => ((zaI h v27 ((63 : Int32) + ((3 : Int32) * x1))).bind fun v36 => ((zrR h a0 7 7).bind fun v39 => ((zaI h v39 ((64 : Int32) + ((3 : Int32) * x1))).bind fun v48 => ((zrI h a0 7 10).bind fun v52 => ((m_Model_isUnder v52 (4 : Int32) h).bind fun v56 => (if v56 = 0 then (g_Model_noteComes_74 a0 x1 v24 v36 v48 h)
      else ((zcv h a0 7 (m_Model_of a0 v24 (0 : Int32) h)).bind fun v65 => (if v65 = (1 : Int32) then (some ((0 : Int32), h))
        else (g_Model_noteComes_74 a0 x1 v24 v36 v48 h))))))))))))
    else (some ((0 : Int32), h)))))
-- AllHomeModel.asks(I)Z
def g_Model_asks_59 (a0 : Nat) (c0 : Nat) (y1 : Int32) (h : zH) : Option (Int32 × zH) :=
((zcv h a0 7 (m_Model_of a0 (0 : Int32) (3 : Int32) h)).bind fun v62 => ((zcv h a0 7 (m_Model_of a0 (0 : Int32) (4 : Int32) h)).bind fun v68 => ((zcv h c0 7 (m_Model_sendNote c0 y1 v62 v68 h)).bind fun h71 => (some ((1 : Int32), h71)))))
def m_Model_asks (a0 : Nat) (x1 : Int32) (h : zH) : Option (Int32 × zH) :=
  (if x1 = 0 then ((zrI h a0 7 10).bind fun v5 => ((m_Model_isUnder v5 (3 : Int32) h).bind fun v9 => (if v9 = 0 then (some ((0 : Int32), h))
    else ((zcv h a0 7 (m_Model_notes a0 h)).bind fun v16 => (if 0 < v16 then (some ((0 : Int32), h))
      else ((zcv h a0 7 (m_Model_of a0 (0 : Int32) (0 : Int32) h)).bind fun v25 => (if v25 = (1 : Int32) then (some ((0 : Int32), h))
        else ((zrI h a0 7 10).bind fun v35 => ((m_Model_isUnder v35 (5 : Int32) h).bind fun v39 => (if v39 = 0 then ((zrI h a0 7 10).bind fun v78 => ((m_Model_isUnder v78 (4 : Int32) h).bind fun v82 => (if v82 = 0 then (some ((1 : Int32), h))
            else ((zcv h a0 7 (m_Model_become a0 (0 : Int32) (4 : Int32) (0 : Int32) h)).bind fun h92 => ((zrI h92 a0 7 4).bind fun v97 => ((zcv h92 a0 7 (m_Model_sendNote a0 (v97 - (1 : Int32)) (0 : Int32) (0 : Int32) h92)).bind fun h104 => (some ((1 : Int32), h104))))))))
          else ((zrI h a0 7 4).bind fun v47 => (if v47 ≤ (1 : Int32) then (g_Model_asks_59 a0 a0 (0 : Int32) h)
            else (g_Model_asks_59 a0 a0 (1 : Int32) h)))))))))))))
  else (some ((0 : Int32), h)))
-- AllHomeModel.behind()V
def g_Model_behind_126 (a0 : Nat) (h : zH) : Option zH :=
((zrI h a0 7 10).bind fun v127 => (if v127 = (1 : Int32) then ((zrR h a0 7 7).bind fun v135 => ((zcv h a0 7 (m_Model_of a0 (0 : Int32) (0 : Int32) h)).bind fun v143 => (if v143 = 0 then ((zcv h a0 7 (m_Model_of a0 (0 : Int32) (3 : Int32) h)).bind fun v152 => ((zrR h a0 7 7).bind fun v156 => ((zaI h v156 (86 : Int32)).bind fun v161 => (if v152 = v161 then ((zsI h v135 (87 : Int32) (1 : Int32)).bind fun h176 => (some h176))
      else ((zrR h a0 7 7).bind fun v170 => ((zaI h v170 (87 : Int32)).bind fun v175 => ((zsI h v135 (87 : Int32) v175).bind fun h176 => (some h176))))))))
    else ((zrR h a0 7 7).bind fun v170 => ((zaI h v170 (87 : Int32)).bind fun v175 => ((zsI h v135 (87 : Int32) v175).bind fun h176 => (some h176)))))))
  else (some h)))
def g_Model_behind_58 (a0 : Nat) (x1 : Int32) (h : zH) (k13 : (Int32 × zH) → Option zH) : Option zH :=
((zcv h a0 7 (m_Model_of a0 x1 (4 : Int32) h)).bind fun v62 => ((zcv h a0 7 (m_Model_sendNote a0 v62 (0 : Int32) (0 : Int32) h)).bind fun h67 => ((zcv h67 a0 7 (m_Model_become a0 x1 (5 : Int32) (0 : Int32) h67)).bind fun h74 => ((zcv h74 a0 7 (m_Model_become a0 x1 (4 : Int32) (-1 : Int32) h74)).bind fun h81 => (k13 ((x1 + (1 : Int32)), h81))))))
def g_Model_behind_13 (a0 : Nat) (k13 : (Int32 × zH) → Option zH) (u : Int32 × zH) : Option zH :=
((zrI u.2 a0 7 4).bind fun v15 => (if v15 ≤ u.1 then ((zrR u.2 a0 7 7).bind fun v91 => ((zcv u.2 a0 7 (m_Model_of a0 (0 : Int32) (0 : Int32) u.2)).bind fun v99 => (if v99 = 0 then ((zcv u.2 a0 7 (m_Model_of a0 (0 : Int32) (3 : Int32) u.2)).bind fun v108 => (if 0 < v108 then ((zrR u.2 a0 7 7).bind fun v119 => ((zaI u.2 v119 (87 : Int32)).bind fun v124 => ((zsI u.2 v91 (87 : Int32) v124).bind fun h125 => (g_Model_behind_126 a0 h125))))
      else ((zsI u.2 v91 (87 : Int32) (1 : Int32)).bind fun h125 => (g_Model_behind_126 a0 h125))))
    else ((zrR u.2 a0 7 7).bind fun v119 => ((zaI u.2 v119 (87 : Int32)).bind fun v124 => ((zsI u.2 v91 (87 : Int32) v124).bind fun h125 => (g_Model_behind_126 a0 h125)))))))
  else ((zcv u.2 a0 7 (m_Model_of a0 u.1 (5 : Int32) u.2)).bind fun v24 => (if v24 = (1 : Int32) then ((zcv u.2 a0 7 (m_Model_of a0 u.1 (0 : Int32) u.2)).bind fun v34 => (if v34 = 0 then ((zrI u.2 a0 7 10).bind fun v41 => (if v41 = (6 : Int32) then (g_Model_behind_58 a0 u.1 u.2 k13)
        else ((zcv u.2 a0 7 (m_Model_of a0 u.1 (3 : Int32) u.2)).bind fun v52 => (if v52 = 0 then (g_Model_behind_58 a0 u.1 u.2 k13)
          else (k13 ((u.1 + (1 : Int32)), u.2))))))
      else (k13 ((u.1 + (1 : Int32)), u.2))))
    else (k13 ((u.1 + (1 : Int32)), u.2))))))
def m_Model_behind (a0 : Nat) (h : zH) : Option zH :=
  ((zrI h a0 7 10).bind fun v1 => ((m_Model_isUnder v1 (2 : Int32) h).bind fun v5 => (if v5 = 0 then (g_Model_behind_126 a0 h)
  else (zloop (g_Model_behind_13 a0) zN ((1 : Int32), h)))))
-- AllHomeModel.doStep(II)I
def g_Model_doStep_105 (a0 : Nat) (x3 : Int32) (h : zH) : Option (Int32 × zH) :=
(if x3 = 0 then (some ((-5 : Int32), h))
  else ((zcv h a0 7 (m_Model_behind a0 h)).bind fun h113 => ((zrI h113 a0 7 11).bind fun v117 => (if v117 = 0 then (some ((1 : Int32), h113))
    else (some ((-3 : Int32), h113))))))
def g_Model_doStep_92 (a0 : Nat) (x2 : Int32) (h : zH) : Option (Int32 × zH) :=
(if (0 : Int32) = 0 then (g_Model_doStep_105 a0 (0 : Int32) h)
  else ((zcv h a0 7 (m_Model_takeOut a0 (36 : Int32) x2 h)).bind fun h102 => (g_Model_doStep_105 a0 (0 : Int32) h102)))
def m_Model_doStep (a0 : Nat) (x1 : Int32) (x2 : Int32) (h : zH) : Option (Int32 × zH) :=
  ((zwZ h a0 7 11 (0 : Int32)).bind fun h2 => (if x1 = (0 : Int32) then (zb2 (zcv h2 a0 7 (m_Model_goOn a0 x2 h2)) fun v42 h42 => (g_Model_doStep_105 a0 v42 h42))
  else (if x1 = (1 : Int32) then (zb2 (zcv h2 a0 7 (m_Model_comes a0 x2 h2)) fun v51 h51 => (g_Model_doStep_105 a0 v51 h51))
  else (if x1 = (2 : Int32) then (zb2 (zcv h2 a0 7 (m_Model_noteComes a0 x2 h2)) fun v60 h60 => (g_Model_doStep_105 a0 v60 h60))
  else (if x1 = (3 : Int32) then (zb2 (zcv h2 a0 7 (m_Model_asks a0 x2 h2)) fun v69 h69 => (g_Model_doStep_105 a0 v69 h69))
  else (if x2 < 0 then (g_Model_doStep_92 a0 x2 h2)
          else ((zcv h2 a0 7 (m_Model_words a0 h2)).bind fun v82 => (if v82 ≤ x2 then (g_Model_doStep_92 a0 x2 h2)
            else (if (1 : Int32) = 0 then (g_Model_doStep_105 a0 (1 : Int32) h2)
              else ((zcv h2 a0 7 (m_Model_takeOut a0 (36 : Int32) x2 h2)).bind fun h102 => (g_Model_doStep_105 a0 (1 : Int32) h102)))))))))))
-- AllHomeModel.isOver()Z
def g_Model_isOver_15 (a0 : Nat) (h : zH) (k15 : (Int32 × Int32) → Option Int32) (u : Int32 × Int32) : Option Int32 :=
((zrI h a0 7 4).bind fun v17 => (if v17 ≤ u.2 then (zbl u.1 (some u.1))
  else (if u.1 = 0 then (k15 ((0 : Int32), (u.2 + (1 : Int32))))
    else ((zcv h a0 7 (m_Model_of a0 u.2 (0 : Int32) h)).bind fun v30 => (if v30 = 0 then (k15 ((1 : Int32), (u.2 + (1 : Int32))))
      else (k15 ((0 : Int32), (u.2 + (1 : Int32)))))))))
def m_Model_isOver (a0 : Nat) (h : zH) : Option Int32 :=
  ((zcv h a0 7 (m_Model_words a0 h)).bind fun v1 => (if v1 = 0 then (zloop (g_Model_isOver_15 a0 h) zN ((1 : Int32), (0 : Int32)))
  else (zloop (g_Model_isOver_15 a0 h) zN ((0 : Int32), (0 : Int32)))))
-- AllHomeModel.keepRun(I)V
def g_Model_keepRun_2 (a0 : Nat) (x1 : Int32) (k2 : (Int32 × zH) → Option zH) (u : Int32 × zH) : Option zH :=
(if (91 : Int32) ≤ u.1 then ((zrR u.2 a0 7 15).bind fun v32 => ((zrI u.2 a0 7 8).bind fun v37 => ((zsI u.2 v32 x1 v37).bind fun h40 => ((zrR h40 a0 7 16).bind fun v42 => ((zrI h40 a0 7 9).bind fun v47 => ((zsI h40 v42 x1 v47).bind fun h50 => (some h50)))))))
  else ((zrR u.2 a0 7 12).bind fun v9 => ((zrR u.2 a0 7 7).bind fun v19 => ((zaI u.2 v19 u.1).bind fun v23 => ((zsI u.2 v9 (((91 : Int32) * x1) + u.1) v23).bind fun h24 => (k2 ((u.1 + (1 : Int32)), h24)))))))
def m_Model_keepRun (a0 : Nat) (x1 : Int32) (h : zH) : Option zH :=
  (zloop (g_Model_keepRun_2 a0 x1) zN ((0 : Int32), h))
-- AllHomeModel.takeRun(I)V
def g_Model_takeRun_17 (a0 : Nat) (x1 : Int32) (k17 : (Int32 × zH) → Option zH) (u : Int32 × zH) : Option zH :=
(if (91 : Int32) ≤ u.1 then ((zrR u.2 a0 7 15).bind fun v48 => ((zaI u.2 v48 x1).bind fun v52 => ((zwI u.2 a0 7 8 v52).bind fun h53 => ((zrR h53 a0 7 16).bind fun v58 => ((zaI h53 v58 x1).bind fun v62 => ((zwI h53 a0 7 9 v62).bind fun h63 => (some h63)))))))
  else ((zrR u.2 a0 7 7).bind fun v24 => ((zrR u.2 a0 7 12).bind fun v29 => ((zaI u.2 v29 (((91 : Int32) * x1) + u.1)).bind fun v38 => ((zsI u.2 v24 u.1 v38).bind fun h39 => (k17 ((u.1 + (1 : Int32)), h39)))))))
def m_Model_takeRun (a0 : Nat) (x1 : Int32) (h : zH) : Option zH :=
  ((zrR h a0 7 5).bind fun v2 => ((zrR h a0 7 13).bind fun v6 => ((zaI h v6 x1).bind fun v10 => ((zaI h v2 v10).bind fun v11 => ((zwI h a0 7 10 v11).bind fun h12 => (zloop (g_Model_takeRun_17 a0 x1) zN ((0 : Int32), h12)))))))
-- AllHomeModel.run(I)I
def m_Model_run (a0 : Nat) (x1 : Int32) (h : zH) : Option (Int32 × zH) :=
  ((zcv h a0 7 (m_Model_isWay a0 x1 h)).bind fun v2 => (if v2 = 0 then (some ((-1 : Int32), h))
  else ((zrI h a0 7 4).bind fun v11 => (if v11 = 0 then (some ((-5 : Int32), h))
    else ((zrI h a0 7 19).bind fun v21 => (if v21 = (4 : Int32) then (some ((-3 : Int32), h))
      else ((zrR h a0 7 5).bind fun v33 => ((zaI h v33 x1).bind fun v37 => ((zcv h a0 7 (m_Model_begin a0 v37 h)).bind fun h38 => ((zrR h38 a0 7 13).bind fun v42 => ((zrI h38 a0 7 19).bind fun v46 => ((zsI h38 v42 v46 x1).bind fun h50 => ((zrR h50 a0 7 17).bind fun v52 => ((zrI h50 a0 7 19).bind fun v56 => ((zsI h50 v52 v56 (-2 : Int32)).bind fun h61 => ((zrR h61 a0 7 18).bind fun v63 => ((zrI h61 a0 7 19).bind fun v67 => ((zsI h61 v63 v67 (-2 : Int32)).bind fun h72 => ((zrI h72 a0 7 19).bind fun v75 => ((zcv h72 a0 7 (m_Model_keepRun a0 v75 h72)).bind fun h78 => ((zrI h78 a0 7 19).bind fun v83 => ((zwI h78 a0 7 19 (v83 + (1 : Int32))).bind fun h88 => ((zrI h88 a0 7 19).bind fun v92 => (some ((v92 - (1 : Int32)), h88)))))))))))))))))))))))))
-- AllHomeModel.isRun(I)Z
def m_Model_isRun (a0 : Nat) (x1 : Int32) (h : zH) : Option Int32 :=
  (if x1 < 0 then (some (0 : Int32))
  else ((zrI h a0 7 19).bind fun v6 => (if v6 ≤ x1 then (some (0 : Int32))
    else (some (1 : Int32)))))
-- AllHomeModel.stepOf(III)I
def g_Model_stepOf_76 (a0 : Nat) (x1 : Int32) (c0 : Nat) (y1 : Int32) (y2 : Int32) (h : zH) : Option (Int32 × zH) :=
((zsI h c0 y1 y2).bind fun h76 => ((zrR h76 a0 7 18).bind fun v78 => ((zcv h76 a0 7 (m_Model_isOver a0 h76)).bind fun v83 => (if v83 = 0 then ((zsI h76 v78 x1 (-2 : Int32)).bind fun h118 => ((zrR h118 a0 7 14).bind fun v120 => ((zaI h118 v120 x1).bind fun v124 => (some (v124, h118)))))
  else ((zrR h76 a0 7 18).bind fun v95 => ((zaI h76 v95 x1).bind fun v99 => (if 0 ≤ v99 then ((zrR h76 a0 7 18).bind fun v113 => ((zaI h76 v113 x1).bind fun v117 => ((zsI h76 v78 x1 v117).bind fun h118 => ((zrR h118 a0 7 14).bind fun v120 => ((zaI h118 v120 x1).bind fun v124 => (some (v124, h118)))))))
    else ((zrR h76 a0 7 14).bind fun v104 => ((zaI h76 v104 x1).bind fun v108 => ((zsI h76 v78 x1 v108).bind fun h118 => ((zrR h118 a0 7 14).bind fun v120 => ((zaI h118 v120 x1).bind fun v124 => (some (v124, h118))))))))))))))
def m_Model_stepOf (a0 : Nat) (x1 : Int32) (x2 : Int32) (x3 : Int32) (h : zH) : Option (Int32 × zH) :=
  ((zcv h a0 7 (m_Model_takeRun a0 x1 h)).bind fun h2 => (zb2 (zcv h2 a0 7 (m_Model_doStep a0 x2 x3 h2)) fun v8 h8 => (if 0 ≤ v8 then ((zcv h8 a0 7 (m_Model_keepRun a0 x1 h8)).bind fun h23 => ((zrR h23 a0 7 14).bind fun v27 => ((zaI h23 v27 x1).bind fun v32 => ((zsI h23 v27 x1 (v32 + (1 : Int32))).bind fun h35 => ((zrR h35 a0 7 17).bind fun v37 => ((zrR h35 a0 7 7).bind fun v42 => ((zaI h35 v42 (87 : Int32)).bind fun v47 => (if v47 = (1 : Int32) then ((zrR h35 a0 7 17).bind fun v53 => ((zaI h35 v53 x1).bind fun v57 => (if 0 ≤ v57 then ((zrR h35 a0 7 17).bind fun v71 => ((zaI h35 v71 x1).bind fun v75 => (g_Model_stepOf_76 a0 x1 v37 x1 v75 h35)))
      else ((zrR h35 a0 7 14).bind fun v62 => ((zaI h35 v62 x1).bind fun v66 => (g_Model_stepOf_76 a0 x1 v37 x1 v66 h35))))))
    else ((zrR h35 a0 7 17).bind fun v71 => ((zaI h35 v71 x1).bind fun v75 => (g_Model_stepOf_76 a0 x1 v37 x1 v75 h35)))))))))))
  else (some (v8, h8)))))
-- AllHomeModel.step(III)I
def m_Model_step (a0 : Nat) (x1 : Int32) (x2 : Int32) (x3 : Int32) (h : zH) : Option (Int32 × zH) :=
  ((zcv h a0 7 (m_Model_isRun a0 x1 h)).bind fun v2 => (if v2 = 0 then (some ((-1 : Int32), h))
  else ((m_Model_within x2.toInt64 (0 : Int64) (4 : Int64) h).bind fun v14 => (if v14 = 0 then (some ((-1 : Int32), h))
    else (zb2 (zcv h a0 7 (m_Model_stepOf a0 x1 x2 x3 h)) fun v24 h24 => (some (v24, h24)))))))
-- AllHomeModel.isShelf(I)Z
def m_Model_isShelf (x0 : Int32) (h : zH) : Option Int32 :=
  ((m_Model_within x0.toInt64 (0 : Int64) (5 : Int64) h).bind fun v6 => (zbl v6 (some v6)))
-- AllHomeModel.steps(IIII)I
def g_Model_steps_179 (a0 : Nat) (x1 : Int32) (x2 : Int32) (x3 : Int32) (x4 : Int32) (x5 : Int32) (y0 : Int32) (h : zH) (k74 : (Int32 × Int32 × zH) → Option (Int32 × zH)) : Option (Int32 × zH) :=
(if y0 = 0 then (k74 ((x5 + (0 : Int32)), y0, h))
  else (k74 ((x5 + (1 : Int32)), y0, h)))
def g_Model_steps_119 (a0 : Nat) (x1 : Int32) (x2 : Int32) (x3 : Int32) (x4 : Int32) (x5 : Int32) (x7 : Int64) (y0 : Int32) (h : zH) (k74 : (Int32 × Int32 × zH) → Option (Int32 × zH)) : Option (Int32 × zH) :=
(if y0 = 0 then (k74 (x5, y0, h))
  else ((zrR h a0 7 31).bind fun v127 => ((zaJ h v127 (((60 : Int32) * x2) + x7.toInt32)).bind fun v138 => (if v138.toInt32 < 0 then (g_Model_steps_179 a0 x1 x2 x3 x4 x5 (0 : Int32) h k74)
    else (if (4 : Int32) < (v138.toInt32 / (100 : Int32)) then (g_Model_steps_179 a0 x1 x2 x3 x4 x5 (0 : Int32) h k74)
      else (zb2 (zcv h a0 7 (m_Model_stepOf a0 x1 (v138.toInt32 / (100 : Int32)) (v138.toInt32 - v138.toInt32 / (100 : Int32) * (100 : Int32)) h)) fun v168 h168 => (if v168 ≤ 0 then (g_Model_steps_179 a0 x1 x2 x3 x4 x5 (0 : Int32) h168 k74)
        else (g_Model_steps_179 a0 x1 x2 x3 x4 x5 (1 : Int32) h168 k74))))))))
def g_Model_steps_74 (a0 : Nat) (x1 : Int32) (x2 : Int32) (x3 : Int32) (x4 : Int32) (k74 : (Int32 × Int32 × zH) → Option (Int32 × zH)) (u : Int32 × Int32 × zH) : Option (Int32 × zH) :=
(if u.2.1 = 0 then (some (u.1, u.2.2))
  else (if x4 ≤ u.1 then (some (u.1, u.2.2))
    else (if (lg_cmp (x3.toInt64 + u.1.toInt64) (0 : Int64)) < 0 then (g_Model_steps_119 a0 x1 x2 x3 x4 u.1 (x3.toInt64 + u.1.toInt64) (0 : Int32) u.2.2 k74)
      else ((zrR u.2.2 a0 7 30).bind fun v104 => ((zaI u.2.2 v104 x2).bind fun v108 => (if 0 ≤ (lg_cmp (x3.toInt64 + u.1.toInt64) v108.toInt64) then (g_Model_steps_119 a0 x1 x2 x3 x4 u.1 (x3.toInt64 + u.1.toInt64) (0 : Int32) u.2.2 k74)
        else (g_Model_steps_119 a0 x1 x2 x3 x4 u.1 (x3.toInt64 + u.1.toInt64) (1 : Int32) u.2.2 k74)))))))
def g_Model_steps_54 (a0 : Nat) (x1 : Int32) (x2 : Int32) (x3 : Int32) (x4 : Int32) (h : zH) : Option (Int32 × zH) :=
((zrR h a0 7 29).bind fun v58 => ((zaI h v58 x2).bind fun v62 => (if v62 = (-1 : Int32) then (zloop (g_Model_steps_74 a0 x1 x2 x3 x4) zN ((0 : Int32), (0 : Int32), h))
  else (zloop (g_Model_steps_74 a0 x1 x2 x3 x4) zN ((0 : Int32), (1 : Int32), h)))))
def m_Model_steps (a0 : Nat) (x1 : Int32) (x2 : Int32) (x3 : Int32) (x4 : Int32) (h : zH) : Option (Int32 × zH) :=
  ((zcv h a0 7 (m_Model_isRun a0 x1 h)).bind fun v2 => (if v2 = 0 then (some ((-1 : Int32), h))
  else ((m_Model_isShelf x2 h).bind fun v9 => (if v9 = 0 then (some ((-1 : Int32), h))
    else ((m_Model_within x4.toInt64 (1 : Int64) (60 : Int64) h).bind fun v22 => (if v22 = 0 then (some ((-1 : Int32), h))
      else ((zrR h a0 7 29).bind fun v31 => ((zaI h v31 x2).bind fun v35 => (if v35 = (-1 : Int32) then (g_Model_steps_54 a0 x1 x2 x3 x4 h)
        else ((zrR h a0 7 29).bind fun v41 => ((zaI h v41 x2).bind fun v45 => (if v45 = (11 : Int32) then (g_Model_steps_54 a0 x1 x2 x3 x4 h)
          else (some ((-12 : Int32), h))))))))))))))
-- AllHomeModel.ofRun(II)I
def g_Model_ofRun_20 (a0 : Nat) (x1 : Int32) (x2 : Int32) (h : zH) (k20 : (Int32 × Int32) → Option (Int32 × zH)) (u : Int32 × Int32) : Option (Int32 × zH) :=
((zrI h a0 7 4).bind fun v23 => (if v23 ≤ u.2 then (if x2 = (0 : Int32) then ((zrR h a0 7 13).bind fun v105 => ((zaI h v105 x1).bind fun v109 => (some (v109, h))))
    else (if x2 = (1 : Int32) then ((zrR h a0 7 14).bind fun v112 => ((zaI h v112 x1).bind fun v116 => (some (v116, h))))
    else (if x2 = (2 : Int32) then ((zcv h a0 7 (m_Model_words a0 h)).bind fun v119 => (some (v119, h)))
    else (if x2 = (3 : Int32) then ((zcv h a0 7 (m_Model_notes a0 h)).bind fun v124 => (some (v124, h)))
    else (if x2 = (4 : Int32) then ((zcv h a0 7 (m_Model_isOver a0 h)).bind fun v129 => (if v129 = 0 then (some ((0 : Int32), h))
              else (some ((1 : Int32), h))))
    else (if x2 = (5 : Int32) then ((zrR h a0 7 7).bind fun v142 => ((zaI h v142 (87 : Int32)).bind fun v147 => (some (v147, h))))
    else (if x2 = (6 : Int32) then (some (u.1, h))
    else (if x2 = (7 : Int32) then ((zrI h a0 7 8).bind fun v152 => (some (v152, h)))
    else (if x2 = (8 : Int32) then ((zrI h a0 7 9).bind fun v157 => (some (v157, h)))
    else (if x2 = (9 : Int32) then ((zrR h a0 7 17).bind fun v162 => ((zaI h v162 x1).bind fun v166 => (some (v166, h))))
    else (if x2 = (10 : Int32) then ((zrR h a0 7 18).bind fun v169 => ((zaI h v169 x1).bind fun v173 => (some (v173, h))))
    else (some ((-1 : Int32), h)))))))))))))
  else ((zcv h a0 7 (m_Model_of a0 u.2 (0 : Int32) h)).bind fun v34 => (k20 ((u.1 + v34), (u.2 + (1 : Int32)))))))
def m_Model_ofRun (a0 : Nat) (x1 : Int32) (x2 : Int32) (h : zH) : Option (Int32 × zH) :=
  ((zcv h a0 7 (m_Model_isRun a0 x1 h)).bind fun v2 => (if v2 = 0 then (some ((-1 : Int32), h))
  else ((zcv h a0 7 (m_Model_takeRun a0 x1 h)).bind fun h12 => (zloop (g_Model_ofRun_20 a0 x1 x2 h12) zN ((0 : Int32), (0 : Int32))))))
-- AllHomeModel.ofHut(III)I
def m_Model_ofHut (a0 : Nat) (x1 : Int32) (x2 : Int32) (x3 : Int32) (h : zH) : Option (Int32 × zH) :=
  ((zcv h a0 7 (m_Model_isRun a0 x1 h)).bind fun v2 => (if v2 = 0 then (some ((-2000000000 : Int32), h))
  else ((zcv h a0 7 (m_Model_isHut a0 x2 h)).bind fun v10 => (if v10 = 0 then (some ((-2000000000 : Int32), h))
    else ((zcv h a0 7 (m_Model_takeRun a0 x1 h)).bind fun h21 => ((zrI h21 a0 7 10).bind fun v25 => ((m_Model_isUnder v25 (2 : Int32) h21).bind fun v29 => ((zrI h21 a0 7 10).bind fun v35 => ((m_Model_isUnder v35 (4 : Int32) h21).bind fun v39 => ((zrI h21 a0 7 10).bind fun v45 => ((m_Model_isUnder v45 (5 : Int32) h21).bind fun v49 => (if x3 = (0 : Int32) then ((zcv h21 a0 7 (m_Model_of a0 x2 (0 : Int32) h21)).bind fun v115 => (some (v115, h21)))
      else (if x3 = (1 : Int32) then ((zcv h21 a0 7 (m_Model_of a0 x2 (1 : Int32) h21)).bind fun v122 => (some (v122, h21)))
      else (if x3 = (2 : Int32) then ((zcv h21 a0 7 (m_Model_of a0 x2 (2 : Int32) h21)).bind fun v129 => (some (v129, h21)))
      else (if x3 = (3 : Int32) then ((zrI h21 a0 7 10).bind fun v134 => (if v134 = (1 : Int32) then ((zcv h21 a0 7 (m_Model_of a0 x2 (3 : Int32) h21)).bind fun v144 => (some (v144, h21)))
              else (some ((-2000000000 : Int32), h21))))
      else (if x3 = (4 : Int32) then (if v29 = 0 then (some ((-2000000000 : Int32), h21))
                else ((zcv h21 a0 7 (m_Model_of a0 x2 (3 : Int32) h21)).bind fun v161 => (some (v161, h21))))
      else (if x3 = (5 : Int32) then (if v29 = 0 then (some ((-2000000000 : Int32), h21))
                  else ((zcv h21 a0 7 (m_Model_of a0 x2 (4 : Int32) h21)).bind fun v178 => (some (v178, h21))))
      else (if x3 = (6 : Int32) then (if v29 = 0 then (some ((-2000000000 : Int32), h21))
                    else ((zcv h21 a0 7 (m_Model_of a0 x2 (5 : Int32) h21)).bind fun v195 => (some (v195, h21))))
      else (if x3 = (7 : Int32) then (if v39 = 0 then (some ((-2000000000 : Int32), h21))
                      else ((zcv h21 a0 7 (m_Model_of a0 x2 (3 : Int32) h21)).bind fun v212 => (some (v212, h21))))
      else (if x3 = (8 : Int32) then (if v39 = 0 then (some ((-2000000000 : Int32), h21))
                        else ((zcv h21 a0 7 (m_Model_of a0 x2 (4 : Int32) h21)).bind fun v229 => (some (v229, h21))))
      else (if x3 = (9 : Int32) then (if v49 = 0 then (some ((-2000000000 : Int32), h21))
                          else ((zcv h21 a0 7 (m_Model_of a0 x2 (3 : Int32) h21)).bind fun v246 => (some (v246, h21))))
      else (if x3 = (10 : Int32) then (if v49 = 0 then (some ((-2000000000 : Int32), h21))
                            else ((zcv h21 a0 7 (m_Model_of a0 x2 (4 : Int32) h21)).bind fun v263 => (some (v263, h21))))
      else (some ((-2000000000 : Int32), h21))))))))))))))))))))))))
-- AllHomeModel.word(III)I
def m_Model_word (a0 : Nat) (x1 : Int32) (x2 : Int32) (x3 : Int32) (h : zH) : Option (Int32 × zH) :=
  ((zcv h a0 7 (m_Model_isRun a0 x1 h)).bind fun v2 => (if v2 = 0 then (some ((-1 : Int32), h))
  else ((m_Model_within x3.toInt64 (0 : Int64) (2 : Int64) h).bind fun v14 => (if v14 = 0 then (some ((-1 : Int32), h))
    else ((zcv h a0 7 (m_Model_takeRun a0 x1 h)).bind fun h24 => (if x2 < 0 then (some ((-1 : Int32), h24))
      else ((zcv h24 a0 7 (m_Model_words a0 h24)).bind fun v33 => (if v33 ≤ x2 then (some ((-1 : Int32), h24))
        else ((zrR h24 a0 7 7).bind fun v40 => ((zaI h24 v40 (((37 : Int32) + ((3 : Int32) * x2)) + x3)).bind fun v51 => (some (v51, h24))))))))))))
-- AllHomeModel.note(III)I
def m_Model_note (a0 : Nat) (x1 : Int32) (x2 : Int32) (x3 : Int32) (h : zH) : Option (Int32 × zH) :=
  ((zcv h a0 7 (m_Model_isRun a0 x1 h)).bind fun v2 => (if v2 = 0 then (some ((-2000000000 : Int32), h))
  else ((m_Model_within x3.toInt64 (0 : Int64) (2 : Int64) h).bind fun v14 => (if v14 = 0 then (some ((-2000000000 : Int32), h))
    else ((zcv h a0 7 (m_Model_takeRun a0 x1 h)).bind fun h25 => (if x2 < 0 then (some ((-2000000000 : Int32), h25))
      else ((zcv h25 a0 7 (m_Model_notes a0 h25)).bind fun v34 => (if v34 ≤ x2 then (some ((-2000000000 : Int32), h25))
        else ((zrR h25 a0 7 7).bind fun v41 => ((zaI h25 v41 (((62 : Int32) + ((3 : Int32) * x2)) + x3)).bind fun v52 => (some (v52, h25))))))))))))
-- AllHomeModel.total(I)I
def m_Model_total (a0 : Nat) (x1 : Int32) (h : zH) : Option (Int32 × zH) :=
  ((zcv h a0 7 (m_Model_isRun a0 x1 h)).bind fun v2 => (if v2 = 0 then (some ((-1 : Int32), h))
  else ((zcv h a0 7 (m_Model_takeRun a0 x1 h)).bind fun h12 => ((zrI h12 a0 7 10).bind fun v16 => (if v16 = (1 : Int32) then ((zrR h12 a0 7 7).bind fun v24 => ((zaI h12 v24 (86 : Int32)).bind fun v29 => (some (v29, h12))))
    else (some ((-2 : Int32), h12)))))))
-- AllHomeModel.bringBack(I)V
def g_Model_bringBack_2 (a0 : Nat) (x1 : Int32) (k2 : (Int32 × zH) → Option zH) (u : Int32 × zH) : Option zH :=
(if (91 : Int32) ≤ u.1 then (some u.2)
  else ((zrR u.2 a0 7 7).bind fun v9 => ((zrR u.2 a0 7 20).bind fun v14 => ((zaI u.2 v14 (((91 : Int32) * x1) + u.1)).bind fun v23 => ((zsI u.2 v9 u.1 v23).bind fun h24 => (k2 ((u.1 + (1 : Int32)), h24)))))))
def m_Model_bringBack (a0 : Nat) (x1 : Int32) (h : zH) : Option zH :=
  (zloop (g_Model_bringBack_2 a0 x1) zN ((0 : Int32), h))
-- AllHomeModel.findState()I
def g_Model_findState_14 (a0 : Nat) (x1 : Int32) (h : zH) (k2 : (Int32) → Option Int32) (k14 : (Int32 × Int32) → Option Int32) (u : Int32 × Int32) : Option Int32 :=
(if (91 : Int32) ≤ u.2 then (if u.1 = 0 then (k2 (x1 + (1 : Int32)))
    else (some x1))
  else (if u.1 = 0 then (if u.1 = 0 then (k2 (x1 + (1 : Int32)))
      else (some x1))
    else ((zrR h a0 7 20).bind fun v25 => ((zaI h v25 (((91 : Int32) * x1) + u.2)).bind fun v34 => ((zrR h a0 7 7).bind fun v36 => ((zaI h v36 u.2).bind fun v40 => (if v34 = v40 then (k14 ((1 : Int32), (u.2 + (1 : Int32))))
      else (k14 ((0 : Int32), (u.2 + (1 : Int32)))))))))))
def g_Model_findState_2 (a0 : Nat) (h : zH) (k2 : (Int32) → Option Int32) (u : Int32) : Option Int32 :=
((zrI h a0 7 25).bind fun v4 => (if v4 ≤ u then ((zrI h a0 7 25).bind fun v69 => (some v69))
  else (zloop (g_Model_findState_14 a0 u h k2) zN ((1 : Int32), (0 : Int32)))))
def m_Model_findState (a0 : Nat) (h : zH) : Option Int32 :=
  (zloop (g_Model_findState_2 a0 h) zN (0 : Int32))
-- AllHomeModel.keepState(II)V
def g_Model_keepState_2 (a0 : Nat) (x1 : Int32) (x2 : Int32) (k2 : (Int32 × zH) → Option zH) (u : Int32 × zH) : Option zH :=
(if (91 : Int32) ≤ u.1 then ((zrR u.2 a0 7 21).bind fun v35 => ((zrI u.2 a0 7 25).bind fun v39 => ((zsI u.2 v35 v39 x1).bind fun h43 => ((zrR h43 a0 7 22).bind fun v45 => ((zrI h43 a0 7 25).bind fun v49 => ((zsI h43 v45 v49 x2).bind fun h53 => ((zrI h53 a0 7 25).bind fun v56 => ((zwI h53 a0 7 25 (v56 + (1 : Int32))).bind fun h61 => (some h61)))))))))
  else ((zrR u.2 a0 7 20).bind fun v9 => ((zrI u.2 a0 7 25).bind fun v15 => ((zrR u.2 a0 7 7).bind fun v22 => ((zaI u.2 v22 u.1).bind fun v26 => ((zsI u.2 v9 (((91 : Int32) * v15) + u.1) v26).bind fun h27 => (k2 ((u.1 + (1 : Int32)), h27))))))))
def m_Model_keepState (a0 : Nat) (x1 : Int32) (x2 : Int32) (h : zH) : Option zH :=
  (zloop (g_Model_keepState_2 a0 x1 x2) zN ((0 : Int32), h))
-- AllHomeModel.goFrom(I)V
def g_Model_goFrom_67 (a0 : Nat) (x1 : Int32) (x2 : Int32) (x3 : Int32) (h : zH) (k2 : (Int32 × zH) → Option zH) : Option zH :=
((zrR h a0 7 24).bind fun v68 => ((zsZ h v68 (((151 : Int32) * x1) + x3) (1 : Int32)).bind fun h79 => (k2 ((x2 + (1 : Int32)), h79))))
def g_Model_goFrom_2 (a0 : Nat) (x1 : Int32) (k2 : (Int32 × zH) → Option zH) (u : Int32 × zH) : Option zH :=
(if (400 : Int32) ≤ u.1 then (some u.2)
  else ((zrI u.2 a0 7 25).bind fun v10 => (if (151 : Int32) ≤ v10 then (some u.2)
    else (if (8 : Int32) ≤ (u.1 - u.1 / (100 : Int32) * (100 : Int32)) then (k2 ((u.1 + (1 : Int32)), u.2))
      else ((zcv u.2 a0 7 (m_Model_bringBack a0 x1 u.2)).bind fun h30 => (zb2 (zcv h30 a0 7 (m_Model_doStep a0 (u.1 / (100 : Int32)) (u.1 - u.1 / (100 : Int32) * (100 : Int32)) h30)) fun v42 h42 => (if v42 ≤ 0 then (k2 ((u.1 + (1 : Int32)), h42))
        else ((zcv h42 a0 7 (m_Model_findState a0 h42)).bind fun v49 => ((zrI h42 a0 7 25).bind fun v55 => (if v49 = v55 then ((zcv h42 a0 7 (m_Model_keepState a0 x1 u.1 h42)).bind fun h64 => (g_Model_goFrom_67 a0 x1 u.1 v49 h64 k2))
          else (g_Model_goFrom_67 a0 x1 u.1 v49 h42 k2)))))))))))
def m_Model_goFrom (a0 : Nat) (x1 : Int32) (h : zH) : Option zH :=
  (zloop (g_Model_goFrom_2 a0 x1) zN ((0 : Int32), h))
-- AllHomeModel.findAll(I)I
def g_Model_findAll_51 (a0 : Nat) (k51 : (Int32 × zH) → Option (Int32 × zH)) (u : Int32 × zH) : Option (Int32 × zH) :=
((zrI u.2 a0 7 25).bind fun v53 => (if v53 ≤ u.1 then ((zrI u.2 a0 7 25).bind fun v96 => (if v96 = (151 : Int32) then (some ((-4 : Int32), u.2))
    else (some ((0 : Int32), u.2))))
  else ((zrI u.2 a0 7 25).bind fun v60 => (if (151 : Int32) ≤ v60 then ((zrI u.2 a0 7 25).bind fun v96 => (if v96 = (151 : Int32) then (some ((-4 : Int32), u.2))
      else (some ((0 : Int32), u.2))))
    else ((zrR u.2 a0 7 20).bind fun v70 => ((zaI u.2 v70 (((91 : Int32) * u.1) + (87 : Int32))).bind fun v80 => (if v80 = 0 then ((zcv u.2 a0 7 (m_Model_goFrom a0 u.1 u.2)).bind fun h86 => (k51 ((u.1 + (1 : Int32)), h86)))
      else (k51 ((u.1 + (1 : Int32)), u.2)))))))))
def g_Model_findAll_13 (a0 : Nat) (x1 : Int32) (k13 : (Int32 × zH) → Option (Int32 × zH)) (u : Int32 × zH) : Option (Int32 × zH) :=
(if (22801 : Int32) ≤ u.1 then ((zcv u.2 a0 7 (m_Model_begin a0 x1 u.2)).bind fun h35 => ((zwI h35 a0 7 25 (0 : Int32)).bind fun h40 => ((zcv h40 a0 7 (m_Model_keepState a0 (-1 : Int32) (0 : Int32) h40)).bind fun h46 => (zloop (g_Model_findAll_51 a0) zN ((0 : Int32), h46)))))
  else ((zrR u.2 a0 7 24).bind fun v21 => ((zsZ u.2 v21 u.1 (0 : Int32)).bind fun h26 => (k13 ((u.1 + (1 : Int32)), h26)))))
def m_Model_findAll (a0 : Nat) (x1 : Int32) (h : zH) : Option (Int32 × zH) :=
  ((zrI h a0 7 4).bind fun v1 => (if v1 ≤ (4 : Int32) then (zloop (g_Model_findAll_13 a0 x1) zN ((0 : Int32), h))
  else (some ((-4 : Int32), h))))
-- AllHomeModel.noOrders(I)I
def m_Model_noOrders (a0 : Nat) (x1 : Int32) (h : zH) : Option (Int32 × zH) :=
  ((zcv h a0 7 (m_Model_isWay a0 x1 h)).bind fun v2 => (if v2 = 0 then (some ((-1 : Int32), h))
  else ((zrI h a0 7 4).bind fun v11 => (if v11 = 0 then (some ((-5 : Int32), h))
    else ((zrR h a0 7 5).bind fun v24 => ((zaI h v24 x1).bind fun v28 => (zb2 (zcv h a0 7 (m_Model_findAll a0 v28 h)) fun v29 h29 => (some (v29, h29)))))))))
-- AllHomeModel.states(I)I
def m_Model_states (a0 : Nat) (x1 : Int32) (h : zH) : Option (Int32 × zH) :=
  (zb2 (zcv h a0 7 (m_Model_noOrders a0 x1 h)) fun v2 h2 => (if 0 ≤ v2 then ((zrI h2 a0 7 25).bind fun v15 => (some (v15, h2)))
  else (some (v2, h2))))
-- AllHomeModel.stepsTo(I)I
def g_Model_stepsTo_4 (a0 : Nat) (h : zH) (k4 : (Int32 × Int32) → Option Int32) (u : Int32 × Int32) : Option Int32 :=
((zrR h a0 7 21).bind fun v5 => ((zaI h v5 u.2).bind fun v9 => (if v9 < 0 then (some u.1)
  else ((zrR h a0 7 21).bind fun v17 => ((zaI h v17 u.2).bind fun v21 => (k4 ((u.1 + (1 : Int32)), v21)))))))
def m_Model_stepsTo (a0 : Nat) (x1 : Int32) (h : zH) : Option Int32 :=
  (zloop (g_Model_stepsTo_4 a0 h) zN ((0 : Int32), x1))
-- AllHomeModel.least(III)I
def g_Model_least_156 (a0 : Nat) (x3 : Int32) (h : zH) (k156 : (Int32 × Int32) → Option (Int32 × zH)) (u : Int32 × Int32) : Option (Int32 × zH) :=
(if u.2 ≤ x3 then ((zrR h a0 7 22).bind fun v178 => ((zaI h v178 u.1).bind fun v183 => (some (v183, h))))
  else ((zrR h a0 7 21).bind fun v163 => ((zaI h v163 u.1).bind fun v168 => (k156 (v168, (u.2 + (-1 : Int32)))))))
def g_Model_least_119 (a0 : Nat) (x3 : Int32) (x5 : Int32) (x6 : Int32) (h : zH) : Option (Int32 × zH) :=
(if x6 = 0 then (some ((-2 : Int32), h))
  else ((zcv h a0 7 (m_Model_stepsTo a0 x5 h)).bind fun v130 => (if 0 ≤ x3 then (if x3 < v130 then (zloop (g_Model_least_156 a0 x3 h) zN (x5, (v130 - (1 : Int32))))
      else (some ((-1 : Int32), h)))
    else (some (v130, h)))))
def g_Model_least_99 (a0 : Nat) (x2 : Int32) (x3 : Int32) (x5 : Int32) (y0 : Int32) (h : zH) (k46 : (Int32 × Int32 × zH) → Option (Int32 × zH)) : Option (Int32 × zH) :=
(if y0 = 0 then (k46 ((x5 + (1 : Int32)), y0, h))
  else (k46 ((x5 + (0 : Int32)), y0, h)))
def g_Model_least_46 (a0 : Nat) (x2 : Int32) (x3 : Int32) (k46 : (Int32 × Int32 × zH) → Option (Int32 × zH)) (u : Int32 × Int32 × zH) : Option (Int32 × zH) :=
(if u.2.1 = 0 then ((zrI u.2.2 a0 7 25).bind fun v54 => (if v54 ≤ u.1 then (g_Model_least_119 a0 x3 u.1 u.2.1 u.2.2)
    else ((zcv u.2.2 a0 7 (m_Model_bringBack a0 u.1 u.2.2)).bind fun h63 => ((zrR h63 a0 7 7).bind fun v67 => ((zaI h63 v67 (87 : Int32)).bind fun v72 => (if v72 = (1 : Int32) then ((zcv h63 a0 7 (m_Model_isOver a0 h63)).bind fun v78 => (if x2 = (1 : Int32) then (if v78 = (1 : Int32) then (g_Model_least_99 a0 x2 x3 u.1 (1 : Int32) h63 k46)
          else (g_Model_least_99 a0 x2 x3 u.1 (0 : Int32) h63 k46))
        else (if v78 = (0 : Int32) then (g_Model_least_99 a0 x2 x3 u.1 (1 : Int32) h63 k46)
          else (g_Model_least_99 a0 x2 x3 u.1 (0 : Int32) h63 k46))))
      else (g_Model_least_99 a0 x2 x3 u.1 (0 : Int32) h63 k46)))))))
  else (g_Model_least_119 a0 x3 u.1 u.2.1 u.2.2))
def m_Model_least (a0 : Nat) (x1 : Int32) (x2 : Int32) (x3 : Int32) (h : zH) : Option (Int32 × zH) :=
  ((zcv h a0 7 (m_Model_isWay a0 x1 h)).bind fun v2 => (if v2 = 0 then (some ((-1 : Int32), h))
  else ((m_Model_within x2.toInt64 (0 : Int64) (1 : Int64) h).bind fun v12 => (if v12 = 0 then (some ((-1 : Int32), h))
    else (if (-1 : Int32) ≤ x3 then (zb2 (zcv h a0 7 (m_Model_noOrders a0 x1 h)) fun v27 h27 => (if 0 ≤ v27 then (zloop (g_Model_least_46 a0 x2 x3) zN ((0 : Int32), (0 : Int32), h27))
        else (some (v27, h27))))
      else (some ((-1 : Int32), h)))))))
-- AllHomeModel.stuck(I)I
def g_Model_stuck_155 (a0 : Nat) (h : zH) (k155 : (Int32 × Int32) → Option (Int32 × zH)) (u : Int32 × Int32) : Option (Int32 × zH) :=
((zrI h a0 7 25).bind fun v158 => (if v158 ≤ u.2 then (some (u.1, h))
  else ((zrR h a0 7 23).bind fun v167 => ((zaZ h v167 u.2).bind fun v172 => (if v172 = 0 then (k155 ((u.1 + (1 : Int32)), (u.2 + (1 : Int32))))
    else (k155 ((u.1 + (0 : Int32)), (u.2 + (1 : Int32)))))))))
def g_Model_stuck_78 (a0 : Nat) (x4 : Int32) (k57 : (Int32 × zH) → Option (Int32 × zH)) (k66 : (Int32 × Int32 × zH) → Option (Int32 × zH)) (k78 : (Int32 × Int32 × zH) → Option (Int32 × zH)) (u : Int32 × Int32 × zH) : Option (Int32 × zH) :=
((zrI u.2.2 a0 7 25).bind fun v81 => (if v81 ≤ u.2.1 then (k66 (u.1, (x4 + (1 : Int32)), u.2.2))
  else ((zrR u.2.2 a0 7 23).bind fun v88 => ((zaZ u.2.2 v88 x4).bind fun v93 => (if v93 = 0 then ((zrR u.2.2 a0 7 24).bind fun v98 => ((zaZ u.2.2 v98 (((151 : Int32) * x4) + u.2.1)).bind fun v110 => (if v110 = 0 then (k78 (u.1, (u.2.1 + (1 : Int32)), u.2.2))
      else ((zrR u.2.2 a0 7 23).bind fun v115 => ((zaZ u.2.2 v115 u.2.1).bind fun v120 => (if v120 = 0 then (k78 (u.1, (u.2.1 + (1 : Int32)), u.2.2))
        else ((zrR u.2.2 a0 7 23).bind fun v125 => ((zsZ u.2.2 v125 x4 (1 : Int32)).bind fun h131 => (k78 ((1 : Int32), (u.2.1 + (1 : Int32)), h131))))))))))
    else (k66 (u.1, (x4 + (1 : Int32)), u.2.2)))))))
def g_Model_stuck_66 (a0 : Nat) (k57 : (Int32 × zH) → Option (Int32 × zH)) (k66 : (Int32 × Int32 × zH) → Option (Int32 × zH)) (u : Int32 × Int32 × zH) : Option (Int32 × zH) :=
((zrI u.2.2 a0 7 25).bind fun v69 => (if v69 ≤ u.2.1 then (k57 (u.1, u.2.2))
  else (zloop (g_Model_stuck_78 a0 u.2.1 k57 k66) zN (u.1, (0 : Int32), u.2.2))))
def g_Model_stuck_57 (a0 : Nat) (k57 : (Int32 × zH) → Option (Int32 × zH)) (u : Int32 × zH) : Option (Int32 × zH) :=
(if u.1 = 0 then (zloop (g_Model_stuck_155 a0 u.2) zN ((0 : Int32), (0 : Int32)))
  else (zloop (g_Model_stuck_66 a0 k57) zN ((0 : Int32), (0 : Int32), u.2)))
def g_Model_stuck_14 (a0 : Nat) (k14 : (Int32 × zH) → Option (Int32 × zH)) (u : Int32 × zH) : Option (Int32 × zH) :=
((zrI u.2 a0 7 25).bind fun v16 => (if v16 ≤ u.1 then (zloop (g_Model_stuck_57 a0) zN ((1 : Int32), u.2))
  else ((zrR u.2 a0 7 23).bind fun v23 => ((zrR u.2 a0 7 20).bind fun v28 => ((zaI u.2 v28 (((91 : Int32) * u.1) + (87 : Int32))).bind fun v38 => (if v38 = (1 : Int32) then ((zsZ u.2 v23 u.1 (1 : Int32)).bind fun h48 => (k14 ((u.1 + (1 : Int32)), h48)))
    else ((zsZ u.2 v23 u.1 (0 : Int32)).bind fun h48 => (k14 ((u.1 + (1 : Int32)), h48)))))))))
def m_Model_stuck (a0 : Nat) (x1 : Int32) (h : zH) : Option (Int32 × zH) :=
  (zb2 (zcv h a0 7 (m_Model_noOrders a0 x1 h)) fun v2 h2 => (if 0 ≤ v2 then (zloop (g_Model_stuck_14 a0) zN ((0 : Int32), h2))
  else (some (v2, h2))))
-- AllHomeModel.worksAlike(II)Z
def g_Model_worksAlike_122 (a0 : Nat) (x3 : Int32) (x4 : Int32) (h : zH) (k122 : (Int32 × Int32) → Option Int32) (u : Int32 × Int32) : Option Int32 :=
(if (8 : Int32) ≤ u.2 then (zbl u.1 (some u.1))
  else (if u.1 = 0 then (k122 ((0 : Int32), (u.2 + (1 : Int32))))
    else ((zrR h a0 7 20).bind fun v135 => ((zaI h v135 (((x3 + (36 : Int32)) + (1 : Int32)) + ((3 : Int32) * u.2))).bind fun v149 => ((zrR h a0 7 20).bind fun v151 => ((zaI h v151 (((x4 + (36 : Int32)) + (1 : Int32)) + ((3 : Int32) * u.2))).bind fun v166 => (if v149 = v166 then ((zrR h a0 7 20).bind fun v171 => ((zaI h v171 (((x3 + (36 : Int32)) + (2 : Int32)) + ((3 : Int32) * u.2))).bind fun v185 => ((zrR h a0 7 20).bind fun v187 => ((zaI h v187 (((x4 + (36 : Int32)) + (2 : Int32)) + ((3 : Int32) * u.2))).bind fun v202 => (if v185 = v202 then (k122 ((1 : Int32), (u.2 + (1 : Int32))))
        else (k122 ((0 : Int32), (u.2 + (1 : Int32)))))))))
      else (k122 ((0 : Int32), (u.2 + (1 : Int32)))))))))))
def g_Model_worksAlike_55 (a0 : Nat) (x3 : Int32) (x4 : Int32) (x6 : Int32) (h : zH) (k43 : (Int32 × Int32) → Option Int32) (k55 : (Int32 × Int32) → Option Int32) (u : Int32 × Int32) : Option Int32 :=
(if (2 : Int32) < u.2 then (k43 (u.1, (x6 + (1 : Int32))))
  else (if u.1 = 0 then (k55 ((0 : Int32), (u.2 + (1 : Int32))))
    else ((zrR h a0 7 20).bind fun v67 => ((zaI h v67 ((x3 + ((6 : Int32) * x6)) + u.2)).bind fun v80 => ((zrR h a0 7 20).bind fun v82 => ((zaI h v82 ((x4 + ((6 : Int32) * x6)) + u.2)).bind fun v96 => (if v80 = v96 then (k55 ((1 : Int32), (u.2 + (1 : Int32))))
      else (k55 ((0 : Int32), (u.2 + (1 : Int32)))))))))))
def g_Model_worksAlike_43 (a0 : Nat) (x3 : Int32) (x4 : Int32) (h : zH) (k43 : (Int32 × Int32) → Option Int32) (u : Int32 × Int32) : Option Int32 :=
((zrI h a0 7 4).bind fun v46 => (if v46 ≤ u.2 then (zloop (g_Model_worksAlike_122 a0 x3 x4 h) zN (u.1, (0 : Int32)))
  else (zloop (g_Model_worksAlike_55 a0 x3 x4 u.2 h k43) zN (u.1, (0 : Int32)))))
def m_Model_worksAlike (a0 : Nat) (x1 : Int32) (x2 : Int32) (h : zH) : Option Int32 :=
  ((zrR h a0 7 20).bind fun v12 => ((zaI h v12 (((91 : Int32) * x1) + (36 : Int32))).bind fun v19 => ((zrR h a0 7 20).bind fun v21 => ((zaI h v21 (((91 : Int32) * x2) + (36 : Int32))).bind fun v29 => (if v19 = v29 then (zloop (g_Model_worksAlike_43 a0 ((91 : Int32) * x1) ((91 : Int32) * x2) h) zN ((1 : Int32), (0 : Int32)))
  else (zloop (g_Model_worksAlike_43 a0 ((91 : Int32) * x1) ((91 : Int32) * x2) h) zN ((0 : Int32), (0 : Int32))))))))
-- AllHomeModel.workMany()I
def g_Model_workMany_17 (a0 : Nat) (x1 : Int32) (x2 : Int32) (h : zH) (k4 : (Int32 × Int32) → Option Int32) (k17 : (Int32 × Int32) → Option Int32) (u : Int32 × Int32) : Option Int32 :=
(if x2 ≤ u.2 then (if u.1 = 0 then (k4 ((x1 + (0 : Int32)), (x2 + (1 : Int32))))
    else (k4 ((x1 + (1 : Int32)), (x2 + (1 : Int32)))))
  else (if u.1 = 0 then (k17 ((0 : Int32), (u.2 + (1 : Int32))))
    else ((zcv h a0 7 (m_Model_worksAlike a0 x2 u.2 h)).bind fun v31 => (if v31 = 0 then (k17 ((1 : Int32), (u.2 + (1 : Int32))))
      else (k17 ((0 : Int32), (u.2 + (1 : Int32))))))))
def g_Model_workMany_4 (a0 : Nat) (h : zH) (k4 : (Int32 × Int32) → Option Int32) (u : Int32 × Int32) : Option Int32 :=
((zrI h a0 7 25).bind fun v6 => (if v6 ≤ u.2 then (some u.1)
  else (zloop (g_Model_workMany_17 a0 u.1 u.2 h k4) zN ((1 : Int32), (0 : Int32)))))
def m_Model_workMany (a0 : Nat) (h : zH) : Option Int32 :=
  (zloop (g_Model_workMany_4 a0 h) zN ((0 : Int32), (0 : Int32)))
-- AllHomeModel.work(II)I
def m_Model_work (a0 : Nat) (x1 : Int32) (x2 : Int32) (h : zH) : Option (Int32 × zH) :=
  ((zcv h a0 7 (m_Model_isWay a0 x1 h)).bind fun v2 => (if v2 = 0 then (some ((-1 : Int32), h))
  else ((m_Model_within x2.toInt64 (0 : Int64) (1 : Int64) h).bind fun v12 => (if v12 = 0 then (some ((-1 : Int32), h))
    else (zb2 (zcv h a0 7 (m_Model_noOrders a0 x1 h)) fun v22 h22 => (if 0 ≤ v22 then ((zcv h22 a0 7 (m_Model_workMany a0 h22)).bind fun v33 => (if x2 = 0 then (some (v33, h22))
        else (zb2 (zcv h22 a0 7 (m_Model_findAll a0 (0 : Int32) h22)) fun v47 h47 => (if 0 ≤ v47 then ((zcv h47 a0 7 (m_Model_workMany a0 h47)).bind fun v62 => (if v33 = v62 then (some ((1 : Int32), h47))
            else (some ((0 : Int32), h47))))
          else (some (v47, h47))))))
      else (some (v22, h22))))))))
-- AllHomeModel.ranBody(I)V
def m_Model_ranBody (a0 : Nat) (x1 : Int32) (h : zH) : Option zH :=
  ((zrI h a0 7 27).bind fun v1 => (if (24 : Int32) ≤ v1 then ((zrI h a0 7 27).bind fun v21 => ((zwI h a0 7 27 (v21 + (1 : Int32))).bind fun h26 => (some h26)))
  else ((zrR h a0 7 26).bind fun v10 => ((zrI h a0 7 27).bind fun v14 => ((zsI h v10 v14 x1).bind fun h18 => ((zrI h18 a0 7 27).bind fun v21 => ((zwI h18 a0 7 27 (v21 + (1 : Int32))).bind fun h26 => (some h26))))))))
-- AllHomeModel.sends(II)I
def g_Model_sends_0 (kk : (Nat × Int32 × Int32 × zH) → Option (Int32 × zH)) (u : Nat × Int32 × Int32 × zH) : Option (Int32 × zH) :=
  (if u.2.1 = (0 : Int32) then ((zcv u.2.2.2 u.1 7 (m_Model_ranBody u.1 (1 : Int32) u.2.2.2)).bind fun h38 => ((zrI h38 u.1 7 28).bind fun v43 => (some ((u.2.2.1 + v43), h38))))
  else (if u.2.1 = (1 : Int32) then ((zcv u.2.2.2 u.1 7 (m_Model_ranBody u.1 (20 : Int32) u.2.2.2)).bind fun h51 => ((m_Model_above (1 : Int32) h51).bind fun v56 => (zb2 (zcv h51 u.1 7 (kk (u.1, v56, u.2.2.1, h51))) fun v60 h60 => (some ((v60 / (2 : Int32)), h60)))))
  else (if u.2.1 = (2 : Int32) then ((m_Model_above u.2.1 u.2.2.2).bind fun v86 => (zb2 (zcv u.2.2.2 u.1 7 (kk (u.1, v86, u.2.2.1, u.2.2.2))) fun v90 h90 => (some (v90, h90))))
  else (if u.2.1 = (3 : Int32) then ((m_Model_above u.2.1 u.2.2.2).bind fun v86 => (zb2 (zcv u.2.2.2 u.1 7 (kk (u.1, v86, u.2.2.1, u.2.2.2))) fun v90 h90 => (some (v90, h90))))
  else (if u.2.1 = (4 : Int32) then ((zcv u.2.2.2 u.1 7 (m_Model_ranBody u.1 (50 : Int32) u.2.2.2)).bind fun h69 => ((m_Model_above (4 : Int32) h69).bind fun v74 => (zb2 (zcv h69 u.1 7 (kk (u.1, v74, u.2.2.1, h69))) fun v78 h78 => (some ((v78 * (3 : Int32)), h78)))))
  else ((m_Model_above u.2.1 u.2.2.2).bind fun v86 => (zb2 (zcv u.2.2.2 u.1 7 (kk (u.1, v86, u.2.2.1, u.2.2.2))) fun v90 h90 => (some (v90, h90)))))))))
def m_Model_sends (n : Nat) (a0 : Nat) (x1 : Int32) (x2 : Int32) (h : zH) : Option (Int32 × zH) := zloop g_Model_sends_0 n (a0, x1, x2, h)
-- AllHomeModel.asksOf(II)I
def g_Model_asksOf_0 (kk : (Nat × Int32 × Int32 × zH) → Option (Int32 × zH)) (u : Nat × Int32 × Int32 × zH) : Option (Int32 × zH) :=
  (if u.2.1 = (0 : Int32) then ((zcv u.2.2.2 u.1 7 (m_Model_ranBody u.1 (10 : Int32) u.2.2.2)).bind fun h39 => ((zrR h39 u.1 7 5).bind fun v44 => ((zrI h39 u.1 7 28).bind fun v48 => ((zaI h39 v44 v48).bind fun v51 => (zb2 (zcv h39 u.1 7 (m_Model_sends 40 u.1 v51 u.2.2.1 h39)) fun v53 h53 => (some ((v53 * (2 : Int32)), h53)))))))
  else (if u.2.1 = (3 : Int32) then ((zcv u.2.2.2 u.1 7 (m_Model_ranBody u.1 (40 : Int32) u.2.2.2)).bind fun h62 => ((m_Model_above (3 : Int32) h62).bind fun v67 => (zb2 (zcv h62 u.1 7 (kk (u.1, v67, u.2.2.1, h62))) fun v71 h71 => (some ((v71 - (1 : Int32)), h71)))))
  else (if u.2.1 = (7 : Int32) then ((zcv u.2.2.2 u.1 7 (m_Model_ranBody u.1 (80 : Int32) u.2.2.2)).bind fun h80 => ((m_Model_above (7 : Int32) h80).bind fun v86 => (zb2 (zcv h80 u.1 7 (kk (u.1, v86, u.2.2.1, h80))) fun v90 h90 => ((m_Model_above (7 : Int32) h90).bind fun v98 => (zb2 (zcv h90 u.1 7 (m_Model_sends 40 u.1 v98 u.2.2.1 h90)) fun v102 h102 => (some ((v90 + v102), h102)))))))
  else ((m_Model_above u.2.1 u.2.2.2).bind fun v109 => (zb2 (zcv u.2.2.2 u.1 7 (kk (u.1, v109, u.2.2.1, u.2.2.2))) fun v113 h113 => (some (v113, h113)))))))
def m_Model_asksOf (n : Nat) (a0 : Nat) (x1 : Int32) (x2 : Int32) (h : zH) : Option (Int32 × zH) := zloop g_Model_asksOf_0 n (a0, x1, x2, h)
-- AllHomeModel.owes(II)I
def g_Model_owes_0 (kk : (Nat × Int32 × Int32 × zH) → Option (Int32 × zH)) (u : Nat × Int32 × Int32 × zH) : Option (Int32 × zH) :=
  (if u.2.1 = (0 : Int32) then ((zcv u.2.2.2 u.1 7 (m_Model_ranBody u.1 (11 : Int32) u.2.2.2)).bind fun h47 => ((zrI h47 u.1 7 28).bind fun v52 => (some ((u.2.2.1 ^^^ v52), h47))))
  else (if u.2.1 = (1 : Int32) then ((m_Model_above u.2.1 u.2.2.2).bind fun v128 => (zb2 (zcv u.2.2.2 u.1 7 (kk (u.1, v128, u.2.2.1, u.2.2.2))) fun v132 h132 => (some (v132, h132))))
  else (if u.2.1 = (2 : Int32) then ((zcv u.2.2.2 u.1 7 (m_Model_ranBody u.1 (30 : Int32) u.2.2.2)).bind fun h60 => ((m_Model_above (2 : Int32) h60).bind fun v65 => (zb2 (zcv h60 u.1 7 (kk (u.1, v65, u.2.2.1, h60))) fun v69 h69 => ((zrR h69 u.1 7 5).bind fun v76 => ((zrI h69 u.1 7 28).bind fun v80 => ((zaI h69 v76 v80).bind fun v83 => (zb2 (zcv h69 u.1 7 (m_Model_sends 40 u.1 v83 (2 : Int32) h69)) fun v85 h85 => (some ((v69 + v85), h85)))))))))
  else (if u.2.1 = (3 : Int32) then ((m_Model_above u.2.1 u.2.2.2).bind fun v128 => (zb2 (zcv u.2.2.2 u.1 7 (kk (u.1, v128, u.2.2.1, u.2.2.2))) fun v132 h132 => (some (v132, h132))))
  else (if u.2.1 = (4 : Int32) then ((m_Model_above u.2.1 u.2.2.2).bind fun v128 => (zb2 (zcv u.2.2.2 u.1 7 (kk (u.1, v128, u.2.2.1, u.2.2.2))) fun v132 h132 => (some (v132, h132))))
  else (if u.2.1 = (5 : Int32) then ((zcv u.2.2.2 u.1 7 (m_Model_ranBody u.1 (61 : Int32) u.2.2.2)).bind fun h93 => ((m_Model_above (5 : Int32) h93).bind fun v98 => (zb2 (zcv h93 u.1 7 (kk (u.1, v98, (u.2.2.1 + (1 : Int32)), h93))) fun v104 h104 => (some (v104, h104)))))
  else (if u.2.1 = (6 : Int32) then ((zcv u.2.2.2 u.1 7 (m_Model_ranBody u.1 (70 : Int32) u.2.2.2)).bind fun h111 => ((m_Model_above (6 : Int32) h111).bind fun v117 => (zb2 (zcv h111 u.1 7 (kk (u.1, v117, u.2.2.1, h111))) fun v121 h121 => (some ((-v121), h121)))))
  else ((m_Model_above u.2.1 u.2.2.2).bind fun v128 => (zb2 (zcv u.2.2.2 u.1 7 (kk (u.1, v128, u.2.2.1, u.2.2.2))) fun v132 h132 => (some (v132, h132)))))))))))
def m_Model_owes (n : Nat) (a0 : Nat) (x1 : Int32) (x2 : Int32) (h : zH) : Option (Int32 × zH) := zloop g_Model_owes_0 n (a0, x1, x2, h)
-- AllHomeModel.tells(II)I
def g_Model_tells_0 (kk : (Nat × Int32 × Int32 × zH) → Option (Int32 × zH)) (u : Nat × Int32 × Int32 × zH) : Option (Int32 × zH) :=
  (if u.2.1 = (0 : Int32) then ((zcv u.2.2.2 u.1 7 (m_Model_ranBody u.1 (2 : Int32) u.2.2.2)).bind fun h38 => ((zrR h38 u.1 7 5).bind fun v43 => ((zrI h38 u.1 7 28).bind fun v47 => ((zaI h38 v43 v47).bind fun v50 => (zb2 (zcv h38 u.1 7 (m_Model_asksOf 40 u.1 v50 u.2.2.1 h38)) fun v52 h52 => ((zrR h52 u.1 7 5).bind fun v59 => ((zrI h52 u.1 7 28).bind fun v63 => ((zaI h52 v59 v63).bind fun v66 => (zb2 (zcv h52 u.1 7 (m_Model_owes 40 u.1 v66 (1 : Int32) h52)) fun v68 h68 => (some ((v52 - v68), h68)))))))))))
  else (if u.2.1 = (5 : Int32) then ((zcv u.2.2.2 u.1 7 (m_Model_ranBody u.1 (60 : Int32) u.2.2.2)).bind fun h76 => ((m_Model_above (5 : Int32) h76).bind fun v81 => (zb2 (zcv h76 u.1 7 (kk (u.1, v81, u.2.2.1, h76))) fun v85 h85 => (some ((v85 ^^^ (5 : Int32)), h85)))))
  else (if u.2.1 = (8 : Int32) then ((zcv u.2.2.2 u.1 7 (m_Model_ranBody u.1 (90 : Int32) u.2.2.2)).bind fun h94 => ((m_Model_above (8 : Int32) h94).bind fun v100 => (zb2 (zcv h94 u.1 7 (kk (u.1, v100, u.2.2.1, h94))) fun v104 h104 => (some ((v104 * (2 : Int32)), h104)))))
  else ((m_Model_above u.2.1 u.2.2.2).bind fun v112 => (zb2 (zcv u.2.2.2 u.1 7 (kk (u.1, v112, u.2.2.1, u.2.2.2))) fun v116 h116 => (some (v116, h116)))))))
def m_Model_tells (n : Nat) (a0 : Nat) (x1 : Int32) (x2 : Int32) (h : zH) : Option (Int32 × zH) := zloop g_Model_tells_0 n (a0, x1, x2, h)
-- AllHomeModel.act(III)I
def m_Model_act (a0 : Nat) (x1 : Int32) (x2 : Int32) (x3 : Int32) (h : zH) : Option (Int32 × zH) :=
  ((zwI h a0 7 27 (0 : Int32)).bind fun h2 => ((zcv h2 a0 7 (m_Model_isWay a0 x1 h2)).bind fun v7 => (if v7 = 0 then (some ((0 : Int32), h2))
  else ((m_Model_within x2.toInt64 (0 : Int64) (3 : Int64) h2).bind fun v19 => (if v19 = 0 then (some ((0 : Int32), h2))
    else ((zwI h2 a0 7 28 x1).bind fun h29 => (if x2 = 0 then ((zrR h29 a0 7 5).bind fun v38 => ((zaI h29 v38 x1).bind fun v42 => (zb2 (zcv h29 a0 7 (m_Model_sends 40 a0 v42 x3 h29)) fun v44 h44 => (some (v44, h44)))))
      else (if x2 = (1 : Int32) then ((zrR h29 a0 7 5).bind fun v57 => ((zaI h29 v57 x1).bind fun v61 => (zb2 (zcv h29 a0 7 (m_Model_asksOf 40 a0 v61 x3 h29)) fun v63 h63 => (some (v63, h63)))))
        else (if x2 = (2 : Int32) then ((zrR h29 a0 7 5).bind fun v76 => ((zaI h29 v76 x1).bind fun v80 => (zb2 (zcv h29 a0 7 (m_Model_owes 40 a0 v80 x3 h29)) fun v82 h82 => (some (v82, h82)))))
          else ((zrR h29 a0 7 5).bind fun v90 => ((zaI h29 v90 x1).bind fun v94 => (zb2 (zcv h29 a0 7 (m_Model_tells 40 a0 v94 x3 h29)) fun v96 h96 => (some (v96, h96))))))))))))))
-- AllHomeModel.trace(I)I
def m_Model_trace (a0 : Nat) (x1 : Int32) (h : zH) : Option Int32 :=
  (if x1 < 0 then (some (-1 : Int32))
  else ((zrI h a0 7 27).bind fun v6 => (if v6 ≤ x1 then (some (-1 : Int32))
    else (if (24 : Int32) ≤ x1 then (some (-1 : Int32))
      else ((zrR h a0 7 26).bind fun v19 => ((zaI h v19 x1).bind fun v23 => (some v23)))))))
-- AllHomeModel.keep(II)I
def g_Model_keep_22 (a0 : Nat) (x1 : Int32) (x2 : Int32) (h : zH) : Option (Int32 × zH) :=
((zrR h a0 7 29).bind fun v23 => ((zsI h v23 x1 x2).bind fun h28 => ((zrR h28 a0 7 30).bind fun v30 => ((zsI h28 v30 x1 (0 : Int32)).bind fun h35 => (some ((1 : Int32), h35))))))
def m_Model_keep (a0 : Nat) (x1 : Int32) (x2 : Int32) (h : zH) : Option (Int32 × zH) :=
  ((m_Model_isShelf x1 h).bind fun v1 => (if v1 = 0 then (some ((-1 : Int32), h))
  else (if x2 = (-1 : Int32) then (g_Model_keep_22 a0 x1 x2 h)
    else ((zcv h a0 7 (m_Model_isWay a0 x2 h)).bind fun v14 => (if v14 = 0 then (some ((-1 : Int32), h))
      else (g_Model_keep_22 a0 x1 x2 h))))))
-- AllHomeModel.row(III)I
def g_Model_row_57 (a0 : Nat) (x1 : Int32) (k57 : (Int32 × zH) → Option (Int32 × zH)) (u : Int32 × zH) : Option (Int32 × zH) :=
(if (((60 : Int32) * x1) + (60 : Int32)) ≤ u.1 then (some ((1 : Int32), u.2))
  else ((zrR u.2 a0 7 31).bind fun v70 => ((zsJ u.2 v70 u.1 (0 : Int64)).bind fun h76 => (k57 ((u.1 + (1 : Int32)), h76)))))
def m_Model_row (a0 : Nat) (x1 : Int32) (x2 : Int32) (x3 : Int32) (h : zH) : Option (Int32 × zH) :=
  ((m_Model_isShelf x1 h).bind fun v1 => (if v1 = 0 then (some ((-1 : Int32), h))
  else ((m_Model_within x2.toInt64 (0 : Int64) (4 : Int64) h).bind fun v13 => (if v13 = 0 then (some ((-1 : Int32), h))
    else (if x3 ≤ (60 : Int32) then (if 0 ≤ x3 then ((zrR h a0 7 29).bind fun v35 => ((zsI h v35 x1 ((10 : Int32) + x2)).bind fun h43 => ((zrR h43 a0 7 30).bind fun v45 => ((zsI h43 v45 x1 x3).bind fun h50 => (zloop (g_Model_row_57 a0 x1) zN (((60 : Int32) * x1), h50))))))
        else (some ((-14 : Int32), h)))
      else (some ((-1 : Int32), h)))))))
-- AllHomeModel.refusal(II)I
def m_Model_refusal (a0 : Nat) (x1 : Int32) (x2 : Int32) (h : zH) : Option Int32 :=
  ((m_Model_isShelf x1 h).bind fun v1 => (if v1 = 0 then (some (-1 : Int32))
  else ((zrR h a0 7 29).bind fun v10 => ((zaI h v10 x1).bind fun v14 => (if 0 ≤ v14 then ((zrR h a0 7 29).bind fun v22 => ((zaI h v22 x1).bind fun v26 => (if (10 : Int32) ≤ v26 then (if x2 < 0 then (some (-13 : Int32))
        else ((zrR h a0 7 30).bind fun v41 => ((zaI h v41 x1).bind fun v45 => (if v45 ≤ x2 then (some (-13 : Int32))
          else (some (0 : Int32))))))
      else (some (-12 : Int32)))))
    else (some (-11 : Int32)))))))
-- AllHomeModel.asSort(IJ)J
def m_Model_asSort (x0 : Int32) (x1 : Int64) (h : zH) : Option Int64 :=
  (if x0 = 0 then (some x1.toInt32.toInt8.toInt32.toInt64)
  else (if x0 = (1 : Int32) then (some x1.toInt32.toInt16.toInt32.toInt64)
    else (if x0 = (2 : Int32) then (some x1.toInt32.toInt64)
      else (if x0 = (4 : Int32) then (if (lg_cmp x1 (0 : Int64)) = 0 then (some (0 : Int64))
          else (some (1 : Int64)))
        else (some x1)))))
-- AllHomeModel.put(IIJ)I
def m_Model_put (a0 : Nat) (x1 : Int32) (x2 : Int32) (x3 : Int64) (h : zH) : Option (Int32 × zH) :=
  ((zcv h a0 7 (m_Model_refusal a0 x1 x2 h)).bind fun v3 => (if v3 = 0 then ((zrR h a0 7 31).bind fun v14 => ((zrR h a0 7 29).bind fun v24 => ((zaI h v24 x1).bind fun v28 => ((m_Model_asSort (v28 - (10 : Int32)) x3 h).bind fun v33 => ((zsJ h v14 (((60 : Int32) * x1) + x2) v33).bind fun h36 => (if v3 = 0 then (some ((1 : Int32), h36))
    else (some (v3, h36))))))))
  else (if v3 = 0 then (some ((1 : Int32), h))
    else (some (v3, h)))))
-- AllHomeModel.element(II)J
def m_Model_element (a0 : Nat) (x1 : Int32) (x2 : Int32) (h : zH) : Option Int64 :=
  ((zcv h a0 7 (m_Model_refusal a0 x1 x2 h)).bind fun v3 => (if v3 = 0 then ((zrR h a0 7 31).bind fun v16 => ((zaJ h v16 (((60 : Int32) * x1) + x2)).bind fun v25 => (some v25)))
  else (some (-9223372036854775808 : Int64))))
-- AllHomeModel.shift(IIIII)I
def g_Model_shift_150 (a0 : Nat) (x3 : Int32) (x4 : Int32) (x5 : Int32) (k150 : (Int32 × zH) → Option (Int32 × zH)) (u : Int32 × zH) : Option (Int32 × zH) :=
(if x5 ≤ u.1 then (some (x5, u.2))
  else ((zrR u.2 a0 7 31).bind fun v158 => ((zrR u.2 a0 7 32).bind fun v172 => ((zaJ u.2 v172 u.1).bind fun v177 => ((zsJ u.2 v158 ((((60 : Int32) * x3) + x4) + u.1) v177).bind fun h178 => (k150 ((u.1 + (1 : Int32)), h178)))))))
def g_Model_shift_113 (a0 : Nat) (x1 : Int32) (x2 : Int32) (x3 : Int32) (x4 : Int32) (x5 : Int32) (k113 : (Int32 × zH) → Option (Int32 × zH)) (u : Int32 × zH) : Option (Int32 × zH) :=
(if x5 ≤ u.1 then (zloop (g_Model_shift_150 a0 x3 x4 x5) zN ((0 : Int32), u.2))
  else ((zrR u.2 a0 7 32).bind fun v121 => ((zrR u.2 a0 7 31).bind fun v127 => ((zaJ u.2 v127 ((((60 : Int32) * x1) + x2) + u.1)).bind fun v139 => ((zsJ u.2 v121 u.1 v139).bind fun h140 => (k113 ((u.1 + (1 : Int32)), h140)))))))
def m_Model_shift (a0 : Nat) (x1 : Int32) (x2 : Int32) (x3 : Int32) (x4 : Int32) (x5 : Int32) (h : zH) : Option (Int32 × zH) :=
  ((m_Model_isShelf x1 h).bind fun v1 => (if v1 = 0 then (some ((-1 : Int32), h))
  else ((m_Model_isShelf x3 h).bind fun v8 => (if v8 = 0 then (some ((-1 : Int32), h))
    else ((zrR h a0 7 29).bind fun v17 => ((zaI h v17 x1).bind fun v21 => (if v21 < 0 then (some ((-11 : Int32), h))
      else ((zrR h a0 7 29).bind fun v26 => ((zaI h v26 x3).bind fun v30 => (if 0 ≤ v30 then ((zrR h a0 7 29).bind fun v38 => ((zaI h v38 x1).bind fun v42 => (if v42 < (10 : Int32) then (some ((-12 : Int32), h))
          else ((zrR h a0 7 29).bind fun v49 => ((zaI h v49 x1).bind fun v53 => ((zrR h a0 7 29).bind fun v55 => ((zaI h v55 x3).bind fun v59 => (if v53 = v59 then (if x5 < 0 then (some ((-13 : Int32), h))
              else (if x2 < 0 then (some ((-13 : Int32), h))
                else (if x4 < 0 then (some ((-13 : Int32), h))
                  else ((zrR h a0 7 30).bind fun v82 => ((zaI h v82 x1).bind fun v86 => (if (v86 - x5) < x2 then (some ((-13 : Int32), h))
                    else ((zrR h a0 7 30).bind fun v96 => ((zaI h v96 x3).bind fun v100 => (if x4 ≤ (v100 - x5) then (zloop (g_Model_shift_113 a0 x1 x2 x3 x4 x5) zN ((0 : Int32), h))
                      else (some ((-13 : Int32), h)))))))))))
            else (some ((-12 : Int32), h))))))))))
        else (some ((-11 : Int32), h))))))))))))
-- AllHomeModel.taken(II)I
def g_Model_taken_76 (a0 : Nat) (x1 : Int32) (x2 : Int32) (x3 : Int32) (h : zH) : Option Int32 :=
(if x3 = x2 then ((zrR h a0 7 5).bind fun v82 => ((zrR h a0 7 29).bind fun v86 => ((zaI h v86 x1).bind fun v90 => ((zaI h v82 v90).bind fun v91 => (some v91)))))
  else (some (-12 : Int32)))
def g_Model_taken_59 (a0 : Nat) (x1 : Int32) (x2 : Int32) (h : zH) (k59 : (Int32) → Option Int32) (u : Int32) : Option Int32 :=
(if u = x2 then (g_Model_taken_76 a0 x1 x2 u h)
  else (if u ≤ 0 then (g_Model_taken_76 a0 x1 x2 u h)
    else ((m_Model_above u h).bind fun v69 => (k59 v69))))
def m_Model_taken (a0 : Nat) (x1 : Int32) (x2 : Int32) (h : zH) : Option Int32 :=
  ((m_Model_isShelf x1 h).bind fun v1 => (if v1 = 0 then (some (-1 : Int32))
  else ((m_Model_within x2.toInt64 (0 : Int64) (8 : Int64) h).bind fun v13 => (if v13 = 0 then (some (-1 : Int32))
    else ((zrR h a0 7 29).bind fun v22 => ((zaI h v22 x1).bind fun v26 => (if 0 ≤ v26 then ((zrR h a0 7 29).bind fun v34 => ((zaI h v34 x1).bind fun v38 => (if v38 < (10 : Int32) then ((zrR h a0 7 5).bind fun v48 => ((zrR h a0 7 29).bind fun v52 => ((zaI h v52 x1).bind fun v56 => ((zaI h v48 v56).bind fun v57 => (zloop (g_Model_taken_59 a0 x1 x2 h) zN v57)))))
        else (some (-12 : Int32)))))
      else (some (-11 : Int32)))))))))
-- AllHomeModel.count(I)I
def m_Model_count (a0 : Nat) (x1 : Int32) (h : zH) : Option Int32 :=
  (if x1 = (0 : Int32) then ((zrI h a0 7 4).bind fun v37 => (some v37))
  else (if x1 = (1 : Int32) then ((zrI h a0 7 6).bind fun v42 => (some v42))
  else (if x1 = (2 : Int32) then ((zrI h a0 7 19).bind fun v47 => (some v47))
  else (if x1 = (3 : Int32) then ((zrI h a0 7 1).bind fun v52 => (some v52))
  else (if x1 = (4 : Int32) then ((zrI h a0 7 27).bind fun v57 => (some v57))
  else (some (-1 : Int32)))))))
end
section
/-! names of the methods, words of the tables, facts on fields and calls: by program -/
def y_Huts_init : MethodName := ⟨"AllHome$Huts", "<init>", "()V"⟩
def y_Rules_init : MethodName := ⟨"AllHome$Rules", "<init>", "(LAllHome$Huts;)V"⟩
def y_Orders_init : MethodName := ⟨"AllHome$Orders", "<init>", "(LAllHome$Huts;)V"⟩
def y_Acts_init : MethodName := ⟨"AllHome$Acts", "<init>", "()V"⟩
def y_Run_init : MethodName := ⟨"AllHome$Run", "<init>", "(LAllHome$Huts;)V"⟩
def y_Shelf_init : MethodName := ⟨"AllHome$Shelf", "<init>", "()V"⟩
def y_Home_init : MethodName := ⟨"AllHome", "<init>", "()V"⟩
def y_Home_feed : MethodName := ⟨"AllHome", "feed", "(II)I"⟩
def y_Huts_size : MethodName := ⟨"AllHome$Huts", "size", "()I"⟩
def y_Huts_addWords : MethodName := ⟨"AllHome$Huts", "addWords", "(III)I"⟩
def y_Huts_read : MethodName := ⟨"AllHome$Huts", "read", "([II)I"⟩
def y_Orders_forget : MethodName := ⟨"AllHome$Orders", "forget", "()V"⟩
def y_Home_hut : MethodName := ⟨"AllHome", "hut", "()I"⟩
def y_Huts_has : MethodName := ⟨"AllHome$Huts", "has", "(I)Z"⟩
def y_Huts_linesOf : MethodName := ⟨"AllHome$Huts", "linesOf", "(I)I"⟩
def y_Huts_wordsOf : MethodName := ⟨"AllHome$Huts", "wordsOf", "(II)I"⟩
def y_Home_line : MethodName := ⟨"AllHome", "line", "(II)I"⟩
def y_Huts_goal : MethodName := ⟨"AllHome$Huts", "goal", "(III)I"⟩
def y_Home_goesTo : MethodName := ⟨"AllHome", "goesTo", "(III)I"⟩
def y_Home_isKind : MethodName := ⟨"AllHome", "isKind", "(I)Z"⟩
def y_Home_way : MethodName := ⟨"AllHome", "way", "(I)I"⟩
def y_Home_isWay : MethodName := ⟨"AllHome", "isWay", "(I)Z"⟩
def y_Home_kindOf : MethodName := ⟨"AllHome", "kindOf", "(I)I"⟩
def y_Fill_I : MethodName := ⟨"java/util/Arrays", "fill", "([II)V"⟩
def y_Rules_begin : MethodName := ⟨"AllHome$Rules", "begin", "([II)V"⟩
def y_Run_begin : MethodName := ⟨"AllHome$Run", "begin", "(II)V"⟩
def y_Home_run : MethodName := ⟨"AllHome", "run", "(I)I"⟩
def y_Home_isRun : MethodName := ⟨"AllHome", "isRun", "(I)Z"⟩
def y_Rules_partUnits : MethodName := ⟨"AllHome$Rules", "partUnits", "([II)I"⟩
def y_Rules_send : MethodName := ⟨"AllHome$Rules", "send", "([III)I"⟩
def y_Rules_sendNote : MethodName := ⟨"AllHome$Rules", "sendNote", "([IIII)I"⟩
def y_Rules_goOn : MethodName := ⟨"AllHome$Rules", "goOn", "([II)I"⟩
def y_Rules_closeGap : MethodName := ⟨"AllHome$Rules", "closeGap", "([III)V"⟩
def y_Rules_takeAwayWord : MethodName := ⟨"AllHome$Rules", "takeAwayWord", "([II)V"⟩
def y_Rules_joinTree : MethodName := ⟨"AllHome$Rules", "joinTree", "([III)I"⟩
def y_Rules_comeWord : MethodName := ⟨"AllHome$Rules", "comeWord", "([II)I"⟩
def y_Rules_takeStone : MethodName := ⟨"AllHome$Rules", "takeStone", "([IIII)I"⟩
def y_Rules_takeSums : MethodName := ⟨"AllHome$Rules", "takeSums", "([IIII)I"⟩
def y_Rules_comeNote : MethodName := ⟨"AllHome$Rules", "comeNote", "([II)I"⟩
def y_Home_isUnder : MethodName := ⟨"AllHome", "isUnder", "(II)Z"⟩
def y_Rules_ask : MethodName := ⟨"AllHome$Rules", "ask", "([II)I"⟩
def y_Rules_lose : MethodName := ⟨"AllHome$Rules", "lose", "([II)I"⟩
def y_Rules_leaveTree : MethodName := ⟨"AllHome$Rules", "leaveTree", "([I)I"⟩
def y_Rules_seesAllHome : MethodName := ⟨"AllHome$Rules", "seesAllHome", "([I)Z"⟩
def y_Rules_apply : MethodName := ⟨"AllHome$Rules", "apply", "([III)I"⟩
def y_Home_isOver : MethodName := ⟨"AllHome", "isOver", "([I)Z"⟩
def y_Run_advance : MethodName := ⟨"AllHome$Run", "advance", "([III)I"⟩
def y_Home_step : MethodName := ⟨"AllHome", "step", "(III)I"⟩
def y_Home_isShelf : MethodName := ⟨"AllHome", "isShelf", "(I)Z"⟩
def y_Shelf_isEmpty : MethodName := ⟨"AllHome$Shelf", "isEmpty", "()Z"⟩
def y_Shelf_isRowOf : MethodName := ⟨"AllHome$Shelf", "isRowOf", "(I)Z"⟩
def y_Shelf_hasPlace : MethodName := ⟨"AllHome$Shelf", "hasPlace", "(I)Z"⟩
def y_Shelf_at : MethodName := ⟨"AllHome$Shelf", "at", "(I)J"⟩
def y_Home_steps : MethodName := ⟨"AllHome", "steps", "(IIII)I"⟩
def y_Run_hutsAwake : MethodName := ⟨"AllHome$Run", "hutsAwake", "()I"⟩
def y_Run_tell : MethodName := ⟨"AllHome$Run", "tell", "(I)I"⟩
def y_Home_ofRun : MethodName := ⟨"AllHome", "ofRun", "(II)I"⟩
def y_Rules_family : MethodName := ⟨"AllHome$Rules", "family", "()I"⟩
def y_Run_family : MethodName := ⟨"AllHome$Run", "family", "()I"⟩
def y_Run_cell : MethodName := ⟨"AllHome$Run", "cell", "(I)I"⟩
def y_Home_ofHut : MethodName := ⟨"AllHome", "ofHut", "(III)I"⟩
def y_Home_word : MethodName := ⟨"AllHome", "word", "(III)I"⟩
def y_Home_note : MethodName := ⟨"AllHome", "note", "(III)I"⟩
def y_Home_total : MethodName := ⟨"AllHome", "total", "(I)I"⟩
def y_Orders_printOf : MethodName := ⟨"AllHome$Orders", "printOf", "([I)I"⟩
def y_Orders_addSpare : MethodName := ⟨"AllHome$Orders", "addSpare", "(II)I"⟩
def y_Orders_numbersOf : MethodName := ⟨"AllHome$Orders", "numbersOf", "([II)I"⟩
def y_Orders_alike : MethodName := ⟨"AllHome$Orders", "alike", "([I[II)Z"⟩
def y_Orders_findSpare : MethodName := ⟨"AllHome$Orders", "findSpare", "()I"⟩
def y_Orders_tryStep : MethodName := ⟨"AllHome$Orders", "tryStep", "(III)V"⟩
def y_Orders_explore : MethodName := ⟨"AllHome$Orders", "explore", "(I)V"⟩
def y_Orders_isBig : MethodName := ⟨"AllHome$Orders", "isBig", "()Z"⟩
def y_Home_goThrough : MethodName := ⟨"AllHome", "goThrough", "(I)I"⟩
def y_Orders_size : MethodName := ⟨"AllHome$Orders", "size", "()I"⟩
def y_Home_states : MethodName := ⟨"AllHome", "states", "(I)I"⟩
def y_Orders_firstSaying : MethodName := ⟨"AllHome$Orders", "firstSaying", "(Z)I"⟩
def y_Orders_early : MethodName := ⟨"AllHome$Orders", "early", "()I"⟩
def y_Orders_soon : MethodName := ⟨"AllHome$Orders", "soon", "()I"⟩
def y_Orders_stepsTo : MethodName := ⟨"AllHome$Orders", "stepsTo", "(I)I"⟩
def y_Orders_stepOnTheWayTo : MethodName := ⟨"AllHome$Orders", "stepOnTheWayTo", "(II)I"⟩
def y_Home_least : MethodName := ⟨"AllHome", "least", "(III)I"⟩
def y_Orders_spreadCanSay : MethodName := ⟨"AllHome$Orders", "spreadCanSay", "()Z"⟩
def y_Orders_stuckStates : MethodName := ⟨"AllHome$Orders", "stuckStates", "()I"⟩
def y_Home_stuck : MethodName := ⟨"AllHome", "stuck", "(I)I"⟩
def y_Orders_unlikeWorks : MethodName := ⟨"AllHome$Orders", "unlikeWorks", "()I"⟩
def y_Home_work : MethodName := ⟨"AllHome", "work", "(II)I"⟩
def y_Acts_clear : MethodName := ⟨"AllHome$Acts", "clear", "()V"⟩
def y_Acts_bodyOf : MethodName := ⟨"AllHome$Acts", "bodyOf", "(II)I"⟩
def y_Acts_begun : MethodName := ⟨"AllHome$Acts", "begun", "(I)V"⟩
def y_Acts_perform : MethodName := ⟨"AllHome$Acts", "perform", "(IIII)I"⟩
def y_Acts_begin : MethodName := ⟨"AllHome$Acts", "begin", "(IIII)I"⟩
def y_Home_act : MethodName := ⟨"AllHome", "act", "(III)I"⟩
def y_Acts_traced : MethodName := ⟨"AllHome$Acts", "traced", "(I)I"⟩
def y_Home_trace : MethodName := ⟨"AllHome", "trace", "(I)I"⟩
def y_Shelf_holdWay : MethodName := ⟨"AllHome$Shelf", "holdWay", "(I)V"⟩
def y_Home_keep : MethodName := ⟨"AllHome", "keep", "(II)I"⟩
def y_Fill_J : MethodName := ⟨"java/util/Arrays", "fill", "([JJ)V"⟩
def y_Shelf_holdRow : MethodName := ⟨"AllHome$Shelf", "holdRow", "(II)V"⟩
def y_Home_row : MethodName := ⟨"AllHome", "row", "(III)I"⟩
def y_Shelf_isRow : MethodName := ⟨"AllHome$Shelf", "isRow", "()Z"⟩
def y_Home_wantPlace : MethodName := ⟨"AllHome", "wantPlace", "(II)I"⟩
def y_Shelf_lowestBits : MethodName := ⟨"AllHome$Shelf", "lowestBits", "(J)J"⟩
def y_Shelf_set : MethodName := ⟨"AllHome$Shelf", "set", "(IJ)V"⟩
def y_Home_put : MethodName := ⟨"AllHome", "put", "(IIJ)I"⟩
def y_Home_element : MethodName := ⟨"AllHome", "element", "(II)J"⟩
def y_Shelf_sort : MethodName := ⟨"AllHome$Shelf", "sort", "()I"⟩
def y_Shelf_hasPlaces : MethodName := ⟨"AllHome$Shelf", "hasPlaces", "(II)Z"⟩
def y_Shelf_copyTo : MethodName := ⟨"AllHome$Shelf", "copyTo", "(ILAllHome$Shelf;II)V"⟩
def y_Home_shift : MethodName := ⟨"AllHome", "shift", "(IIIII)I"⟩
def y_Shelf_heldWay : MethodName := ⟨"AllHome$Shelf", "heldWay", "()I"⟩
def y_Home_taken : MethodName := ⟨"AllHome", "taken", "(II)I"⟩
def y_Acts_ran : MethodName := ⟨"AllHome$Acts", "ran", "()I"⟩
def y_Home_count : MethodName := ⟨"AllHome", "count", "(I)I"⟩
def y_Model_init : MethodName := ⟨"AllHomeModel", "<init>", "()V"⟩
def y_Model_within : MethodName := ⟨"AllHomeModel", "within", "(JJJ)Z"⟩
def y_Model_isHut : MethodName := ⟨"AllHomeModel", "isHut", "(I)Z"⟩
def y_Model_isWay : MethodName := ⟨"AllHomeModel", "isWay", "(I)Z"⟩
def y_Model_feed : MethodName := ⟨"AllHomeModel", "feed", "(II)I"⟩
def y_Model_isOther : MethodName := ⟨"AllHomeModel", "isOther", "(II)Z"⟩
def y_Model_faultOf : MethodName := ⟨"AllHomeModel", "faultOf", "(I)I"⟩
def y_Model_hut : MethodName := ⟨"AllHomeModel", "hut", "()I"⟩
def y_Model_lines : MethodName := ⟨"AllHomeModel", "lines", "(I)I"⟩
def y_Model_inLine : MethodName := ⟨"AllHomeModel", "inLine", "(III)I"⟩
def y_Model_line : MethodName := ⟨"AllHomeModel", "line", "(II)I"⟩
def y_Model_goesTo : MethodName := ⟨"AllHomeModel", "goesTo", "(III)I"⟩
def y_Model_way : MethodName := ⟨"AllHomeModel", "way", "(I)I"⟩
def y_Model_kindOf : MethodName := ⟨"AllHomeModel", "kindOf", "(I)I"⟩
def y_Model_above : MethodName := ⟨"AllHomeModel", "above", "(I)I"⟩
def y_Model_isUnder : MethodName := ⟨"AllHomeModel", "isUnder", "(II)Z"⟩
def y_Model_begin : MethodName := ⟨"AllHomeModel", "begin", "(I)V"⟩
def y_Model_of : MethodName := ⟨"AllHomeModel", "of", "(II)I"⟩
def y_Model_add : MethodName := ⟨"AllHomeModel", "add", "(III)V"⟩
def y_Model_become : MethodName := ⟨"AllHomeModel", "become", "(III)V"⟩
def y_Model_words : MethodName := ⟨"AllHomeModel", "words", "()I"⟩
def y_Model_notes : MethodName := ⟨"AllHomeModel", "notes", "()I"⟩
def y_Model_putLast : MethodName := ⟨"AllHomeModel", "putLast", "(IIII)V"⟩
def y_Model_takeOut : MethodName := ⟨"AllHomeModel", "takeOut", "(II)V"⟩
def y_Model_sendNote : MethodName := ⟨"AllHomeModel", "sendNote", "(III)V"⟩
def y_Model_sendWord : MethodName := ⟨"AllHomeModel", "sendWord", "(II)V"⟩
def y_Model_goOn : MethodName := ⟨"AllHomeModel", "goOn", "(I)Z"⟩
def y_Model_comes : MethodName := ⟨"AllHomeModel", "comes", "(I)Z"⟩
def y_Model_stoneAt : MethodName := ⟨"AllHomeModel", "stoneAt", "(III)V"⟩
def y_Model_sumsAt : MethodName := ⟨"AllHomeModel", "sumsAt", "(III)V"⟩
def y_Model_noteComes : MethodName := ⟨"AllHomeModel", "noteComes", "(I)Z"⟩
def y_Model_asks : MethodName := ⟨"AllHomeModel", "asks", "(I)Z"⟩
def y_Model_behind : MethodName := ⟨"AllHomeModel", "behind", "()V"⟩
def y_Model_doStep : MethodName := ⟨"AllHomeModel", "doStep", "(II)I"⟩
def y_Model_isOver : MethodName := ⟨"AllHomeModel", "isOver", "()Z"⟩
def y_Model_keepRun : MethodName := ⟨"AllHomeModel", "keepRun", "(I)V"⟩
def y_Model_takeRun : MethodName := ⟨"AllHomeModel", "takeRun", "(I)V"⟩
def y_Model_run : MethodName := ⟨"AllHomeModel", "run", "(I)I"⟩
def y_Model_isRun : MethodName := ⟨"AllHomeModel", "isRun", "(I)Z"⟩
def y_Model_stepOf : MethodName := ⟨"AllHomeModel", "stepOf", "(III)I"⟩
def y_Model_step : MethodName := ⟨"AllHomeModel", "step", "(III)I"⟩
def y_Model_isShelf : MethodName := ⟨"AllHomeModel", "isShelf", "(I)Z"⟩
def y_Model_steps : MethodName := ⟨"AllHomeModel", "steps", "(IIII)I"⟩
def y_Model_ofRun : MethodName := ⟨"AllHomeModel", "ofRun", "(II)I"⟩
def y_Model_ofHut : MethodName := ⟨"AllHomeModel", "ofHut", "(III)I"⟩
def y_Model_word : MethodName := ⟨"AllHomeModel", "word", "(III)I"⟩
def y_Model_note : MethodName := ⟨"AllHomeModel", "note", "(III)I"⟩
def y_Model_total : MethodName := ⟨"AllHomeModel", "total", "(I)I"⟩
def y_Model_bringBack : MethodName := ⟨"AllHomeModel", "bringBack", "(I)V"⟩
def y_Model_findState : MethodName := ⟨"AllHomeModel", "findState", "()I"⟩
def y_Model_keepState : MethodName := ⟨"AllHomeModel", "keepState", "(II)V"⟩
def y_Model_goFrom : MethodName := ⟨"AllHomeModel", "goFrom", "(I)V"⟩
def y_Model_findAll : MethodName := ⟨"AllHomeModel", "findAll", "(I)I"⟩
def y_Model_noOrders : MethodName := ⟨"AllHomeModel", "noOrders", "(I)I"⟩
def y_Model_states : MethodName := ⟨"AllHomeModel", "states", "(I)I"⟩
def y_Model_stepsTo : MethodName := ⟨"AllHomeModel", "stepsTo", "(I)I"⟩
def y_Model_least : MethodName := ⟨"AllHomeModel", "least", "(III)I"⟩
def y_Model_stuck : MethodName := ⟨"AllHomeModel", "stuck", "(I)I"⟩
def y_Model_worksAlike : MethodName := ⟨"AllHomeModel", "worksAlike", "(II)Z"⟩
def y_Model_workMany : MethodName := ⟨"AllHomeModel", "workMany", "()I"⟩
def y_Model_work : MethodName := ⟨"AllHomeModel", "work", "(II)I"⟩
def y_Model_ranBody : MethodName := ⟨"AllHomeModel", "ranBody", "(I)V"⟩
def y_Model_sends : MethodName := ⟨"AllHomeModel", "sends", "(II)I"⟩
def y_Model_asksOf : MethodName := ⟨"AllHomeModel", "asksOf", "(II)I"⟩
def y_Model_owes : MethodName := ⟨"AllHomeModel", "owes", "(II)I"⟩
def y_Model_tells : MethodName := ⟨"AllHomeModel", "tells", "(II)I"⟩
def y_Model_act : MethodName := ⟨"AllHomeModel", "act", "(III)I"⟩
def y_Model_trace : MethodName := ⟨"AllHomeModel", "trace", "(I)I"⟩
def y_Model_keep : MethodName := ⟨"AllHomeModel", "keep", "(II)I"⟩
def y_Model_row : MethodName := ⟨"AllHomeModel", "row", "(III)I"⟩
def y_Model_refusal : MethodName := ⟨"AllHomeModel", "refusal", "(II)I"⟩
def y_Model_asSort : MethodName := ⟨"AllHomeModel", "asSort", "(IJ)J"⟩
def y_Model_put : MethodName := ⟨"AllHomeModel", "put", "(IIJ)I"⟩
def y_Model_element : MethodName := ⟨"AllHomeModel", "element", "(II)J"⟩
def y_Model_shift : MethodName := ⟨"AllHomeModel", "shift", "(IIIII)I"⟩
def y_Model_taken : MethodName := ⟨"AllHomeModel", "taken", "(II)I"⟩
def y_Model_count : MethodName := ⟨"AllHomeModel", "count", "(I)I"⟩
theorem kw178 : (Jvm.Cond.fieldLink "AllHome" (59 : Nat) "AllHome" "tapeLength" "I") ∈ zTb := zTb_in (List.mem_of_getElem? (i := 244) (by decide +kernel)) (by decide +kernel)
theorem kw177 : (Jvm.Cond.fieldLink "AllHome" (9 : Nat) "AllHome" "tape" "[I") ∈ zTb := zTb_in (List.mem_of_getElem? (i := 243) (by decide +kernel)) (by decide +kernel)
theorem kw31 : (Jvm.Cond.fieldLink "AllHome$Huts" (23 : Nat) "AllHome$Huts" "size" "I") ∈ zTb := zTb_in (List.mem_of_getElem? (i := 97) (by decide +kernel)) (by decide +kernel)
theorem kw234 : (Jvm.Cond.methodLink "AllHome$Huts" (35 : Nat) ({ cls := "java/lang/Math", name := "min", desc := "(II)I" } : Jvm.MethodName)) ∈ zTb := zTb_in (List.mem_of_getElem? (i := 300) (by decide +kernel)) (by decide +kernel)
theorem kw235 : (Jvm.Cond.static ({ cls := "java/lang/Math", name := "min", desc := "(II)I" } : Jvm.MethodName)) ∈ zTb := zTb_in (List.mem_of_getElem? (i := 301) (by decide +kernel)) (by decide +kernel)
theorem kw9 : (Jvm.Cond.initialized "java/lang/Math") ∈ zTb := zTb_in (List.mem_of_getElem? (i := 75) (by decide +kernel)) (by decide +kernel)
theorem kw236 : (Jvm.Cond.code ({ cls := "java/lang/Math", name := "min", desc := "(II)I" } : Jvm.MethodName) prog_10_method_69_code (2 : Nat) (Option.some Jvm.ClassFile.FieldType.int)) ∈ zTb := zTb_in (List.mem_of_getElem? (i := 302) (by decide +kernel)) (by decide +kernel)
theorem kw28 : (Jvm.Cond.fieldLink "AllHome$Huts" (13 : Nat) "AllHome$Huts" "goals" "[[I") ∈ zTb := zTb_in (List.mem_of_getElem? (i := 94) (by decide +kernel)) (by decide +kernel)
theorem kw29 : (Jvm.Cond.fieldLink "AllHome$Huts" (16 : Nat) "AllHome$Huts" "starts" "[[I") ∈ zTb := zTb_in (List.mem_of_getElem? (i := 95) (by decide +kernel)) (by decide +kernel)
theorem kw30 : (Jvm.Cond.fieldLink "AllHome$Huts" (19 : Nat) "AllHome$Huts" "lines" "[I") ∈ zTb := zTb_in (List.mem_of_getElem? (i := 96) (by decide +kernel)) (by decide +kernel)
theorem kp0 : Cond.selects "AllHome$Huts" ⟨"AllHome$Huts", "addWords", "(III)I"⟩ ⟨"AllHome$Huts", "addWords", "(III)I"⟩ ∈ zTb := zTb_in (List.mem_of_getElem? (i := 0) (by decide +kernel)) (by decide +kernel)
theorem kw230 : (Jvm.Cond.methodLink "AllHome$Huts" (31 : Nat) ({ cls := "AllHome$Huts", name := "addWords", desc := "(III)I" } : Jvm.MethodName)) ∈ zTb := zTb_in (List.mem_of_getElem? (i := 296) (by decide +kernel)) (by decide +kernel)
theorem kw232 : (Jvm.Cond.instanceMethod ({ cls := "AllHome$Huts", name := "addWords", desc := "(III)I" } : Jvm.MethodName)) ∈ zTb := zTb_in (List.mem_of_getElem? (i := 298) (by decide +kernel)) (by decide +kernel)
theorem kw2 : (Jvm.Cond.initialized "AllHome$Huts") ∈ zTb := zTb_in (List.mem_of_getElem? (i := 68) (by decide +kernel)) (by decide +kernel)
theorem kw233 : (Jvm.Cond.code ({ cls := "AllHome$Huts", name := "addWords", desc := "(III)I" } : Jvm.MethodName) prog_3_method_8_code (5 : Nat) (Option.some Jvm.ClassFile.FieldType.int)) ∈ zTb := zTb_in (List.mem_of_getElem? (i := 299) (by decide +kernel)) (by decide +kernel)
theorem kw81 : (Jvm.Cond.fieldLink "AllHome$Orders" (42 : Nat) "AllHome$Orders" "explored" "I") ∈ zTb := zTb_in (List.mem_of_getElem? (i := 147) (by decide +kernel)) (by decide +kernel)
theorem kw183 : (Jvm.Cond.fieldLink "AllHome" (63 : Nat) "AllHome" "runsBegun" "I") ∈ zTb := zTb_in (List.mem_of_getElem? (i := 249) (by decide +kernel)) (by decide +kernel)
theorem kw179 : (Jvm.Cond.fieldLink "AllHome" (16 : Nat) "AllHome" "huts" "LAllHome$Huts;") ∈ zTb := zTb_in (List.mem_of_getElem? (i := 245) (by decide +kernel)) (by decide +kernel)
theorem kw224 : (Jvm.Cond.selects "AllHome$Huts" ({ cls := "AllHome$Huts", name := "size", desc := "()I" } : Jvm.MethodName) ({ cls := "AllHome$Huts", name := "size", desc := "()I" } : Jvm.MethodName)) ∈ zTb := zTb_in (List.mem_of_getElem? (i := 290) (by decide +kernel)) (by decide +kernel)
theorem kw222 : (Jvm.Cond.methodLink "AllHome" (66 : Nat) ({ cls := "AllHome$Huts", name := "size", desc := "()I" } : Jvm.MethodName)) ∈ zTb := zTb_in (List.mem_of_getElem? (i := 288) (by decide +kernel)) (by decide +kernel)
theorem kw223 : (Jvm.Cond.instanceMethod ({ cls := "AllHome$Huts", name := "size", desc := "()I" } : Jvm.MethodName)) ∈ zTb := zTb_in (List.mem_of_getElem? (i := 289) (by decide +kernel)) (by decide +kernel)
theorem kw225 : (Jvm.Cond.code ({ cls := "AllHome$Huts", name := "size", desc := "()I" } : Jvm.MethodName) prog_3_method_2_code (1 : Nat) (Option.some Jvm.ClassFile.FieldType.int)) ∈ zTb := zTb_in (List.mem_of_getElem? (i := 291) (by decide +kernel)) (by decide +kernel)
theorem kw228 : (Jvm.Cond.selects "AllHome$Huts" ({ cls := "AllHome$Huts", name := "read", desc := "([II)I" } : Jvm.MethodName) ({ cls := "AllHome$Huts", name := "read", desc := "([II)I" } : Jvm.MethodName)) ∈ zTb := zTb_in (List.mem_of_getElem? (i := 294) (by decide +kernel)) (by decide +kernel)
theorem kw226 : (Jvm.Cond.methodLink "AllHome" (70 : Nat) ({ cls := "AllHome$Huts", name := "read", desc := "([II)I" } : Jvm.MethodName)) ∈ zTb := zTb_in (List.mem_of_getElem? (i := 292) (by decide +kernel)) (by decide +kernel)
theorem kw227 : (Jvm.Cond.instanceMethod ({ cls := "AllHome$Huts", name := "read", desc := "([II)I" } : Jvm.MethodName)) ∈ zTb := zTb_in (List.mem_of_getElem? (i := 293) (by decide +kernel)) (by decide +kernel)
theorem kw229 : (Jvm.Cond.code ({ cls := "AllHome$Huts", name := "read", desc := "([II)I" } : Jvm.MethodName) prog_3_method_7_code (9 : Nat) (Option.some Jvm.ClassFile.FieldType.int)) ∈ zTb := zTb_in (List.mem_of_getElem? (i := 295) (by decide +kernel)) (by decide +kernel)
theorem kw185 : (Jvm.Cond.fieldLink "AllHome" (37 : Nat) "AllHome" "orders" "LAllHome$Orders;") ∈ zTb := zTb_in (List.mem_of_getElem? (i := 251) (by decide +kernel)) (by decide +kernel)
theorem kw239 : (Jvm.Cond.selects "AllHome$Orders" ({ cls := "AllHome$Orders", name := "forget", desc := "()V" } : Jvm.MethodName) ({ cls := "AllHome$Orders", name := "forget", desc := "()V" } : Jvm.MethodName)) ∈ zTb := zTb_in (List.mem_of_getElem? (i := 305) (by decide +kernel)) (by decide +kernel)
theorem kw237 : (Jvm.Cond.methodLink "AllHome" (74 : Nat) ({ cls := "AllHome$Orders", name := "forget", desc := "()V" } : Jvm.MethodName)) ∈ zTb := zTb_in (List.mem_of_getElem? (i := 303) (by decide +kernel)) (by decide +kernel)
theorem kw238 : (Jvm.Cond.instanceMethod ({ cls := "AllHome$Orders", name := "forget", desc := "()V" } : Jvm.MethodName)) ∈ zTb := zTb_in (List.mem_of_getElem? (i := 304) (by decide +kernel)) (by decide +kernel)
theorem kw3 : (Jvm.Cond.initialized "AllHome$Orders") ∈ zTb := zTb_in (List.mem_of_getElem? (i := 69) (by decide +kernel)) (by decide +kernel)
theorem kw240 : (Jvm.Cond.code ({ cls := "AllHome$Orders", name := "forget", desc := "()V" } : Jvm.MethodName) prog_4_method_2_code (1 : Nat) (Option.none : Option Jvm.ClassFile.FieldType)) ∈ zTb := zTb_in (List.mem_of_getElem? (i := 306) (by decide +kernel)) (by decide +kernel)
theorem kw186 : (Jvm.Cond.fieldLink "AllHome" (41 : Nat) "AllHome" "plainOrders" "LAllHome$Orders;") ∈ zTb := zTb_in (List.mem_of_getElem? (i := 252) (by decide +kernel)) (by decide +kernel)
theorem kw247 : (Jvm.Cond.selects "AllHome$Huts" ({ cls := "AllHome$Huts", name := "has", desc := "(I)Z" } : Jvm.MethodName) ({ cls := "AllHome$Huts", name := "has", desc := "(I)Z" } : Jvm.MethodName)) ∈ zTb := zTb_in (List.mem_of_getElem? (i := 313) (by decide +kernel)) (by decide +kernel)
theorem kw253 : (Jvm.Cond.methodLink "AllHome$Huts" (27 : Nat) ({ cls := "AllHome$Huts", name := "has", desc := "(I)Z" } : Jvm.MethodName)) ∈ zTb := zTb_in (List.mem_of_getElem? (i := 319) (by decide +kernel)) (by decide +kernel)
theorem kw246 : (Jvm.Cond.instanceMethod ({ cls := "AllHome$Huts", name := "has", desc := "(I)Z" } : Jvm.MethodName)) ∈ zTb := zTb_in (List.mem_of_getElem? (i := 312) (by decide +kernel)) (by decide +kernel)
theorem kw248 : (Jvm.Cond.code ({ cls := "AllHome$Huts", name := "has", desc := "(I)Z" } : Jvm.MethodName) prog_3_method_3_code (2 : Nat) (Option.some Jvm.ClassFile.FieldType.boolean)) ∈ zTb := zTb_in (List.mem_of_getElem? (i := 314) (by decide +kernel)) (by decide +kernel)
theorem kw245 : (Jvm.Cond.methodLink "AllHome" (77 : Nat) ({ cls := "AllHome$Huts", name := "has", desc := "(I)Z" } : Jvm.MethodName)) ∈ zTb := zTb_in (List.mem_of_getElem? (i := 311) (by decide +kernel)) (by decide +kernel)
theorem kw251 : (Jvm.Cond.selects "AllHome$Huts" ({ cls := "AllHome$Huts", name := "linesOf", desc := "(I)I" } : Jvm.MethodName) ({ cls := "AllHome$Huts", name := "linesOf", desc := "(I)I" } : Jvm.MethodName)) ∈ zTb := zTb_in (List.mem_of_getElem? (i := 317) (by decide +kernel)) (by decide +kernel)
theorem kw249 : (Jvm.Cond.methodLink "AllHome" (81 : Nat) ({ cls := "AllHome$Huts", name := "linesOf", desc := "(I)I" } : Jvm.MethodName)) ∈ zTb := zTb_in (List.mem_of_getElem? (i := 315) (by decide +kernel)) (by decide +kernel)
theorem kw250 : (Jvm.Cond.instanceMethod ({ cls := "AllHome$Huts", name := "linesOf", desc := "(I)I" } : Jvm.MethodName)) ∈ zTb := zTb_in (List.mem_of_getElem? (i := 316) (by decide +kernel)) (by decide +kernel)
theorem kw252 : (Jvm.Cond.code ({ cls := "AllHome$Huts", name := "linesOf", desc := "(I)I" } : Jvm.MethodName) prog_3_method_4_code (2 : Nat) (Option.some Jvm.ClassFile.FieldType.int)) ∈ zTb := zTb_in (List.mem_of_getElem? (i := 318) (by decide +kernel)) (by decide +kernel)
theorem kw256 : (Jvm.Cond.selects "AllHome$Huts" ({ cls := "AllHome$Huts", name := "wordsOf", desc := "(II)I" } : Jvm.MethodName) ({ cls := "AllHome$Huts", name := "wordsOf", desc := "(II)I" } : Jvm.MethodName)) ∈ zTb := zTb_in (List.mem_of_getElem? (i := 322) (by decide +kernel)) (by decide +kernel)
theorem kw254 : (Jvm.Cond.methodLink "AllHome" (85 : Nat) ({ cls := "AllHome$Huts", name := "wordsOf", desc := "(II)I" } : Jvm.MethodName)) ∈ zTb := zTb_in (List.mem_of_getElem? (i := 320) (by decide +kernel)) (by decide +kernel)
theorem kw255 : (Jvm.Cond.instanceMethod ({ cls := "AllHome$Huts", name := "wordsOf", desc := "(II)I" } : Jvm.MethodName)) ∈ zTb := zTb_in (List.mem_of_getElem? (i := 321) (by decide +kernel)) (by decide +kernel)
theorem kw257 : (Jvm.Cond.code ({ cls := "AllHome$Huts", name := "wordsOf", desc := "(II)I" } : Jvm.MethodName) prog_3_method_5_code (3 : Nat) (Option.some Jvm.ClassFile.FieldType.int)) ∈ zTb := zTb_in (List.mem_of_getElem? (i := 323) (by decide +kernel)) (by decide +kernel)
theorem kw264 : (Jvm.Cond.selects "AllHome$Huts" ({ cls := "AllHome$Huts", name := "goal", desc := "(III)I" } : Jvm.MethodName) ({ cls := "AllHome$Huts", name := "goal", desc := "(III)I" } : Jvm.MethodName)) ∈ zTb := zTb_in (List.mem_of_getElem? (i := 330) (by decide +kernel)) (by decide +kernel)
theorem kw262 : (Jvm.Cond.methodLink "AllHome" (89 : Nat) ({ cls := "AllHome$Huts", name := "goal", desc := "(III)I" } : Jvm.MethodName)) ∈ zTb := zTb_in (List.mem_of_getElem? (i := 328) (by decide +kernel)) (by decide +kernel)
theorem kw263 : (Jvm.Cond.instanceMethod ({ cls := "AllHome$Huts", name := "goal", desc := "(III)I" } : Jvm.MethodName)) ∈ zTb := zTb_in (List.mem_of_getElem? (i := 329) (by decide +kernel)) (by decide +kernel)
theorem kw265 : (Jvm.Cond.code ({ cls := "AllHome$Huts", name := "goal", desc := "(III)I" } : Jvm.MethodName) prog_3_method_6_code (5 : Nat) (Option.some Jvm.ClassFile.FieldType.int)) ∈ zTb := zTb_in (List.mem_of_getElem? (i := 331) (by decide +kernel)) (by decide +kernel)
theorem kw270 : (Jvm.Cond.methodLink "AllHome" (93 : Nat) ({ cls := "AllHome", name := "isKind", desc := "(I)Z" } : Jvm.MethodName)) ∈ zTb := zTb_in (List.mem_of_getElem? (i := 336) (by decide +kernel)) (by decide +kernel)
theorem kw271 : (Jvm.Cond.static ({ cls := "AllHome", name := "isKind", desc := "(I)Z" } : Jvm.MethodName)) ∈ zTb := zTb_in (List.mem_of_getElem? (i := 337) (by decide +kernel)) (by decide +kernel)
theorem kw1 : (Jvm.Cond.initialized "AllHome") ∈ zTb := zTb_in (List.mem_of_getElem? (i := 67) (by decide +kernel)) (by decide +kernel)
theorem kw272 : (Jvm.Cond.code ({ cls := "AllHome", name := "isKind", desc := "(I)Z" } : Jvm.MethodName) prog_1_method_32_code (1 : Nat) (Option.some Jvm.ClassFile.FieldType.boolean)) ∈ zTb := zTb_in (List.mem_of_getElem? (i := 338) (by decide +kernel)) (by decide +kernel)
theorem kw181 : (Jvm.Cond.fieldLink "AllHome" (96 : Nat) "AllHome" "ways" "I") ∈ zTb := zTb_in (List.mem_of_getElem? (i := 247) (by decide +kernel)) (by decide +kernel)
theorem kw180 : (Jvm.Cond.fieldLink "AllHome" (20 : Nat) "AllHome" "kinds" "[I") ∈ zTb := zTb_in (List.mem_of_getElem? (i := 246) (by decide +kernel)) (by decide +kernel)
theorem kp1 : Cond.selects "AllHome" ⟨"AllHome", "isWay", "(I)Z"⟩ ⟨"AllHome", "isWay", "(I)Z"⟩ ∈ zTb := zTb_in (List.mem_of_getElem? (i := 1) (by decide +kernel)) (by decide +kernel)
theorem kw277 : (Jvm.Cond.methodLink "AllHome" (99 : Nat) ({ cls := "AllHome", name := "isWay", desc := "(I)Z" } : Jvm.MethodName)) ∈ zTb := zTb_in (List.mem_of_getElem? (i := 343) (by decide +kernel)) (by decide +kernel)
theorem kw279 : (Jvm.Cond.instanceMethod ({ cls := "AllHome", name := "isWay", desc := "(I)Z" } : Jvm.MethodName)) ∈ zTb := zTb_in (List.mem_of_getElem? (i := 345) (by decide +kernel)) (by decide +kernel)
theorem kw280 : (Jvm.Cond.code ({ cls := "AllHome", name := "isWay", desc := "(I)Z" } : Jvm.MethodName) prog_1_method_29_code (2 : Nat) (Option.some Jvm.ClassFile.FieldType.boolean)) ∈ zTb := zTb_in (List.mem_of_getElem? (i := 346) (by decide +kernel)) (by decide +kernel)
theorem kw58 : (Jvm.Cond.fieldLink "AllHome$Rules" (23 : Nat) "AllHome$Rules" "kind" "I") ∈ zTb := zTb_in (List.mem_of_getElem? (i := 124) (by decide +kernel)) (by decide +kernel)
theorem kw59 : (Jvm.Cond.fieldLink "AllHome$Rules" (15 : Nat) "AllHome$Rules" "family" "I") ∈ zTb := zTb_in (List.mem_of_getElem? (i := 125) (by decide +kernel)) (by decide +kernel)
theorem kw296 : (Jvm.Cond.methodLink "AllHome$Rules" (30 : Nat) ({ cls := "java/util/Arrays", name := "fill", desc := "([II)V" } : Jvm.MethodName)) ∈ zTb := zTb_in (List.mem_of_getElem? (i := 362) (by decide +kernel)) (by decide +kernel)
theorem kw297 : (Jvm.Cond.static ({ cls := "java/util/Arrays", name := "fill", desc := "([II)V" } : Jvm.MethodName)) ∈ zTb := zTb_in (List.mem_of_getElem? (i := 363) (by decide +kernel)) (by decide +kernel)
theorem kw10 : (Jvm.Cond.initialized "java/util/Arrays") ∈ zTb := zTb_in (List.mem_of_getElem? (i := 76) (by decide +kernel)) (by decide +kernel)
theorem kw298 : (Jvm.Cond.code ({ cls := "java/util/Arrays", name := "fill", desc := "([II)V" } : Jvm.MethodName) prog_12_method_103_code (4 : Nat) (Option.none : Option Jvm.ClassFile.FieldType)) ∈ zTb := zTb_in (List.mem_of_getElem? (i := 364) (by decide +kernel)) (by decide +kernel)
theorem kw139 : (Jvm.Cond.fieldLink "AllHome$Run" (20 : Nat) "AllHome$Run" "rules" "LAllHome$Rules;") ∈ zTb := zTb_in (List.mem_of_getElem? (i := 205) (by decide +kernel)) (by decide +kernel)
theorem kw140 : (Jvm.Cond.fieldLink "AllHome$Run" (9 : Nat) "AllHome$Run" "cells" "[I") ∈ zTb := zTb_in (List.mem_of_getElem? (i := 206) (by decide +kernel)) (by decide +kernel)
theorem kw291 : (Jvm.Cond.selects "AllHome$Rules" ({ cls := "AllHome$Rules", name := "begin", desc := "([II)V" } : Jvm.MethodName) ({ cls := "AllHome$Rules", name := "begin", desc := "([II)V" } : Jvm.MethodName)) ∈ zTb := zTb_in (List.mem_of_getElem? (i := 357) (by decide +kernel)) (by decide +kernel)
theorem kw289 : (Jvm.Cond.methodLink "AllHome$Run" (24 : Nat) ({ cls := "AllHome$Rules", name := "begin", desc := "([II)V" } : Jvm.MethodName)) ∈ zTb := zTb_in (List.mem_of_getElem? (i := 355) (by decide +kernel)) (by decide +kernel)
theorem kw290 : (Jvm.Cond.instanceMethod ({ cls := "AllHome$Rules", name := "begin", desc := "([II)V" } : Jvm.MethodName)) ∈ zTb := zTb_in (List.mem_of_getElem? (i := 356) (by decide +kernel)) (by decide +kernel)
theorem kw4 : (Jvm.Cond.initialized "AllHome$Rules") ∈ zTb := zTb_in (List.mem_of_getElem? (i := 70) (by decide +kernel)) (by decide +kernel)
theorem kw292 : (Jvm.Cond.code ({ cls := "AllHome$Rules", name := "begin", desc := "([II)V" } : Jvm.MethodName) prog_5_method_3_code (4 : Nat) (Option.none : Option Jvm.ClassFile.FieldType)) ∈ zTb := zTb_in (List.mem_of_getElem? (i := 358) (by decide +kernel)) (by decide +kernel)
theorem kw141 : (Jvm.Cond.fieldLink "AllHome$Run" (28 : Nat) "AllHome$Run" "way" "I") ∈ zTb := zTb_in (List.mem_of_getElem? (i := 207) (by decide +kernel)) (by decide +kernel)
theorem kw142 : (Jvm.Cond.fieldLink "AllHome$Run" (32 : Nat) "AllHome$Run" "done" "I") ∈ zTb := zTb_in (List.mem_of_getElem? (i := 208) (by decide +kernel)) (by decide +kernel)
theorem kw143 : (Jvm.Cond.fieldLink "AllHome$Run" (35 : Nat) "AllHome$Run" "saidAt" "I") ∈ zTb := zTb_in (List.mem_of_getElem? (i := 209) (by decide +kernel)) (by decide +kernel)
theorem kw144 : (Jvm.Cond.fieldLink "AllHome$Run" (38 : Nat) "AllHome$Run" "overAt" "I") ∈ zTb := zTb_in (List.mem_of_getElem? (i := 210) (by decide +kernel)) (by decide +kernel)
theorem kw182 : (Jvm.Cond.fieldLink "AllHome" (25 : Nat) "AllHome" "runs" "[LAllHome$Run;") ∈ zTb := zTb_in (List.mem_of_getElem? (i := 248) (by decide +kernel)) (by decide +kernel)
theorem kw287 : (Jvm.Cond.selects "AllHome$Run" ({ cls := "AllHome$Run", name := "begin", desc := "(II)V" } : Jvm.MethodName) ({ cls := "AllHome$Run", name := "begin", desc := "(II)V" } : Jvm.MethodName)) ∈ zTb := zTb_in (List.mem_of_getElem? (i := 353) (by decide +kernel)) (by decide +kernel)
theorem kw285 : (Jvm.Cond.methodLink "AllHome" (102 : Nat) ({ cls := "AllHome$Run", name := "begin", desc := "(II)V" } : Jvm.MethodName)) ∈ zTb := zTb_in (List.mem_of_getElem? (i := 351) (by decide +kernel)) (by decide +kernel)
theorem kw286 : (Jvm.Cond.instanceMethod ({ cls := "AllHome$Run", name := "begin", desc := "(II)V" } : Jvm.MethodName)) ∈ zTb := zTb_in (List.mem_of_getElem? (i := 352) (by decide +kernel)) (by decide +kernel)
theorem kw6 : (Jvm.Cond.initialized "AllHome$Run") ∈ zTb := zTb_in (List.mem_of_getElem? (i := 72) (by decide +kernel)) (by decide +kernel)
theorem kw288 : (Jvm.Cond.code ({ cls := "AllHome$Run", name := "begin", desc := "(II)V" } : Jvm.MethodName) prog_6_method_2_code (3 : Nat) (Option.none : Option Jvm.ClassFile.FieldType)) ∈ zTb := zTb_in (List.mem_of_getElem? (i := 354) (by decide +kernel)) (by decide +kernel)
theorem kw329 : (Jvm.Cond.methodLink "AllHome$Rules" (81 : Nat) ({ cls := "AllHome$Rules", name := "partUnits", desc := "([II)I" } : Jvm.MethodName)) ∈ zTb := zTb_in (List.mem_of_getElem? (i := 395) (by decide +kernel)) (by decide +kernel)
theorem kw330 : (Jvm.Cond.static ({ cls := "AllHome$Rules", name := "partUnits", desc := "([II)I" } : Jvm.MethodName)) ∈ zTb := zTb_in (List.mem_of_getElem? (i := 396) (by decide +kernel)) (by decide +kernel)
theorem kw331 : (Jvm.Cond.code ({ cls := "AllHome$Rules", name := "partUnits", desc := "([II)I" } : Jvm.MethodName) prog_5_method_7_code (3 : Nat) (Option.some Jvm.ClassFile.FieldType.int)) ∈ zTb := zTb_in (List.mem_of_getElem? (i := 397) (by decide +kernel)) (by decide +kernel)
theorem kw57 : (Jvm.Cond.fieldLink "AllHome$Rules" (9 : Nat) "AllHome$Rules" "huts" "LAllHome$Huts;") ∈ zTb := zTb_in (List.mem_of_getElem? (i := 123) (by decide +kernel)) (by decide +kernel)
theorem kw322 : (Jvm.Cond.methodLink "AllHome$Rules" (60 : Nat) ({ cls := "AllHome$Huts", name := "has", desc := "(I)Z" } : Jvm.MethodName)) ∈ zTb := zTb_in (List.mem_of_getElem? (i := 388) (by decide +kernel)) (by decide +kernel)
theorem kw323 : (Jvm.Cond.methodLink "AllHome$Rules" (65 : Nat) ({ cls := "AllHome$Huts", name := "wordsOf", desc := "(II)I" } : Jvm.MethodName)) ∈ zTb := zTb_in (List.mem_of_getElem? (i := 389) (by decide +kernel)) (by decide +kernel)
theorem kw332 : (Jvm.Cond.methodLink "AllHome$Rules" (77 : Nat) ({ cls := "AllHome$Rules", name := "sendNote", desc := "([IIII)I" } : Jvm.MethodName)) ∈ zTb := zTb_in (List.mem_of_getElem? (i := 398) (by decide +kernel)) (by decide +kernel)
theorem kw333 : (Jvm.Cond.static ({ cls := "AllHome$Rules", name := "sendNote", desc := "([IIII)I" } : Jvm.MethodName)) ∈ zTb := zTb_in (List.mem_of_getElem? (i := 399) (by decide +kernel)) (by decide +kernel)
theorem kw334 : (Jvm.Cond.code ({ cls := "AllHome$Rules", name := "sendNote", desc := "([IIII)I" } : Jvm.MethodName) prog_5_method_8_code (5 : Nat) (Option.some Jvm.ClassFile.FieldType.int)) ∈ zTb := zTb_in (List.mem_of_getElem? (i := 400) (by decide +kernel)) (by decide +kernel)
theorem kw324 : (Jvm.Cond.methodLink "AllHome$Rules" (69 : Nat) ({ cls := "AllHome$Huts", name := "goal", desc := "(III)I" } : Jvm.MethodName)) ∈ zTb := zTb_in (List.mem_of_getElem? (i := 390) (by decide +kernel)) (by decide +kernel)
theorem kp4 : Cond.selects "AllHome$Rules" ⟨"AllHome$Rules", "send", "([III)I"⟩ ⟨"AllHome$Rules", "send", "([III)I"⟩ ∈ zTb := zTb_in (List.mem_of_getElem? (i := 4) (by decide +kernel)) (by decide +kernel)
theorem kw325 : (Jvm.Cond.methodLink "AllHome$Rules" (73 : Nat) ({ cls := "AllHome$Rules", name := "send", desc := "([III)I" } : Jvm.MethodName)) ∈ zTb := zTb_in (List.mem_of_getElem? (i := 391) (by decide +kernel)) (by decide +kernel)
theorem kw327 : (Jvm.Cond.instanceMethod ({ cls := "AllHome$Rules", name := "send", desc := "([III)I" } : Jvm.MethodName)) ∈ zTb := zTb_in (List.mem_of_getElem? (i := 393) (by decide +kernel)) (by decide +kernel)
theorem kw328 : (Jvm.Cond.code ({ cls := "AllHome$Rules", name := "send", desc := "([III)I" } : Jvm.MethodName) prog_5_method_6_code (6 : Nat) (Option.some Jvm.ClassFile.FieldType.int)) ∈ zTb := zTb_in (List.mem_of_getElem? (i := 394) (by decide +kernel)) (by decide +kernel)
theorem kw342 : (Jvm.Cond.methodLink "AllHome$Rules" (90 : Nat) ({ cls := "AllHome$Rules", name := "closeGap", desc := "([III)V" } : Jvm.MethodName)) ∈ zTb := zTb_in (List.mem_of_getElem? (i := 408) (by decide +kernel)) (by decide +kernel)
theorem kw343 : (Jvm.Cond.static ({ cls := "AllHome$Rules", name := "closeGap", desc := "([III)V" } : Jvm.MethodName)) ∈ zTb := zTb_in (List.mem_of_getElem? (i := 409) (by decide +kernel)) (by decide +kernel)
theorem kw344 : (Jvm.Cond.code ({ cls := "AllHome$Rules", name := "closeGap", desc := "([III)V" } : Jvm.MethodName) prog_5_method_13_code (4 : Nat) (Option.none : Option Jvm.ClassFile.FieldType)) ∈ zTb := zTb_in (List.mem_of_getElem? (i := 410) (by decide +kernel)) (by decide +kernel)
theorem kw339 : (Jvm.Cond.methodLink "AllHome$Rules" (84 : Nat) ({ cls := "AllHome$Rules", name := "takeAwayWord", desc := "([II)V" } : Jvm.MethodName)) ∈ zTb := zTb_in (List.mem_of_getElem? (i := 405) (by decide +kernel)) (by decide +kernel)
theorem kw340 : (Jvm.Cond.static ({ cls := "AllHome$Rules", name := "takeAwayWord", desc := "([II)V" } : Jvm.MethodName)) ∈ zTb := zTb_in (List.mem_of_getElem? (i := 406) (by decide +kernel)) (by decide +kernel)
theorem kw341 : (Jvm.Cond.code ({ cls := "AllHome$Rules", name := "takeAwayWord", desc := "([II)V" } : Jvm.MethodName) prog_5_method_12_code (2 : Nat) (Option.none : Option Jvm.ClassFile.FieldType)) ∈ zTb := zTb_in (List.mem_of_getElem? (i := 407) (by decide +kernel)) (by decide +kernel)
theorem kw345 : (Jvm.Cond.methodLink "AllHome$Rules" (87 : Nat) ({ cls := "AllHome$Rules", name := "joinTree", desc := "([III)I" } : Jvm.MethodName)) ∈ zTb := zTb_in (List.mem_of_getElem? (i := 411) (by decide +kernel)) (by decide +kernel)
theorem kw346 : (Jvm.Cond.static ({ cls := "AllHome$Rules", name := "joinTree", desc := "([III)I" } : Jvm.MethodName)) ∈ zTb := zTb_in (List.mem_of_getElem? (i := 412) (by decide +kernel)) (by decide +kernel)
theorem kw347 : (Jvm.Cond.code ({ cls := "AllHome$Rules", name := "joinTree", desc := "([III)I" } : Jvm.MethodName) prog_5_method_10_code (3 : Nat) (Option.some Jvm.ClassFile.FieldType.int)) ∈ zTb := zTb_in (List.mem_of_getElem? (i := 413) (by decide +kernel)) (by decide +kernel)
theorem kw359 : (Jvm.Cond.methodLink "AllHome$Rules" (100 : Nat) ({ cls := "AllHome$Huts", name := "size", desc := "()I" } : Jvm.MethodName)) ∈ zTb := zTb_in (List.mem_of_getElem? (i := 425) (by decide +kernel)) (by decide +kernel)
theorem kw352 : (Jvm.Cond.methodLink "AllHome$Rules" (94 : Nat) ({ cls := "AllHome$Rules", name := "takeStone", desc := "([IIII)I" } : Jvm.MethodName)) ∈ zTb := zTb_in (List.mem_of_getElem? (i := 418) (by decide +kernel)) (by decide +kernel)
theorem kw353 : (Jvm.Cond.static ({ cls := "AllHome$Rules", name := "takeStone", desc := "([IIII)I" } : Jvm.MethodName)) ∈ zTb := zTb_in (List.mem_of_getElem? (i := 419) (by decide +kernel)) (by decide +kernel)
theorem kw354 : (Jvm.Cond.code ({ cls := "AllHome$Rules", name := "takeStone", desc := "([IIII)I" } : Jvm.MethodName) prog_5_method_15_code (5 : Nat) (Option.some Jvm.ClassFile.FieldType.int)) ∈ zTb := zTb_in (List.mem_of_getElem? (i := 420) (by decide +kernel)) (by decide +kernel)
theorem kp7 : Cond.selects "AllHome$Rules" ⟨"AllHome$Rules", "takeSums", "([IIII)I"⟩ ⟨"AllHome$Rules", "takeSums", "([IIII)I"⟩ ∈ zTb := zTb_in (List.mem_of_getElem? (i := 7) (by decide +kernel)) (by decide +kernel)
theorem kw355 : (Jvm.Cond.methodLink "AllHome$Rules" (97 : Nat) ({ cls := "AllHome$Rules", name := "takeSums", desc := "([IIII)I" } : Jvm.MethodName)) ∈ zTb := zTb_in (List.mem_of_getElem? (i := 421) (by decide +kernel)) (by decide +kernel)
theorem kw357 : (Jvm.Cond.instanceMethod ({ cls := "AllHome$Rules", name := "takeSums", desc := "([IIII)I" } : Jvm.MethodName)) ∈ zTb := zTb_in (List.mem_of_getElem? (i := 423) (by decide +kernel)) (by decide +kernel)
theorem kw358 : (Jvm.Cond.code ({ cls := "AllHome$Rules", name := "takeSums", desc := "([IIII)I" } : Jvm.MethodName) prog_5_method_16_code (6 : Nat) (Option.some Jvm.ClassFile.FieldType.int)) ∈ zTb := zTb_in (List.mem_of_getElem? (i := 424) (by decide +kernel)) (by decide +kernel)
theorem kw367 : (Jvm.Cond.fieldLink "AllHome" (224 : Nat) "AllHome" "ABOVE" "[I") ∈ zTb := zTb_in (List.mem_of_getElem? (i := 433) (by decide +kernel)) (by decide +kernel)
theorem kw365 : (Jvm.Cond.static ({ cls := "AllHome", name := "isUnder", desc := "(II)Z" } : Jvm.MethodName)) ∈ zTb := zTb_in (List.mem_of_getElem? (i := 431) (by decide +kernel)) (by decide +kernel)
theorem kw366 : (Jvm.Cond.code ({ cls := "AllHome", name := "isUnder", desc := "(II)Z" } : Jvm.MethodName) prog_1_method_33_code (4 : Nat) (Option.some Jvm.ClassFile.FieldType.boolean)) ∈ zTb := zTb_in (List.mem_of_getElem? (i := 432) (by decide +kernel)) (by decide +kernel)
theorem kp3 : Cond.selects "AllHome$Rules" ⟨"AllHome$Rules", "goOn", "([II)I"⟩ ⟨"AllHome$Rules", "goOn", "([II)I"⟩ ∈ zTb := zTb_in (List.mem_of_getElem? (i := 3) (by decide +kernel)) (by decide +kernel)
theorem kw318 : (Jvm.Cond.methodLink "AllHome$Rules" (36 : Nat) ({ cls := "AllHome$Rules", name := "goOn", desc := "([II)I" } : Jvm.MethodName)) ∈ zTb := zTb_in (List.mem_of_getElem? (i := 384) (by decide +kernel)) (by decide +kernel)
theorem kw320 : (Jvm.Cond.instanceMethod ({ cls := "AllHome$Rules", name := "goOn", desc := "([II)I" } : Jvm.MethodName)) ∈ zTb := zTb_in (List.mem_of_getElem? (i := 386) (by decide +kernel)) (by decide +kernel)
theorem kw321 : (Jvm.Cond.code ({ cls := "AllHome$Rules", name := "goOn", desc := "([II)I" } : Jvm.MethodName) prog_5_method_5_code (5 : Nat) (Option.some Jvm.ClassFile.FieldType.int)) ∈ zTb := zTb_in (List.mem_of_getElem? (i := 387) (by decide +kernel)) (by decide +kernel)
theorem kp10 : Cond.selects "AllHome$Rules" ⟨"AllHome$Rules", "seesAllHome", "([I)Z"⟩ ⟨"AllHome$Rules", "seesAllHome", "([I)Z"⟩ ∈ zTb := zTb_in (List.mem_of_getElem? (i := 10) (by decide +kernel)) (by decide +kernel)
theorem kw376 : (Jvm.Cond.methodLink "AllHome$Rules" (56 : Nat) ({ cls := "AllHome$Rules", name := "seesAllHome", desc := "([I)Z" } : Jvm.MethodName)) ∈ zTb := zTb_in (List.mem_of_getElem? (i := 442) (by decide +kernel)) (by decide +kernel)
theorem kw378 : (Jvm.Cond.instanceMethod ({ cls := "AllHome$Rules", name := "seesAllHome", desc := "([I)Z" } : Jvm.MethodName)) ∈ zTb := zTb_in (List.mem_of_getElem? (i := 444) (by decide +kernel)) (by decide +kernel)
theorem kw379 : (Jvm.Cond.code ({ cls := "AllHome$Rules", name := "seesAllHome", desc := "([I)Z" } : Jvm.MethodName) prog_5_method_19_code (4 : Nat) (Option.some Jvm.ClassFile.FieldType.boolean)) ∈ zTb := zTb_in (List.mem_of_getElem? (i := 445) (by decide +kernel)) (by decide +kernel)
theorem kp9 : Cond.selects "AllHome$Rules" ⟨"AllHome$Rules", "leaveTree", "([I)I"⟩ ⟨"AllHome$Rules", "leaveTree", "([I)I"⟩ ∈ zTb := zTb_in (List.mem_of_getElem? (i := 9) (by decide +kernel)) (by decide +kernel)
theorem kw372 : (Jvm.Cond.methodLink "AllHome$Rules" (52 : Nat) ({ cls := "AllHome$Rules", name := "leaveTree", desc := "([I)I" } : Jvm.MethodName)) ∈ zTb := zTb_in (List.mem_of_getElem? (i := 438) (by decide +kernel)) (by decide +kernel)
theorem kw374 : (Jvm.Cond.instanceMethod ({ cls := "AllHome$Rules", name := "leaveTree", desc := "([I)I" } : Jvm.MethodName)) ∈ zTb := zTb_in (List.mem_of_getElem? (i := 440) (by decide +kernel)) (by decide +kernel)
theorem kw375 : (Jvm.Cond.code ({ cls := "AllHome$Rules", name := "leaveTree", desc := "([I)I" } : Jvm.MethodName) prog_5_method_18_code (5 : Nat) (Option.some Jvm.ClassFile.FieldType.int)) ∈ zTb := zTb_in (List.mem_of_getElem? (i := 441) (by decide +kernel)) (by decide +kernel)
theorem kp5 : Cond.selects "AllHome$Rules" ⟨"AllHome$Rules", "comeWord", "([II)I"⟩ ⟨"AllHome$Rules", "comeWord", "([II)I"⟩ ∈ zTb := zTb_in (List.mem_of_getElem? (i := 5) (by decide +kernel)) (by decide +kernel)
theorem kw335 : (Jvm.Cond.methodLink "AllHome$Rules" (40 : Nat) ({ cls := "AllHome$Rules", name := "comeWord", desc := "([II)I" } : Jvm.MethodName)) ∈ zTb := zTb_in (List.mem_of_getElem? (i := 401) (by decide +kernel)) (by decide +kernel)
theorem kw337 : (Jvm.Cond.instanceMethod ({ cls := "AllHome$Rules", name := "comeWord", desc := "([II)I" } : Jvm.MethodName)) ∈ zTb := zTb_in (List.mem_of_getElem? (i := 403) (by decide +kernel)) (by decide +kernel)
theorem kw338 : (Jvm.Cond.code ({ cls := "AllHome$Rules", name := "comeWord", desc := "([II)I" } : Jvm.MethodName) prog_5_method_9_code (6 : Nat) (Option.some Jvm.ClassFile.FieldType.int)) ∈ zTb := zTb_in (List.mem_of_getElem? (i := 404) (by decide +kernel)) (by decide +kernel)
theorem kp6 : Cond.selects "AllHome$Rules" ⟨"AllHome$Rules", "comeNote", "([II)I"⟩ ⟨"AllHome$Rules", "comeNote", "([II)I"⟩ ∈ zTb := zTb_in (List.mem_of_getElem? (i := 6) (by decide +kernel)) (by decide +kernel)
theorem kw348 : (Jvm.Cond.methodLink "AllHome$Rules" (43 : Nat) ({ cls := "AllHome$Rules", name := "comeNote", desc := "([II)I" } : Jvm.MethodName)) ∈ zTb := zTb_in (List.mem_of_getElem? (i := 414) (by decide +kernel)) (by decide +kernel)
theorem kw350 : (Jvm.Cond.instanceMethod ({ cls := "AllHome$Rules", name := "comeNote", desc := "([II)I" } : Jvm.MethodName)) ∈ zTb := zTb_in (List.mem_of_getElem? (i := 416) (by decide +kernel)) (by decide +kernel)
theorem kw351 : (Jvm.Cond.code ({ cls := "AllHome$Rules", name := "comeNote", desc := "([II)I" } : Jvm.MethodName) prog_5_method_14_code (6 : Nat) (Option.some Jvm.ClassFile.FieldType.int)) ∈ zTb := zTb_in (List.mem_of_getElem? (i := 417) (by decide +kernel)) (by decide +kernel)
theorem kp8 : Cond.selects "AllHome$Rules" ⟨"AllHome$Rules", "ask", "([II)I"⟩ ⟨"AllHome$Rules", "ask", "([II)I"⟩ ∈ zTb := zTb_in (List.mem_of_getElem? (i := 8) (by decide +kernel)) (by decide +kernel)
theorem kw360 : (Jvm.Cond.methodLink "AllHome$Rules" (46 : Nat) ({ cls := "AllHome$Rules", name := "ask", desc := "([II)I" } : Jvm.MethodName)) ∈ zTb := zTb_in (List.mem_of_getElem? (i := 426) (by decide +kernel)) (by decide +kernel)
theorem kw362 : (Jvm.Cond.instanceMethod ({ cls := "AllHome$Rules", name := "ask", desc := "([II)I" } : Jvm.MethodName)) ∈ zTb := zTb_in (List.mem_of_getElem? (i := 428) (by decide +kernel)) (by decide +kernel)
theorem kw363 : (Jvm.Cond.code ({ cls := "AllHome$Rules", name := "ask", desc := "([II)I" } : Jvm.MethodName) prog_5_method_17_code (3 : Nat) (Option.some Jvm.ClassFile.FieldType.int)) ∈ zTb := zTb_in (List.mem_of_getElem? (i := 429) (by decide +kernel)) (by decide +kernel)
theorem kw369 : (Jvm.Cond.methodLink "AllHome$Rules" (49 : Nat) ({ cls := "AllHome$Rules", name := "lose", desc := "([II)I" } : Jvm.MethodName)) ∈ zTb := zTb_in (List.mem_of_getElem? (i := 435) (by decide +kernel)) (by decide +kernel)
theorem kw370 : (Jvm.Cond.static ({ cls := "AllHome$Rules", name := "lose", desc := "([II)I" } : Jvm.MethodName)) ∈ zTb := zTb_in (List.mem_of_getElem? (i := 436) (by decide +kernel)) (by decide +kernel)
theorem kw371 : (Jvm.Cond.code ({ cls := "AllHome$Rules", name := "lose", desc := "([II)I" } : Jvm.MethodName) prog_5_method_11_code (2 : Nat) (Option.some Jvm.ClassFile.FieldType.int)) ∈ zTb := zTb_in (List.mem_of_getElem? (i := 437) (by decide +kernel)) (by decide +kernel)
theorem kw311 : (Jvm.Cond.methodLink "AllHome$Run" (46 : Nat) ({ cls := "java/lang/System", name := "arraycopy", desc := "(Ljava/lang/Object;ILjava/lang/Object;II)V" } : Jvm.MethodName)) ∈ zTb := zTb_in (List.mem_of_getElem? (i := 377) (by decide +kernel)) (by decide +kernel)
theorem kw313 : (Jvm.Cond.native ({ cls := "java/lang/System", name := "arraycopy", desc := "(Ljava/lang/Object;ILjava/lang/Object;II)V" } : Jvm.MethodName)) ∈ zTb := zTb_in (List.mem_of_getElem? (i := 379) (by decide +kernel)) (by decide +kernel)
theorem kw312 : (Jvm.Cond.static ({ cls := "java/lang/System", name := "arraycopy", desc := "(Ljava/lang/Object;ILjava/lang/Object;II)V" } : Jvm.MethodName)) ∈ zTb := zTb_in (List.mem_of_getElem? (i := 378) (by decide +kernel)) (by decide +kernel)
theorem kw11 : (Jvm.Cond.initialized "java/lang/System") ∈ zTb := zTb_in (List.mem_of_getElem? (i := 77) (by decide +kernel)) (by decide +kernel)
theorem kw316 : (Jvm.Cond.selects "AllHome$Rules" ({ cls := "AllHome$Rules", name := "apply", desc := "([III)I" } : Jvm.MethodName) ({ cls := "AllHome$Rules", name := "apply", desc := "([III)I" } : Jvm.MethodName)) ∈ zTb := zTb_in (List.mem_of_getElem? (i := 382) (by decide +kernel)) (by decide +kernel)
theorem kw314 : (Jvm.Cond.methodLink "AllHome$Run" (52 : Nat) ({ cls := "AllHome$Rules", name := "apply", desc := "([III)I" } : Jvm.MethodName)) ∈ zTb := zTb_in (List.mem_of_getElem? (i := 380) (by decide +kernel)) (by decide +kernel)
theorem kw315 : (Jvm.Cond.instanceMethod ({ cls := "AllHome$Rules", name := "apply", desc := "([III)I" } : Jvm.MethodName)) ∈ zTb := zTb_in (List.mem_of_getElem? (i := 381) (by decide +kernel)) (by decide +kernel)
theorem kw317 : (Jvm.Cond.code ({ cls := "AllHome$Rules", name := "apply", desc := "([III)I" } : Jvm.MethodName) prog_5_method_4_code (5 : Nat) (Option.some Jvm.ClassFile.FieldType.int)) ∈ zTb := zTb_in (List.mem_of_getElem? (i := 383) (by decide +kernel)) (by decide +kernel)
theorem kw381 : (Jvm.Cond.static ({ cls := "AllHome", name := "isOver", desc := "([I)Z" } : Jvm.MethodName)) ∈ zTb := zTb_in (List.mem_of_getElem? (i := 447) (by decide +kernel)) (by decide +kernel)
theorem kw382 : (Jvm.Cond.code ({ cls := "AllHome", name := "isOver", desc := "([I)Z" } : Jvm.MethodName) prog_1_method_36_code (2 : Nat) (Option.some Jvm.ClassFile.FieldType.boolean)) ∈ zTb := zTb_in (List.mem_of_getElem? (i := 448) (by decide +kernel)) (by decide +kernel)
theorem kp2 : Cond.selects "AllHome" ⟨"AllHome", "isRun", "(I)Z"⟩ ⟨"AllHome", "isRun", "(I)Z"⟩ ∈ zTb := zTb_in (List.mem_of_getElem? (i := 2) (by decide +kernel)) (by decide +kernel)
theorem kw303 : (Jvm.Cond.methodLink "AllHome" (106 : Nat) ({ cls := "AllHome", name := "isRun", desc := "(I)Z" } : Jvm.MethodName)) ∈ zTb := zTb_in (List.mem_of_getElem? (i := 369) (by decide +kernel)) (by decide +kernel)
theorem kw305 : (Jvm.Cond.instanceMethod ({ cls := "AllHome", name := "isRun", desc := "(I)Z" } : Jvm.MethodName)) ∈ zTb := zTb_in (List.mem_of_getElem? (i := 371) (by decide +kernel)) (by decide +kernel)
theorem kw306 : (Jvm.Cond.code ({ cls := "AllHome", name := "isRun", desc := "(I)Z" } : Jvm.MethodName) prog_1_method_30_code (2 : Nat) (Option.some Jvm.ClassFile.FieldType.boolean)) ∈ zTb := zTb_in (List.mem_of_getElem? (i := 372) (by decide +kernel)) (by decide +kernel)
theorem kw184 : (Jvm.Cond.fieldLink "AllHome" (29 : Nat) "AllHome" "spare" "[I") ∈ zTb := zTb_in (List.mem_of_getElem? (i := 250) (by decide +kernel)) (by decide +kernel)
theorem kw309 : (Jvm.Cond.selects "AllHome$Run" ({ cls := "AllHome$Run", name := "advance", desc := "([III)I" } : Jvm.MethodName) ({ cls := "AllHome$Run", name := "advance", desc := "([III)I" } : Jvm.MethodName)) ∈ zTb := zTb_in (List.mem_of_getElem? (i := 375) (by decide +kernel)) (by decide +kernel)
theorem kw307 : (Jvm.Cond.methodLink "AllHome" (109 : Nat) ({ cls := "AllHome$Run", name := "advance", desc := "([III)I" } : Jvm.MethodName)) ∈ zTb := zTb_in (List.mem_of_getElem? (i := 373) (by decide +kernel)) (by decide +kernel)
theorem kw308 : (Jvm.Cond.instanceMethod ({ cls := "AllHome$Run", name := "advance", desc := "([III)I" } : Jvm.MethodName)) ∈ zTb := zTb_in (List.mem_of_getElem? (i := 374) (by decide +kernel)) (by decide +kernel)
theorem kw310 : (Jvm.Cond.code ({ cls := "AllHome$Run", name := "advance", desc := "([III)I" } : Jvm.MethodName) prog_6_method_5_code (5 : Nat) (Option.some Jvm.ClassFile.FieldType.int)) ∈ zTb := zTb_in (List.mem_of_getElem? (i := 376) (by decide +kernel)) (by decide +kernel)
theorem kw166 : (Jvm.Cond.fieldLink "AllHome$Shelf" (19 : Nat) "AllHome$Shelf" "way" "I") ∈ zTb := zTb_in (List.mem_of_getElem? (i := 232) (by decide +kernel)) (by decide +kernel)
theorem kw165 : (Jvm.Cond.fieldLink "AllHome$Shelf" (15 : Nat) "AllHome$Shelf" "sort" "I") ∈ zTb := zTb_in (List.mem_of_getElem? (i := 231) (by decide +kernel)) (by decide +kernel)
theorem kw164 : (Jvm.Cond.fieldLink "AllHome$Shelf" (22 : Nat) "AllHome$Shelf" "length" "I") ∈ zTb := zTb_in (List.mem_of_getElem? (i := 230) (by decide +kernel)) (by decide +kernel)
theorem kw400 : (Jvm.Cond.selects "AllHome$Shelf" ({ cls := "AllHome$Shelf", name := "hasPlace", desc := "(I)Z" } : Jvm.MethodName) ({ cls := "AllHome$Shelf", name := "hasPlace", desc := "(I)Z" } : Jvm.MethodName)) ∈ zTb := zTb_in (List.mem_of_getElem? (i := 466) (by decide +kernel)) (by decide +kernel)
theorem kw406 : (Jvm.Cond.methodLink "AllHome$Shelf" (40 : Nat) ({ cls := "AllHome$Shelf", name := "hasPlace", desc := "(I)Z" } : Jvm.MethodName)) ∈ zTb := zTb_in (List.mem_of_getElem? (i := 472) (by decide +kernel)) (by decide +kernel)
theorem kw399 : (Jvm.Cond.instanceMethod ({ cls := "AllHome$Shelf", name := "hasPlace", desc := "(I)Z" } : Jvm.MethodName)) ∈ zTb := zTb_in (List.mem_of_getElem? (i := 465) (by decide +kernel)) (by decide +kernel)
theorem kw7 : (Jvm.Cond.initialized "AllHome$Shelf") ∈ zTb := zTb_in (List.mem_of_getElem? (i := 73) (by decide +kernel)) (by decide +kernel)
theorem kw401 : (Jvm.Cond.code ({ cls := "AllHome$Shelf", name := "hasPlace", desc := "(I)Z" } : Jvm.MethodName) prog_7_method_9_code (2 : Nat) (Option.some Jvm.ClassFile.FieldType.boolean)) ∈ zTb := zTb_in (List.mem_of_getElem? (i := 467) (by decide +kernel)) (by decide +kernel)
theorem kw407 : (Jvm.Cond.constantLong "AllHome$Shelf" (46 : Nat) (-9223372036854775808 : Int64)) ∈ zTb := zTb_in (List.mem_of_getElem? (i := 473) (by decide +kernel)) (by decide +kernel)
theorem kw163 : (Jvm.Cond.fieldLink "AllHome$Shelf" (11 : Nat) "AllHome$Shelf" "elements" "[J") ∈ zTb := zTb_in (List.mem_of_getElem? (i := 229) (by decide +kernel)) (by decide +kernel)
theorem kw387 : (Jvm.Cond.methodLink "AllHome" (113 : Nat) ({ cls := "AllHome", name := "isShelf", desc := "(I)Z" } : Jvm.MethodName)) ∈ zTb := zTb_in (List.mem_of_getElem? (i := 453) (by decide +kernel)) (by decide +kernel)
theorem kw388 : (Jvm.Cond.static ({ cls := "AllHome", name := "isShelf", desc := "(I)Z" } : Jvm.MethodName)) ∈ zTb := zTb_in (List.mem_of_getElem? (i := 454) (by decide +kernel)) (by decide +kernel)
theorem kw389 : (Jvm.Cond.code ({ cls := "AllHome", name := "isShelf", desc := "(I)Z" } : Jvm.MethodName) prog_1_method_31_code (1 : Nat) (Option.some Jvm.ClassFile.FieldType.boolean)) ∈ zTb := zTb_in (List.mem_of_getElem? (i := 455) (by decide +kernel)) (by decide +kernel)
theorem kw188 : (Jvm.Cond.fieldLink "AllHome" (53 : Nat) "AllHome" "shelves" "[LAllHome$Shelf;") ∈ zTb := zTb_in (List.mem_of_getElem? (i := 254) (by decide +kernel)) (by decide +kernel)
theorem kw392 : (Jvm.Cond.selects "AllHome$Shelf" ({ cls := "AllHome$Shelf", name := "isEmpty", desc := "()Z" } : Jvm.MethodName) ({ cls := "AllHome$Shelf", name := "isEmpty", desc := "()Z" } : Jvm.MethodName)) ∈ zTb := zTb_in (List.mem_of_getElem? (i := 458) (by decide +kernel)) (by decide +kernel)
theorem kw390 : (Jvm.Cond.methodLink "AllHome" (116 : Nat) ({ cls := "AllHome$Shelf", name := "isEmpty", desc := "()Z" } : Jvm.MethodName)) ∈ zTb := zTb_in (List.mem_of_getElem? (i := 456) (by decide +kernel)) (by decide +kernel)
theorem kw391 : (Jvm.Cond.instanceMethod ({ cls := "AllHome$Shelf", name := "isEmpty", desc := "()Z" } : Jvm.MethodName)) ∈ zTb := zTb_in (List.mem_of_getElem? (i := 457) (by decide +kernel)) (by decide +kernel)
theorem kw393 : (Jvm.Cond.code ({ cls := "AllHome$Shelf", name := "isEmpty", desc := "()Z" } : Jvm.MethodName) prog_7_method_4_code (1 : Nat) (Option.some Jvm.ClassFile.FieldType.boolean)) ∈ zTb := zTb_in (List.mem_of_getElem? (i := 459) (by decide +kernel)) (by decide +kernel)
theorem kw396 : (Jvm.Cond.selects "AllHome$Shelf" ({ cls := "AllHome$Shelf", name := "isRowOf", desc := "(I)Z" } : Jvm.MethodName) ({ cls := "AllHome$Shelf", name := "isRowOf", desc := "(I)Z" } : Jvm.MethodName)) ∈ zTb := zTb_in (List.mem_of_getElem? (i := 462) (by decide +kernel)) (by decide +kernel)
theorem kw394 : (Jvm.Cond.methodLink "AllHome" (120 : Nat) ({ cls := "AllHome$Shelf", name := "isRowOf", desc := "(I)Z" } : Jvm.MethodName)) ∈ zTb := zTb_in (List.mem_of_getElem? (i := 460) (by decide +kernel)) (by decide +kernel)
theorem kw395 : (Jvm.Cond.instanceMethod ({ cls := "AllHome$Shelf", name := "isRowOf", desc := "(I)Z" } : Jvm.MethodName)) ∈ zTb := zTb_in (List.mem_of_getElem? (i := 461) (by decide +kernel)) (by decide +kernel)
theorem kw397 : (Jvm.Cond.code ({ cls := "AllHome$Shelf", name := "isRowOf", desc := "(I)Z" } : Jvm.MethodName) prog_7_method_6_code (2 : Nat) (Option.some Jvm.ClassFile.FieldType.boolean)) ∈ zTb := zTb_in (List.mem_of_getElem? (i := 463) (by decide +kernel)) (by decide +kernel)
theorem kw398 : (Jvm.Cond.methodLink "AllHome" (123 : Nat) ({ cls := "AllHome$Shelf", name := "hasPlace", desc := "(I)Z" } : Jvm.MethodName)) ∈ zTb := zTb_in (List.mem_of_getElem? (i := 464) (by decide +kernel)) (by decide +kernel)
theorem kw404 : (Jvm.Cond.selects "AllHome$Shelf" ({ cls := "AllHome$Shelf", name := "at", desc := "(I)J" } : Jvm.MethodName) ({ cls := "AllHome$Shelf", name := "at", desc := "(I)J" } : Jvm.MethodName)) ∈ zTb := zTb_in (List.mem_of_getElem? (i := 470) (by decide +kernel)) (by decide +kernel)
theorem kw402 : (Jvm.Cond.methodLink "AllHome" (126 : Nat) ({ cls := "AllHome$Shelf", name := "at", desc := "(I)J" } : Jvm.MethodName)) ∈ zTb := zTb_in (List.mem_of_getElem? (i := 468) (by decide +kernel)) (by decide +kernel)
theorem kw403 : (Jvm.Cond.instanceMethod ({ cls := "AllHome$Shelf", name := "at", desc := "(I)J" } : Jvm.MethodName)) ∈ zTb := zTb_in (List.mem_of_getElem? (i := 469) (by decide +kernel)) (by decide +kernel)
theorem kw405 : (Jvm.Cond.code ({ cls := "AllHome$Shelf", name := "at", desc := "(I)J" } : Jvm.MethodName) prog_7_method_11_code (2 : Nat) (Option.some Jvm.ClassFile.FieldType.long)) ∈ zTb := zTb_in (List.mem_of_getElem? (i := 471) (by decide +kernel)) (by decide +kernel)
theorem kp11 : Cond.selects "AllHome$Run" ⟨"AllHome$Run", "hutsAwake", "()I"⟩ ⟨"AllHome$Run", "hutsAwake", "()I"⟩ ∈ zTb := zTb_in (List.mem_of_getElem? (i := 11) (by decide +kernel)) (by decide +kernel)
theorem kw416 : (Jvm.Cond.methodLink "AllHome$Run" (60 : Nat) ({ cls := "AllHome$Run", name := "hutsAwake", desc := "()I" } : Jvm.MethodName)) ∈ zTb := zTb_in (List.mem_of_getElem? (i := 482) (by decide +kernel)) (by decide +kernel)
theorem kw418 : (Jvm.Cond.instanceMethod ({ cls := "AllHome$Run", name := "hutsAwake", desc := "()I" } : Jvm.MethodName)) ∈ zTb := zTb_in (List.mem_of_getElem? (i := 484) (by decide +kernel)) (by decide +kernel)
theorem kw419 : (Jvm.Cond.code ({ cls := "AllHome$Run", name := "hutsAwake", desc := "()I" } : Jvm.MethodName) prog_6_method_7_code (3 : Nat) (Option.some Jvm.ClassFile.FieldType.int)) ∈ zTb := zTb_in (List.mem_of_getElem? (i := 485) (by decide +kernel)) (by decide +kernel)
theorem kw414 : (Jvm.Cond.selects "AllHome$Run" ({ cls := "AllHome$Run", name := "tell", desc := "(I)I" } : Jvm.MethodName) ({ cls := "AllHome$Run", name := "tell", desc := "(I)I" } : Jvm.MethodName)) ∈ zTb := zTb_in (List.mem_of_getElem? (i := 480) (by decide +kernel)) (by decide +kernel)
theorem kw412 : (Jvm.Cond.methodLink "AllHome" (130 : Nat) ({ cls := "AllHome$Run", name := "tell", desc := "(I)I" } : Jvm.MethodName)) ∈ zTb := zTb_in (List.mem_of_getElem? (i := 478) (by decide +kernel)) (by decide +kernel)
theorem kw413 : (Jvm.Cond.instanceMethod ({ cls := "AllHome$Run", name := "tell", desc := "(I)I" } : Jvm.MethodName)) ∈ zTb := zTb_in (List.mem_of_getElem? (i := 479) (by decide +kernel)) (by decide +kernel)
theorem kw415 : (Jvm.Cond.code ({ cls := "AllHome$Run", name := "tell", desc := "(I)I" } : Jvm.MethodName) prog_6_method_6_code (2 : Nat) (Option.some Jvm.ClassFile.FieldType.int)) ∈ zTb := zTb_in (List.mem_of_getElem? (i := 481) (by decide +kernel)) (by decide +kernel)
theorem kw435 : (Jvm.Cond.selects "AllHome$Rules" ({ cls := "AllHome$Rules", name := "family", desc := "()I" } : Jvm.MethodName) ({ cls := "AllHome$Rules", name := "family", desc := "()I" } : Jvm.MethodName)) ∈ zTb := zTb_in (List.mem_of_getElem? (i := 501) (by decide +kernel)) (by decide +kernel)
theorem kw433 : (Jvm.Cond.methodLink "AllHome$Run" (41 : Nat) ({ cls := "AllHome$Rules", name := "family", desc := "()I" } : Jvm.MethodName)) ∈ zTb := zTb_in (List.mem_of_getElem? (i := 499) (by decide +kernel)) (by decide +kernel)
theorem kw434 : (Jvm.Cond.instanceMethod ({ cls := "AllHome$Rules", name := "family", desc := "()I" } : Jvm.MethodName)) ∈ zTb := zTb_in (List.mem_of_getElem? (i := 500) (by decide +kernel)) (by decide +kernel)
theorem kw436 : (Jvm.Cond.code ({ cls := "AllHome$Rules", name := "family", desc := "()I" } : Jvm.MethodName) prog_5_method_2_code (1 : Nat) (Option.some Jvm.ClassFile.FieldType.int)) ∈ zTb := zTb_in (List.mem_of_getElem? (i := 502) (by decide +kernel)) (by decide +kernel)
theorem kw441 : (Jvm.Cond.constant "AllHome$Run" (45 : Nat) (-2000000000 : Int32)) ∈ zTb := zTb_in (List.mem_of_getElem? (i := 507) (by decide +kernel)) (by decide +kernel)
theorem kw426 : (Jvm.Cond.constant "AllHome" (136 : Nat) (-2000000000 : Int32)) ∈ zTb := zTb_in (List.mem_of_getElem? (i := 492) (by decide +kernel)) (by decide +kernel)
theorem kw424 : (Jvm.Cond.fieldLink "AllHome" (133 : Nat) "AllHome" "HUT_CELLS" "[I") ∈ zTb := zTb_in (List.mem_of_getElem? (i := 490) (by decide +kernel)) (by decide +kernel)
theorem kw427 : (Jvm.Cond.fieldLink "AllHome" (137 : Nat) "AllHome" "HUT_FAMILY" "[I") ∈ zTb := zTb_in (List.mem_of_getElem? (i := 493) (by decide +kernel)) (by decide +kernel)
theorem kw439 : (Jvm.Cond.selects "AllHome$Run" ({ cls := "AllHome$Run", name := "cell", desc := "(I)I" } : Jvm.MethodName) ({ cls := "AllHome$Run", name := "cell", desc := "(I)I" } : Jvm.MethodName)) ∈ zTb := zTb_in (List.mem_of_getElem? (i := 505) (by decide +kernel)) (by decide +kernel)
theorem kw437 : (Jvm.Cond.methodLink "AllHome" (143 : Nat) ({ cls := "AllHome$Run", name := "cell", desc := "(I)I" } : Jvm.MethodName)) ∈ zTb := zTb_in (List.mem_of_getElem? (i := 503) (by decide +kernel)) (by decide +kernel)
theorem kw438 : (Jvm.Cond.instanceMethod ({ cls := "AllHome$Run", name := "cell", desc := "(I)I" } : Jvm.MethodName)) ∈ zTb := zTb_in (List.mem_of_getElem? (i := 504) (by decide +kernel)) (by decide +kernel)
theorem kw440 : (Jvm.Cond.code ({ cls := "AllHome$Run", name := "cell", desc := "(I)I" } : Jvm.MethodName) prog_6_method_4_code (2 : Nat) (Option.some Jvm.ClassFile.FieldType.int)) ∈ zTb := zTb_in (List.mem_of_getElem? (i := 506) (by decide +kernel)) (by decide +kernel)
theorem kw431 : (Jvm.Cond.selects "AllHome$Run" ({ cls := "AllHome$Run", name := "family", desc := "()I" } : Jvm.MethodName) ({ cls := "AllHome$Run", name := "family", desc := "()I" } : Jvm.MethodName)) ∈ zTb := zTb_in (List.mem_of_getElem? (i := 497) (by decide +kernel)) (by decide +kernel)
theorem kw429 : (Jvm.Cond.methodLink "AllHome" (140 : Nat) ({ cls := "AllHome$Run", name := "family", desc := "()I" } : Jvm.MethodName)) ∈ zTb := zTb_in (List.mem_of_getElem? (i := 495) (by decide +kernel)) (by decide +kernel)
theorem kw430 : (Jvm.Cond.instanceMethod ({ cls := "AllHome$Run", name := "family", desc := "()I" } : Jvm.MethodName)) ∈ zTb := zTb_in (List.mem_of_getElem? (i := 496) (by decide +kernel)) (by decide +kernel)
theorem kw432 : (Jvm.Cond.code ({ cls := "AllHome$Run", name := "family", desc := "()I" } : Jvm.MethodName) prog_6_method_3_code (1 : Nat) (Option.some Jvm.ClassFile.FieldType.int)) ∈ zTb := zTb_in (List.mem_of_getElem? (i := 498) (by decide +kernel)) (by decide +kernel)
theorem kw79 : (Jvm.Cond.fieldLink "AllHome$Orders" (63 : Nat) "AllHome$Orders" "size" "I") ∈ zTb := zTb_in (List.mem_of_getElem? (i := 145) (by decide +kernel)) (by decide +kernel)
theorem kw78 : (Jvm.Cond.fieldLink "AllHome$Orders" (39 : Nat) "AllHome$Orders" "spare" "[I") ∈ zTb := zTb_in (List.mem_of_getElem? (i := 144) (by decide +kernel)) (by decide +kernel)
theorem kw70 : (Jvm.Cond.fieldLink "AllHome$Orders" (13 : Nat) "AllHome$Orders" "found" "[[I") ∈ zTb := zTb_in (List.mem_of_getElem? (i := 136) (by decide +kernel)) (by decide +kernel)
theorem kw472 : (Jvm.Cond.methodLink "AllHome$Orders" (87 : Nat) ({ cls := "java/lang/System", name := "arraycopy", desc := "(Ljava/lang/Object;ILjava/lang/Object;II)V" } : Jvm.MethodName)) ∈ zTb := zTb_in (List.mem_of_getElem? (i := 538) (by decide +kernel)) (by decide +kernel)
theorem kw71 : (Jvm.Cond.fieldLink "AllHome$Orders" (16 : Nat) "AllHome$Orders" "prints" "[I") ∈ zTb := zTb_in (List.mem_of_getElem? (i := 137) (by decide +kernel)) (by decide +kernel)
theorem kw473 : (Jvm.Cond.methodLink "AllHome$Orders" (100 : Nat) ({ cls := "AllHome$Orders", name := "printOf", desc := "([I)I" } : Jvm.MethodName)) ∈ zTb := zTb_in (List.mem_of_getElem? (i := 539) (by decide +kernel)) (by decide +kernel)
theorem kw474 : (Jvm.Cond.static ({ cls := "AllHome$Orders", name := "printOf", desc := "([I)I" } : Jvm.MethodName)) ∈ zTb := zTb_in (List.mem_of_getElem? (i := 540) (by decide +kernel)) (by decide +kernel)
theorem kw475 : (Jvm.Cond.code ({ cls := "AllHome$Orders", name := "printOf", desc := "([I)I" } : Jvm.MethodName) prog_4_method_10_code (3 : Nat) (Option.some Jvm.ClassFile.FieldType.int)) ∈ zTb := zTb_in (List.mem_of_getElem? (i := 541) (by decide +kernel)) (by decide +kernel)
theorem kw72 : (Jvm.Cond.fieldLink "AllHome$Orders" (20 : Nat) "AllHome$Orders" "ahead" "[I") ∈ zTb := zTb_in (List.mem_of_getElem? (i := 138) (by decide +kernel)) (by decide +kernel)
theorem kw73 : (Jvm.Cond.fieldLink "AllHome$Orders" (23 : Nat) "AllHome$Orders" "stepHere" "[I") ∈ zTb := zTb_in (List.mem_of_getElem? (i := 139) (by decide +kernel)) (by decide +kernel)
theorem kw74 : (Jvm.Cond.fieldLink "AllHome$Orders" (26 : Nat) "AllHome$Orders" "depth" "[I") ∈ zTb := zTb_in (List.mem_of_getElem? (i := 140) (by decide +kernel)) (by decide +kernel)
theorem kw76 : (Jvm.Cond.fieldLink "AllHome$Orders" (32 : Nat) "AllHome$Orders" "nexts" "[I") ∈ zTb := zTb_in (List.mem_of_getElem? (i := 142) (by decide +kernel)) (by decide +kernel)
theorem kw80 : (Jvm.Cond.fieldLink "AllHome$Orders" (59 : Nat) "AllHome$Orders" "big" "Z") ∈ zTb := zTb_in (List.mem_of_getElem? (i := 146) (by decide +kernel)) (by decide +kernel)
theorem kw68 : (Jvm.Cond.fieldLink "AllHome$Orders" (46 : Nat) "AllHome$Orders" "huts" "LAllHome$Huts;") ∈ zTb := zTb_in (List.mem_of_getElem? (i := 134) (by decide +kernel)) (by decide +kernel)
theorem kw466 : (Jvm.Cond.methodLink "AllHome$Orders" (66 : Nat) ({ cls := "AllHome$Huts", name := "size", desc := "()I" } : Jvm.MethodName)) ∈ zTb := zTb_in (List.mem_of_getElem? (i := 532) (by decide +kernel)) (by decide +kernel)
theorem kw489 : (Jvm.Cond.methodLink "AllHome$Orders" (104 : Nat) ({ cls := "AllHome$Orders", name := "alike", desc := "([I[II)Z" } : Jvm.MethodName)) ∈ zTb := zTb_in (List.mem_of_getElem? (i := 555) (by decide +kernel)) (by decide +kernel)
theorem kw490 : (Jvm.Cond.static ({ cls := "AllHome$Orders", name := "alike", desc := "([I[II)Z" } : Jvm.MethodName)) ∈ zTb := zTb_in (List.mem_of_getElem? (i := 556) (by decide +kernel)) (by decide +kernel)
theorem kw491 : (Jvm.Cond.code ({ cls := "AllHome$Orders", name := "alike", desc := "([I[II)Z" } : Jvm.MethodName) prog_4_method_11_code (4 : Nat) (Option.some Jvm.ClassFile.FieldType.boolean)) ∈ zTb := zTb_in (List.mem_of_getElem? (i := 557) (by decide +kernel)) (by decide +kernel)
theorem kw69 : (Jvm.Cond.fieldLink "AllHome$Orders" (55 : Nat) "AllHome$Orders" "rules" "LAllHome$Rules;") ∈ zTb := zTb_in (List.mem_of_getElem? (i := 135) (by decide +kernel)) (by decide +kernel)
theorem kw484 : (Jvm.Cond.methodLink "AllHome$Orders" (93 : Nat) ({ cls := "AllHome$Rules", name := "apply", desc := "([III)I" } : Jvm.MethodName)) ∈ zTb := zTb_in (List.mem_of_getElem? (i := 550) (by decide +kernel)) (by decide +kernel)
theorem kp16 : Cond.selects "AllHome$Orders" ⟨"AllHome$Orders", "findSpare", "()I"⟩ ⟨"AllHome$Orders", "findSpare", "()I"⟩ ∈ zTb := zTb_in (List.mem_of_getElem? (i := 16) (by decide +kernel)) (by decide +kernel)
theorem kw485 : (Jvm.Cond.methodLink "AllHome$Orders" (97 : Nat) ({ cls := "AllHome$Orders", name := "findSpare", desc := "()I" } : Jvm.MethodName)) ∈ zTb := zTb_in (List.mem_of_getElem? (i := 551) (by decide +kernel)) (by decide +kernel)
theorem kw487 : (Jvm.Cond.instanceMethod ({ cls := "AllHome$Orders", name := "findSpare", desc := "()I" } : Jvm.MethodName)) ∈ zTb := zTb_in (List.mem_of_getElem? (i := 553) (by decide +kernel)) (by decide +kernel)
theorem kw488 : (Jvm.Cond.code ({ cls := "AllHome$Orders", name := "findSpare", desc := "()I" } : Jvm.MethodName) prog_4_method_8_code (3 : Nat) (Option.some Jvm.ClassFile.FieldType.int)) ∈ zTb := zTb_in (List.mem_of_getElem? (i := 554) (by decide +kernel)) (by decide +kernel)
theorem kw75 : (Jvm.Cond.fieldLink "AllHome$Orders" (29 : Nat) "AllHome$Orders" "next" "[[I") ∈ zTb := zTb_in (List.mem_of_getElem? (i := 141) (by decide +kernel)) (by decide +kernel)
theorem kp13 : Cond.selects "AllHome$Orders" ⟨"AllHome$Orders", "addSpare", "(II)I"⟩ ⟨"AllHome$Orders", "addSpare", "(II)I"⟩ ∈ zTb := zTb_in (List.mem_of_getElem? (i := 13) (by decide +kernel)) (by decide +kernel)
theorem kw468 : (Jvm.Cond.methodLink "AllHome$Orders" (75 : Nat) ({ cls := "AllHome$Orders", name := "addSpare", desc := "(II)I" } : Jvm.MethodName)) ∈ zTb := zTb_in (List.mem_of_getElem? (i := 534) (by decide +kernel)) (by decide +kernel)
theorem kw470 : (Jvm.Cond.instanceMethod ({ cls := "AllHome$Orders", name := "addSpare", desc := "(II)I" } : Jvm.MethodName)) ∈ zTb := zTb_in (List.mem_of_getElem? (i := 536) (by decide +kernel)) (by decide +kernel)
theorem kw471 : (Jvm.Cond.code ({ cls := "AllHome$Orders", name := "addSpare", desc := "(II)I" } : Jvm.MethodName) prog_4_method_9_code (3 : Nat) (Option.some Jvm.ClassFile.FieldType.int)) ∈ zTb := zTb_in (List.mem_of_getElem? (i := 537) (by decide +kernel)) (by decide +kernel)
theorem kw467 : (Jvm.Cond.methodLink "AllHome$Orders" (71 : Nat) ({ cls := "AllHome$Rules", name := "begin", desc := "([II)V" } : Jvm.MethodName)) ∈ zTb := zTb_in (List.mem_of_getElem? (i := 533) (by decide +kernel)) (by decide +kernel)
theorem kp14 : Cond.selects "AllHome$Orders" ⟨"AllHome$Orders", "numbersOf", "([II)I"⟩ ⟨"AllHome$Orders", "numbersOf", "([II)I"⟩ ∈ zTb := zTb_in (List.mem_of_getElem? (i := 14) (by decide +kernel)) (by decide +kernel)
theorem kw476 : (Jvm.Cond.methodLink "AllHome$Orders" (79 : Nat) ({ cls := "AllHome$Orders", name := "numbersOf", desc := "([II)I" } : Jvm.MethodName)) ∈ zTb := zTb_in (List.mem_of_getElem? (i := 542) (by decide +kernel)) (by decide +kernel)
theorem kw478 : (Jvm.Cond.instanceMethod ({ cls := "AllHome$Orders", name := "numbersOf", desc := "([II)I" } : Jvm.MethodName)) ∈ zTb := zTb_in (List.mem_of_getElem? (i := 544) (by decide +kernel)) (by decide +kernel)
theorem kw479 : (Jvm.Cond.code ({ cls := "AllHome$Orders", name := "numbersOf", desc := "([II)I" } : Jvm.MethodName) prog_4_method_6_code (3 : Nat) (Option.some Jvm.ClassFile.FieldType.int)) ∈ zTb := zTb_in (List.mem_of_getElem? (i := 545) (by decide +kernel)) (by decide +kernel)
theorem kp15 : Cond.selects "AllHome$Orders" ⟨"AllHome$Orders", "tryStep", "(III)V"⟩ ⟨"AllHome$Orders", "tryStep", "(III)V"⟩ ∈ zTb := zTb_in (List.mem_of_getElem? (i := 15) (by decide +kernel)) (by decide +kernel)
theorem kw480 : (Jvm.Cond.methodLink "AllHome$Orders" (83 : Nat) ({ cls := "AllHome$Orders", name := "tryStep", desc := "(III)V" } : Jvm.MethodName)) ∈ zTb := zTb_in (List.mem_of_getElem? (i := 546) (by decide +kernel)) (by decide +kernel)
theorem kw482 : (Jvm.Cond.instanceMethod ({ cls := "AllHome$Orders", name := "tryStep", desc := "(III)V" } : Jvm.MethodName)) ∈ zTb := zTb_in (List.mem_of_getElem? (i := 548) (by decide +kernel)) (by decide +kernel)
theorem kw483 : (Jvm.Cond.code ({ cls := "AllHome$Orders", name := "tryStep", desc := "(III)V" } : Jvm.MethodName) prog_4_method_7_code (5 : Nat) (Option.none : Option Jvm.ClassFile.FieldType)) ∈ zTb := zTb_in (List.mem_of_getElem? (i := 549) (by decide +kernel)) (by decide +kernel)
theorem kw464 : (Jvm.Cond.selects "AllHome$Orders" ({ cls := "AllHome$Orders", name := "explore", desc := "(I)V" } : Jvm.MethodName) ({ cls := "AllHome$Orders", name := "explore", desc := "(I)V" } : Jvm.MethodName)) ∈ zTb := zTb_in (List.mem_of_getElem? (i := 530) (by decide +kernel)) (by decide +kernel)
theorem kw462 : (Jvm.Cond.methodLink "AllHome" (168 : Nat) ({ cls := "AllHome$Orders", name := "explore", desc := "(I)V" } : Jvm.MethodName)) ∈ zTb := zTb_in (List.mem_of_getElem? (i := 528) (by decide +kernel)) (by decide +kernel)
theorem kw463 : (Jvm.Cond.instanceMethod ({ cls := "AllHome$Orders", name := "explore", desc := "(I)V" } : Jvm.MethodName)) ∈ zTb := zTb_in (List.mem_of_getElem? (i := 529) (by decide +kernel)) (by decide +kernel)
theorem kw465 : (Jvm.Cond.code ({ cls := "AllHome$Orders", name := "explore", desc := "(I)V" } : Jvm.MethodName) prog_4_method_5_code (7 : Nat) (Option.none : Option Jvm.ClassFile.FieldType)) ∈ zTb := zTb_in (List.mem_of_getElem? (i := 531) (by decide +kernel)) (by decide +kernel)
theorem kw494 : (Jvm.Cond.selects "AllHome$Orders" ({ cls := "AllHome$Orders", name := "isBig", desc := "()Z" } : Jvm.MethodName) ({ cls := "AllHome$Orders", name := "isBig", desc := "()Z" } : Jvm.MethodName)) ∈ zTb := zTb_in (List.mem_of_getElem? (i := 560) (by decide +kernel)) (by decide +kernel)
theorem kw492 : (Jvm.Cond.methodLink "AllHome" (172 : Nat) ({ cls := "AllHome$Orders", name := "isBig", desc := "()Z" } : Jvm.MethodName)) ∈ zTb := zTb_in (List.mem_of_getElem? (i := 558) (by decide +kernel)) (by decide +kernel)
theorem kw493 : (Jvm.Cond.instanceMethod ({ cls := "AllHome$Orders", name := "isBig", desc := "()Z" } : Jvm.MethodName)) ∈ zTb := zTb_in (List.mem_of_getElem? (i := 559) (by decide +kernel)) (by decide +kernel)
theorem kw495 : (Jvm.Cond.code ({ cls := "AllHome$Orders", name := "isBig", desc := "()Z" } : Jvm.MethodName) prog_4_method_3_code (1 : Nat) (Option.some Jvm.ClassFile.FieldType.boolean)) ∈ zTb := zTb_in (List.mem_of_getElem? (i := 561) (by decide +kernel)) (by decide +kernel)
theorem kp12 : Cond.selects "AllHome" ⟨"AllHome", "goThrough", "(I)I"⟩ ⟨"AllHome", "goThrough", "(I)I"⟩ ∈ zTb := zTb_in (List.mem_of_getElem? (i := 12) (by decide +kernel)) (by decide +kernel)
theorem kw458 : (Jvm.Cond.methodLink "AllHome" (146 : Nat) ({ cls := "AllHome", name := "goThrough", desc := "(I)I" } : Jvm.MethodName)) ∈ zTb := zTb_in (List.mem_of_getElem? (i := 524) (by decide +kernel)) (by decide +kernel)
theorem kw460 : (Jvm.Cond.instanceMethod ({ cls := "AllHome", name := "goThrough", desc := "(I)I" } : Jvm.MethodName)) ∈ zTb := zTb_in (List.mem_of_getElem? (i := 526) (by decide +kernel)) (by decide +kernel)
theorem kw461 : (Jvm.Cond.code ({ cls := "AllHome", name := "goThrough", desc := "(I)I" } : Jvm.MethodName) prog_1_method_34_code (2 : Nat) (Option.some Jvm.ClassFile.FieldType.int)) ∈ zTb := zTb_in (List.mem_of_getElem? (i := 527) (by decide +kernel)) (by decide +kernel)
theorem kw498 : (Jvm.Cond.selects "AllHome$Orders" ({ cls := "AllHome$Orders", name := "size", desc := "()I" } : Jvm.MethodName) ({ cls := "AllHome$Orders", name := "size", desc := "()I" } : Jvm.MethodName)) ∈ zTb := zTb_in (List.mem_of_getElem? (i := 564) (by decide +kernel)) (by decide +kernel)
theorem kw496 : (Jvm.Cond.methodLink "AllHome" (149 : Nat) ({ cls := "AllHome$Orders", name := "size", desc := "()I" } : Jvm.MethodName)) ∈ zTb := zTb_in (List.mem_of_getElem? (i := 562) (by decide +kernel)) (by decide +kernel)
theorem kw497 : (Jvm.Cond.instanceMethod ({ cls := "AllHome$Orders", name := "size", desc := "()I" } : Jvm.MethodName)) ∈ zTb := zTb_in (List.mem_of_getElem? (i := 563) (by decide +kernel)) (by decide +kernel)
theorem kw499 : (Jvm.Cond.code ({ cls := "AllHome$Orders", name := "size", desc := "()I" } : Jvm.MethodName) prog_4_method_4_code (1 : Nat) (Option.some Jvm.ClassFile.FieldType.int)) ∈ zTb := zTb_in (List.mem_of_getElem? (i := 565) (by decide +kernel)) (by decide +kernel)
theorem kp17 : Cond.selects "AllHome$Orders" ⟨"AllHome$Orders", "firstSaying", "(Z)I"⟩ ⟨"AllHome$Orders", "firstSaying", "(Z)I"⟩ ∈ zTb := zTb_in (List.mem_of_getElem? (i := 17) (by decide +kernel)) (by decide +kernel)
theorem kw508 : (Jvm.Cond.methodLink "AllHome$Orders" (108 : Nat) ({ cls := "AllHome$Orders", name := "firstSaying", desc := "(Z)I" } : Jvm.MethodName)) ∈ zTb := zTb_in (List.mem_of_getElem? (i := 574) (by decide +kernel)) (by decide +kernel)
theorem kw510 : (Jvm.Cond.instanceMethod ({ cls := "AllHome$Orders", name := "firstSaying", desc := "(Z)I" } : Jvm.MethodName)) ∈ zTb := zTb_in (List.mem_of_getElem? (i := 576) (by decide +kernel)) (by decide +kernel)
theorem kw511 : (Jvm.Cond.code ({ cls := "AllHome$Orders", name := "firstSaying", desc := "(Z)I" } : Jvm.MethodName) prog_4_method_14_code (3 : Nat) (Option.some Jvm.ClassFile.FieldType.int)) ∈ zTb := zTb_in (List.mem_of_getElem? (i := 577) (by decide +kernel)) (by decide +kernel)
theorem kw519 : (Jvm.Cond.selects "AllHome$Orders" ({ cls := "AllHome$Orders", name := "stepsTo", desc := "(I)I" } : Jvm.MethodName) ({ cls := "AllHome$Orders", name := "stepsTo", desc := "(I)I" } : Jvm.MethodName)) ∈ zTb := zTb_in (List.mem_of_getElem? (i := 585) (by decide +kernel)) (by decide +kernel)
theorem kw525 : (Jvm.Cond.methodLink "AllHome$Orders" (116 : Nat) ({ cls := "AllHome$Orders", name := "stepsTo", desc := "(I)I" } : Jvm.MethodName)) ∈ zTb := zTb_in (List.mem_of_getElem? (i := 591) (by decide +kernel)) (by decide +kernel)
theorem kw518 : (Jvm.Cond.instanceMethod ({ cls := "AllHome$Orders", name := "stepsTo", desc := "(I)I" } : Jvm.MethodName)) ∈ zTb := zTb_in (List.mem_of_getElem? (i := 584) (by decide +kernel)) (by decide +kernel)
theorem kw520 : (Jvm.Cond.code ({ cls := "AllHome$Orders", name := "stepsTo", desc := "(I)I" } : Jvm.MethodName) prog_4_method_15_code (2 : Nat) (Option.some Jvm.ClassFile.FieldType.int)) ∈ zTb := zTb_in (List.mem_of_getElem? (i := 586) (by decide +kernel)) (by decide +kernel)
theorem kw515 : (Jvm.Cond.selects "AllHome$Orders" ({ cls := "AllHome$Orders", name := "soon", desc := "()I" } : Jvm.MethodName) ({ cls := "AllHome$Orders", name := "soon", desc := "()I" } : Jvm.MethodName)) ∈ zTb := zTb_in (List.mem_of_getElem? (i := 581) (by decide +kernel)) (by decide +kernel)
theorem kw513 : (Jvm.Cond.methodLink "AllHome" (153 : Nat) ({ cls := "AllHome$Orders", name := "soon", desc := "()I" } : Jvm.MethodName)) ∈ zTb := zTb_in (List.mem_of_getElem? (i := 579) (by decide +kernel)) (by decide +kernel)
theorem kw514 : (Jvm.Cond.instanceMethod ({ cls := "AllHome$Orders", name := "soon", desc := "()I" } : Jvm.MethodName)) ∈ zTb := zTb_in (List.mem_of_getElem? (i := 580) (by decide +kernel)) (by decide +kernel)
theorem kw516 : (Jvm.Cond.code ({ cls := "AllHome$Orders", name := "soon", desc := "()I" } : Jvm.MethodName) prog_4_method_13_code (1 : Nat) (Option.some Jvm.ClassFile.FieldType.int)) ∈ zTb := zTb_in (List.mem_of_getElem? (i := 582) (by decide +kernel)) (by decide +kernel)
theorem kw517 : (Jvm.Cond.methodLink "AllHome" (156 : Nat) ({ cls := "AllHome$Orders", name := "stepsTo", desc := "(I)I" } : Jvm.MethodName)) ∈ zTb := zTb_in (List.mem_of_getElem? (i := 583) (by decide +kernel)) (by decide +kernel)
theorem kw523 : (Jvm.Cond.selects "AllHome$Orders" ({ cls := "AllHome$Orders", name := "stepOnTheWayTo", desc := "(II)I" } : Jvm.MethodName) ({ cls := "AllHome$Orders", name := "stepOnTheWayTo", desc := "(II)I" } : Jvm.MethodName)) ∈ zTb := zTb_in (List.mem_of_getElem? (i := 589) (by decide +kernel)) (by decide +kernel)
theorem kw521 : (Jvm.Cond.methodLink "AllHome" (159 : Nat) ({ cls := "AllHome$Orders", name := "stepOnTheWayTo", desc := "(II)I" } : Jvm.MethodName)) ∈ zTb := zTb_in (List.mem_of_getElem? (i := 587) (by decide +kernel)) (by decide +kernel)
theorem kw522 : (Jvm.Cond.instanceMethod ({ cls := "AllHome$Orders", name := "stepOnTheWayTo", desc := "(II)I" } : Jvm.MethodName)) ∈ zTb := zTb_in (List.mem_of_getElem? (i := 588) (by decide +kernel)) (by decide +kernel)
theorem kw524 : (Jvm.Cond.code ({ cls := "AllHome$Orders", name := "stepOnTheWayTo", desc := "(II)I" } : Jvm.MethodName) prog_4_method_16_code (5 : Nat) (Option.some Jvm.ClassFile.FieldType.int)) ∈ zTb := zTb_in (List.mem_of_getElem? (i := 590) (by decide +kernel)) (by decide +kernel)
theorem kw506 : (Jvm.Cond.selects "AllHome$Orders" ({ cls := "AllHome$Orders", name := "early", desc := "()I" } : Jvm.MethodName) ({ cls := "AllHome$Orders", name := "early", desc := "()I" } : Jvm.MethodName)) ∈ zTb := zTb_in (List.mem_of_getElem? (i := 572) (by decide +kernel)) (by decide +kernel)
theorem kw504 : (Jvm.Cond.methodLink "AllHome" (150 : Nat) ({ cls := "AllHome$Orders", name := "early", desc := "()I" } : Jvm.MethodName)) ∈ zTb := zTb_in (List.mem_of_getElem? (i := 570) (by decide +kernel)) (by decide +kernel)
theorem kw505 : (Jvm.Cond.instanceMethod ({ cls := "AllHome$Orders", name := "early", desc := "()I" } : Jvm.MethodName)) ∈ zTb := zTb_in (List.mem_of_getElem? (i := 571) (by decide +kernel)) (by decide +kernel)
theorem kw507 : (Jvm.Cond.code ({ cls := "AllHome$Orders", name := "early", desc := "()I" } : Jvm.MethodName) prog_4_method_12_code (1 : Nat) (Option.some Jvm.ClassFile.FieldType.int)) ∈ zTb := zTb_in (List.mem_of_getElem? (i := 573) (by decide +kernel)) (by decide +kernel)
theorem kw77 : (Jvm.Cond.fieldLink "AllHome$Orders" (35 : Nat) "AllHome$Orders" "canSay" "[Z") ∈ zTb := zTb_in (List.mem_of_getElem? (i := 143) (by decide +kernel)) (by decide +kernel)
theorem kp18 : Cond.selects "AllHome$Orders" ⟨"AllHome$Orders", "spreadCanSay", "()Z"⟩ ⟨"AllHome$Orders", "spreadCanSay", "()Z"⟩ ∈ zTb := zTb_in (List.mem_of_getElem? (i := 18) (by decide +kernel)) (by decide +kernel)
theorem kw534 : (Jvm.Cond.methodLink "AllHome$Orders" (120 : Nat) ({ cls := "AllHome$Orders", name := "spreadCanSay", desc := "()Z" } : Jvm.MethodName)) ∈ zTb := zTb_in (List.mem_of_getElem? (i := 600) (by decide +kernel)) (by decide +kernel)
theorem kw536 : (Jvm.Cond.instanceMethod ({ cls := "AllHome$Orders", name := "spreadCanSay", desc := "()Z" } : Jvm.MethodName)) ∈ zTb := zTb_in (List.mem_of_getElem? (i := 602) (by decide +kernel)) (by decide +kernel)
theorem kw537 : (Jvm.Cond.code ({ cls := "AllHome$Orders", name := "spreadCanSay", desc := "()Z" } : Jvm.MethodName) prog_4_method_18_code (4 : Nat) (Option.some Jvm.ClassFile.FieldType.boolean)) ∈ zTb := zTb_in (List.mem_of_getElem? (i := 603) (by decide +kernel)) (by decide +kernel)
theorem kw532 : (Jvm.Cond.selects "AllHome$Orders" ({ cls := "AllHome$Orders", name := "stuckStates", desc := "()I" } : Jvm.MethodName) ({ cls := "AllHome$Orders", name := "stuckStates", desc := "()I" } : Jvm.MethodName)) ∈ zTb := zTb_in (List.mem_of_getElem? (i := 598) (by decide +kernel)) (by decide +kernel)
theorem kw530 : (Jvm.Cond.methodLink "AllHome" (162 : Nat) ({ cls := "AllHome$Orders", name := "stuckStates", desc := "()I" } : Jvm.MethodName)) ∈ zTb := zTb_in (List.mem_of_getElem? (i := 596) (by decide +kernel)) (by decide +kernel)
theorem kw531 : (Jvm.Cond.instanceMethod ({ cls := "AllHome$Orders", name := "stuckStates", desc := "()I" } : Jvm.MethodName)) ∈ zTb := zTb_in (List.mem_of_getElem? (i := 597) (by decide +kernel)) (by decide +kernel)
theorem kw533 : (Jvm.Cond.code ({ cls := "AllHome$Orders", name := "stuckStates", desc := "()I" } : Jvm.MethodName) prog_4_method_17_code (4 : Nat) (Option.some Jvm.ClassFile.FieldType.int)) ∈ zTb := zTb_in (List.mem_of_getElem? (i := 599) (by decide +kernel)) (by decide +kernel)
theorem kw544 : (Jvm.Cond.selects "AllHome$Orders" ({ cls := "AllHome$Orders", name := "unlikeWorks", desc := "()I" } : Jvm.MethodName) ({ cls := "AllHome$Orders", name := "unlikeWorks", desc := "()I" } : Jvm.MethodName)) ∈ zTb := zTb_in (List.mem_of_getElem? (i := 610) (by decide +kernel)) (by decide +kernel)
theorem kw542 : (Jvm.Cond.methodLink "AllHome" (165 : Nat) ({ cls := "AllHome$Orders", name := "unlikeWorks", desc := "()I" } : Jvm.MethodName)) ∈ zTb := zTb_in (List.mem_of_getElem? (i := 608) (by decide +kernel)) (by decide +kernel)
theorem kw543 : (Jvm.Cond.instanceMethod ({ cls := "AllHome$Orders", name := "unlikeWorks", desc := "()I" } : Jvm.MethodName)) ∈ zTb := zTb_in (List.mem_of_getElem? (i := 609) (by decide +kernel)) (by decide +kernel)
theorem kw545 : (Jvm.Cond.code ({ cls := "AllHome$Orders", name := "unlikeWorks", desc := "()I" } : Jvm.MethodName) prog_4_method_19_code (5 : Nat) (Option.some Jvm.ClassFile.FieldType.int)) ∈ zTb := zTb_in (List.mem_of_getElem? (i := 611) (by decide +kernel)) (by decide +kernel)
theorem kw118 : (Jvm.Cond.fieldLink "AllHome$Acts" (15 : Nat) "AllHome$Acts" "ran" "I") ∈ zTb := zTb_in (List.mem_of_getElem? (i := 184) (by decide +kernel)) (by decide +kernel)
theorem kw566 : (Jvm.Cond.fieldLink "AllHome$Acts" (44 : Nat) "AllHome$Acts" "BODIES" "[I") ∈ zTb := zTb_in (List.mem_of_getElem? (i := 632) (by decide +kernel)) (by decide +kernel)
theorem kw117 : (Jvm.Cond.fieldLink "AllHome$Acts" (11 : Nat) "AllHome$Acts" "traced" "[I") ∈ zTb := zTb_in (List.mem_of_getElem? (i := 183) (by decide +kernel)) (by decide +kernel)
theorem kw562 : (Jvm.Cond.methodLink "AllHome$Acts" (29 : Nat) ({ cls := "AllHome$Acts", name := "bodyOf", desc := "(II)I" } : Jvm.MethodName)) ∈ zTb := zTb_in (List.mem_of_getElem? (i := 628) (by decide +kernel)) (by decide +kernel)
theorem kw563 : (Jvm.Cond.static ({ cls := "AllHome$Acts", name := "bodyOf", desc := "(II)I" } : Jvm.MethodName)) ∈ zTb := zTb_in (List.mem_of_getElem? (i := 629) (by decide +kernel)) (by decide +kernel)
theorem kw5 : (Jvm.Cond.initialized "AllHome$Acts") ∈ zTb := zTb_in (List.mem_of_getElem? (i := 71) (by decide +kernel)) (by decide +kernel)
theorem kw564 : (Jvm.Cond.code ({ cls := "AllHome$Acts", name := "bodyOf", desc := "(II)I" } : Jvm.MethodName) prog_2_method_7_code (2 : Nat) (Option.some Jvm.ClassFile.FieldType.int)) ∈ zTb := zTb_in (List.mem_of_getElem? (i := 630) (by decide +kernel)) (by decide +kernel)
theorem kp20 : Cond.selects "AllHome$Acts" ⟨"AllHome$Acts", "begun", "(I)V"⟩ ⟨"AllHome$Acts", "begun", "(I)V"⟩ ∈ zTb := zTb_in (List.mem_of_getElem? (i := 20) (by decide +kernel)) (by decide +kernel)
theorem kw569 : (Jvm.Cond.methodLink "AllHome$Acts" (40 : Nat) ({ cls := "AllHome$Acts", name := "begun", desc := "(I)V" } : Jvm.MethodName)) ∈ zTb := zTb_in (List.mem_of_getElem? (i := 635) (by decide +kernel)) (by decide +kernel)
theorem kw571 : (Jvm.Cond.instanceMethod ({ cls := "AllHome$Acts", name := "begun", desc := "(I)V" } : Jvm.MethodName)) ∈ zTb := zTb_in (List.mem_of_getElem? (i := 637) (by decide +kernel)) (by decide +kernel)
theorem kw572 : (Jvm.Cond.code ({ cls := "AllHome$Acts", name := "begun", desc := "(I)V" } : Jvm.MethodName) prog_2_method_8_code (2 : Nat) (Option.none : Option Jvm.ClassFile.FieldType)) ∈ zTb := zTb_in (List.mem_of_getElem? (i := 638) (by decide +kernel)) (by decide +kernel)
theorem kw120 : (Jvm.Cond.fieldLink "AllHome$Acts" (22 : Nat) "AllHome$Acts" "number" "I") ∈ zTb := zTb_in (List.mem_of_getElem? (i := 186) (by decide +kernel)) (by decide +kernel)
theorem kw119 : (Jvm.Cond.fieldLink "AllHome$Acts" (19 : Nat) "AllHome$Acts" "kind" "I") ∈ zTb := zTb_in (List.mem_of_getElem? (i := 185) (by decide +kernel)) (by decide +kernel)
theorem kp19 : Cond.selects "AllHome$Acts" ⟨"AllHome$Acts", "perform", "(IIII)I"⟩ ⟨"AllHome$Acts", "perform", "(IIII)I"⟩ ∈ zTb := zTb_in (List.mem_of_getElem? (i := 19) (by decide +kernel)) (by decide +kernel)
theorem kw558 : (Jvm.Cond.methodLink "AllHome$Acts" (25 : Nat) ({ cls := "AllHome$Acts", name := "perform", desc := "(IIII)I" } : Jvm.MethodName)) ∈ zTb := zTb_in (List.mem_of_getElem? (i := 624) (by decide +kernel)) (by decide +kernel)
theorem kw560 : (Jvm.Cond.instanceMethod ({ cls := "AllHome$Acts", name := "perform", desc := "(IIII)I" } : Jvm.MethodName)) ∈ zTb := zTb_in (List.mem_of_getElem? (i := 626) (by decide +kernel)) (by decide +kernel)
theorem kw561 : (Jvm.Cond.code ({ cls := "AllHome$Acts", name := "perform", desc := "(IIII)I" } : Jvm.MethodName) prog_2_method_6_code (9 : Nat) (Option.some Jvm.ClassFile.FieldType.int)) ∈ zTb := zTb_in (List.mem_of_getElem? (i := 627) (by decide +kernel)) (by decide +kernel)
theorem kw187 : (Jvm.Cond.fieldLink "AllHome" (47 : Nat) "AllHome" "acts" "LAllHome$Acts;") ∈ zTb := zTb_in (List.mem_of_getElem? (i := 253) (by decide +kernel)) (by decide +kernel)
theorem kw552 : (Jvm.Cond.selects "AllHome$Acts" ({ cls := "AllHome$Acts", name := "clear", desc := "()V" } : Jvm.MethodName) ({ cls := "AllHome$Acts", name := "clear", desc := "()V" } : Jvm.MethodName)) ∈ zTb := zTb_in (List.mem_of_getElem? (i := 618) (by decide +kernel)) (by decide +kernel)
theorem kw550 : (Jvm.Cond.methodLink "AllHome" (175 : Nat) ({ cls := "AllHome$Acts", name := "clear", desc := "()V" } : Jvm.MethodName)) ∈ zTb := zTb_in (List.mem_of_getElem? (i := 616) (by decide +kernel)) (by decide +kernel)
theorem kw551 : (Jvm.Cond.instanceMethod ({ cls := "AllHome$Acts", name := "clear", desc := "()V" } : Jvm.MethodName)) ∈ zTb := zTb_in (List.mem_of_getElem? (i := 617) (by decide +kernel)) (by decide +kernel)
theorem kw553 : (Jvm.Cond.code ({ cls := "AllHome$Acts", name := "clear", desc := "()V" } : Jvm.MethodName) prog_2_method_2_code (1 : Nat) (Option.none : Option Jvm.ClassFile.FieldType)) ∈ zTb := zTb_in (List.mem_of_getElem? (i := 619) (by decide +kernel)) (by decide +kernel)
theorem kw556 : (Jvm.Cond.selects "AllHome$Acts" ({ cls := "AllHome$Acts", name := "begin", desc := "(IIII)I" } : Jvm.MethodName) ({ cls := "AllHome$Acts", name := "begin", desc := "(IIII)I" } : Jvm.MethodName)) ∈ zTb := zTb_in (List.mem_of_getElem? (i := 622) (by decide +kernel)) (by decide +kernel)
theorem kw554 : (Jvm.Cond.methodLink "AllHome" (178 : Nat) ({ cls := "AllHome$Acts", name := "begin", desc := "(IIII)I" } : Jvm.MethodName)) ∈ zTb := zTb_in (List.mem_of_getElem? (i := 620) (by decide +kernel)) (by decide +kernel)
theorem kw555 : (Jvm.Cond.instanceMethod ({ cls := "AllHome$Acts", name := "begin", desc := "(IIII)I" } : Jvm.MethodName)) ∈ zTb := zTb_in (List.mem_of_getElem? (i := 621) (by decide +kernel)) (by decide +kernel)
theorem kw557 : (Jvm.Cond.code ({ cls := "AllHome$Acts", name := "begin", desc := "(IIII)I" } : Jvm.MethodName) prog_2_method_5_code (5 : Nat) (Option.some Jvm.ClassFile.FieldType.int)) ∈ zTb := zTb_in (List.mem_of_getElem? (i := 623) (by decide +kernel)) (by decide +kernel)
theorem kw579 : (Jvm.Cond.selects "AllHome$Acts" ({ cls := "AllHome$Acts", name := "traced", desc := "(I)I" } : Jvm.MethodName) ({ cls := "AllHome$Acts", name := "traced", desc := "(I)I" } : Jvm.MethodName)) ∈ zTb := zTb_in (List.mem_of_getElem? (i := 645) (by decide +kernel)) (by decide +kernel)
theorem kw577 : (Jvm.Cond.methodLink "AllHome" (181 : Nat) ({ cls := "AllHome$Acts", name := "traced", desc := "(I)I" } : Jvm.MethodName)) ∈ zTb := zTb_in (List.mem_of_getElem? (i := 643) (by decide +kernel)) (by decide +kernel)
theorem kw578 : (Jvm.Cond.instanceMethod ({ cls := "AllHome$Acts", name := "traced", desc := "(I)I" } : Jvm.MethodName)) ∈ zTb := zTb_in (List.mem_of_getElem? (i := 644) (by decide +kernel)) (by decide +kernel)
theorem kw580 : (Jvm.Cond.code ({ cls := "AllHome$Acts", name := "traced", desc := "(I)I" } : Jvm.MethodName) prog_2_method_4_code (2 : Nat) (Option.some Jvm.ClassFile.FieldType.int)) ∈ zTb := zTb_in (List.mem_of_getElem? (i := 646) (by decide +kernel)) (by decide +kernel)
theorem kw587 : (Jvm.Cond.selects "AllHome$Shelf" ({ cls := "AllHome$Shelf", name := "holdWay", desc := "(I)V" } : Jvm.MethodName) ({ cls := "AllHome$Shelf", name := "holdWay", desc := "(I)V" } : Jvm.MethodName)) ∈ zTb := zTb_in (List.mem_of_getElem? (i := 653) (by decide +kernel)) (by decide +kernel)
theorem kw585 : (Jvm.Cond.methodLink "AllHome" (184 : Nat) ({ cls := "AllHome$Shelf", name := "holdWay", desc := "(I)V" } : Jvm.MethodName)) ∈ zTb := zTb_in (List.mem_of_getElem? (i := 651) (by decide +kernel)) (by decide +kernel)
theorem kw586 : (Jvm.Cond.instanceMethod ({ cls := "AllHome$Shelf", name := "holdWay", desc := "(I)V" } : Jvm.MethodName)) ∈ zTb := zTb_in (List.mem_of_getElem? (i := 652) (by decide +kernel)) (by decide +kernel)
theorem kw588 : (Jvm.Cond.code ({ cls := "AllHome$Shelf", name := "holdWay", desc := "(I)V" } : Jvm.MethodName) prog_7_method_2_code (2 : Nat) (Option.none : Option Jvm.ClassFile.FieldType)) ∈ zTb := zTb_in (List.mem_of_getElem? (i := 654) (by decide +kernel)) (by decide +kernel)
theorem kw597 : (Jvm.Cond.methodLink "AllHome$Shelf" (25 : Nat) ({ cls := "java/lang/Math", name := "min", desc := "(II)I" } : Jvm.MethodName)) ∈ zTb := zTb_in (List.mem_of_getElem? (i := 663) (by decide +kernel)) (by decide +kernel)
theorem kw598 : (Jvm.Cond.methodLink "AllHome$Shelf" (31 : Nat) ({ cls := "java/lang/Math", name := "max", desc := "(II)I" } : Jvm.MethodName)) ∈ zTb := zTb_in (List.mem_of_getElem? (i := 664) (by decide +kernel)) (by decide +kernel)
theorem kw599 : (Jvm.Cond.static ({ cls := "java/lang/Math", name := "max", desc := "(II)I" } : Jvm.MethodName)) ∈ zTb := zTb_in (List.mem_of_getElem? (i := 665) (by decide +kernel)) (by decide +kernel)
theorem kw600 : (Jvm.Cond.code ({ cls := "java/lang/Math", name := "max", desc := "(II)I" } : Jvm.MethodName) prog_10_method_65_code (2 : Nat) (Option.some Jvm.ClassFile.FieldType.int)) ∈ zTb := zTb_in (List.mem_of_getElem? (i := 666) (by decide +kernel)) (by decide +kernel)
theorem kw601 : (Jvm.Cond.methodLink "AllHome$Shelf" (34 : Nat) ({ cls := "java/util/Arrays", name := "fill", desc := "([JJ)V" } : Jvm.MethodName)) ∈ zTb := zTb_in (List.mem_of_getElem? (i := 667) (by decide +kernel)) (by decide +kernel)
theorem kw602 : (Jvm.Cond.static ({ cls := "java/util/Arrays", name := "fill", desc := "([JJ)V" } : Jvm.MethodName)) ∈ zTb := zTb_in (List.mem_of_getElem? (i := 668) (by decide +kernel)) (by decide +kernel)
theorem kw603 : (Jvm.Cond.code ({ cls := "java/util/Arrays", name := "fill", desc := "([JJ)V" } : Jvm.MethodName) prog_12_method_101_code (5 : Nat) (Option.none : Option Jvm.ClassFile.FieldType)) ∈ zTb := zTb_in (List.mem_of_getElem? (i := 669) (by decide +kernel)) (by decide +kernel)
theorem kw595 : (Jvm.Cond.selects "AllHome$Shelf" ({ cls := "AllHome$Shelf", name := "holdRow", desc := "(II)V" } : Jvm.MethodName) ({ cls := "AllHome$Shelf", name := "holdRow", desc := "(II)V" } : Jvm.MethodName)) ∈ zTb := zTb_in (List.mem_of_getElem? (i := 661) (by decide +kernel)) (by decide +kernel)
theorem kw593 : (Jvm.Cond.methodLink "AllHome" (187 : Nat) ({ cls := "AllHome$Shelf", name := "holdRow", desc := "(II)V" } : Jvm.MethodName)) ∈ zTb := zTb_in (List.mem_of_getElem? (i := 659) (by decide +kernel)) (by decide +kernel)
theorem kw594 : (Jvm.Cond.instanceMethod ({ cls := "AllHome$Shelf", name := "holdRow", desc := "(II)V" } : Jvm.MethodName)) ∈ zTb := zTb_in (List.mem_of_getElem? (i := 660) (by decide +kernel)) (by decide +kernel)
theorem kw596 : (Jvm.Cond.code ({ cls := "AllHome$Shelf", name := "holdRow", desc := "(II)V" } : Jvm.MethodName) prog_7_method_3_code (3 : Nat) (Option.none : Option Jvm.ClassFile.FieldType)) ∈ zTb := zTb_in (List.mem_of_getElem? (i := 662) (by decide +kernel)) (by decide +kernel)
theorem kw614 : (Jvm.Cond.selects "AllHome$Shelf" ({ cls := "AllHome$Shelf", name := "isRow", desc := "()Z" } : Jvm.MethodName) ({ cls := "AllHome$Shelf", name := "isRow", desc := "()Z" } : Jvm.MethodName)) ∈ zTb := zTb_in (List.mem_of_getElem? (i := 680) (by decide +kernel)) (by decide +kernel)
theorem kw612 : (Jvm.Cond.methodLink "AllHome" (201 : Nat) ({ cls := "AllHome$Shelf", name := "isRow", desc := "()Z" } : Jvm.MethodName)) ∈ zTb := zTb_in (List.mem_of_getElem? (i := 678) (by decide +kernel)) (by decide +kernel)
theorem kw613 : (Jvm.Cond.instanceMethod ({ cls := "AllHome$Shelf", name := "isRow", desc := "()Z" } : Jvm.MethodName)) ∈ zTb := zTb_in (List.mem_of_getElem? (i := 679) (by decide +kernel)) (by decide +kernel)
theorem kw615 : (Jvm.Cond.code ({ cls := "AllHome$Shelf", name := "isRow", desc := "()Z" } : Jvm.MethodName) prog_7_method_5_code (1 : Nat) (Option.some Jvm.ClassFile.FieldType.boolean)) ∈ zTb := zTb_in (List.mem_of_getElem? (i := 681) (by decide +kernel)) (by decide +kernel)
theorem kp22 : Cond.selects "AllHome$Shelf" ⟨"AllHome$Shelf", "lowestBits", "(J)J"⟩ ⟨"AllHome$Shelf", "lowestBits", "(J)J"⟩ ∈ zTb := zTb_in (List.mem_of_getElem? (i := 22) (by decide +kernel)) (by decide +kernel)
theorem kw620 : (Jvm.Cond.methodLink "AllHome$Shelf" (48 : Nat) ({ cls := "AllHome$Shelf", name := "lowestBits", desc := "(J)J" } : Jvm.MethodName)) ∈ zTb := zTb_in (List.mem_of_getElem? (i := 686) (by decide +kernel)) (by decide +kernel)
theorem kw622 : (Jvm.Cond.instanceMethod ({ cls := "AllHome$Shelf", name := "lowestBits", desc := "(J)J" } : Jvm.MethodName)) ∈ zTb := zTb_in (List.mem_of_getElem? (i := 688) (by decide +kernel)) (by decide +kernel)
theorem kw623 : (Jvm.Cond.code ({ cls := "AllHome$Shelf", name := "lowestBits", desc := "(J)J" } : Jvm.MethodName) prog_7_method_13_code (3 : Nat) (Option.some Jvm.ClassFile.FieldType.long)) ∈ zTb := zTb_in (List.mem_of_getElem? (i := 689) (by decide +kernel)) (by decide +kernel)
theorem kp21 : Cond.selects "AllHome" ⟨"AllHome", "wantPlace", "(II)I"⟩ ⟨"AllHome", "wantPlace", "(II)I"⟩ ∈ zTb := zTb_in (List.mem_of_getElem? (i := 21) (by decide +kernel)) (by decide +kernel)
theorem kw608 : (Jvm.Cond.methodLink "AllHome" (190 : Nat) ({ cls := "AllHome", name := "wantPlace", desc := "(II)I" } : Jvm.MethodName)) ∈ zTb := zTb_in (List.mem_of_getElem? (i := 674) (by decide +kernel)) (by decide +kernel)
theorem kw610 : (Jvm.Cond.instanceMethod ({ cls := "AllHome", name := "wantPlace", desc := "(II)I" } : Jvm.MethodName)) ∈ zTb := zTb_in (List.mem_of_getElem? (i := 676) (by decide +kernel)) (by decide +kernel)
theorem kw611 : (Jvm.Cond.code ({ cls := "AllHome", name := "wantPlace", desc := "(II)I" } : Jvm.MethodName) prog_1_method_35_code (3 : Nat) (Option.some Jvm.ClassFile.FieldType.int)) ∈ zTb := zTb_in (List.mem_of_getElem? (i := 677) (by decide +kernel)) (by decide +kernel)
theorem kw618 : (Jvm.Cond.selects "AllHome$Shelf" ({ cls := "AllHome$Shelf", name := "set", desc := "(IJ)V" } : Jvm.MethodName) ({ cls := "AllHome$Shelf", name := "set", desc := "(IJ)V" } : Jvm.MethodName)) ∈ zTb := zTb_in (List.mem_of_getElem? (i := 684) (by decide +kernel)) (by decide +kernel)
theorem kw616 : (Jvm.Cond.methodLink "AllHome" (193 : Nat) ({ cls := "AllHome$Shelf", name := "set", desc := "(IJ)V" } : Jvm.MethodName)) ∈ zTb := zTb_in (List.mem_of_getElem? (i := 682) (by decide +kernel)) (by decide +kernel)
theorem kw617 : (Jvm.Cond.instanceMethod ({ cls := "AllHome$Shelf", name := "set", desc := "(IJ)V" } : Jvm.MethodName)) ∈ zTb := zTb_in (List.mem_of_getElem? (i := 683) (by decide +kernel)) (by decide +kernel)
theorem kw619 : (Jvm.Cond.code ({ cls := "AllHome$Shelf", name := "set", desc := "(IJ)V" } : Jvm.MethodName) prog_7_method_12_code (4 : Nat) (Option.none : Option Jvm.ClassFile.FieldType)) ∈ zTb := zTb_in (List.mem_of_getElem? (i := 685) (by decide +kernel)) (by decide +kernel)
theorem kw628 : (Jvm.Cond.constantLong "AllHome" (199 : Nat) (-9223372036854775808 : Int64)) ∈ zTb := zTb_in (List.mem_of_getElem? (i := 694) (by decide +kernel)) (by decide +kernel)
theorem kw639 : (Jvm.Cond.selects "AllHome$Shelf" ({ cls := "AllHome$Shelf", name := "hasPlaces", desc := "(II)Z" } : Jvm.MethodName) ({ cls := "AllHome$Shelf", name := "hasPlaces", desc := "(II)Z" } : Jvm.MethodName)) ∈ zTb := zTb_in (List.mem_of_getElem? (i := 705) (by decide +kernel)) (by decide +kernel)
theorem kw645 : (Jvm.Cond.methodLink "AllHome$Shelf" (52 : Nat) ({ cls := "AllHome$Shelf", name := "hasPlaces", desc := "(II)Z" } : Jvm.MethodName)) ∈ zTb := zTb_in (List.mem_of_getElem? (i := 711) (by decide +kernel)) (by decide +kernel)
theorem kw638 : (Jvm.Cond.instanceMethod ({ cls := "AllHome$Shelf", name := "hasPlaces", desc := "(II)Z" } : Jvm.MethodName)) ∈ zTb := zTb_in (List.mem_of_getElem? (i := 704) (by decide +kernel)) (by decide +kernel)
theorem kw640 : (Jvm.Cond.code ({ cls := "AllHome$Shelf", name := "hasPlaces", desc := "(II)Z" } : Jvm.MethodName) prog_7_method_10_code (3 : Nat) (Option.some Jvm.ClassFile.FieldType.boolean)) ∈ zTb := zTb_in (List.mem_of_getElem? (i := 706) (by decide +kernel)) (by decide +kernel)
theorem kw646 : (Jvm.Cond.methodLink "AllHome$Shelf" (56 : Nat) ({ cls := "java/lang/System", name := "arraycopy", desc := "(Ljava/lang/Object;ILjava/lang/Object;II)V" } : Jvm.MethodName)) ∈ zTb := zTb_in (List.mem_of_getElem? (i := 712) (by decide +kernel)) (by decide +kernel)
theorem kw635 : (Jvm.Cond.selects "AllHome$Shelf" ({ cls := "AllHome$Shelf", name := "sort", desc := "()I" } : Jvm.MethodName) ({ cls := "AllHome$Shelf", name := "sort", desc := "()I" } : Jvm.MethodName)) ∈ zTb := zTb_in (List.mem_of_getElem? (i := 701) (by decide +kernel)) (by decide +kernel)
theorem kw633 : (Jvm.Cond.methodLink "AllHome" (204 : Nat) ({ cls := "AllHome$Shelf", name := "sort", desc := "()I" } : Jvm.MethodName)) ∈ zTb := zTb_in (List.mem_of_getElem? (i := 699) (by decide +kernel)) (by decide +kernel)
theorem kw634 : (Jvm.Cond.instanceMethod ({ cls := "AllHome$Shelf", name := "sort", desc := "()I" } : Jvm.MethodName)) ∈ zTb := zTb_in (List.mem_of_getElem? (i := 700) (by decide +kernel)) (by decide +kernel)
theorem kw636 : (Jvm.Cond.code ({ cls := "AllHome$Shelf", name := "sort", desc := "()I" } : Jvm.MethodName) prog_7_method_7_code (1 : Nat) (Option.some Jvm.ClassFile.FieldType.int)) ∈ zTb := zTb_in (List.mem_of_getElem? (i := 702) (by decide +kernel)) (by decide +kernel)
theorem kw637 : (Jvm.Cond.methodLink "AllHome" (207 : Nat) ({ cls := "AllHome$Shelf", name := "hasPlaces", desc := "(II)Z" } : Jvm.MethodName)) ∈ zTb := zTb_in (List.mem_of_getElem? (i := 703) (by decide +kernel)) (by decide +kernel)
theorem kw643 : (Jvm.Cond.selects "AllHome$Shelf" ({ cls := "AllHome$Shelf", name := "copyTo", desc := "(ILAllHome$Shelf;II)V" } : Jvm.MethodName) ({ cls := "AllHome$Shelf", name := "copyTo", desc := "(ILAllHome$Shelf;II)V" } : Jvm.MethodName)) ∈ zTb := zTb_in (List.mem_of_getElem? (i := 709) (by decide +kernel)) (by decide +kernel)
theorem kw641 : (Jvm.Cond.methodLink "AllHome" (211 : Nat) ({ cls := "AllHome$Shelf", name := "copyTo", desc := "(ILAllHome$Shelf;II)V" } : Jvm.MethodName)) ∈ zTb := zTb_in (List.mem_of_getElem? (i := 707) (by decide +kernel)) (by decide +kernel)
theorem kw642 : (Jvm.Cond.instanceMethod ({ cls := "AllHome$Shelf", name := "copyTo", desc := "(ILAllHome$Shelf;II)V" } : Jvm.MethodName)) ∈ zTb := zTb_in (List.mem_of_getElem? (i := 708) (by decide +kernel)) (by decide +kernel)
theorem kw644 : (Jvm.Cond.code ({ cls := "AllHome$Shelf", name := "copyTo", desc := "(ILAllHome$Shelf;II)V" } : Jvm.MethodName) prog_7_method_14_code (5 : Nat) (Option.none : Option Jvm.ClassFile.FieldType)) ∈ zTb := zTb_in (List.mem_of_getElem? (i := 710) (by decide +kernel)) (by decide +kernel)
theorem kw653 : (Jvm.Cond.selects "AllHome$Shelf" ({ cls := "AllHome$Shelf", name := "heldWay", desc := "()I" } : Jvm.MethodName) ({ cls := "AllHome$Shelf", name := "heldWay", desc := "()I" } : Jvm.MethodName)) ∈ zTb := zTb_in (List.mem_of_getElem? (i := 719) (by decide +kernel)) (by decide +kernel)
theorem kw651 : (Jvm.Cond.methodLink "AllHome" (215 : Nat) ({ cls := "AllHome$Shelf", name := "heldWay", desc := "()I" } : Jvm.MethodName)) ∈ zTb := zTb_in (List.mem_of_getElem? (i := 717) (by decide +kernel)) (by decide +kernel)
theorem kw652 : (Jvm.Cond.instanceMethod ({ cls := "AllHome$Shelf", name := "heldWay", desc := "()I" } : Jvm.MethodName)) ∈ zTb := zTb_in (List.mem_of_getElem? (i := 718) (by decide +kernel)) (by decide +kernel)
theorem kw654 : (Jvm.Cond.code ({ cls := "AllHome$Shelf", name := "heldWay", desc := "()I" } : Jvm.MethodName) prog_7_method_8_code (1 : Nat) (Option.some Jvm.ClassFile.FieldType.int)) ∈ zTb := zTb_in (List.mem_of_getElem? (i := 720) (by decide +kernel)) (by decide +kernel)
theorem kw655 : (Jvm.Cond.methodLink "AllHome" (218 : Nat) ({ cls := "AllHome", name := "isUnder", desc := "(II)Z" } : Jvm.MethodName)) ∈ zTb := zTb_in (List.mem_of_getElem? (i := 721) (by decide +kernel)) (by decide +kernel)
theorem kw662 : (Jvm.Cond.selects "AllHome$Acts" ({ cls := "AllHome$Acts", name := "ran", desc := "()I" } : Jvm.MethodName) ({ cls := "AllHome$Acts", name := "ran", desc := "()I" } : Jvm.MethodName)) ∈ zTb := zTb_in (List.mem_of_getElem? (i := 728) (by decide +kernel)) (by decide +kernel)
theorem kw660 : (Jvm.Cond.methodLink "AllHome" (221 : Nat) ({ cls := "AllHome$Acts", name := "ran", desc := "()I" } : Jvm.MethodName)) ∈ zTb := zTb_in (List.mem_of_getElem? (i := 726) (by decide +kernel)) (by decide +kernel)
theorem kw661 : (Jvm.Cond.instanceMethod ({ cls := "AllHome$Acts", name := "ran", desc := "()I" } : Jvm.MethodName)) ∈ zTb := zTb_in (List.mem_of_getElem? (i := 727) (by decide +kernel)) (by decide +kernel)
theorem kw663 : (Jvm.Cond.code ({ cls := "AllHome$Acts", name := "ran", desc := "()I" } : Jvm.MethodName) prog_2_method_3_code (1 : Nat) (Option.some Jvm.ClassFile.FieldType.int)) ∈ zTb := zTb_in (List.mem_of_getElem? (i := 729) (by decide +kernel)) (by decide +kernel)
theorem kw674 : (Jvm.Cond.fieldLink "AllHomeModel" (78 : Nat) "AllHomeModel" "huts" "I") ∈ zTb := zTb_in (List.mem_of_getElem? (i := 740) (by decide +kernel)) (by decide +kernel)
theorem kw676 : (Jvm.Cond.fieldLink "AllHomeModel" (82 : Nat) "AllHomeModel" "ways" "I") ∈ zTb := zTb_in (List.mem_of_getElem? (i := 742) (by decide +kernel)) (by decide +kernel)
theorem kw774 : (Jvm.Cond.constantLong "AllHomeModel" (85 : Nat) (4 : Int64)) ∈ zTb := zTb_in (List.mem_of_getElem? (i := 840) (by decide +kernel)) (by decide +kernel)
theorem kw775 : (Jvm.Cond.methodLink "AllHomeModel" (87 : Nat) ({ cls := "AllHomeModel", name := "within", desc := "(JJJ)Z" } : Jvm.MethodName)) ∈ zTb := zTb_in (List.mem_of_getElem? (i := 841) (by decide +kernel)) (by decide +kernel)
theorem kw776 : (Jvm.Cond.static ({ cls := "AllHomeModel", name := "within", desc := "(JJJ)Z" } : Jvm.MethodName)) ∈ zTb := zTb_in (List.mem_of_getElem? (i := 842) (by decide +kernel)) (by decide +kernel)
theorem kw8 : (Jvm.Cond.initialized "AllHomeModel") ∈ zTb := zTb_in (List.mem_of_getElem? (i := 74) (by decide +kernel)) (by decide +kernel)
theorem kw777 : (Jvm.Cond.code ({ cls := "AllHomeModel", name := "within", desc := "(JJJ)Z" } : Jvm.MethodName) prog_9_method_2_code (6 : Nat) (Option.some Jvm.ClassFile.FieldType.boolean)) ∈ zTb := zTb_in (List.mem_of_getElem? (i := 843) (by decide +kernel)) (by decide +kernel)
theorem kw671 : (Jvm.Cond.fieldLink "AllHomeModel" (91 : Nat) "AllHomeModel" "tapeMany" "I") ∈ zTb := zTb_in (List.mem_of_getElem? (i := 737) (by decide +kernel)) (by decide +kernel)
theorem kw670 : (Jvm.Cond.fieldLink "AllHomeModel" (9 : Nat) "AllHomeModel" "tape" "[I") ∈ zTb := zTb_in (List.mem_of_getElem? (i := 736) (by decide +kernel)) (by decide +kernel)
theorem kw791 : (Jvm.Cond.constantLong "AllHomeModel" (94 : Nat) (97 : Int64)) ∈ zTb := zTb_in (List.mem_of_getElem? (i := 857) (by decide +kernel)) (by decide +kernel)
theorem kw792 : (Jvm.Cond.constantLong "AllHomeModel" (96 : Nat) (102 : Int64)) ∈ zTb := zTb_in (List.mem_of_getElem? (i := 858) (by decide +kernel)) (by decide +kernel)
theorem kw786 : (Jvm.Cond.constantLong "AllHomeModel" (98 : Nat) (50 : Int64)) ∈ zTb := zTb_in (List.mem_of_getElem? (i := 852) (by decide +kernel)) (by decide +kernel)
theorem kw787 : (Jvm.Cond.constantLong "AllHomeModel" (100 : Nat) (57 : Int64)) ∈ zTb := zTb_in (List.mem_of_getElem? (i := 853) (by decide +kernel)) (by decide +kernel)
theorem kw788 : (Jvm.Cond.methodLink "AllHomeModel" (102 : Nat) ({ cls := "AllHomeModel", name := "isOther", desc := "(II)Z" } : Jvm.MethodName)) ∈ zTb := zTb_in (List.mem_of_getElem? (i := 854) (by decide +kernel)) (by decide +kernel)
theorem kw789 : (Jvm.Cond.static ({ cls := "AllHomeModel", name := "isOther", desc := "(II)Z" } : Jvm.MethodName)) ∈ zTb := zTb_in (List.mem_of_getElem? (i := 855) (by decide +kernel)) (by decide +kernel)
theorem kw790 : (Jvm.Cond.code ({ cls := "AllHomeModel", name := "isOther", desc := "(II)Z" } : Jvm.MethodName) prog_9_method_6_code (2 : Nat) (Option.some Jvm.ClassFile.FieldType.boolean)) ∈ zTb := zTb_in (List.mem_of_getElem? (i := 856) (by decide +kernel)) (by decide +kernel)
theorem kw689 : (Jvm.Cond.fieldLink "AllHomeModel" (106 : Nat) "AllHomeModel" "runs" "I") ∈ zTb := zTb_in (List.mem_of_getElem? (i := 755) (by decide +kernel)) (by decide +kernel)
theorem kp23 : Cond.selects "AllHomeModel" ⟨"AllHomeModel", "faultOf", "(I)I"⟩ ⟨"AllHomeModel", "faultOf", "(I)I"⟩ ∈ zTb := zTb_in (List.mem_of_getElem? (i := 23) (by decide +kernel)) (by decide +kernel)
theorem kw782 : (Jvm.Cond.methodLink "AllHomeModel" (109 : Nat) ({ cls := "AllHomeModel", name := "faultOf", desc := "(I)I" } : Jvm.MethodName)) ∈ zTb := zTb_in (List.mem_of_getElem? (i := 848) (by decide +kernel)) (by decide +kernel)
theorem kw784 : (Jvm.Cond.instanceMethod ({ cls := "AllHomeModel", name := "faultOf", desc := "(I)I" } : Jvm.MethodName)) ∈ zTb := zTb_in (List.mem_of_getElem? (i := 850) (by decide +kernel)) (by decide +kernel)
theorem kw785 : (Jvm.Cond.code ({ cls := "AllHomeModel", name := "faultOf", desc := "(I)I" } : Jvm.MethodName) prog_9_method_7_code (4 : Nat) (Option.some Jvm.ClassFile.FieldType.int)) ∈ zTb := zTb_in (List.mem_of_getElem? (i := 851) (by decide +kernel)) (by decide +kernel)
theorem kw673 : (Jvm.Cond.fieldLink "AllHomeModel" (16 : Nat) "AllHomeModel" "textMany" "[I") ∈ zTb := zTb_in (List.mem_of_getElem? (i := 739) (by decide +kernel)) (by decide +kernel)
theorem kw672 : (Jvm.Cond.fieldLink "AllHomeModel" (13 : Nat) "AllHomeModel" "text" "[I") ∈ zTb := zTb_in (List.mem_of_getElem? (i := 738) (by decide +kernel)) (by decide +kernel)
theorem kp24 : Cond.selects "AllHomeModel" ⟨"AllHomeModel", "isHut", "(I)Z"⟩ ⟨"AllHomeModel", "isHut", "(I)Z"⟩ ∈ zTb := zTb_in (List.mem_of_getElem? (i := 24) (by decide +kernel)) (by decide +kernel)
theorem kw797 : (Jvm.Cond.methodLink "AllHomeModel" (113 : Nat) ({ cls := "AllHomeModel", name := "isHut", desc := "(I)Z" } : Jvm.MethodName)) ∈ zTb := zTb_in (List.mem_of_getElem? (i := 863) (by decide +kernel)) (by decide +kernel)
theorem kw799 : (Jvm.Cond.instanceMethod ({ cls := "AllHomeModel", name := "isHut", desc := "(I)Z" } : Jvm.MethodName)) ∈ zTb := zTb_in (List.mem_of_getElem? (i := 865) (by decide +kernel)) (by decide +kernel)
theorem kw800 : (Jvm.Cond.code ({ cls := "AllHomeModel", name := "isHut", desc := "(I)Z" } : Jvm.MethodName) prog_9_method_3_code (2 : Nat) (Option.some Jvm.ClassFile.FieldType.boolean)) ∈ zTb := zTb_in (List.mem_of_getElem? (i := 866) (by decide +kernel)) (by decide +kernel)
theorem kw801 : (Jvm.Cond.constantLong "AllHomeModel" (117 : Nat) (-1 : Int64)) ∈ zTb := zTb_in (List.mem_of_getElem? (i := 867) (by decide +kernel)) (by decide +kernel)
theorem kp25 : Cond.selects "AllHomeModel" ⟨"AllHomeModel", "lines", "(I)I"⟩ ⟨"AllHomeModel", "lines", "(I)I"⟩ ∈ zTb := zTb_in (List.mem_of_getElem? (i := 25) (by decide +kernel)) (by decide +kernel)
theorem kw802 : (Jvm.Cond.methodLink "AllHomeModel" (119 : Nat) ({ cls := "AllHomeModel", name := "lines", desc := "(I)I" } : Jvm.MethodName)) ∈ zTb := zTb_in (List.mem_of_getElem? (i := 868) (by decide +kernel)) (by decide +kernel)
theorem kw804 : (Jvm.Cond.instanceMethod ({ cls := "AllHomeModel", name := "lines", desc := "(I)I" } : Jvm.MethodName)) ∈ zTb := zTb_in (List.mem_of_getElem? (i := 870) (by decide +kernel)) (by decide +kernel)
theorem kw805 : (Jvm.Cond.code ({ cls := "AllHomeModel", name := "lines", desc := "(I)I" } : Jvm.MethodName) prog_9_method_9_code (4 : Nat) (Option.some Jvm.ClassFile.FieldType.int)) ∈ zTb := zTb_in (List.mem_of_getElem? (i := 871) (by decide +kernel)) (by decide +kernel)
theorem kp26 : Cond.selects "AllHomeModel" ⟨"AllHomeModel", "inLine", "(III)I"⟩ ⟨"AllHomeModel", "inLine", "(III)I"⟩ ∈ zTb := zTb_in (List.mem_of_getElem? (i := 26) (by decide +kernel)) (by decide +kernel)
theorem kw806 : (Jvm.Cond.methodLink "AllHomeModel" (122 : Nat) ({ cls := "AllHomeModel", name := "inLine", desc := "(III)I" } : Jvm.MethodName)) ∈ zTb := zTb_in (List.mem_of_getElem? (i := 872) (by decide +kernel)) (by decide +kernel)
theorem kw808 : (Jvm.Cond.instanceMethod ({ cls := "AllHomeModel", name := "inLine", desc := "(III)I" } : Jvm.MethodName)) ∈ zTb := zTb_in (List.mem_of_getElem? (i := 874) (by decide +kernel)) (by decide +kernel)
theorem kw809 : (Jvm.Cond.code ({ cls := "AllHomeModel", name := "inLine", desc := "(III)I" } : Jvm.MethodName) prog_9_method_10_code (10 : Nat) (Option.some Jvm.ClassFile.FieldType.int)) ∈ zTb := zTb_in (List.mem_of_getElem? (i := 875) (by decide +kernel)) (by decide +kernel)
theorem kw818 : (Jvm.Cond.constantLong "AllHomeModel" (126 : Nat) (8 : Int64)) ∈ zTb := zTb_in (List.mem_of_getElem? (i := 884) (by decide +kernel)) (by decide +kernel)
theorem kw675 : (Jvm.Cond.fieldLink "AllHomeModel" (19 : Nat) "AllHomeModel" "kind" "[I") ∈ zTb := zTb_in (List.mem_of_getElem? (i := 741) (by decide +kernel)) (by decide +kernel)
theorem kp27 : Cond.selects "AllHomeModel" ⟨"AllHomeModel", "isWay", "(I)Z"⟩ ⟨"AllHomeModel", "isWay", "(I)Z"⟩ ∈ zTb := zTb_in (List.mem_of_getElem? (i := 27) (by decide +kernel)) (by decide +kernel)
theorem kw823 : (Jvm.Cond.methodLink "AllHomeModel" (128 : Nat) ({ cls := "AllHomeModel", name := "isWay", desc := "(I)Z" } : Jvm.MethodName)) ∈ zTb := zTb_in (List.mem_of_getElem? (i := 889) (by decide +kernel)) (by decide +kernel)
theorem kw825 : (Jvm.Cond.instanceMethod ({ cls := "AllHomeModel", name := "isWay", desc := "(I)Z" } : Jvm.MethodName)) ∈ zTb := zTb_in (List.mem_of_getElem? (i := 891) (by decide +kernel)) (by decide +kernel)
theorem kw826 : (Jvm.Cond.code ({ cls := "AllHomeModel", name := "isWay", desc := "(I)Z" } : Jvm.MethodName) prog_9_method_4_code (2 : Nat) (Option.some Jvm.ClassFile.FieldType.boolean)) ∈ zTb := zTb_in (List.mem_of_getElem? (i := 892) (by decide +kernel)) (by decide +kernel)
theorem kw878 : (Jvm.Cond.methodLink "AllHomeModel" (131 : Nat) ({ cls := "AllHomeModel", name := "above", desc := "(I)I" } : Jvm.MethodName)) ∈ zTb := zTb_in (List.mem_of_getElem? (i := 944) (by decide +kernel)) (by decide +kernel)
theorem kw879 : (Jvm.Cond.static ({ cls := "AllHomeModel", name := "above", desc := "(I)I" } : Jvm.MethodName)) ∈ zTb := zTb_in (List.mem_of_getElem? (i := 945) (by decide +kernel)) (by decide +kernel)
theorem kw880 : (Jvm.Cond.code ({ cls := "AllHomeModel", name := "above", desc := "(I)I" } : Jvm.MethodName) prog_9_method_16_code (1 : Nat) (Option.some Jvm.ClassFile.FieldType.int)) ∈ zTb := zTb_in (List.mem_of_getElem? (i := 946) (by decide +kernel)) (by decide +kernel)
theorem kw680 : (Jvm.Cond.fieldLink "AllHomeModel" (134 : Nat) "AllHomeModel" "by" "I") ∈ zTb := zTb_in (List.mem_of_getElem? (i := 746) (by decide +kernel)) (by decide +kernel)
theorem kw677 : (Jvm.Cond.fieldLink "AllHomeModel" (22 : Nat) "AllHomeModel" "now" "[I") ∈ zTb := zTb_in (List.mem_of_getElem? (i := 743) (by decide +kernel)) (by decide +kernel)
theorem kw678 : (Jvm.Cond.fieldLink "AllHomeModel" (137 : Nat) "AllHomeModel" "sentWords" "I") ∈ zTb := zTb_in (List.mem_of_getElem? (i := 744) (by decide +kernel)) (by decide +kernel)
theorem kw679 : (Jvm.Cond.fieldLink "AllHomeModel" (140 : Nat) "AllHomeModel" "sentNotes" "I") ∈ zTb := zTb_in (List.mem_of_getElem? (i := 745) (by decide +kernel)) (by decide +kernel)
theorem kw681 : (Jvm.Cond.fieldLink "AllHomeModel" (143 : Nat) "AllHomeModel" "isFull" "Z") ∈ zTb := zTb_in (List.mem_of_getElem? (i := 747) (by decide +kernel)) (by decide +kernel)
theorem kp38 : Cond.selects "AllHomeModel" ⟨"AllHomeModel", "putLast", "(IIII)V"⟩ ⟨"AllHomeModel", "putLast", "(IIII)V"⟩ ∈ zTb := zTb_in (List.mem_of_getElem? (i := 38) (by decide +kernel)) (by decide +kernel)
theorem kw881 : (Jvm.Cond.methodLink "AllHomeModel" (147 : Nat) ({ cls := "AllHomeModel", name := "putLast", desc := "(IIII)V" } : Jvm.MethodName)) ∈ zTb := zTb_in (List.mem_of_getElem? (i := 947) (by decide +kernel)) (by decide +kernel)
theorem kw883 : (Jvm.Cond.instanceMethod ({ cls := "AllHomeModel", name := "putLast", desc := "(IIII)V" } : Jvm.MethodName)) ∈ zTb := zTb_in (List.mem_of_getElem? (i := 949) (by decide +kernel)) (by decide +kernel)
theorem kw884 : (Jvm.Cond.code ({ cls := "AllHomeModel", name := "putLast", desc := "(IIII)V" } : Jvm.MethodName) prog_9_method_23_code (6 : Nat) (Option.none : Option Jvm.ClassFile.FieldType)) ∈ zTb := zTb_in (List.mem_of_getElem? (i := 950) (by decide +kernel)) (by decide +kernel)
theorem kp37 : Cond.selects "AllHomeModel" ⟨"AllHomeModel", "add", "(III)V"⟩ ⟨"AllHomeModel", "add", "(III)V"⟩ ∈ zTb := zTb_in (List.mem_of_getElem? (i := 37) (by decide +kernel)) (by decide +kernel)
theorem kw871 : (Jvm.Cond.methodLink "AllHomeModel" (151 : Nat) ({ cls := "AllHomeModel", name := "add", desc := "(III)V" } : Jvm.MethodName)) ∈ zTb := zTb_in (List.mem_of_getElem? (i := 937) (by decide +kernel)) (by decide +kernel)
theorem kw873 : (Jvm.Cond.instanceMethod ({ cls := "AllHomeModel", name := "add", desc := "(III)V" } : Jvm.MethodName)) ∈ zTb := zTb_in (List.mem_of_getElem? (i := 939) (by decide +kernel)) (by decide +kernel)
theorem kw874 : (Jvm.Cond.code ({ cls := "AllHomeModel", name := "add", desc := "(III)V" } : Jvm.MethodName) prog_9_method_19_code (4 : Nat) (Option.none : Option Jvm.ClassFile.FieldType)) ∈ zTb := zTb_in (List.mem_of_getElem? (i := 940) (by decide +kernel)) (by decide +kernel)
theorem kw875 : (Jvm.Cond.methodLink "AllHomeModel" (159 : Nat) ({ cls := "AllHomeModel", name := "isUnder", desc := "(II)Z" } : Jvm.MethodName)) ∈ zTb := zTb_in (List.mem_of_getElem? (i := 941) (by decide +kernel)) (by decide +kernel)
theorem kw876 : (Jvm.Cond.static ({ cls := "AllHomeModel", name := "isUnder", desc := "(II)Z" } : Jvm.MethodName)) ∈ zTb := zTb_in (List.mem_of_getElem? (i := 942) (by decide +kernel)) (by decide +kernel)
theorem kw877 : (Jvm.Cond.code ({ cls := "AllHomeModel", name := "isUnder", desc := "(II)Z" } : Jvm.MethodName) prog_9_method_15_code (3 : Nat) (Option.some Jvm.ClassFile.FieldType.boolean)) ∈ zTb := zTb_in (List.mem_of_getElem? (i := 943) (by decide +kernel)) (by decide +kernel)
theorem kp35 : Cond.selects "AllHomeModel" ⟨"AllHomeModel", "of", "(II)I"⟩ ⟨"AllHomeModel", "of", "(II)I"⟩ ∈ zTb := zTb_in (List.mem_of_getElem? (i := 35) (by decide +kernel)) (by decide +kernel)
theorem kw863 : (Jvm.Cond.methodLink "AllHomeModel" (155 : Nat) ({ cls := "AllHomeModel", name := "of", desc := "(II)I" } : Jvm.MethodName)) ∈ zTb := zTb_in (List.mem_of_getElem? (i := 929) (by decide +kernel)) (by decide +kernel)
theorem kw865 : (Jvm.Cond.instanceMethod ({ cls := "AllHomeModel", name := "of", desc := "(II)I" } : Jvm.MethodName)) ∈ zTb := zTb_in (List.mem_of_getElem? (i := 931) (by decide +kernel)) (by decide +kernel)
theorem kw866 : (Jvm.Cond.code ({ cls := "AllHomeModel", name := "of", desc := "(II)I" } : Jvm.MethodName) prog_9_method_18_code (3 : Nat) (Option.some Jvm.ClassFile.FieldType.int)) ∈ zTb := zTb_in (List.mem_of_getElem? (i := 932) (by decide +kernel)) (by decide +kernel)
theorem kp39 : Cond.selects "AllHomeModel" ⟨"AllHomeModel", "become", "(III)V"⟩ ⟨"AllHomeModel", "become", "(III)V"⟩ ∈ zTb := zTb_in (List.mem_of_getElem? (i := 39) (by decide +kernel)) (by decide +kernel)
theorem kw885 : (Jvm.Cond.methodLink "AllHomeModel" (166 : Nat) ({ cls := "AllHomeModel", name := "become", desc := "(III)V" } : Jvm.MethodName)) ∈ zTb := zTb_in (List.mem_of_getElem? (i := 951) (by decide +kernel)) (by decide +kernel)
theorem kw887 : (Jvm.Cond.instanceMethod ({ cls := "AllHomeModel", name := "become", desc := "(III)V" } : Jvm.MethodName)) ∈ zTb := zTb_in (List.mem_of_getElem? (i := 953) (by decide +kernel)) (by decide +kernel)
theorem kw888 : (Jvm.Cond.code ({ cls := "AllHomeModel", name := "become", desc := "(III)V" } : Jvm.MethodName) prog_9_method_20_code (4 : Nat) (Option.none : Option Jvm.ClassFile.FieldType)) ∈ zTb := zTb_in (List.mem_of_getElem? (i := 954) (by decide +kernel)) (by decide +kernel)
theorem kp40 : Cond.selects "AllHomeModel" ⟨"AllHomeModel", "sendNote", "(III)V"⟩ ⟨"AllHomeModel", "sendNote", "(III)V"⟩ ∈ zTb := zTb_in (List.mem_of_getElem? (i := 40) (by decide +kernel)) (by decide +kernel)
theorem kw889 : (Jvm.Cond.methodLink "AllHomeModel" (169 : Nat) ({ cls := "AllHomeModel", name := "sendNote", desc := "(III)V" } : Jvm.MethodName)) ∈ zTb := zTb_in (List.mem_of_getElem? (i := 955) (by decide +kernel)) (by decide +kernel)
theorem kw891 : (Jvm.Cond.instanceMethod ({ cls := "AllHomeModel", name := "sendNote", desc := "(III)V" } : Jvm.MethodName)) ∈ zTb := zTb_in (List.mem_of_getElem? (i := 957) (by decide +kernel)) (by decide +kernel)
theorem kw892 : (Jvm.Cond.code ({ cls := "AllHomeModel", name := "sendNote", desc := "(III)V" } : Jvm.MethodName) prog_9_method_25_code (4 : Nat) (Option.none : Option Jvm.ClassFile.FieldType)) ∈ zTb := zTb_in (List.mem_of_getElem? (i := 958) (by decide +kernel)) (by decide +kernel)
theorem kp36 : Cond.selects "AllHomeModel" ⟨"AllHomeModel", "sendWord", "(II)V"⟩ ⟨"AllHomeModel", "sendWord", "(II)V"⟩ ∈ zTb := zTb_in (List.mem_of_getElem? (i := 36) (by decide +kernel)) (by decide +kernel)
theorem kw867 : (Jvm.Cond.methodLink "AllHomeModel" (162 : Nat) ({ cls := "AllHomeModel", name := "sendWord", desc := "(II)V" } : Jvm.MethodName)) ∈ zTb := zTb_in (List.mem_of_getElem? (i := 933) (by decide +kernel)) (by decide +kernel)
theorem kw869 : (Jvm.Cond.instanceMethod ({ cls := "AllHomeModel", name := "sendWord", desc := "(II)V" } : Jvm.MethodName)) ∈ zTb := zTb_in (List.mem_of_getElem? (i := 935) (by decide +kernel)) (by decide +kernel)
theorem kw870 : (Jvm.Cond.code ({ cls := "AllHomeModel", name := "sendWord", desc := "(II)V" } : Jvm.MethodName) prog_9_method_26_code (4 : Nat) (Option.none : Option Jvm.ClassFile.FieldType)) ∈ zTb := zTb_in (List.mem_of_getElem? (i := 936) (by decide +kernel)) (by decide +kernel)
theorem kp42 : Cond.selects "AllHomeModel" ⟨"AllHomeModel", "words", "()I"⟩ ⟨"AllHomeModel", "words", "()I"⟩ ∈ zTb := zTb_in (List.mem_of_getElem? (i := 42) (by decide +kernel)) (by decide +kernel)
theorem kw897 : (Jvm.Cond.methodLink "AllHomeModel" (172 : Nat) ({ cls := "AllHomeModel", name := "words", desc := "()I" } : Jvm.MethodName)) ∈ zTb := zTb_in (List.mem_of_getElem? (i := 963) (by decide +kernel)) (by decide +kernel)
theorem kw899 : (Jvm.Cond.instanceMethod ({ cls := "AllHomeModel", name := "words", desc := "()I" } : Jvm.MethodName)) ∈ zTb := zTb_in (List.mem_of_getElem? (i := 965) (by decide +kernel)) (by decide +kernel)
theorem kw900 : (Jvm.Cond.code ({ cls := "AllHomeModel", name := "words", desc := "()I" } : Jvm.MethodName) prog_9_method_21_code (1 : Nat) (Option.some Jvm.ClassFile.FieldType.int)) ∈ zTb := zTb_in (List.mem_of_getElem? (i := 966) (by decide +kernel)) (by decide +kernel)
theorem kp43 : Cond.selects "AllHomeModel" ⟨"AllHomeModel", "takeOut", "(II)V"⟩ ⟨"AllHomeModel", "takeOut", "(II)V"⟩ ∈ zTb := zTb_in (List.mem_of_getElem? (i := 43) (by decide +kernel)) (by decide +kernel)
theorem kw901 : (Jvm.Cond.methodLink "AllHomeModel" (176 : Nat) ({ cls := "AllHomeModel", name := "takeOut", desc := "(II)V" } : Jvm.MethodName)) ∈ zTb := zTb_in (List.mem_of_getElem? (i := 967) (by decide +kernel)) (by decide +kernel)
theorem kw903 : (Jvm.Cond.instanceMethod ({ cls := "AllHomeModel", name := "takeOut", desc := "(II)V" } : Jvm.MethodName)) ∈ zTb := zTb_in (List.mem_of_getElem? (i := 969) (by decide +kernel)) (by decide +kernel)
theorem kw904 : (Jvm.Cond.code ({ cls := "AllHomeModel", name := "takeOut", desc := "(II)V" } : Jvm.MethodName) prog_9_method_24_code (5 : Nat) (Option.none : Option Jvm.ClassFile.FieldType)) ∈ zTb := zTb_in (List.mem_of_getElem? (i := 970) (by decide +kernel)) (by decide +kernel)
theorem kp45 : Cond.selects "AllHomeModel" ⟨"AllHomeModel", "notes", "()I"⟩ ⟨"AllHomeModel", "notes", "()I"⟩ ∈ zTb := zTb_in (List.mem_of_getElem? (i := 45) (by decide +kernel)) (by decide +kernel)
theorem kw909 : (Jvm.Cond.methodLink "AllHomeModel" (179 : Nat) ({ cls := "AllHomeModel", name := "notes", desc := "()I" } : Jvm.MethodName)) ∈ zTb := zTb_in (List.mem_of_getElem? (i := 975) (by decide +kernel)) (by decide +kernel)
theorem kw911 : (Jvm.Cond.instanceMethod ({ cls := "AllHomeModel", name := "notes", desc := "()I" } : Jvm.MethodName)) ∈ zTb := zTb_in (List.mem_of_getElem? (i := 977) (by decide +kernel)) (by decide +kernel)
theorem kw912 : (Jvm.Cond.code ({ cls := "AllHomeModel", name := "notes", desc := "()I" } : Jvm.MethodName) prog_9_method_22_code (1 : Nat) (Option.some Jvm.ClassFile.FieldType.int)) ∈ zTb := zTb_in (List.mem_of_getElem? (i := 978) (by decide +kernel)) (by decide +kernel)
theorem kp47 : Cond.selects "AllHomeModel" ⟨"AllHomeModel", "sumsAt", "(III)V"⟩ ⟨"AllHomeModel", "sumsAt", "(III)V"⟩ ∈ zTb := zTb_in (List.mem_of_getElem? (i := 47) (by decide +kernel)) (by decide +kernel)
theorem kw917 : (Jvm.Cond.methodLink "AllHomeModel" (185 : Nat) ({ cls := "AllHomeModel", name := "sumsAt", desc := "(III)V" } : Jvm.MethodName)) ∈ zTb := zTb_in (List.mem_of_getElem? (i := 983) (by decide +kernel)) (by decide +kernel)
theorem kw919 : (Jvm.Cond.instanceMethod ({ cls := "AllHomeModel", name := "sumsAt", desc := "(III)V" } : Jvm.MethodName)) ∈ zTb := zTb_in (List.mem_of_getElem? (i := 985) (by decide +kernel)) (by decide +kernel)
theorem kw920 : (Jvm.Cond.code ({ cls := "AllHomeModel", name := "sumsAt", desc := "(III)V" } : Jvm.MethodName) prog_9_method_31_code (6 : Nat) (Option.none : Option Jvm.ClassFile.FieldType)) ∈ zTb := zTb_in (List.mem_of_getElem? (i := 986) (by decide +kernel)) (by decide +kernel)
theorem kp46 : Cond.selects "AllHomeModel" ⟨"AllHomeModel", "stoneAt", "(III)V"⟩ ⟨"AllHomeModel", "stoneAt", "(III)V"⟩ ∈ zTb := zTb_in (List.mem_of_getElem? (i := 46) (by decide +kernel)) (by decide +kernel)
theorem kw913 : (Jvm.Cond.methodLink "AllHomeModel" (182 : Nat) ({ cls := "AllHomeModel", name := "stoneAt", desc := "(III)V" } : Jvm.MethodName)) ∈ zTb := zTb_in (List.mem_of_getElem? (i := 979) (by decide +kernel)) (by decide +kernel)
theorem kw915 : (Jvm.Cond.instanceMethod ({ cls := "AllHomeModel", name := "stoneAt", desc := "(III)V" } : Jvm.MethodName)) ∈ zTb := zTb_in (List.mem_of_getElem? (i := 981) (by decide +kernel)) (by decide +kernel)
theorem kw916 : (Jvm.Cond.code ({ cls := "AllHomeModel", name := "stoneAt", desc := "(III)V" } : Jvm.MethodName) prog_9_method_30_code (5 : Nat) (Option.none : Option Jvm.ClassFile.FieldType)) ∈ zTb := zTb_in (List.mem_of_getElem? (i := 982) (by decide +kernel)) (by decide +kernel)
theorem kp34 : Cond.selects "AllHomeModel" ⟨"AllHomeModel", "goOn", "(I)Z"⟩ ⟨"AllHomeModel", "goOn", "(I)Z"⟩ ∈ zTb := zTb_in (List.mem_of_getElem? (i := 34) (by decide +kernel)) (by decide +kernel)
theorem kw859 : (Jvm.Cond.methodLink "AllHomeModel" (188 : Nat) ({ cls := "AllHomeModel", name := "goOn", desc := "(I)Z" } : Jvm.MethodName)) ∈ zTb := zTb_in (List.mem_of_getElem? (i := 925) (by decide +kernel)) (by decide +kernel)
theorem kw861 : (Jvm.Cond.instanceMethod ({ cls := "AllHomeModel", name := "goOn", desc := "(I)Z" } : Jvm.MethodName)) ∈ zTb := zTb_in (List.mem_of_getElem? (i := 927) (by decide +kernel)) (by decide +kernel)
theorem kw862 : (Jvm.Cond.code ({ cls := "AllHomeModel", name := "goOn", desc := "(I)Z" } : Jvm.MethodName) prog_9_method_27_code (4 : Nat) (Option.some Jvm.ClassFile.FieldType.boolean)) ∈ zTb := zTb_in (List.mem_of_getElem? (i := 928) (by decide +kernel)) (by decide +kernel)
theorem kp49 : Cond.selects "AllHomeModel" ⟨"AllHomeModel", "behind", "()V"⟩ ⟨"AllHomeModel", "behind", "()V"⟩ ∈ zTb := zTb_in (List.mem_of_getElem? (i := 49) (by decide +kernel)) (by decide +kernel)
theorem kw925 : (Jvm.Cond.methodLink "AllHomeModel" (200 : Nat) ({ cls := "AllHomeModel", name := "behind", desc := "()V" } : Jvm.MethodName)) ∈ zTb := zTb_in (List.mem_of_getElem? (i := 991) (by decide +kernel)) (by decide +kernel)
theorem kw927 : (Jvm.Cond.instanceMethod ({ cls := "AllHomeModel", name := "behind", desc := "()V" } : Jvm.MethodName)) ∈ zTb := zTb_in (List.mem_of_getElem? (i := 993) (by decide +kernel)) (by decide +kernel)
theorem kw928 : (Jvm.Cond.code ({ cls := "AllHomeModel", name := "behind", desc := "()V" } : Jvm.MethodName) prog_9_method_33_code (2 : Nat) (Option.none : Option Jvm.ClassFile.FieldType)) ∈ zTb := zTb_in (List.mem_of_getElem? (i := 994) (by decide +kernel)) (by decide +kernel)
theorem kp41 : Cond.selects "AllHomeModel" ⟨"AllHomeModel", "comes", "(I)Z"⟩ ⟨"AllHomeModel", "comes", "(I)Z"⟩ ∈ zTb := zTb_in (List.mem_of_getElem? (i := 41) (by decide +kernel)) (by decide +kernel)
theorem kw893 : (Jvm.Cond.methodLink "AllHomeModel" (191 : Nat) ({ cls := "AllHomeModel", name := "comes", desc := "(I)Z" } : Jvm.MethodName)) ∈ zTb := zTb_in (List.mem_of_getElem? (i := 959) (by decide +kernel)) (by decide +kernel)
theorem kw895 : (Jvm.Cond.instanceMethod ({ cls := "AllHomeModel", name := "comes", desc := "(I)Z" } : Jvm.MethodName)) ∈ zTb := zTb_in (List.mem_of_getElem? (i := 961) (by decide +kernel)) (by decide +kernel)
theorem kw896 : (Jvm.Cond.code ({ cls := "AllHomeModel", name := "comes", desc := "(I)Z" } : Jvm.MethodName) prog_9_method_28_code (5 : Nat) (Option.some Jvm.ClassFile.FieldType.boolean)) ∈ zTb := zTb_in (List.mem_of_getElem? (i := 962) (by decide +kernel)) (by decide +kernel)
theorem kp44 : Cond.selects "AllHomeModel" ⟨"AllHomeModel", "noteComes", "(I)Z"⟩ ⟨"AllHomeModel", "noteComes", "(I)Z"⟩ ∈ zTb := zTb_in (List.mem_of_getElem? (i := 44) (by decide +kernel)) (by decide +kernel)
theorem kw905 : (Jvm.Cond.methodLink "AllHomeModel" (194 : Nat) ({ cls := "AllHomeModel", name := "noteComes", desc := "(I)Z" } : Jvm.MethodName)) ∈ zTb := zTb_in (List.mem_of_getElem? (i := 971) (by decide +kernel)) (by decide +kernel)
theorem kw907 : (Jvm.Cond.instanceMethod ({ cls := "AllHomeModel", name := "noteComes", desc := "(I)Z" } : Jvm.MethodName)) ∈ zTb := zTb_in (List.mem_of_getElem? (i := 973) (by decide +kernel)) (by decide +kernel)
theorem kw908 : (Jvm.Cond.code ({ cls := "AllHomeModel", name := "noteComes", desc := "(I)Z" } : Jvm.MethodName) prog_9_method_29_code (5 : Nat) (Option.some Jvm.ClassFile.FieldType.boolean)) ∈ zTb := zTb_in (List.mem_of_getElem? (i := 974) (by decide +kernel)) (by decide +kernel)
theorem kp48 : Cond.selects "AllHomeModel" ⟨"AllHomeModel", "asks", "(I)Z"⟩ ⟨"AllHomeModel", "asks", "(I)Z"⟩ ∈ zTb := zTb_in (List.mem_of_getElem? (i := 48) (by decide +kernel)) (by decide +kernel)
theorem kw921 : (Jvm.Cond.methodLink "AllHomeModel" (197 : Nat) ({ cls := "AllHomeModel", name := "asks", desc := "(I)Z" } : Jvm.MethodName)) ∈ zTb := zTb_in (List.mem_of_getElem? (i := 987) (by decide +kernel)) (by decide +kernel)
theorem kw923 : (Jvm.Cond.instanceMethod ({ cls := "AllHomeModel", name := "asks", desc := "(I)Z" } : Jvm.MethodName)) ∈ zTb := zTb_in (List.mem_of_getElem? (i := 989) (by decide +kernel)) (by decide +kernel)
theorem kw924 : (Jvm.Cond.code ({ cls := "AllHomeModel", name := "asks", desc := "(I)Z" } : Jvm.MethodName) prog_9_method_32_code (2 : Nat) (Option.some Jvm.ClassFile.FieldType.boolean)) ∈ zTb := zTb_in (List.mem_of_getElem? (i := 990) (by decide +kernel)) (by decide +kernel)
theorem kw685 : (Jvm.Cond.fieldLink "AllHomeModel" (34 : Nat) "AllHomeModel" "runWords" "[I") ∈ zTb := zTb_in (List.mem_of_getElem? (i := 751) (by decide +kernel)) (by decide +kernel)
theorem kw686 : (Jvm.Cond.fieldLink "AllHomeModel" (37 : Nat) "AllHomeModel" "runNotes" "[I") ∈ zTb := zTb_in (List.mem_of_getElem? (i := 752) (by decide +kernel)) (by decide +kernel)
theorem kw682 : (Jvm.Cond.fieldLink "AllHomeModel" (25 : Nat) "AllHomeModel" "kept" "[I") ∈ zTb := zTb_in (List.mem_of_getElem? (i := 748) (by decide +kernel)) (by decide +kernel)
theorem kw683 : (Jvm.Cond.fieldLink "AllHomeModel" (28 : Nat) "AllHomeModel" "runWay" "[I") ∈ zTb := zTb_in (List.mem_of_getElem? (i := 749) (by decide +kernel)) (by decide +kernel)
theorem kp28 : Cond.selects "AllHomeModel" ⟨"AllHomeModel", "begin", "(I)V"⟩ ⟨"AllHomeModel", "begin", "(I)V"⟩ ∈ zTb := zTb_in (List.mem_of_getElem? (i := 28) (by decide +kernel)) (by decide +kernel)
theorem kw831 : (Jvm.Cond.methodLink "AllHomeModel" (203 : Nat) ({ cls := "AllHomeModel", name := "begin", desc := "(I)V" } : Jvm.MethodName)) ∈ zTb := zTb_in (List.mem_of_getElem? (i := 897) (by decide +kernel)) (by decide +kernel)
theorem kw833 : (Jvm.Cond.instanceMethod ({ cls := "AllHomeModel", name := "begin", desc := "(I)V" } : Jvm.MethodName)) ∈ zTb := zTb_in (List.mem_of_getElem? (i := 899) (by decide +kernel)) (by decide +kernel)
theorem kw834 : (Jvm.Cond.code ({ cls := "AllHomeModel", name := "begin", desc := "(I)V" } : Jvm.MethodName) prog_9_method_17_code (3 : Nat) (Option.none : Option Jvm.ClassFile.FieldType)) ∈ zTb := zTb_in (List.mem_of_getElem? (i := 900) (by decide +kernel)) (by decide +kernel)
theorem kw687 : (Jvm.Cond.fieldLink "AllHomeModel" (40 : Nat) "AllHomeModel" "saidAt" "[I") ∈ zTb := zTb_in (List.mem_of_getElem? (i := 753) (by decide +kernel)) (by decide +kernel)
theorem kw688 : (Jvm.Cond.fieldLink "AllHomeModel" (43 : Nat) "AllHomeModel" "overAt" "[I") ∈ zTb := zTb_in (List.mem_of_getElem? (i := 754) (by decide +kernel)) (by decide +kernel)
theorem kp29 : Cond.selects "AllHomeModel" ⟨"AllHomeModel", "keepRun", "(I)V"⟩ ⟨"AllHomeModel", "keepRun", "(I)V"⟩ ∈ zTb := zTb_in (List.mem_of_getElem? (i := 29) (by decide +kernel)) (by decide +kernel)
theorem kw835 : (Jvm.Cond.methodLink "AllHomeModel" (207 : Nat) ({ cls := "AllHomeModel", name := "keepRun", desc := "(I)V" } : Jvm.MethodName)) ∈ zTb := zTb_in (List.mem_of_getElem? (i := 901) (by decide +kernel)) (by decide +kernel)
theorem kw837 : (Jvm.Cond.instanceMethod ({ cls := "AllHomeModel", name := "keepRun", desc := "(I)V" } : Jvm.MethodName)) ∈ zTb := zTb_in (List.mem_of_getElem? (i := 903) (by decide +kernel)) (by decide +kernel)
theorem kw838 : (Jvm.Cond.code ({ cls := "AllHomeModel", name := "keepRun", desc := "(I)V" } : Jvm.MethodName) prog_9_method_36_code (3 : Nat) (Option.none : Option Jvm.ClassFile.FieldType)) ∈ zTb := zTb_in (List.mem_of_getElem? (i := 904) (by decide +kernel)) (by decide +kernel)
theorem kp32 : Cond.selects "AllHomeModel" ⟨"AllHomeModel", "takeRun", "(I)V"⟩ ⟨"AllHomeModel", "takeRun", "(I)V"⟩ ∈ zTb := zTb_in (List.mem_of_getElem? (i := 32) (by decide +kernel)) (by decide +kernel)
theorem kw851 : (Jvm.Cond.methodLink "AllHomeModel" (210 : Nat) ({ cls := "AllHomeModel", name := "takeRun", desc := "(I)V" } : Jvm.MethodName)) ∈ zTb := zTb_in (List.mem_of_getElem? (i := 917) (by decide +kernel)) (by decide +kernel)
theorem kw853 : (Jvm.Cond.instanceMethod ({ cls := "AllHomeModel", name := "takeRun", desc := "(I)V" } : Jvm.MethodName)) ∈ zTb := zTb_in (List.mem_of_getElem? (i := 919) (by decide +kernel)) (by decide +kernel)
theorem kw854 : (Jvm.Cond.code ({ cls := "AllHomeModel", name := "takeRun", desc := "(I)V" } : Jvm.MethodName) prog_9_method_37_code (3 : Nat) (Option.none : Option Jvm.ClassFile.FieldType)) ∈ zTb := zTb_in (List.mem_of_getElem? (i := 920) (by decide +kernel)) (by decide +kernel)
theorem kp33 : Cond.selects "AllHomeModel" ⟨"AllHomeModel", "doStep", "(II)I"⟩ ⟨"AllHomeModel", "doStep", "(II)I"⟩ ∈ zTb := zTb_in (List.mem_of_getElem? (i := 33) (by decide +kernel)) (by decide +kernel)
theorem kw855 : (Jvm.Cond.methodLink "AllHomeModel" (213 : Nat) ({ cls := "AllHomeModel", name := "doStep", desc := "(II)I" } : Jvm.MethodName)) ∈ zTb := zTb_in (List.mem_of_getElem? (i := 921) (by decide +kernel)) (by decide +kernel)
theorem kw857 : (Jvm.Cond.instanceMethod ({ cls := "AllHomeModel", name := "doStep", desc := "(II)I" } : Jvm.MethodName)) ∈ zTb := zTb_in (List.mem_of_getElem? (i := 923) (by decide +kernel)) (by decide +kernel)
theorem kw858 : (Jvm.Cond.code ({ cls := "AllHomeModel", name := "doStep", desc := "(II)I" } : Jvm.MethodName) prog_9_method_34_code (4 : Nat) (Option.some Jvm.ClassFile.FieldType.int)) ∈ zTb := zTb_in (List.mem_of_getElem? (i := 924) (by decide +kernel)) (by decide +kernel)
theorem kw684 : (Jvm.Cond.fieldLink "AllHomeModel" (31 : Nat) "AllHomeModel" "runSteps" "[I") ∈ zTb := zTb_in (List.mem_of_getElem? (i := 750) (by decide +kernel)) (by decide +kernel)
theorem kp50 : Cond.selects "AllHomeModel" ⟨"AllHomeModel", "isOver", "()Z"⟩ ⟨"AllHomeModel", "isOver", "()Z"⟩ ∈ zTb := zTb_in (List.mem_of_getElem? (i := 50) (by decide +kernel)) (by decide +kernel)
theorem kw929 : (Jvm.Cond.methodLink "AllHomeModel" (216 : Nat) ({ cls := "AllHomeModel", name := "isOver", desc := "()Z" } : Jvm.MethodName)) ∈ zTb := zTb_in (List.mem_of_getElem? (i := 995) (by decide +kernel)) (by decide +kernel)
theorem kw931 : (Jvm.Cond.instanceMethod ({ cls := "AllHomeModel", name := "isOver", desc := "()Z" } : Jvm.MethodName)) ∈ zTb := zTb_in (List.mem_of_getElem? (i := 997) (by decide +kernel)) (by decide +kernel)
theorem kw932 : (Jvm.Cond.code ({ cls := "AllHomeModel", name := "isOver", desc := "()Z" } : Jvm.MethodName) prog_9_method_35_code (3 : Nat) (Option.some Jvm.ClassFile.FieldType.boolean)) ∈ zTb := zTb_in (List.mem_of_getElem? (i := 998) (by decide +kernel)) (by decide +kernel)
theorem kp30 : Cond.selects "AllHomeModel" ⟨"AllHomeModel", "isRun", "(I)Z"⟩ ⟨"AllHomeModel", "isRun", "(I)Z"⟩ ∈ zTb := zTb_in (List.mem_of_getElem? (i := 30) (by decide +kernel)) (by decide +kernel)
theorem kw843 : (Jvm.Cond.methodLink "AllHomeModel" (220 : Nat) ({ cls := "AllHomeModel", name := "isRun", desc := "(I)Z" } : Jvm.MethodName)) ∈ zTb := zTb_in (List.mem_of_getElem? (i := 909) (by decide +kernel)) (by decide +kernel)
theorem kw845 : (Jvm.Cond.instanceMethod ({ cls := "AllHomeModel", name := "isRun", desc := "(I)Z" } : Jvm.MethodName)) ∈ zTb := zTb_in (List.mem_of_getElem? (i := 911) (by decide +kernel)) (by decide +kernel)
theorem kw846 : (Jvm.Cond.code ({ cls := "AllHomeModel", name := "isRun", desc := "(I)Z" } : Jvm.MethodName) prog_9_method_39_code (2 : Nat) (Option.some Jvm.ClassFile.FieldType.boolean)) ∈ zTb := zTb_in (List.mem_of_getElem? (i := 912) (by decide +kernel)) (by decide +kernel)
theorem kp31 : Cond.selects "AllHomeModel" ⟨"AllHomeModel", "stepOf", "(III)I"⟩ ⟨"AllHomeModel", "stepOf", "(III)I"⟩ ∈ zTb := zTb_in (List.mem_of_getElem? (i := 31) (by decide +kernel)) (by decide +kernel)
theorem kw847 : (Jvm.Cond.methodLink "AllHomeModel" (223 : Nat) ({ cls := "AllHomeModel", name := "stepOf", desc := "(III)I" } : Jvm.MethodName)) ∈ zTb := zTb_in (List.mem_of_getElem? (i := 913) (by decide +kernel)) (by decide +kernel)
theorem kw849 : (Jvm.Cond.instanceMethod ({ cls := "AllHomeModel", name := "stepOf", desc := "(III)I" } : Jvm.MethodName)) ∈ zTb := zTb_in (List.mem_of_getElem? (i := 915) (by decide +kernel)) (by decide +kernel)
theorem kw850 : (Jvm.Cond.code ({ cls := "AllHomeModel", name := "stepOf", desc := "(III)I" } : Jvm.MethodName) prog_9_method_40_code (5 : Nat) (Option.some Jvm.ClassFile.FieldType.int)) ∈ zTb := zTb_in (List.mem_of_getElem? (i := 916) (by decide +kernel)) (by decide +kernel)
theorem kw940 : (Jvm.Cond.constantLong "AllHomeModel" (287 : Nat) (5 : Int64)) ∈ zTb := zTb_in (List.mem_of_getElem? (i := 1006) (by decide +kernel)) (by decide +kernel)
theorem kw937 : (Jvm.Cond.methodLink "AllHomeModel" (226 : Nat) ({ cls := "AllHomeModel", name := "isShelf", desc := "(I)Z" } : Jvm.MethodName)) ∈ zTb := zTb_in (List.mem_of_getElem? (i := 1003) (by decide +kernel)) (by decide +kernel)
theorem kw938 : (Jvm.Cond.static ({ cls := "AllHomeModel", name := "isShelf", desc := "(I)Z" } : Jvm.MethodName)) ∈ zTb := zTb_in (List.mem_of_getElem? (i := 1004) (by decide +kernel)) (by decide +kernel)
theorem kw939 : (Jvm.Cond.code ({ cls := "AllHomeModel", name := "isShelf", desc := "(I)Z" } : Jvm.MethodName) prog_9_method_68_code (1 : Nat) (Option.some Jvm.ClassFile.FieldType.boolean)) ∈ zTb := zTb_in (List.mem_of_getElem? (i := 1005) (by decide +kernel)) (by decide +kernel)
theorem kw941 : (Jvm.Cond.constantLong "AllHomeModel" (229 : Nat) (60 : Int64)) ∈ zTb := zTb_in (List.mem_of_getElem? (i := 1007) (by decide +kernel)) (by decide +kernel)
theorem kw699 : (Jvm.Cond.fieldLink "AllHomeModel" (65 : Nat) "AllHomeModel" "shelf" "[I") ∈ zTb := zTb_in (List.mem_of_getElem? (i := 765) (by decide +kernel)) (by decide +kernel)
theorem kw701 : (Jvm.Cond.fieldLink "AllHomeModel" (71 : Nat) "AllHomeModel" "items" "[J") ∈ zTb := zTb_in (List.mem_of_getElem? (i := 767) (by decide +kernel)) (by decide +kernel)
theorem kw700 : (Jvm.Cond.fieldLink "AllHomeModel" (68 : Nat) "AllHomeModel" "many" "[I") ∈ zTb := zTb_in (List.mem_of_getElem? (i := 766) (by decide +kernel)) (by decide +kernel)
theorem kw950 : (Jvm.Cond.constant "AllHomeModel" (231 : Nat) (-2000000000 : Int32)) ∈ zTb := zTb_in (List.mem_of_getElem? (i := 1016) (by decide +kernel)) (by decide +kernel)
theorem kw955 : (Jvm.Cond.constantLong "AllHomeModel" (232 : Nat) (2 : Int64)) ∈ zTb := zTb_in (List.mem_of_getElem? (i := 1021) (by decide +kernel)) (by decide +kernel)
theorem kw690 : (Jvm.Cond.fieldLink "AllHomeModel" (46 : Nat) "AllHomeModel" "found" "[I") ∈ zTb := zTb_in (List.mem_of_getElem? (i := 756) (by decide +kernel)) (by decide +kernel)
theorem kw695 : (Jvm.Cond.fieldLink "AllHomeModel" (234 : Nat) "AllHomeModel" "foundMany" "I") ∈ zTb := zTb_in (List.mem_of_getElem? (i := 761) (by decide +kernel)) (by decide +kernel)
theorem kw691 : (Jvm.Cond.fieldLink "AllHomeModel" (49 : Nat) "AllHomeModel" "ahead" "[I") ∈ zTb := zTb_in (List.mem_of_getElem? (i := 757) (by decide +kernel)) (by decide +kernel)
theorem kw692 : (Jvm.Cond.fieldLink "AllHomeModel" (52 : Nat) "AllHomeModel" "byStep" "[I") ∈ zTb := zTb_in (List.mem_of_getElem? (i := 758) (by decide +kernel)) (by decide +kernel)
theorem kp55 : Cond.selects "AllHomeModel" ⟨"AllHomeModel", "bringBack", "(I)V"⟩ ⟨"AllHomeModel", "bringBack", "(I)V"⟩ ∈ zTb := zTb_in (List.mem_of_getElem? (i := 55) (by decide +kernel)) (by decide +kernel)
theorem kw984 : (Jvm.Cond.methodLink "AllHomeModel" (237 : Nat) ({ cls := "AllHomeModel", name := "bringBack", desc := "(I)V" } : Jvm.MethodName)) ∈ zTb := zTb_in (List.mem_of_getElem? (i := 1050) (by decide +kernel)) (by decide +kernel)
theorem kw986 : (Jvm.Cond.instanceMethod ({ cls := "AllHomeModel", name := "bringBack", desc := "(I)V" } : Jvm.MethodName)) ∈ zTb := zTb_in (List.mem_of_getElem? (i := 1052) (by decide +kernel)) (by decide +kernel)
theorem kw987 : (Jvm.Cond.code ({ cls := "AllHomeModel", name := "bringBack", desc := "(I)V" } : Jvm.MethodName) prog_9_method_48_code (3 : Nat) (Option.none : Option Jvm.ClassFile.FieldType)) ∈ zTb := zTb_in (List.mem_of_getElem? (i := 1053) (by decide +kernel)) (by decide +kernel)
theorem kp56 : Cond.selects "AllHomeModel" ⟨"AllHomeModel", "findState", "()I"⟩ ⟨"AllHomeModel", "findState", "()I"⟩ ∈ zTb := zTb_in (List.mem_of_getElem? (i := 56) (by decide +kernel)) (by decide +kernel)
theorem kw988 : (Jvm.Cond.methodLink "AllHomeModel" (240 : Nat) ({ cls := "AllHomeModel", name := "findState", desc := "()I" } : Jvm.MethodName)) ∈ zTb := zTb_in (List.mem_of_getElem? (i := 1054) (by decide +kernel)) (by decide +kernel)
theorem kw990 : (Jvm.Cond.instanceMethod ({ cls := "AllHomeModel", name := "findState", desc := "()I" } : Jvm.MethodName)) ∈ zTb := zTb_in (List.mem_of_getElem? (i := 1056) (by decide +kernel)) (by decide +kernel)
theorem kw991 : (Jvm.Cond.code ({ cls := "AllHomeModel", name := "findState", desc := "()I" } : Jvm.MethodName) prog_9_method_49_code (4 : Nat) (Option.some Jvm.ClassFile.FieldType.int)) ∈ zTb := zTb_in (List.mem_of_getElem? (i := 1057) (by decide +kernel)) (by decide +kernel)
theorem kw694 : (Jvm.Cond.fieldLink "AllHomeModel" (59 : Nat) "AllHomeModel" "leads" "[Z") ∈ zTb := zTb_in (List.mem_of_getElem? (i := 760) (by decide +kernel)) (by decide +kernel)
theorem kp53 : Cond.selects "AllHomeModel" ⟨"AllHomeModel", "keepState", "(II)V"⟩ ⟨"AllHomeModel", "keepState", "(II)V"⟩ ∈ zTb := zTb_in (List.mem_of_getElem? (i := 53) (by decide +kernel)) (by decide +kernel)
theorem kw976 : (Jvm.Cond.methodLink "AllHomeModel" (243 : Nat) ({ cls := "AllHomeModel", name := "keepState", desc := "(II)V" } : Jvm.MethodName)) ∈ zTb := zTb_in (List.mem_of_getElem? (i := 1042) (by decide +kernel)) (by decide +kernel)
theorem kw978 : (Jvm.Cond.instanceMethod ({ cls := "AllHomeModel", name := "keepState", desc := "(II)V" } : Jvm.MethodName)) ∈ zTb := zTb_in (List.mem_of_getElem? (i := 1044) (by decide +kernel)) (by decide +kernel)
theorem kw979 : (Jvm.Cond.code ({ cls := "AllHomeModel", name := "keepState", desc := "(II)V" } : Jvm.MethodName) prog_9_method_50_code (4 : Nat) (Option.none : Option Jvm.ClassFile.FieldType)) ∈ zTb := zTb_in (List.mem_of_getElem? (i := 1045) (by decide +kernel)) (by decide +kernel)
theorem kp54 : Cond.selects "AllHomeModel" ⟨"AllHomeModel", "goFrom", "(I)V"⟩ ⟨"AllHomeModel", "goFrom", "(I)V"⟩ ∈ zTb := zTb_in (List.mem_of_getElem? (i := 54) (by decide +kernel)) (by decide +kernel)
theorem kw980 : (Jvm.Cond.methodLink "AllHomeModel" (246 : Nat) ({ cls := "AllHomeModel", name := "goFrom", desc := "(I)V" } : Jvm.MethodName)) ∈ zTb := zTb_in (List.mem_of_getElem? (i := 1046) (by decide +kernel)) (by decide +kernel)
theorem kw982 : (Jvm.Cond.instanceMethod ({ cls := "AllHomeModel", name := "goFrom", desc := "(I)V" } : Jvm.MethodName)) ∈ zTb := zTb_in (List.mem_of_getElem? (i := 1048) (by decide +kernel)) (by decide +kernel)
theorem kw983 : (Jvm.Cond.code ({ cls := "AllHomeModel", name := "goFrom", desc := "(I)V" } : Jvm.MethodName) prog_9_method_51_code (4 : Nat) (Option.none : Option Jvm.ClassFile.FieldType)) ∈ zTb := zTb_in (List.mem_of_getElem? (i := 1049) (by decide +kernel)) (by decide +kernel)
theorem kp52 : Cond.selects "AllHomeModel" ⟨"AllHomeModel", "findAll", "(I)I"⟩ ⟨"AllHomeModel", "findAll", "(I)I"⟩ ∈ zTb := zTb_in (List.mem_of_getElem? (i := 52) (by decide +kernel)) (by decide +kernel)
theorem kw972 : (Jvm.Cond.methodLink "AllHomeModel" (249 : Nat) ({ cls := "AllHomeModel", name := "findAll", desc := "(I)I" } : Jvm.MethodName)) ∈ zTb := zTb_in (List.mem_of_getElem? (i := 1038) (by decide +kernel)) (by decide +kernel)
theorem kw974 : (Jvm.Cond.instanceMethod ({ cls := "AllHomeModel", name := "findAll", desc := "(I)I" } : Jvm.MethodName)) ∈ zTb := zTb_in (List.mem_of_getElem? (i := 1040) (by decide +kernel)) (by decide +kernel)
theorem kw975 : (Jvm.Cond.code ({ cls := "AllHomeModel", name := "findAll", desc := "(I)I" } : Jvm.MethodName) prog_9_method_52_code (3 : Nat) (Option.some Jvm.ClassFile.FieldType.int)) ∈ zTb := zTb_in (List.mem_of_getElem? (i := 1041) (by decide +kernel)) (by decide +kernel)
theorem kp51 : Cond.selects "AllHomeModel" ⟨"AllHomeModel", "noOrders", "(I)I"⟩ ⟨"AllHomeModel", "noOrders", "(I)I"⟩ ∈ zTb := zTb_in (List.mem_of_getElem? (i := 51) (by decide +kernel)) (by decide +kernel)
theorem kw968 : (Jvm.Cond.methodLink "AllHomeModel" (252 : Nat) ({ cls := "AllHomeModel", name := "noOrders", desc := "(I)I" } : Jvm.MethodName)) ∈ zTb := zTb_in (List.mem_of_getElem? (i := 1034) (by decide +kernel)) (by decide +kernel)
theorem kw970 : (Jvm.Cond.instanceMethod ({ cls := "AllHomeModel", name := "noOrders", desc := "(I)I" } : Jvm.MethodName)) ∈ zTb := zTb_in (List.mem_of_getElem? (i := 1036) (by decide +kernel)) (by decide +kernel)
theorem kw971 : (Jvm.Cond.code ({ cls := "AllHomeModel", name := "noOrders", desc := "(I)I" } : Jvm.MethodName) prog_9_method_53_code (2 : Nat) (Option.some Jvm.ClassFile.FieldType.int)) ∈ zTb := zTb_in (List.mem_of_getElem? (i := 1037) (by decide +kernel)) (by decide +kernel)
theorem kp57 : Cond.selects "AllHomeModel" ⟨"AllHomeModel", "stepsTo", "(I)I"⟩ ⟨"AllHomeModel", "stepsTo", "(I)I"⟩ ∈ zTb := zTb_in (List.mem_of_getElem? (i := 57) (by decide +kernel)) (by decide +kernel)
theorem kw996 : (Jvm.Cond.methodLink "AllHomeModel" (255 : Nat) ({ cls := "AllHomeModel", name := "stepsTo", desc := "(I)I" } : Jvm.MethodName)) ∈ zTb := zTb_in (List.mem_of_getElem? (i := 1062) (by decide +kernel)) (by decide +kernel)
theorem kw998 : (Jvm.Cond.instanceMethod ({ cls := "AllHomeModel", name := "stepsTo", desc := "(I)I" } : Jvm.MethodName)) ∈ zTb := zTb_in (List.mem_of_getElem? (i := 1064) (by decide +kernel)) (by decide +kernel)
theorem kw999 : (Jvm.Cond.code ({ cls := "AllHomeModel", name := "stepsTo", desc := "(I)I" } : Jvm.MethodName) prog_9_method_55_code (4 : Nat) (Option.some Jvm.ClassFile.FieldType.int)) ∈ zTb := zTb_in (List.mem_of_getElem? (i := 1065) (by decide +kernel)) (by decide +kernel)
theorem kw693 : (Jvm.Cond.fieldLink "AllHomeModel" (55 : Nat) "AllHomeModel" "canSay" "[Z") ∈ zTb := zTb_in (List.mem_of_getElem? (i := 759) (by decide +kernel)) (by decide +kernel)
theorem kp59 : Cond.selects "AllHomeModel" ⟨"AllHomeModel", "worksAlike", "(II)Z"⟩ ⟨"AllHomeModel", "worksAlike", "(II)Z"⟩ ∈ zTb := zTb_in (List.mem_of_getElem? (i := 59) (by decide +kernel)) (by decide +kernel)
theorem kw1012 : (Jvm.Cond.methodLink "AllHomeModel" (258 : Nat) ({ cls := "AllHomeModel", name := "worksAlike", desc := "(II)Z" } : Jvm.MethodName)) ∈ zTb := zTb_in (List.mem_of_getElem? (i := 1078) (by decide +kernel)) (by decide +kernel)
theorem kw1014 : (Jvm.Cond.instanceMethod ({ cls := "AllHomeModel", name := "worksAlike", desc := "(II)Z" } : Jvm.MethodName)) ∈ zTb := zTb_in (List.mem_of_getElem? (i := 1080) (by decide +kernel)) (by decide +kernel)
theorem kw1015 : (Jvm.Cond.code ({ cls := "AllHomeModel", name := "worksAlike", desc := "(II)Z" } : Jvm.MethodName) prog_9_method_58_code (8 : Nat) (Option.some Jvm.ClassFile.FieldType.boolean)) ∈ zTb := zTb_in (List.mem_of_getElem? (i := 1081) (by decide +kernel)) (by decide +kernel)
theorem kp58 : Cond.selects "AllHomeModel" ⟨"AllHomeModel", "workMany", "()I"⟩ ⟨"AllHomeModel", "workMany", "()I"⟩ ∈ zTb := zTb_in (List.mem_of_getElem? (i := 58) (by decide +kernel)) (by decide +kernel)
theorem kw1008 : (Jvm.Cond.methodLink "AllHomeModel" (261 : Nat) ({ cls := "AllHomeModel", name := "workMany", desc := "()I" } : Jvm.MethodName)) ∈ zTb := zTb_in (List.mem_of_getElem? (i := 1074) (by decide +kernel)) (by decide +kernel)
theorem kw1010 : (Jvm.Cond.instanceMethod ({ cls := "AllHomeModel", name := "workMany", desc := "()I" } : Jvm.MethodName)) ∈ zTb := zTb_in (List.mem_of_getElem? (i := 1076) (by decide +kernel)) (by decide +kernel)
theorem kw1011 : (Jvm.Cond.code ({ cls := "AllHomeModel", name := "workMany", desc := "()I" } : Jvm.MethodName) prog_9_method_59_code (5 : Nat) (Option.some Jvm.ClassFile.FieldType.int)) ∈ zTb := zTb_in (List.mem_of_getElem? (i := 1077) (by decide +kernel)) (by decide +kernel)
theorem kw697 : (Jvm.Cond.fieldLink "AllHomeModel" (264 : Nat) "AllHomeModel" "ran" "I") ∈ zTb := zTb_in (List.mem_of_getElem? (i := 763) (by decide +kernel)) (by decide +kernel)
theorem kw696 : (Jvm.Cond.fieldLink "AllHomeModel" (62 : Nat) "AllHomeModel" "trace" "[I") ∈ zTb := zTb_in (List.mem_of_getElem? (i := 762) (by decide +kernel)) (by decide +kernel)
theorem kp61 : Cond.selects "AllHomeModel" ⟨"AllHomeModel", "ranBody", "(I)V"⟩ ⟨"AllHomeModel", "ranBody", "(I)V"⟩ ∈ zTb := zTb_in (List.mem_of_getElem? (i := 61) (by decide +kernel)) (by decide +kernel)
theorem kw1025 : (Jvm.Cond.methodLink "AllHomeModel" (267 : Nat) ({ cls := "AllHomeModel", name := "ranBody", desc := "(I)V" } : Jvm.MethodName)) ∈ zTb := zTb_in (List.mem_of_getElem? (i := 1091) (by decide +kernel)) (by decide +kernel)
theorem kw1027 : (Jvm.Cond.instanceMethod ({ cls := "AllHomeModel", name := "ranBody", desc := "(I)V" } : Jvm.MethodName)) ∈ zTb := zTb_in (List.mem_of_getElem? (i := 1093) (by decide +kernel)) (by decide +kernel)
theorem kw1028 : (Jvm.Cond.code ({ cls := "AllHomeModel", name := "ranBody", desc := "(I)V" } : Jvm.MethodName) prog_9_method_61_code (2 : Nat) (Option.none : Option Jvm.ClassFile.FieldType)) ∈ zTb := zTb_in (List.mem_of_getElem? (i := 1094) (by decide +kernel)) (by decide +kernel)
theorem kw698 : (Jvm.Cond.fieldLink "AllHomeModel" (270 : Nat) "AllHomeModel" "acting" "I") ∈ zTb := zTb_in (List.mem_of_getElem? (i := 764) (by decide +kernel)) (by decide +kernel)
theorem kp60 : Cond.selects "AllHomeModel" ⟨"AllHomeModel", "sends", "(II)I"⟩ ⟨"AllHomeModel", "sends", "(II)I"⟩ ∈ zTb := zTb_in (List.mem_of_getElem? (i := 60) (by decide +kernel)) (by decide +kernel)
theorem kw1021 : (Jvm.Cond.methodLink "AllHomeModel" (273 : Nat) ({ cls := "AllHomeModel", name := "sends", desc := "(II)I" } : Jvm.MethodName)) ∈ zTb := zTb_in (List.mem_of_getElem? (i := 1087) (by decide +kernel)) (by decide +kernel)
theorem kw1023 : (Jvm.Cond.instanceMethod ({ cls := "AllHomeModel", name := "sends", desc := "(II)I" } : Jvm.MethodName)) ∈ zTb := zTb_in (List.mem_of_getElem? (i := 1089) (by decide +kernel)) (by decide +kernel)
theorem kw1024 : (Jvm.Cond.code ({ cls := "AllHomeModel", name := "sends", desc := "(II)I" } : Jvm.MethodName) prog_9_method_62_code (3 : Nat) (Option.some Jvm.ClassFile.FieldType.int)) ∈ zTb := zTb_in (List.mem_of_getElem? (i := 1090) (by decide +kernel)) (by decide +kernel)
theorem kp62 : Cond.selects "AllHomeModel" ⟨"AllHomeModel", "asksOf", "(II)I"⟩ ⟨"AllHomeModel", "asksOf", "(II)I"⟩ ∈ zTb := zTb_in (List.mem_of_getElem? (i := 62) (by decide +kernel)) (by decide +kernel)
theorem kw1029 : (Jvm.Cond.methodLink "AllHomeModel" (276 : Nat) ({ cls := "AllHomeModel", name := "asksOf", desc := "(II)I" } : Jvm.MethodName)) ∈ zTb := zTb_in (List.mem_of_getElem? (i := 1095) (by decide +kernel)) (by decide +kernel)
theorem kw1031 : (Jvm.Cond.instanceMethod ({ cls := "AllHomeModel", name := "asksOf", desc := "(II)I" } : Jvm.MethodName)) ∈ zTb := zTb_in (List.mem_of_getElem? (i := 1097) (by decide +kernel)) (by decide +kernel)
theorem kw1032 : (Jvm.Cond.code ({ cls := "AllHomeModel", name := "asksOf", desc := "(II)I" } : Jvm.MethodName) prog_9_method_63_code (4 : Nat) (Option.some Jvm.ClassFile.FieldType.int)) ∈ zTb := zTb_in (List.mem_of_getElem? (i := 1098) (by decide +kernel)) (by decide +kernel)
theorem kp63 : Cond.selects "AllHomeModel" ⟨"AllHomeModel", "owes", "(II)I"⟩ ⟨"AllHomeModel", "owes", "(II)I"⟩ ∈ zTb := zTb_in (List.mem_of_getElem? (i := 63) (by decide +kernel)) (by decide +kernel)
theorem kw1033 : (Jvm.Cond.methodLink "AllHomeModel" (279 : Nat) ({ cls := "AllHomeModel", name := "owes", desc := "(II)I" } : Jvm.MethodName)) ∈ zTb := zTb_in (List.mem_of_getElem? (i := 1099) (by decide +kernel)) (by decide +kernel)
theorem kw1035 : (Jvm.Cond.instanceMethod ({ cls := "AllHomeModel", name := "owes", desc := "(II)I" } : Jvm.MethodName)) ∈ zTb := zTb_in (List.mem_of_getElem? (i := 1101) (by decide +kernel)) (by decide +kernel)
theorem kw1036 : (Jvm.Cond.code ({ cls := "AllHomeModel", name := "owes", desc := "(II)I" } : Jvm.MethodName) prog_9_method_64_code (4 : Nat) (Option.some Jvm.ClassFile.FieldType.int)) ∈ zTb := zTb_in (List.mem_of_getElem? (i := 1102) (by decide +kernel)) (by decide +kernel)
theorem kp64 : Cond.selects "AllHomeModel" ⟨"AllHomeModel", "tells", "(II)I"⟩ ⟨"AllHomeModel", "tells", "(II)I"⟩ ∈ zTb := zTb_in (List.mem_of_getElem? (i := 64) (by decide +kernel)) (by decide +kernel)
theorem kw1037 : (Jvm.Cond.methodLink "AllHomeModel" (282 : Nat) ({ cls := "AllHomeModel", name := "tells", desc := "(II)I" } : Jvm.MethodName)) ∈ zTb := zTb_in (List.mem_of_getElem? (i := 1103) (by decide +kernel)) (by decide +kernel)
theorem kw1039 : (Jvm.Cond.instanceMethod ({ cls := "AllHomeModel", name := "tells", desc := "(II)I" } : Jvm.MethodName)) ∈ zTb := zTb_in (List.mem_of_getElem? (i := 1105) (by decide +kernel)) (by decide +kernel)
theorem kw1040 : (Jvm.Cond.code ({ cls := "AllHomeModel", name := "tells", desc := "(II)I" } : Jvm.MethodName) prog_9_method_65_code (4 : Nat) (Option.some Jvm.ClassFile.FieldType.int)) ∈ zTb := zTb_in (List.mem_of_getElem? (i := 1106) (by decide +kernel)) (by decide +kernel)
theorem kw1020 : (Jvm.Cond.constantLong "AllHomeModel" (285 : Nat) (3 : Int64)) ∈ zTb := zTb_in (List.mem_of_getElem? (i := 1086) (by decide +kernel)) (by decide +kernel)
theorem kp65 : Cond.selects "AllHomeModel" ⟨"AllHomeModel", "refusal", "(II)I"⟩ ⟨"AllHomeModel", "refusal", "(II)I"⟩ ∈ zTb := zTb_in (List.mem_of_getElem? (i := 65) (by decide +kernel)) (by decide +kernel)
theorem kw1057 : (Jvm.Cond.methodLink "AllHomeModel" (289 : Nat) ({ cls := "AllHomeModel", name := "refusal", desc := "(II)I" } : Jvm.MethodName)) ∈ zTb := zTb_in (List.mem_of_getElem? (i := 1123) (by decide +kernel)) (by decide +kernel)
theorem kw1059 : (Jvm.Cond.instanceMethod ({ cls := "AllHomeModel", name := "refusal", desc := "(II)I" } : Jvm.MethodName)) ∈ zTb := zTb_in (List.mem_of_getElem? (i := 1125) (by decide +kernel)) (by decide +kernel)
theorem kw1060 : (Jvm.Cond.code ({ cls := "AllHomeModel", name := "refusal", desc := "(II)I" } : Jvm.MethodName) prog_9_method_71_code (3 : Nat) (Option.some Jvm.ClassFile.FieldType.int)) ∈ zTb := zTb_in (List.mem_of_getElem? (i := 1126) (by decide +kernel)) (by decide +kernel)
theorem kw1061 : (Jvm.Cond.methodLink "AllHomeModel" (292 : Nat) ({ cls := "AllHomeModel", name := "asSort", desc := "(IJ)J" } : Jvm.MethodName)) ∈ zTb := zTb_in (List.mem_of_getElem? (i := 1127) (by decide +kernel)) (by decide +kernel)
theorem kw1062 : (Jvm.Cond.static ({ cls := "AllHomeModel", name := "asSort", desc := "(IJ)J" } : Jvm.MethodName)) ∈ zTb := zTb_in (List.mem_of_getElem? (i := 1128) (by decide +kernel)) (by decide +kernel)
theorem kw1063 : (Jvm.Cond.code ({ cls := "AllHomeModel", name := "asSort", desc := "(IJ)J" } : Jvm.MethodName) prog_9_method_72_code (3 : Nat) (Option.some Jvm.ClassFile.FieldType.long)) ∈ zTb := zTb_in (List.mem_of_getElem? (i := 1129) (by decide +kernel)) (by decide +kernel)
theorem kw1068 : (Jvm.Cond.constantLong "AllHomeModel" (298 : Nat) (-9223372036854775808 : Int64)) ∈ zTb := zTb_in (List.mem_of_getElem? (i := 1134) (by decide +kernel)) (by decide +kernel)
theorem kw702 : (Jvm.Cond.fieldLink "AllHomeModel" (75 : Nat) "AllHomeModel" "carried" "[J") ∈ zTb := zTb_in (List.mem_of_getElem? (i := 768) (by decide +kernel)) (by decide +kernel)
theorem F_Home_59 : zFd "AllHome" 59 6 1 := ⟨by decide, "AllHome", nT6, 12, rfl, nI6, by decide, kw178⟩
theorem P_Home_59 : zFp "AllHome" 59 6 1 .int false := ⟨by decide, "AllHome", nT6, 12, nY6, rfl, nI6, by decide, kw178, nP6, nN6, by decide +kernel, rfl, rfl⟩
theorem F_Home_9 : zFd "AllHome" 9 6 0 := ⟨by decide, "AllHome", nT6, 12, rfl, nI6, by decide, kw177⟩
theorem F_Huts_23 : zFd "AllHome$Huts" 23 1 3 := ⟨by decide, "AllHome$Huts", nT1, 4, rfl, nI1, by decide, kw31⟩
theorem F_Huts_13 : zFd "AllHome$Huts" 13 1 0 := ⟨by decide, "AllHome$Huts", nT1, 4, rfl, nI1, by decide, kw28⟩
theorem F_Huts_16 : zFd "AllHome$Huts" 16 1 1 := ⟨by decide, "AllHome$Huts", nT1, 4, rfl, nI1, by decide, kw29⟩
theorem F_Huts_19 : zFd "AllHome$Huts" 19 1 2 := ⟨by decide, "AllHome$Huts", nT1, 4, rfl, nI1, by decide, kw30⟩
theorem P_Huts_23 : zFp "AllHome$Huts" 23 1 3 .int false := ⟨by decide, "AllHome$Huts", nT1, 4, nY1, rfl, nI1, by decide, kw31, nP1, nN1, by decide +kernel, rfl, rfl⟩
theorem C_Huts_31 : zCV "AllHome$Huts" 31 y_Huts_addWords prog_3_method_8_code 5 (some .int) 3 1 := ⟨kw230, kw232, kp0, kw2, kw233, ⟨by decide +kernel, by decide +kernel, by decide +kernel⟩, by decide, _, rfl, rfl⟩
theorem P_Orders_42 : zFp "AllHome$Orders" 42 2 13 .int false := ⟨by decide, "AllHome$Orders", nT2, 14, nY2, rfl, nI2, by decide, kw81, nP2, nN2, by decide +kernel, rfl, rfl⟩
theorem F_Home_63 : zFd "AllHome" 63 6 6 := ⟨by decide, "AllHome", nT6, 12, rfl, nI6, by decide, kw183⟩
theorem F_Home_16 : zFd "AllHome" 16 6 2 := ⟨by decide, "AllHome", nT6, 12, rfl, nI6, by decide, kw179⟩
theorem C_Home_66 : zCV "AllHome" 66 y_Huts_size prog_3_method_2_code 1 (some .int) 0 1 := ⟨kw222, kw223, kw224, kw2, kw225, ⟨by decide +kernel, by decide +kernel, by decide +kernel⟩, by decide, _, rfl, rfl⟩
theorem C_Home_70 : zCV "AllHome" 70 y_Huts_read prog_3_method_7_code 9 (some .int) 2 1 := ⟨kw226, kw227, kw228, kw2, kw229, ⟨by decide +kernel, by decide +kernel, by decide +kernel⟩, by decide, _, rfl, rfl⟩
theorem F_Home_37 : zFd "AllHome" 37 6 8 := ⟨by decide, "AllHome", nT6, 12, rfl, nI6, by decide, kw185⟩
theorem C_Home_74 : zCV "AllHome" 74 y_Orders_forget prog_4_method_2_code 1 none 0 2 := ⟨kw237, kw238, kw239, kw3, kw240, ⟨by decide +kernel, by decide +kernel, by decide +kernel⟩, by decide, _, rfl, rfl⟩
theorem F_Home_41 : zFd "AllHome" 41 6 9 := ⟨by decide, "AllHome", nT6, 12, rfl, nI6, by decide, kw186⟩
theorem C_Huts_27 : zCV "AllHome$Huts" 27 y_Huts_has prog_3_method_3_code 2 (some .boolean) 1 1 := ⟨kw253, kw246, kw247, kw2, kw248, ⟨by decide +kernel, by decide +kernel, by decide +kernel⟩, by decide, _, rfl, rfl⟩
theorem C_Home_77 : zCV "AllHome" 77 y_Huts_has prog_3_method_3_code 2 (some .boolean) 1 1 := ⟨kw245, kw246, kw247, kw2, kw248, ⟨by decide +kernel, by decide +kernel, by decide +kernel⟩, by decide, _, rfl, rfl⟩
theorem C_Home_81 : zCV "AllHome" 81 y_Huts_linesOf prog_3_method_4_code 2 (some .int) 1 1 := ⟨kw249, kw250, kw251, kw2, kw252, ⟨by decide +kernel, by decide +kernel, by decide +kernel⟩, by decide, _, rfl, rfl⟩
theorem C_Home_85 : zCV "AllHome" 85 y_Huts_wordsOf prog_3_method_5_code 3 (some .int) 2 1 := ⟨kw254, kw255, kw256, kw2, kw257, ⟨by decide +kernel, by decide +kernel, by decide +kernel⟩, by decide, _, rfl, rfl⟩
theorem C_Home_89 : zCV "AllHome" 89 y_Huts_goal prog_3_method_6_code 5 (some .int) 3 1 := ⟨kw262, kw263, kw264, kw2, kw265, ⟨by decide +kernel, by decide +kernel, by decide +kernel⟩, by decide, _, rfl, rfl⟩
theorem C_Home_93 : zCS "AllHome" 93 y_Home_isKind prog_1_method_32_code 1 (some .boolean) 1 := ⟨kw270, kw271, kw1, kw272, ⟨by decide +kernel, by decide +kernel, by decide +kernel⟩⟩
theorem F_Home_96 : zFd "AllHome" 96 6 4 := ⟨by decide, "AllHome", nT6, 12, rfl, nI6, by decide, kw181⟩
theorem F_Home_20 : zFd "AllHome" 20 6 3 := ⟨by decide, "AllHome", nT6, 12, rfl, nI6, by decide, kw180⟩
theorem P_Home_96 : zFp "AllHome" 96 6 4 .int false := ⟨by decide, "AllHome", nT6, 12, nY6, rfl, nI6, by decide, kw181, nP6, nN6, by decide +kernel, rfl, rfl⟩
theorem C_Home_99 : zCV "AllHome" 99 y_Home_isWay prog_1_method_29_code 2 (some .boolean) 1 6 := ⟨kw277, kw279, kp1, kw1, kw280, ⟨by decide +kernel, by decide +kernel, by decide +kernel⟩, by decide, _, rfl, rfl⟩
theorem C_Rules_19 : zCN "AllHome$Rules" 19 y_Home_isKind prog_1_method_32_code 1 (some .boolean) 1 := ⟨List.mem_of_getElem? (i := 3) rfl, kw271, kw1, kw272, ⟨by decide +kernel, by decide +kernel, by decide +kernel⟩⟩
theorem P_Rules_23 : zFp "AllHome$Rules" 23 3 1 .int false := ⟨by decide, "AllHome$Rules", nT3, 3, nY3, rfl, nI3, by decide, kw58, nP3, nN3, by decide +kernel, rfl, rfl⟩
theorem F_Rules_23 : zFd "AllHome$Rules" 23 3 1 := ⟨by decide, "AllHome$Rules", nT3, 3, rfl, nI3, by decide, kw58⟩
theorem P_Rules_15 : zFp "AllHome$Rules" 15 3 2 .int false := ⟨by decide, "AllHome$Rules", nT3, 3, nY3, rfl, nI3, by decide, kw59, nP3, nN3, by decide +kernel, rfl, rfl⟩
theorem C_Rules_30 : zCS "AllHome$Rules" 30 y_Fill_I prog_12_method_103_code 4 none 2 := ⟨kw296, kw297, kw10, kw298, ⟨by decide +kernel, by decide +kernel, by decide +kernel⟩⟩
theorem F_Rules_15 : zFd "AllHome$Rules" 15 3 2 := ⟨by decide, "AllHome$Rules", nT3, 3, rfl, nI3, by decide, kw59⟩
theorem F_Run_20 : zFd "AllHome$Run" 20 4 0 := ⟨by decide, "AllHome$Run", nT4, 6, rfl, nI4, by decide, kw139⟩
theorem F_Run_9 : zFd "AllHome$Run" 9 4 1 := ⟨by decide, "AllHome$Run", nT4, 6, rfl, nI4, by decide, kw140⟩
theorem C_Run_24 : zCV "AllHome$Run" 24 y_Rules_begin prog_5_method_3_code 4 none 2 3 := ⟨kw289, kw290, kw291, kw4, kw292, ⟨by decide +kernel, by decide +kernel, by decide +kernel⟩, by decide, _, rfl, rfl⟩
theorem P_Run_28 : zFp "AllHome$Run" 28 4 2 .int false := ⟨by decide, "AllHome$Run", nT4, 6, nY4, rfl, nI4, by decide, kw141, nP4, nN4, by decide +kernel, rfl, rfl⟩
theorem P_Run_32 : zFp "AllHome$Run" 32 4 3 .int false := ⟨by decide, "AllHome$Run", nT4, 6, nY4, rfl, nI4, by decide, kw142, nP4, nN4, by decide +kernel, rfl, rfl⟩
theorem P_Run_35 : zFp "AllHome$Run" 35 4 4 .int false := ⟨by decide, "AllHome$Run", nT4, 6, nY4, rfl, nI4, by decide, kw143, nP4, nN4, by decide +kernel, rfl, rfl⟩
theorem P_Run_38 : zFp "AllHome$Run" 38 4 5 .int false := ⟨by decide, "AllHome$Run", nT4, 6, nY4, rfl, nI4, by decide, kw144, nP4, nN4, by decide +kernel, rfl, rfl⟩
theorem F_Home_25 : zFd "AllHome" 25 6 5 := ⟨by decide, "AllHome", nT6, 12, rfl, nI6, by decide, kw182⟩
theorem C_Home_102 : zCV "AllHome" 102 y_Run_begin prog_6_method_2_code 3 none 2 4 := ⟨kw285, kw286, kw287, kw6, kw288, ⟨by decide +kernel, by decide +kernel, by decide +kernel⟩, by decide, _, rfl, rfl⟩
theorem P_Home_63 : zFp "AllHome" 63 6 6 .int false := ⟨by decide, "AllHome", nT6, 12, nY6, rfl, nI6, by decide, kw183, nP6, nN6, by decide +kernel, rfl, rfl⟩
theorem C_Rules_81 : zCS "AllHome$Rules" 81 y_Rules_partUnits prog_5_method_7_code 3 (some .int) 2 := ⟨kw329, kw330, kw4, kw331, ⟨by decide +kernel, by decide +kernel, by decide +kernel⟩⟩
theorem F_Rules_9 : zFd "AllHome$Rules" 9 3 0 := ⟨by decide, "AllHome$Rules", nT3, 3, rfl, nI3, by decide, kw57⟩
theorem C_Rules_60 : zCV "AllHome$Rules" 60 y_Huts_has prog_3_method_3_code 2 (some .boolean) 1 1 := ⟨kw322, kw246, kw247, kw2, kw248, ⟨by decide +kernel, by decide +kernel, by decide +kernel⟩, by decide, _, rfl, rfl⟩
theorem C_Rules_65 : zCV "AllHome$Rules" 65 y_Huts_wordsOf prog_3_method_5_code 3 (some .int) 2 1 := ⟨kw323, kw255, kw256, kw2, kw257, ⟨by decide +kernel, by decide +kernel, by decide +kernel⟩, by decide, _, rfl, rfl⟩
theorem C_Rules_77 : zCS "AllHome$Rules" 77 y_Rules_sendNote prog_5_method_8_code 5 (some .int) 4 := ⟨kw332, kw333, kw4, kw334, ⟨by decide +kernel, by decide +kernel, by decide +kernel⟩⟩
theorem C_Rules_69 : zCV "AllHome$Rules" 69 y_Huts_goal prog_3_method_6_code 5 (some .int) 3 1 := ⟨kw324, kw263, kw264, kw2, kw265, ⟨by decide +kernel, by decide +kernel, by decide +kernel⟩, by decide, _, rfl, rfl⟩
theorem C_Rules_73 : zCV "AllHome$Rules" 73 y_Rules_send prog_5_method_6_code 6 (some .int) 3 3 := ⟨kw325, kw327, kp4, kw4, kw328, ⟨by decide +kernel, by decide +kernel, by decide +kernel⟩, by decide, _, rfl, rfl⟩
theorem C_Rules_90 : zCS "AllHome$Rules" 90 y_Rules_closeGap prog_5_method_13_code 4 none 3 := ⟨kw342, kw343, kw4, kw344, ⟨by decide +kernel, by decide +kernel, by decide +kernel⟩⟩
theorem C_Rules_84 : zCS "AllHome$Rules" 84 y_Rules_takeAwayWord prog_5_method_12_code 2 none 2 := ⟨kw339, kw340, kw4, kw341, ⟨by decide +kernel, by decide +kernel, by decide +kernel⟩⟩
theorem C_Rules_87 : zCS "AllHome$Rules" 87 y_Rules_joinTree prog_5_method_10_code 3 (some .int) 3 := ⟨kw345, kw346, kw4, kw347, ⟨by decide +kernel, by decide +kernel, by decide +kernel⟩⟩
theorem C_Rules_100 : zCV "AllHome$Rules" 100 y_Huts_size prog_3_method_2_code 1 (some .int) 0 1 := ⟨kw359, kw223, kw224, kw2, kw225, ⟨by decide +kernel, by decide +kernel, by decide +kernel⟩, by decide, _, rfl, rfl⟩
theorem C_Rules_94 : zCS "AllHome$Rules" 94 y_Rules_takeStone prog_5_method_15_code 5 (some .int) 4 := ⟨kw352, kw353, kw4, kw354, ⟨by decide +kernel, by decide +kernel, by decide +kernel⟩⟩
theorem C_Rules_97 : zCV "AllHome$Rules" 97 y_Rules_takeSums prog_5_method_16_code 6 (some .int) 4 3 := ⟨kw355, kw357, kp7, kw4, kw358, ⟨by decide +kernel, by decide +kernel, by decide +kernel⟩, by decide, _, rfl, rfl⟩
theorem C_Rules_104 : zCN "AllHome$Rules" 104 y_Home_isUnder prog_1_method_33_code 4 (some .boolean) 2 := ⟨List.mem_of_getElem? (i := 5) rfl, kw365, kw1, kw366, ⟨by decide +kernel, by decide +kernel, by decide +kernel⟩⟩
theorem C_Rules_36 : zCV "AllHome$Rules" 36 y_Rules_goOn prog_5_method_5_code 5 (some .int) 2 3 := ⟨kw318, kw320, kp3, kw4, kw321, ⟨by decide +kernel, by decide +kernel, by decide +kernel⟩, by decide, _, rfl, rfl⟩
theorem C_Rules_56 : zCV "AllHome$Rules" 56 y_Rules_seesAllHome prog_5_method_19_code 4 (some .boolean) 1 3 := ⟨kw376, kw378, kp10, kw4, kw379, ⟨by decide +kernel, by decide +kernel, by decide +kernel⟩, by decide, _, rfl, rfl⟩
theorem C_Rules_52 : zCV "AllHome$Rules" 52 y_Rules_leaveTree prog_5_method_18_code 5 (some .int) 1 3 := ⟨kw372, kw374, kp9, kw4, kw375, ⟨by decide +kernel, by decide +kernel, by decide +kernel⟩, by decide, _, rfl, rfl⟩
theorem C_Rules_40 : zCV "AllHome$Rules" 40 y_Rules_comeWord prog_5_method_9_code 6 (some .int) 2 3 := ⟨kw335, kw337, kp5, kw4, kw338, ⟨by decide +kernel, by decide +kernel, by decide +kernel⟩, by decide, _, rfl, rfl⟩
theorem C_Rules_43 : zCV "AllHome$Rules" 43 y_Rules_comeNote prog_5_method_14_code 6 (some .int) 2 3 := ⟨kw348, kw350, kp6, kw4, kw351, ⟨by decide +kernel, by decide +kernel, by decide +kernel⟩, by decide, _, rfl, rfl⟩
theorem C_Rules_46 : zCV "AllHome$Rules" 46 y_Rules_ask prog_5_method_17_code 3 (some .int) 2 3 := ⟨kw360, kw362, kp8, kw4, kw363, ⟨by decide +kernel, by decide +kernel, by decide +kernel⟩, by decide, _, rfl, rfl⟩
theorem C_Rules_49 : zCS "AllHome$Rules" 49 y_Rules_lose prog_5_method_11_code 2 (some .int) 2 := ⟨kw369, kw370, kw4, kw371, ⟨by decide +kernel, by decide +kernel, by decide +kernel⟩⟩
theorem C_Run_52 : zCV "AllHome$Run" 52 y_Rules_apply prog_5_method_4_code 5 (some .int) 3 3 := ⟨kw314, kw315, kw316, kw4, kw317, ⟨by decide +kernel, by decide +kernel, by decide +kernel⟩, by decide, _, rfl, rfl⟩
theorem F_Run_32 : zFd "AllHome$Run" 32 4 3 := ⟨by decide, "AllHome$Run", nT4, 6, rfl, nI4, by decide, kw142⟩
theorem C_Run_56 : zCN "AllHome$Run" 56 y_Home_isOver prog_1_method_36_code 2 (some .boolean) 1 := ⟨List.mem_of_getElem? (i := 6) rfl, kw381, kw1, kw382, ⟨by decide +kernel, by decide +kernel, by decide +kernel⟩⟩
theorem F_Run_38 : zFd "AllHome$Run" 38 4 5 := ⟨by decide, "AllHome$Run", nT4, 6, rfl, nI4, by decide, kw144⟩
theorem F_Run_35 : zFd "AllHome$Run" 35 4 4 := ⟨by decide, "AllHome$Run", nT4, 6, rfl, nI4, by decide, kw143⟩
theorem C_Home_106 : zCV "AllHome" 106 y_Home_isRun prog_1_method_30_code 2 (some .boolean) 1 6 := ⟨kw303, kw305, kp2, kw1, kw306, ⟨by decide +kernel, by decide +kernel, by decide +kernel⟩, by decide, _, rfl, rfl⟩
theorem F_Home_29 : zFd "AllHome" 29 6 7 := ⟨by decide, "AllHome", nT6, 12, rfl, nI6, by decide, kw184⟩
theorem C_Home_109 : zCV "AllHome" 109 y_Run_advance prog_6_method_5_code 5 (some .int) 3 4 := ⟨kw307, kw308, kw309, kw6, kw310, ⟨by decide +kernel, by decide +kernel, by decide +kernel⟩, by decide, _, rfl, rfl⟩
theorem F_Shelf_19 : zFd "AllHome$Shelf" 19 5 3 := ⟨by decide, "AllHome$Shelf", nT5, 4, rfl, nI5, by decide, kw166⟩
theorem F_Shelf_15 : zFd "AllHome$Shelf" 15 5 2 := ⟨by decide, "AllHome$Shelf", nT5, 4, rfl, nI5, by decide, kw165⟩
theorem F_Shelf_22 : zFd "AllHome$Shelf" 22 5 1 := ⟨by decide, "AllHome$Shelf", nT5, 4, rfl, nI5, by decide, kw164⟩
theorem C_Shelf_40 : zCV "AllHome$Shelf" 40 y_Shelf_hasPlace prog_7_method_9_code 2 (some .boolean) 1 5 := ⟨kw406, kw399, kw400, kw7, kw401, ⟨by decide +kernel, by decide +kernel, by decide +kernel⟩, by decide, _, rfl, rfl⟩
theorem F_Shelf_11 : zFd "AllHome$Shelf" 11 5 0 := ⟨by decide, "AllHome$Shelf", nT5, 4, rfl, nI5, by decide, kw163⟩
theorem C_Home_113 : zCS "AllHome" 113 y_Home_isShelf prog_1_method_31_code 1 (some .boolean) 1 := ⟨kw387, kw388, kw1, kw389, ⟨by decide +kernel, by decide +kernel, by decide +kernel⟩⟩
theorem F_Home_53 : zFd "AllHome" 53 6 11 := ⟨by decide, "AllHome", nT6, 12, rfl, nI6, by decide, kw188⟩
theorem C_Home_116 : zCV "AllHome" 116 y_Shelf_isEmpty prog_7_method_4_code 1 (some .boolean) 0 5 := ⟨kw390, kw391, kw392, kw7, kw393, ⟨by decide +kernel, by decide +kernel, by decide +kernel⟩, by decide, _, rfl, rfl⟩
theorem C_Home_120 : zCV "AllHome" 120 y_Shelf_isRowOf prog_7_method_6_code 2 (some .boolean) 1 5 := ⟨kw394, kw395, kw396, kw7, kw397, ⟨by decide +kernel, by decide +kernel, by decide +kernel⟩, by decide, _, rfl, rfl⟩
theorem C_Home_123 : zCV "AllHome" 123 y_Shelf_hasPlace prog_7_method_9_code 2 (some .boolean) 1 5 := ⟨kw398, kw399, kw400, kw7, kw401, ⟨by decide +kernel, by decide +kernel, by decide +kernel⟩, by decide, _, rfl, rfl⟩
theorem C_Home_126 : zCV "AllHome" 126 y_Shelf_at prog_7_method_11_code 2 (some .long) 1 5 := ⟨kw402, kw403, kw404, kw7, kw405, ⟨by decide +kernel, by decide +kernel, by decide +kernel⟩, by decide, _, rfl, rfl⟩
theorem F_Run_28 : zFd "AllHome$Run" 28 4 2 := ⟨by decide, "AllHome$Run", nT4, 6, rfl, nI4, by decide, kw141⟩
theorem C_Run_60 : zCV "AllHome$Run" 60 y_Run_hutsAwake prog_6_method_7_code 3 (some .int) 0 4 := ⟨kw416, kw418, kp11, kw6, kw419, ⟨by decide +kernel, by decide +kernel, by decide +kernel⟩, by decide, _, rfl, rfl⟩
theorem C_Home_130 : zCV "AllHome" 130 y_Run_tell prog_6_method_6_code 2 (some .int) 1 4 := ⟨kw412, kw413, kw414, kw6, kw415, ⟨by decide +kernel, by decide +kernel, by decide +kernel⟩, by decide, _, rfl, rfl⟩
theorem C_Run_41 : zCV "AllHome$Run" 41 y_Rules_family prog_5_method_2_code 1 (some .int) 0 3 := ⟨kw433, kw434, kw435, kw4, kw436, ⟨by decide +kernel, by decide +kernel, by decide +kernel⟩, by decide, _, rfl, rfl⟩
theorem C_Home_143 : zCV "AllHome" 143 y_Run_cell prog_6_method_4_code 2 (some .int) 1 4 := ⟨kw437, kw438, kw439, kw6, kw440, ⟨by decide +kernel, by decide +kernel, by decide +kernel⟩, by decide, _, rfl, rfl⟩
theorem C_Home_140 : zCV "AllHome" 140 y_Run_family prog_6_method_3_code 1 (some .int) 0 4 := ⟨kw429, kw430, kw431, kw6, kw432, ⟨by decide +kernel, by decide +kernel, by decide +kernel⟩, by decide, _, rfl, rfl⟩
theorem F_Orders_63 : zFd "AllHome$Orders" 63 2 11 := ⟨by decide, "AllHome$Orders", nT2, 14, rfl, nI2, by decide, kw79⟩
theorem F_Orders_39 : zFd "AllHome$Orders" 39 2 10 := ⟨by decide, "AllHome$Orders", nT2, 14, rfl, nI2, by decide, kw78⟩
theorem F_Orders_13 : zFd "AllHome$Orders" 13 2 2 := ⟨by decide, "AllHome$Orders", nT2, 14, rfl, nI2, by decide, kw70⟩
theorem F_Orders_16 : zFd "AllHome$Orders" 16 2 3 := ⟨by decide, "AllHome$Orders", nT2, 14, rfl, nI2, by decide, kw71⟩
theorem C_Orders_100 : zCS "AllHome$Orders" 100 y_Orders_printOf prog_4_method_10_code 3 (some .int) 1 := ⟨kw473, kw474, kw3, kw475, ⟨by decide +kernel, by decide +kernel, by decide +kernel⟩⟩
theorem F_Orders_20 : zFd "AllHome$Orders" 20 2 4 := ⟨by decide, "AllHome$Orders", nT2, 14, rfl, nI2, by decide, kw72⟩
theorem F_Orders_23 : zFd "AllHome$Orders" 23 2 5 := ⟨by decide, "AllHome$Orders", nT2, 14, rfl, nI2, by decide, kw73⟩
theorem F_Orders_26 : zFd "AllHome$Orders" 26 2 6 := ⟨by decide, "AllHome$Orders", nT2, 14, rfl, nI2, by decide, kw74⟩
theorem F_Orders_32 : zFd "AllHome$Orders" 32 2 8 := ⟨by decide, "AllHome$Orders", nT2, 14, rfl, nI2, by decide, kw76⟩
theorem P_Orders_63 : zFp "AllHome$Orders" 63 2 11 .int false := ⟨by decide, "AllHome$Orders", nT2, 14, nY2, rfl, nI2, by decide, kw79, nP2, nN2, by decide +kernel, rfl, rfl⟩
theorem P_Orders_59 : zFp "AllHome$Orders" 59 2 12 .boolean false := ⟨by decide, "AllHome$Orders", nT2, 14, nY2, rfl, nI2, by decide, kw80, nP2, nN2, by decide +kernel, rfl, rfl⟩
theorem F_Orders_46 : zFd "AllHome$Orders" 46 2 0 := ⟨by decide, "AllHome$Orders", nT2, 14, rfl, nI2, by decide, kw68⟩
theorem C_Orders_66 : zCV "AllHome$Orders" 66 y_Huts_size prog_3_method_2_code 1 (some .int) 0 1 := ⟨kw466, kw223, kw224, kw2, kw225, ⟨by decide +kernel, by decide +kernel, by decide +kernel⟩, by decide, _, rfl, rfl⟩
theorem C_Orders_104 : zCS "AllHome$Orders" 104 y_Orders_alike prog_4_method_11_code 4 (some .boolean) 3 := ⟨kw489, kw490, kw3, kw491, ⟨by decide +kernel, by decide +kernel, by decide +kernel⟩⟩
theorem F_Orders_55 : zFd "AllHome$Orders" 55 2 1 := ⟨by decide, "AllHome$Orders", nT2, 14, rfl, nI2, by decide, kw69⟩
theorem C_Orders_93 : zCV "AllHome$Orders" 93 y_Rules_apply prog_5_method_4_code 5 (some .int) 3 3 := ⟨kw484, kw315, kw316, kw4, kw317, ⟨by decide +kernel, by decide +kernel, by decide +kernel⟩, by decide, _, rfl, rfl⟩
theorem C_Orders_97 : zCV "AllHome$Orders" 97 y_Orders_findSpare prog_4_method_8_code 3 (some .int) 0 2 := ⟨kw485, kw487, kp16, kw3, kw488, ⟨by decide +kernel, by decide +kernel, by decide +kernel⟩, by decide, _, rfl, rfl⟩
theorem F_Orders_29 : zFd "AllHome$Orders" 29 2 7 := ⟨by decide, "AllHome$Orders", nT2, 14, rfl, nI2, by decide, kw75⟩
theorem C_Orders_75 : zCV "AllHome$Orders" 75 y_Orders_addSpare prog_4_method_9_code 3 (some .int) 2 2 := ⟨kw468, kw470, kp13, kw3, kw471, ⟨by decide +kernel, by decide +kernel, by decide +kernel⟩, by decide, _, rfl, rfl⟩
theorem F_Orders_42 : zFd "AllHome$Orders" 42 2 13 := ⟨by decide, "AllHome$Orders", nT2, 14, rfl, nI2, by decide, kw81⟩
theorem C_Orders_71 : zCV "AllHome$Orders" 71 y_Rules_begin prog_5_method_3_code 4 none 2 3 := ⟨kw467, kw290, kw291, kw4, kw292, ⟨by decide +kernel, by decide +kernel, by decide +kernel⟩, by decide, _, rfl, rfl⟩
theorem C_Orders_79 : zCV "AllHome$Orders" 79 y_Orders_numbersOf prog_4_method_6_code 3 (some .int) 2 2 := ⟨kw476, kw478, kp14, kw3, kw479, ⟨by decide +kernel, by decide +kernel, by decide +kernel⟩, by decide, _, rfl, rfl⟩
theorem F_Orders_59 : zFd "AllHome$Orders" 59 2 12 := ⟨by decide, "AllHome$Orders", nT2, 14, rfl, nI2, by decide, kw80⟩
theorem C_Orders_83 : zCV "AllHome$Orders" 83 y_Orders_tryStep prog_4_method_7_code 5 none 3 2 := ⟨kw480, kw482, kp15, kw3, kw483, ⟨by decide +kernel, by decide +kernel, by decide +kernel⟩, by decide, _, rfl, rfl⟩
theorem C_Home_168 : zCV "AllHome" 168 y_Orders_explore prog_4_method_5_code 7 none 1 2 := ⟨kw462, kw463, kw464, kw3, kw465, ⟨by decide +kernel, by decide +kernel, by decide +kernel⟩, by decide, _, rfl, rfl⟩
theorem C_Home_172 : zCV "AllHome" 172 y_Orders_isBig prog_4_method_3_code 1 (some .boolean) 0 2 := ⟨kw492, kw493, kw494, kw3, kw495, ⟨by decide +kernel, by decide +kernel, by decide +kernel⟩, by decide, _, rfl, rfl⟩
theorem C_Home_146 : zCV "AllHome" 146 y_Home_goThrough prog_1_method_34_code 2 (some .int) 1 6 := ⟨kw458, kw460, kp12, kw1, kw461, ⟨by decide +kernel, by decide +kernel, by decide +kernel⟩, by decide, _, rfl, rfl⟩
theorem C_Home_149 : zCV "AllHome" 149 y_Orders_size prog_4_method_4_code 1 (some .int) 0 2 := ⟨kw496, kw497, kw498, kw3, kw499, ⟨by decide +kernel, by decide +kernel, by decide +kernel⟩, by decide, _, rfl, rfl⟩
theorem C_Orders_112 : zCN "AllHome$Orders" 112 y_Home_isOver prog_1_method_36_code 2 (some .boolean) 1 := ⟨List.mem_of_getElem? (i := 7) rfl, kw381, kw1, kw382, ⟨by decide +kernel, by decide +kernel, by decide +kernel⟩⟩
theorem C_Orders_108 : zCV "AllHome$Orders" 108 y_Orders_firstSaying prog_4_method_14_code 3 (some .int) 1 2 := ⟨kw508, kw510, kp17, kw3, kw511, ⟨by decide +kernel, by decide +kernel, by decide +kernel⟩, by decide, _, rfl, rfl⟩
theorem C_Orders_116 : zCV "AllHome$Orders" 116 y_Orders_stepsTo prog_4_method_15_code 2 (some .int) 1 2 := ⟨kw525, kw518, kw519, kw3, kw520, ⟨by decide +kernel, by decide +kernel, by decide +kernel⟩, by decide, _, rfl, rfl⟩
theorem C_Home_153 : zCV "AllHome" 153 y_Orders_soon prog_4_method_13_code 1 (some .int) 0 2 := ⟨kw513, kw514, kw515, kw3, kw516, ⟨by decide +kernel, by decide +kernel, by decide +kernel⟩, by decide, _, rfl, rfl⟩
theorem C_Home_156 : zCV "AllHome" 156 y_Orders_stepsTo prog_4_method_15_code 2 (some .int) 1 2 := ⟨kw517, kw518, kw519, kw3, kw520, ⟨by decide +kernel, by decide +kernel, by decide +kernel⟩, by decide, _, rfl, rfl⟩
theorem C_Home_159 : zCV "AllHome" 159 y_Orders_stepOnTheWayTo prog_4_method_16_code 5 (some .int) 2 2 := ⟨kw521, kw522, kw523, kw3, kw524, ⟨by decide +kernel, by decide +kernel, by decide +kernel⟩, by decide, _, rfl, rfl⟩
theorem C_Home_150 : zCV "AllHome" 150 y_Orders_early prog_4_method_12_code 1 (some .int) 0 2 := ⟨kw504, kw505, kw506, kw3, kw507, ⟨by decide +kernel, by decide +kernel, by decide +kernel⟩, by decide, _, rfl, rfl⟩
theorem F_Orders_35 : zFd "AllHome$Orders" 35 2 9 := ⟨by decide, "AllHome$Orders", nT2, 14, rfl, nI2, by decide, kw77⟩
theorem C_Orders_120 : zCV "AllHome$Orders" 120 y_Orders_spreadCanSay prog_4_method_18_code 4 (some .boolean) 0 2 := ⟨kw534, kw536, kp18, kw3, kw537, ⟨by decide +kernel, by decide +kernel, by decide +kernel⟩, by decide, _, rfl, rfl⟩
theorem C_Home_162 : zCV "AllHome" 162 y_Orders_stuckStates prog_4_method_17_code 4 (some .int) 0 2 := ⟨kw530, kw531, kw532, kw3, kw533, ⟨by decide +kernel, by decide +kernel, by decide +kernel⟩, by decide, _, rfl, rfl⟩
theorem C_Home_165 : zCV "AllHome" 165 y_Orders_unlikeWorks prog_4_method_19_code 5 (some .int) 0 2 := ⟨kw542, kw543, kw544, kw3, kw545, ⟨by decide +kernel, by decide +kernel, by decide +kernel⟩, by decide, _, rfl, rfl⟩
theorem P_Acts_15 : zFp "AllHome$Acts" 15 0 1 .int false := ⟨by decide, "AllHome$Acts", nT0, 4, nY0, rfl, nI0, by decide, kw118, nP0, nN0, by decide +kernel, rfl, rfl⟩
theorem C_Acts_33 : zCN "AllHome$Acts" 33 y_Home_isKind prog_1_method_32_code 1 (some .boolean) 1 := ⟨List.mem_of_getElem? (i := 8) rfl, kw271, kw1, kw272, ⟨by decide +kernel, by decide +kernel, by decide +kernel⟩⟩
theorem F_Acts_15 : zFd "AllHome$Acts" 15 0 1 := ⟨by decide, "AllHome$Acts", nT0, 4, rfl, nI0, by decide, kw118⟩
theorem F_Acts_11 : zFd "AllHome$Acts" 11 0 0 := ⟨by decide, "AllHome$Acts", nT0, 4, rfl, nI0, by decide, kw117⟩
theorem C_Acts_29 : zCS "AllHome$Acts" 29 y_Acts_bodyOf prog_2_method_7_code 2 (some .int) 2 := ⟨kw562, kw563, kw5, kw564, ⟨by decide +kernel, by decide +kernel, by decide +kernel⟩⟩
theorem C_Acts_40 : zCV "AllHome$Acts" 40 y_Acts_begun prog_2_method_8_code 2 none 1 0 := ⟨kw569, kw571, kp20, kw5, kw572, ⟨by decide +kernel, by decide +kernel, by decide +kernel⟩, by decide, _, rfl, rfl⟩
theorem F_Acts_22 : zFd "AllHome$Acts" 22 0 3 := ⟨by decide, "AllHome$Acts", nT0, 4, rfl, nI0, by decide, kw120⟩
theorem F_Acts_19 : zFd "AllHome$Acts" 19 0 2 := ⟨by decide, "AllHome$Acts", nT0, 4, rfl, nI0, by decide, kw119⟩
theorem C_Acts_25 : zCV "AllHome$Acts" 25 y_Acts_perform prog_2_method_6_code 9 (some .int) 4 0 := ⟨kw558, kw560, kp19, kw5, kw561, ⟨by decide +kernel, by decide +kernel, by decide +kernel⟩, by decide, _, rfl, rfl⟩
theorem P_Acts_19 : zFp "AllHome$Acts" 19 0 2 .int false := ⟨by decide, "AllHome$Acts", nT0, 4, nY0, rfl, nI0, by decide, kw119, nP0, nN0, by decide +kernel, rfl, rfl⟩
theorem P_Acts_22 : zFp "AllHome$Acts" 22 0 3 .int false := ⟨by decide, "AllHome$Acts", nT0, 4, nY0, rfl, nI0, by decide, kw120, nP0, nN0, by decide +kernel, rfl, rfl⟩
theorem F_Home_47 : zFd "AllHome" 47 6 10 := ⟨by decide, "AllHome", nT6, 12, rfl, nI6, by decide, kw187⟩
theorem C_Home_175 : zCV "AllHome" 175 y_Acts_clear prog_2_method_2_code 1 none 0 0 := ⟨kw550, kw551, kw552, kw5, kw553, ⟨by decide +kernel, by decide +kernel, by decide +kernel⟩, by decide, _, rfl, rfl⟩
theorem C_Home_178 : zCV "AllHome" 178 y_Acts_begin prog_2_method_5_code 5 (some .int) 4 0 := ⟨kw554, kw555, kw556, kw5, kw557, ⟨by decide +kernel, by decide +kernel, by decide +kernel⟩, by decide, _, rfl, rfl⟩
theorem C_Home_181 : zCV "AllHome" 181 y_Acts_traced prog_2_method_4_code 2 (some .int) 1 0 := ⟨kw577, kw578, kw579, kw5, kw580, ⟨by decide +kernel, by decide +kernel, by decide +kernel⟩, by decide, _, rfl, rfl⟩
theorem P_Shelf_19 : zFp "AllHome$Shelf" 19 5 3 .int false := ⟨by decide, "AllHome$Shelf", nT5, 4, nY5, rfl, nI5, by decide, kw166, nP5, nN5, by decide +kernel, rfl, rfl⟩
theorem P_Shelf_15 : zFp "AllHome$Shelf" 15 5 2 .int false := ⟨by decide, "AllHome$Shelf", nT5, 4, nY5, rfl, nI5, by decide, kw165, nP5, nN5, by decide +kernel, rfl, rfl⟩
theorem P_Shelf_22 : zFp "AllHome$Shelf" 22 5 1 .int false := ⟨by decide, "AllHome$Shelf", nT5, 4, nY5, rfl, nI5, by decide, kw164, nP5, nN5, by decide +kernel, rfl, rfl⟩
theorem C_Home_184 : zCV "AllHome" 184 y_Shelf_holdWay prog_7_method_2_code 2 none 1 5 := ⟨kw585, kw586, kw587, kw7, kw588, ⟨by decide +kernel, by decide +kernel, by decide +kernel⟩, by decide, _, rfl, rfl⟩
theorem C_Shelf_34 : zCS "AllHome$Shelf" 34 y_Fill_J prog_12_method_101_code 5 none 2 := ⟨kw601, kw602, kw10, kw603, ⟨by decide +kernel, by decide +kernel, by decide +kernel⟩⟩
theorem C_Home_187 : zCV "AllHome" 187 y_Shelf_holdRow prog_7_method_3_code 3 none 2 5 := ⟨kw593, kw594, kw595, kw7, kw596, ⟨by decide +kernel, by decide +kernel, by decide +kernel⟩, by decide, _, rfl, rfl⟩
theorem C_Home_201 : zCV "AllHome" 201 y_Shelf_isRow prog_7_method_5_code 1 (some .boolean) 0 5 := ⟨kw612, kw613, kw614, kw7, kw615, ⟨by decide +kernel, by decide +kernel, by decide +kernel⟩, by decide, _, rfl, rfl⟩
theorem C_Shelf_48 : zCV "AllHome$Shelf" 48 y_Shelf_lowestBits prog_7_method_13_code 3 (some .long) 1 5 := ⟨kw620, kw622, kp22, kw7, kw623, ⟨by decide +kernel, by decide +kernel, by decide +kernel⟩, by decide, _, rfl, rfl⟩
theorem C_Home_190 : zCV "AllHome" 190 y_Home_wantPlace prog_1_method_35_code 3 (some .int) 2 6 := ⟨kw608, kw610, kp21, kw1, kw611, ⟨by decide +kernel, by decide +kernel, by decide +kernel⟩, by decide, _, rfl, rfl⟩
theorem C_Home_193 : zCV "AllHome" 193 y_Shelf_set prog_7_method_12_code 4 none 2 5 := ⟨kw616, kw617, kw618, kw7, kw619, ⟨by decide +kernel, by decide +kernel, by decide +kernel⟩, by decide, _, rfl, rfl⟩
theorem C_Shelf_52 : zCV "AllHome$Shelf" 52 y_Shelf_hasPlaces prog_7_method_10_code 3 (some .boolean) 2 5 := ⟨kw645, kw638, kw639, kw7, kw640, ⟨by decide +kernel, by decide +kernel, by decide +kernel⟩, by decide, _, rfl, rfl⟩
theorem C_Home_204 : zCV "AllHome" 204 y_Shelf_sort prog_7_method_7_code 1 (some .int) 0 5 := ⟨kw633, kw634, kw635, kw7, kw636, ⟨by decide +kernel, by decide +kernel, by decide +kernel⟩, by decide, _, rfl, rfl⟩
theorem C_Home_207 : zCV "AllHome" 207 y_Shelf_hasPlaces prog_7_method_10_code 3 (some .boolean) 2 5 := ⟨kw637, kw638, kw639, kw7, kw640, ⟨by decide +kernel, by decide +kernel, by decide +kernel⟩, by decide, _, rfl, rfl⟩
theorem C_Home_211 : zCV "AllHome" 211 y_Shelf_copyTo prog_7_method_14_code 5 none 4 5 := ⟨kw641, kw642, kw643, kw7, kw644, ⟨by decide +kernel, by decide +kernel, by decide +kernel⟩, by decide, _, rfl, rfl⟩
theorem C_Home_215 : zCV "AllHome" 215 y_Shelf_heldWay prog_7_method_8_code 1 (some .int) 0 5 := ⟨kw651, kw652, kw653, kw7, kw654, ⟨by decide +kernel, by decide +kernel, by decide +kernel⟩, by decide, _, rfl, rfl⟩
theorem C_Home_218 : zCS "AllHome" 218 y_Home_isUnder prog_1_method_33_code 4 (some .boolean) 2 := ⟨kw655, kw365, kw1, kw366, ⟨by decide +kernel, by decide +kernel, by decide +kernel⟩⟩
theorem C_Home_221 : zCV "AllHome" 221 y_Acts_ran prog_2_method_3_code 1 (some .int) 0 0 := ⟨kw660, kw661, kw662, kw5, kw663, ⟨by decide +kernel, by decide +kernel, by decide +kernel⟩, by decide, _, rfl, rfl⟩
theorem F_Model_78 : zFd "AllHomeModel" 78 7 4 := ⟨by decide, "AllHomeModel", nT7, 33, rfl, nI7, by decide, kw674⟩
theorem F_Model_82 : zFd "AllHomeModel" 82 7 6 := ⟨by decide, "AllHomeModel", nT7, 33, rfl, nI7, by decide, kw676⟩
theorem C_Model_87 : zCS "AllHomeModel" 87 y_Model_within prog_9_method_2_code 6 (some .boolean) 3 := ⟨kw775, kw776, kw8, kw777, ⟨by decide +kernel, by decide +kernel, by decide +kernel⟩⟩
theorem F_Model_91 : zFd "AllHomeModel" 91 7 1 := ⟨by decide, "AllHomeModel", nT7, 33, rfl, nI7, by decide, kw671⟩
theorem F_Model_9 : zFd "AllHomeModel" 9 7 0 := ⟨by decide, "AllHomeModel", nT7, 33, rfl, nI7, by decide, kw670⟩
theorem P_Model_91 : zFp "AllHomeModel" 91 7 1 .int false := ⟨by decide, "AllHomeModel", nT7, 33, nY7, rfl, nI7, by decide, kw671, nP7, nN7, by decide +kernel, rfl, rfl⟩
theorem C_Model_102 : zCS "AllHomeModel" 102 y_Model_isOther prog_9_method_6_code 2 (some .boolean) 2 := ⟨kw788, kw789, kw8, kw790, ⟨by decide +kernel, by decide +kernel, by decide +kernel⟩⟩
theorem F_Model_106 : zFd "AllHomeModel" 106 7 19 := ⟨by decide, "AllHomeModel", nT7, 33, rfl, nI7, by decide, kw689⟩
theorem C_Model_109 : zCV "AllHomeModel" 109 y_Model_faultOf prog_9_method_7_code 4 (some .int) 1 7 := ⟨kw782, kw784, kp23, kw8, kw785, ⟨by decide +kernel, by decide +kernel, by decide +kernel⟩, by decide, _, rfl, rfl⟩
theorem F_Model_16 : zFd "AllHomeModel" 16 7 3 := ⟨by decide, "AllHomeModel", nT7, 33, rfl, nI7, by decide, kw673⟩
theorem P_Model_78 : zFp "AllHomeModel" 78 7 4 .int false := ⟨by decide, "AllHomeModel", nT7, 33, nY7, rfl, nI7, by decide, kw674, nP7, nN7, by decide +kernel, rfl, rfl⟩
theorem F_Model_13 : zFd "AllHomeModel" 13 7 2 := ⟨by decide, "AllHomeModel", nT7, 33, rfl, nI7, by decide, kw672⟩
theorem C_Model_113 : zCV "AllHomeModel" 113 y_Model_isHut prog_9_method_3_code 2 (some .boolean) 1 7 := ⟨kw797, kw799, kp24, kw8, kw800, ⟨by decide +kernel, by decide +kernel, by decide +kernel⟩, by decide, _, rfl, rfl⟩
theorem C_Model_119 : zCV "AllHomeModel" 119 y_Model_lines prog_9_method_9_code 4 (some .int) 1 7 := ⟨kw802, kw804, kp25, kw8, kw805, ⟨by decide +kernel, by decide +kernel, by decide +kernel⟩, by decide, _, rfl, rfl⟩
theorem C_Model_122 : zCV "AllHomeModel" 122 y_Model_inLine prog_9_method_10_code 10 (some .int) 3 7 := ⟨kw806, kw808, kp26, kw8, kw809, ⟨by decide +kernel, by decide +kernel, by decide +kernel⟩, by decide, _, rfl, rfl⟩
theorem F_Model_19 : zFd "AllHomeModel" 19 7 5 := ⟨by decide, "AllHomeModel", nT7, 33, rfl, nI7, by decide, kw675⟩
theorem P_Model_82 : zFp "AllHomeModel" 82 7 6 .int false := ⟨by decide, "AllHomeModel", nT7, 33, nY7, rfl, nI7, by decide, kw676, nP7, nN7, by decide +kernel, rfl, rfl⟩
theorem C_Model_128 : zCV "AllHomeModel" 128 y_Model_isWay prog_9_method_4_code 2 (some .boolean) 1 7 := ⟨kw823, kw825, kp27, kw8, kw826, ⟨by decide +kernel, by decide +kernel, by decide +kernel⟩, by decide, _, rfl, rfl⟩
theorem C_Model_131 : zCS "AllHomeModel" 131 y_Model_above prog_9_method_16_code 1 (some .int) 1 := ⟨kw878, kw879, kw8, kw880, ⟨by decide +kernel, by decide +kernel, by decide +kernel⟩⟩
theorem P_Model_134 : zFp "AllHomeModel" 134 7 10 .int false := ⟨by decide, "AllHomeModel", nT7, 33, nY7, rfl, nI7, by decide, kw680, nP7, nN7, by decide +kernel, rfl, rfl⟩
theorem F_Model_22 : zFd "AllHomeModel" 22 7 7 := ⟨by decide, "AllHomeModel", nT7, 33, rfl, nI7, by decide, kw677⟩
theorem P_Model_137 : zFp "AllHomeModel" 137 7 8 .int false := ⟨by decide, "AllHomeModel", nT7, 33, nY7, rfl, nI7, by decide, kw678, nP7, nN7, by decide +kernel, rfl, rfl⟩
theorem P_Model_140 : zFp "AllHomeModel" 140 7 9 .int false := ⟨by decide, "AllHomeModel", nT7, 33, nY7, rfl, nI7, by decide, kw679, nP7, nN7, by decide +kernel, rfl, rfl⟩
theorem P_Model_143 : zFp "AllHomeModel" 143 7 11 .boolean false := ⟨by decide, "AllHomeModel", nT7, 33, nY7, rfl, nI7, by decide, kw681, nP7, nN7, by decide +kernel, rfl, rfl⟩
theorem C_Model_147 : zCV "AllHomeModel" 147 y_Model_putLast prog_9_method_23_code 6 none 4 7 := ⟨kw881, kw883, kp38, kw8, kw884, ⟨by decide +kernel, by decide +kernel, by decide +kernel⟩, by decide, _, rfl, rfl⟩
theorem F_Model_140 : zFd "AllHomeModel" 140 7 9 := ⟨by decide, "AllHomeModel", nT7, 33, rfl, nI7, by decide, kw679⟩
theorem C_Model_151 : zCV "AllHomeModel" 151 y_Model_add prog_9_method_19_code 4 none 3 7 := ⟨kw871, kw873, kp37, kw8, kw874, ⟨by decide +kernel, by decide +kernel, by decide +kernel⟩, by decide, _, rfl, rfl⟩
theorem F_Model_137 : zFd "AllHomeModel" 137 7 8 := ⟨by decide, "AllHomeModel", nT7, 33, rfl, nI7, by decide, kw678⟩
theorem F_Model_134 : zFd "AllHomeModel" 134 7 10 := ⟨by decide, "AllHomeModel", nT7, 33, rfl, nI7, by decide, kw680⟩
theorem C_Model_159 : zCS "AllHomeModel" 159 y_Model_isUnder prog_9_method_15_code 3 (some .boolean) 2 := ⟨kw875, kw876, kw8, kw877, ⟨by decide +kernel, by decide +kernel, by decide +kernel⟩⟩
theorem C_Model_155 : zCV "AllHomeModel" 155 y_Model_of prog_9_method_18_code 3 (some .int) 2 7 := ⟨kw863, kw865, kp35, kw8, kw866, ⟨by decide +kernel, by decide +kernel, by decide +kernel⟩, by decide, _, rfl, rfl⟩
theorem C_Model_166 : zCV "AllHomeModel" 166 y_Model_become prog_9_method_20_code 4 none 3 7 := ⟨kw885, kw887, kp39, kw8, kw888, ⟨by decide +kernel, by decide +kernel, by decide +kernel⟩, by decide, _, rfl, rfl⟩
theorem C_Model_169 : zCV "AllHomeModel" 169 y_Model_sendNote prog_9_method_25_code 4 none 3 7 := ⟨kw889, kw891, kp40, kw8, kw892, ⟨by decide +kernel, by decide +kernel, by decide +kernel⟩, by decide, _, rfl, rfl⟩
theorem C_Model_162 : zCV "AllHomeModel" 162 y_Model_sendWord prog_9_method_26_code 4 none 2 7 := ⟨kw867, kw869, kp36, kw8, kw870, ⟨by decide +kernel, by decide +kernel, by decide +kernel⟩, by decide, _, rfl, rfl⟩
theorem C_Model_172 : zCV "AllHomeModel" 172 y_Model_words prog_9_method_21_code 1 (some .int) 0 7 := ⟨kw897, kw899, kp42, kw8, kw900, ⟨by decide +kernel, by decide +kernel, by decide +kernel⟩, by decide, _, rfl, rfl⟩
theorem C_Model_176 : zCV "AllHomeModel" 176 y_Model_takeOut prog_9_method_24_code 5 none 2 7 := ⟨kw901, kw903, kp43, kw8, kw904, ⟨by decide +kernel, by decide +kernel, by decide +kernel⟩, by decide, _, rfl, rfl⟩
theorem C_Model_179 : zCV "AllHomeModel" 179 y_Model_notes prog_9_method_22_code 1 (some .int) 0 7 := ⟨kw909, kw911, kp45, kw8, kw912, ⟨by decide +kernel, by decide +kernel, by decide +kernel⟩, by decide, _, rfl, rfl⟩
theorem C_Model_185 : zCV "AllHomeModel" 185 y_Model_sumsAt prog_9_method_31_code 6 none 3 7 := ⟨kw917, kw919, kp47, kw8, kw920, ⟨by decide +kernel, by decide +kernel, by decide +kernel⟩, by decide, _, rfl, rfl⟩
theorem C_Model_182 : zCV "AllHomeModel" 182 y_Model_stoneAt prog_9_method_30_code 5 none 3 7 := ⟨kw913, kw915, kp46, kw8, kw916, ⟨by decide +kernel, by decide +kernel, by decide +kernel⟩, by decide, _, rfl, rfl⟩
theorem C_Model_188 : zCV "AllHomeModel" 188 y_Model_goOn prog_9_method_27_code 4 (some .boolean) 1 7 := ⟨kw859, kw861, kp34, kw8, kw862, ⟨by decide +kernel, by decide +kernel, by decide +kernel⟩, by decide, _, rfl, rfl⟩
theorem C_Model_200 : zCV "AllHomeModel" 200 y_Model_behind prog_9_method_33_code 2 none 0 7 := ⟨kw925, kw927, kp49, kw8, kw928, ⟨by decide +kernel, by decide +kernel, by decide +kernel⟩, by decide, _, rfl, rfl⟩
theorem F_Model_143 : zFd "AllHomeModel" 143 7 11 := ⟨by decide, "AllHomeModel", nT7, 33, rfl, nI7, by decide, kw681⟩
theorem C_Model_191 : zCV "AllHomeModel" 191 y_Model_comes prog_9_method_28_code 5 (some .boolean) 1 7 := ⟨kw893, kw895, kp41, kw8, kw896, ⟨by decide +kernel, by decide +kernel, by decide +kernel⟩, by decide, _, rfl, rfl⟩
theorem C_Model_194 : zCV "AllHomeModel" 194 y_Model_noteComes prog_9_method_29_code 5 (some .boolean) 1 7 := ⟨kw905, kw907, kp44, kw8, kw908, ⟨by decide +kernel, by decide +kernel, by decide +kernel⟩, by decide, _, rfl, rfl⟩
theorem C_Model_197 : zCV "AllHomeModel" 197 y_Model_asks prog_9_method_32_code 2 (some .boolean) 1 7 := ⟨kw921, kw923, kp48, kw8, kw924, ⟨by decide +kernel, by decide +kernel, by decide +kernel⟩, by decide, _, rfl, rfl⟩
theorem F_Model_34 : zFd "AllHomeModel" 34 7 15 := ⟨by decide, "AllHomeModel", nT7, 33, rfl, nI7, by decide, kw685⟩
theorem F_Model_37 : zFd "AllHomeModel" 37 7 16 := ⟨by decide, "AllHomeModel", nT7, 33, rfl, nI7, by decide, kw686⟩
theorem F_Model_25 : zFd "AllHomeModel" 25 7 12 := ⟨by decide, "AllHomeModel", nT7, 33, rfl, nI7, by decide, kw682⟩
theorem F_Model_28 : zFd "AllHomeModel" 28 7 13 := ⟨by decide, "AllHomeModel", nT7, 33, rfl, nI7, by decide, kw683⟩
theorem C_Model_203 : zCV "AllHomeModel" 203 y_Model_begin prog_9_method_17_code 3 none 1 7 := ⟨kw831, kw833, kp28, kw8, kw834, ⟨by decide +kernel, by decide +kernel, by decide +kernel⟩, by decide, _, rfl, rfl⟩
theorem F_Model_40 : zFd "AllHomeModel" 40 7 17 := ⟨by decide, "AllHomeModel", nT7, 33, rfl, nI7, by decide, kw687⟩
theorem F_Model_43 : zFd "AllHomeModel" 43 7 18 := ⟨by decide, "AllHomeModel", nT7, 33, rfl, nI7, by decide, kw688⟩
theorem C_Model_207 : zCV "AllHomeModel" 207 y_Model_keepRun prog_9_method_36_code 3 none 1 7 := ⟨kw835, kw837, kp29, kw8, kw838, ⟨by decide +kernel, by decide +kernel, by decide +kernel⟩, by decide, _, rfl, rfl⟩
theorem P_Model_106 : zFp "AllHomeModel" 106 7 19 .int false := ⟨by decide, "AllHomeModel", nT7, 33, nY7, rfl, nI7, by decide, kw689, nP7, nN7, by decide +kernel, rfl, rfl⟩
theorem C_Model_210 : zCV "AllHomeModel" 210 y_Model_takeRun prog_9_method_37_code 3 none 1 7 := ⟨kw851, kw853, kp32, kw8, kw854, ⟨by decide +kernel, by decide +kernel, by decide +kernel⟩, by decide, _, rfl, rfl⟩
theorem C_Model_213 : zCV "AllHomeModel" 213 y_Model_doStep prog_9_method_34_code 4 (some .int) 2 7 := ⟨kw855, kw857, kp33, kw8, kw858, ⟨by decide +kernel, by decide +kernel, by decide +kernel⟩, by decide, _, rfl, rfl⟩
theorem F_Model_31 : zFd "AllHomeModel" 31 7 14 := ⟨by decide, "AllHomeModel", nT7, 33, rfl, nI7, by decide, kw684⟩
theorem C_Model_216 : zCV "AllHomeModel" 216 y_Model_isOver prog_9_method_35_code 3 (some .boolean) 0 7 := ⟨kw929, kw931, kp50, kw8, kw932, ⟨by decide +kernel, by decide +kernel, by decide +kernel⟩, by decide, _, rfl, rfl⟩
theorem C_Model_220 : zCV "AllHomeModel" 220 y_Model_isRun prog_9_method_39_code 2 (some .boolean) 1 7 := ⟨kw843, kw845, kp30, kw8, kw846, ⟨by decide +kernel, by decide +kernel, by decide +kernel⟩, by decide, _, rfl, rfl⟩
theorem C_Model_223 : zCV "AllHomeModel" 223 y_Model_stepOf prog_9_method_40_code 5 (some .int) 3 7 := ⟨kw847, kw849, kp31, kw8, kw850, ⟨by decide +kernel, by decide +kernel, by decide +kernel⟩, by decide, _, rfl, rfl⟩
theorem C_Model_226 : zCS "AllHomeModel" 226 y_Model_isShelf prog_9_method_68_code 1 (some .boolean) 1 := ⟨kw937, kw938, kw8, kw939, ⟨by decide +kernel, by decide +kernel, by decide +kernel⟩⟩
theorem F_Model_65 : zFd "AllHomeModel" 65 7 29 := ⟨by decide, "AllHomeModel", nT7, 33, rfl, nI7, by decide, kw699⟩
theorem F_Model_71 : zFd "AllHomeModel" 71 7 31 := ⟨by decide, "AllHomeModel", nT7, 33, rfl, nI7, by decide, kw701⟩
theorem F_Model_68 : zFd "AllHomeModel" 68 7 30 := ⟨by decide, "AllHomeModel", nT7, 33, rfl, nI7, by decide, kw700⟩
theorem F_Model_46 : zFd "AllHomeModel" 46 7 20 := ⟨by decide, "AllHomeModel", nT7, 33, rfl, nI7, by decide, kw690⟩
theorem F_Model_234 : zFd "AllHomeModel" 234 7 25 := ⟨by decide, "AllHomeModel", nT7, 33, rfl, nI7, by decide, kw695⟩
theorem F_Model_49 : zFd "AllHomeModel" 49 7 21 := ⟨by decide, "AllHomeModel", nT7, 33, rfl, nI7, by decide, kw691⟩
theorem F_Model_52 : zFd "AllHomeModel" 52 7 22 := ⟨by decide, "AllHomeModel", nT7, 33, rfl, nI7, by decide, kw692⟩
theorem P_Model_234 : zFp "AllHomeModel" 234 7 25 .int false := ⟨by decide, "AllHomeModel", nT7, 33, nY7, rfl, nI7, by decide, kw695, nP7, nN7, by decide +kernel, rfl, rfl⟩
theorem C_Model_237 : zCV "AllHomeModel" 237 y_Model_bringBack prog_9_method_48_code 3 none 1 7 := ⟨kw984, kw986, kp55, kw8, kw987, ⟨by decide +kernel, by decide +kernel, by decide +kernel⟩, by decide, _, rfl, rfl⟩
theorem C_Model_240 : zCV "AllHomeModel" 240 y_Model_findState prog_9_method_49_code 4 (some .int) 0 7 := ⟨kw988, kw990, kp56, kw8, kw991, ⟨by decide +kernel, by decide +kernel, by decide +kernel⟩, by decide, _, rfl, rfl⟩
theorem F_Model_59 : zFd "AllHomeModel" 59 7 24 := ⟨by decide, "AllHomeModel", nT7, 33, rfl, nI7, by decide, kw694⟩
theorem C_Model_243 : zCV "AllHomeModel" 243 y_Model_keepState prog_9_method_50_code 4 none 2 7 := ⟨kw976, kw978, kp53, kw8, kw979, ⟨by decide +kernel, by decide +kernel, by decide +kernel⟩, by decide, _, rfl, rfl⟩
theorem C_Model_246 : zCV "AllHomeModel" 246 y_Model_goFrom prog_9_method_51_code 4 none 1 7 := ⟨kw980, kw982, kp54, kw8, kw983, ⟨by decide +kernel, by decide +kernel, by decide +kernel⟩, by decide, _, rfl, rfl⟩
theorem C_Model_249 : zCV "AllHomeModel" 249 y_Model_findAll prog_9_method_52_code 3 (some .int) 1 7 := ⟨kw972, kw974, kp52, kw8, kw975, ⟨by decide +kernel, by decide +kernel, by decide +kernel⟩, by decide, _, rfl, rfl⟩
theorem C_Model_252 : zCV "AllHomeModel" 252 y_Model_noOrders prog_9_method_53_code 2 (some .int) 1 7 := ⟨kw968, kw970, kp51, kw8, kw971, ⟨by decide +kernel, by decide +kernel, by decide +kernel⟩, by decide, _, rfl, rfl⟩
theorem C_Model_255 : zCV "AllHomeModel" 255 y_Model_stepsTo prog_9_method_55_code 4 (some .int) 1 7 := ⟨kw996, kw998, kp57, kw8, kw999, ⟨by decide +kernel, by decide +kernel, by decide +kernel⟩, by decide, _, rfl, rfl⟩
theorem F_Model_55 : zFd "AllHomeModel" 55 7 23 := ⟨by decide, "AllHomeModel", nT7, 33, rfl, nI7, by decide, kw693⟩
theorem C_Model_258 : zCV "AllHomeModel" 258 y_Model_worksAlike prog_9_method_58_code 8 (some .boolean) 2 7 := ⟨kw1012, kw1014, kp59, kw8, kw1015, ⟨by decide +kernel, by decide +kernel, by decide +kernel⟩, by decide, _, rfl, rfl⟩
theorem C_Model_261 : zCV "AllHomeModel" 261 y_Model_workMany prog_9_method_59_code 5 (some .int) 0 7 := ⟨kw1008, kw1010, kp58, kw8, kw1011, ⟨by decide +kernel, by decide +kernel, by decide +kernel⟩, by decide, _, rfl, rfl⟩
theorem F_Model_264 : zFd "AllHomeModel" 264 7 27 := ⟨by decide, "AllHomeModel", nT7, 33, rfl, nI7, by decide, kw697⟩
theorem P_Model_264 : zFp "AllHomeModel" 264 7 27 .int false := ⟨by decide, "AllHomeModel", nT7, 33, nY7, rfl, nI7, by decide, kw697, nP7, nN7, by decide +kernel, rfl, rfl⟩
theorem F_Model_62 : zFd "AllHomeModel" 62 7 26 := ⟨by decide, "AllHomeModel", nT7, 33, rfl, nI7, by decide, kw696⟩
theorem C_Model_267 : zCV "AllHomeModel" 267 y_Model_ranBody prog_9_method_61_code 2 none 1 7 := ⟨kw1025, kw1027, kp61, kw8, kw1028, ⟨by decide +kernel, by decide +kernel, by decide +kernel⟩, by decide, _, rfl, rfl⟩
theorem F_Model_270 : zFd "AllHomeModel" 270 7 28 := ⟨by decide, "AllHomeModel", nT7, 33, rfl, nI7, by decide, kw698⟩
theorem C_Model_273 : zCV "AllHomeModel" 273 y_Model_sends prog_9_method_62_code 3 (some .int) 2 7 := ⟨kw1021, kw1023, kp60, kw8, kw1024, ⟨by decide +kernel, by decide +kernel, by decide +kernel⟩, by decide, _, rfl, rfl⟩
theorem C_Model_276 : zCV "AllHomeModel" 276 y_Model_asksOf prog_9_method_63_code 4 (some .int) 2 7 := ⟨kw1029, kw1031, kp62, kw8, kw1032, ⟨by decide +kernel, by decide +kernel, by decide +kernel⟩, by decide, _, rfl, rfl⟩
theorem C_Model_279 : zCV "AllHomeModel" 279 y_Model_owes prog_9_method_64_code 4 (some .int) 2 7 := ⟨kw1033, kw1035, kp63, kw8, kw1036, ⟨by decide +kernel, by decide +kernel, by decide +kernel⟩, by decide, _, rfl, rfl⟩
theorem C_Model_282 : zCV "AllHomeModel" 282 y_Model_tells prog_9_method_65_code 4 (some .int) 2 7 := ⟨kw1037, kw1039, kp64, kw8, kw1040, ⟨by decide +kernel, by decide +kernel, by decide +kernel⟩, by decide, _, rfl, rfl⟩
theorem P_Model_270 : zFp "AllHomeModel" 270 7 28 .int false := ⟨by decide, "AllHomeModel", nT7, 33, nY7, rfl, nI7, by decide, kw698, nP7, nN7, by decide +kernel, rfl, rfl⟩
theorem C_Model_289 : zCV "AllHomeModel" 289 y_Model_refusal prog_9_method_71_code 3 (some .int) 2 7 := ⟨kw1057, kw1059, kp65, kw8, kw1060, ⟨by decide +kernel, by decide +kernel, by decide +kernel⟩, by decide, _, rfl, rfl⟩
theorem C_Model_292 : zCS "AllHomeModel" 292 y_Model_asSort prog_9_method_72_code 3 (some .long) 2 := ⟨kw1061, kw1062, kw8, kw1063, ⟨by decide +kernel, by decide +kernel, by decide +kernel⟩⟩
theorem F_Model_75 : zFd "AllHomeModel" 75 7 32 := ⟨by decide, "AllHomeModel", nT7, 33, rfl, nI7, by decide, kw702⟩
end
section
-- walk of AllHome.feed
theorem d_Home_feed_0 : decode prog_1_method_2_code 0 = .ok (.iload_n 1, 1) := by decide +kernel
theorem d_Home_feed_1 : decode prog_1_method_2_code 1 = .ok (.iconst 1, 1) := by decide +kernel
theorem d_Home_feed_2 : decode prog_1_method_2_code 2 = .ok (.if_icmp .lt 8, 3) := by decide +kernel
theorem d_Home_feed_5 : decode prog_1_method_2_code 5 = .ok (.iload_n 1, 1) := by decide +kernel
theorem d_Home_feed_6 : decode prog_1_method_2_code 6 = .ok (.iconst 4, 1) := by decide +kernel
theorem d_Home_feed_7 : decode prog_1_method_2_code 7 = .ok (.if_icmp .le 5, 3) := by decide +kernel
theorem d_Home_feed_10 : decode prog_1_method_2_code 10 = .ok (.iconst (-1), 1) := by decide +kernel
theorem d_Home_feed_11 : decode prog_1_method_2_code 11 = .ok (.ireturn, 1) := by decide +kernel
theorem d_Home_feed_12 : decode prog_1_method_2_code 12 = .ok (.aload_n 0, 1) := by decide +kernel
theorem d_Home_feed_13 : decode prog_1_method_2_code 13 = .ok (.getfield 59, 3) := by decide +kernel
theorem d_Home_feed_16 : decode prog_1_method_2_code 16 = .ok (.bipush 60, 2) := by decide +kernel
theorem d_Home_feed_18 : decode prog_1_method_2_code 18 = .ok (.iload_n 1, 1) := by decide +kernel
theorem d_Home_feed_19 : decode prog_1_method_2_code 19 = .ok (.isub, 1) := by decide +kernel
theorem d_Home_feed_20 : decode prog_1_method_2_code 20 = .ok (.if_icmp .le 6, 3) := by decide +kernel
theorem d_Home_feed_23 : decode prog_1_method_2_code 23 = .ok (.bipush (-3), 2) := by decide +kernel
theorem d_Home_feed_25 : decode prog_1_method_2_code 25 = .ok (.ireturn, 1) := by decide +kernel
theorem d_Home_feed_26 : decode prog_1_method_2_code 26 = .ok (.iconst 0, 1) := by decide +kernel
theorem d_Home_feed_27 : decode prog_1_method_2_code 27 = .ok (.istore_n 3, 1) := by decide +kernel
theorem d_Home_feed_28 : decode prog_1_method_2_code 28 = .ok (.iload_n 3, 1) := by decide +kernel
theorem d_Home_feed_29 : decode prog_1_method_2_code 29 = .ok (.iload_n 1, 1) := by decide +kernel
theorem d_Home_feed_30 : decode prog_1_method_2_code 30 = .ok (.if_icmp .ge 30, 3) := by decide +kernel
theorem d_Home_feed_33 : decode prog_1_method_2_code 33 = .ok (.aload_n 0, 1) := by decide +kernel
theorem d_Home_feed_34 : decode prog_1_method_2_code 34 = .ok (.getfield 9, 3) := by decide +kernel
theorem d_Home_feed_37 : decode prog_1_method_2_code 37 = .ok (.aload_n 0, 1) := by decide +kernel
theorem d_Home_feed_38 : decode prog_1_method_2_code 38 = .ok (.getfield 59, 3) := by decide +kernel
theorem d_Home_feed_41 : decode prog_1_method_2_code 41 = .ok (.iload_n 3, 1) := by decide +kernel
theorem d_Home_feed_42 : decode prog_1_method_2_code 42 = .ok (.iadd, 1) := by decide +kernel
theorem d_Home_feed_43 : decode prog_1_method_2_code 43 = .ok (.iload_n 2, 1) := by decide +kernel
theorem d_Home_feed_44 : decode prog_1_method_2_code 44 = .ok (.bipush 8, 2) := by decide +kernel
theorem d_Home_feed_46 : decode prog_1_method_2_code 46 = .ok (.iload_n 3, 1) := by decide +kernel
theorem d_Home_feed_47 : decode prog_1_method_2_code 47 = .ok (.imul, 1) := by decide +kernel
theorem d_Home_feed_48 : decode prog_1_method_2_code 48 = .ok (.ishr, 1) := by decide +kernel
theorem d_Home_feed_49 : decode prog_1_method_2_code 49 = .ok (.sipush 255, 3) := by decide +kernel
theorem d_Home_feed_52 : decode prog_1_method_2_code 52 = .ok (.iand, 1) := by decide +kernel
theorem d_Home_feed_53 : decode prog_1_method_2_code 53 = .ok (.iastore, 1) := by decide +kernel
theorem d_Home_feed_54 : decode prog_1_method_2_code 54 = .ok (.iinc 3 1, 3) := by decide +kernel
theorem d_Home_feed_57 : decode prog_1_method_2_code 57 = .ok (.goto (-29), 3) := by decide +kernel
theorem d_Home_feed_60 : decode prog_1_method_2_code 60 = .ok (.aload_n 0, 1) := by decide +kernel
theorem d_Home_feed_61 : decode prog_1_method_2_code 61 = .ok (.dup, 1) := by decide +kernel
theorem d_Home_feed_62 : decode prog_1_method_2_code 62 = .ok (.getfield 59, 3) := by decide +kernel
theorem d_Home_feed_65 : decode prog_1_method_2_code 65 = .ok (.iload_n 1, 1) := by decide +kernel
theorem d_Home_feed_66 : decode prog_1_method_2_code 66 = .ok (.iadd, 1) := by decide +kernel
theorem d_Home_feed_67 : decode prog_1_method_2_code 67 = .ok (.putfield 59, 3) := by decide +kernel
theorem d_Home_feed_70 : decode prog_1_method_2_code 70 = .ok (.aload_n 0, 1) := by decide +kernel
theorem d_Home_feed_71 : decode prog_1_method_2_code 71 = .ok (.getfield 59, 3) := by decide +kernel
theorem d_Home_feed_74 : decode prog_1_method_2_code 74 = .ok (.ireturn, 1) := by decide +kernel
set_option maxHeartbeats 4000000 in
set_option maxRecDepth 100000 in
theorem r_Home_feed_28_b {p : Program} {l : Launch} {e : Env} {s : State} {m : MethodId} {args : Array Value} {below : List Frame} {meth : Method} {c : Code} {G : zG} {K : Nat} (X : zX p s m args meth c "AllHome" prog_1_method_2_code 4 (some .int) G (zA G K)) {r : Int32} {h' : zH} (a0 : Nat) (x1 : Int32) (x2 : Int32) (k28 : (Int32 × zH) → Option (Int32 × zH)) (hk28 : ∀ (w : Int32 × zH), k28 w = some (r, h') → ∀ (H : Heap) (locs : List Loc) (ls : Array Slot), zI G K s (zA G K) H locs w.2 → lv_has ls 4 [(0, .ref (G.1 a0)), (1, .int x1), (2, .int x2), (3, .int w.1)] → W p l e (zR 0) s m args below meth c H locs 0 0 (MQ below (zQi G K r h') args s 0 0 (zA G K)) (F0 m 28 ls [])) (u : Int32 × zH) (hm : g_Home_feed_28 a0 x1 x2 k28 u = some (r, h')) {H : Heap} {locs : List Loc} {ls : Array Slot} (hI : zI G K s (zA G K) H locs u.2) (hl : lv_has ls 4 [(0, .ref (G.1 a0)), (1, .int x1), (2, .int x2), (3, .int u.1)]) : W p l e (zR 0) s m args below meth c H locs 0 0 (MQ below (zQi G K r h') args s 0 0 (zA G K)) (F0 m 28 ls []) := by
  obtain ⟨hx, hb, hml, hown, hts, hr, hlocks, hK, hST, hNs⟩ := id X
  unfold g_Home_feed_28 at hm
  refine lv_iload_n hx hb d_Home_feed_28 rfl (lv_at hl 3 rfl) ?_
  refine lv_iload_n hx hb d_Home_feed_29 rfl (lv_at hl 1 rfl) ?_
  refine lv_icmp_ge (tgt := 60) hx hb d_Home_feed_30 (by decide) (fun hc30 => ?_) (fun hc30 => ?_)
  · replace hm := zif_t hc30 hm
    refine lv_aload_n hx hb d_Home_feed_60 rfl (lv_at hl 0 rfl) ?_
    refine lv_dup hx hb d_Home_feed_61 rfl ?_
    obtain ⟨v62, hv, hm⟩ := zbd hm
    refine z_getI X hI F_Home_59 hv d_Home_feed_62 ?_
    refine lv_iload_n hx hb d_Home_feed_65 rfl (lv_at hl 1 rfl) ?_
    refine lv_iadd hx hb d_Home_feed_66 ?_
    obtain ⟨h67, hv, hm⟩ := zbd hm
    refine z_putI X hI P_Home_59 hv d_Home_feed_67 (fun H locs hI => ?_)
    refine lv_aload_n hx hb d_Home_feed_70 rfl (lv_at hl 0 rfl) ?_
    obtain ⟨v71, hv, hm⟩ := zbd hm
    refine z_getI X hI F_Home_59 hv d_Home_feed_71 ?_
    obtain ⟨rfl, rfl⟩ := zs2 hm
    exact z_iret X hI d_Home_feed_74
  · replace hm := zif_f hc30 hm
    refine lv_aload_n hx hb d_Home_feed_33 rfl (lv_at hl 0 rfl) ?_
    obtain ⟨v34, hv, hm⟩ := zbd hm
    refine z_getR X hI F_Home_9 hv d_Home_feed_34 ?_
    refine lv_aload_n hx hb d_Home_feed_37 rfl (lv_at hl 0 rfl) ?_
    obtain ⟨v38, hv, hm⟩ := zbd hm
    refine z_getI X hI F_Home_59 hv d_Home_feed_38 ?_
    refine lv_iload_n hx hb d_Home_feed_41 rfl (lv_at hl 3 rfl) ?_
    refine lv_iadd hx hb d_Home_feed_42 ?_
    refine lv_iload_n hx hb d_Home_feed_43 rfl (lv_at hl 2 rfl) ?_
    refine lv_bipush (v := 8) hx hb d_Home_feed_44 (by decide) ?_
    refine lv_iload_n hx hb d_Home_feed_46 rfl (lv_at hl 3 rfl) ?_
    refine lv_imul hx hb d_Home_feed_47 ?_
    refine lv_ishr hx hb d_Home_feed_48 ?_
    refine lv_sipush (v := 255) hx hb d_Home_feed_49 (by decide) ?_
    refine lv_iand hx hb d_Home_feed_52 ?_
    obtain ⟨h53, hv, hm⟩ := zbd hm
    refine z_iast X hI hv d_Home_feed_53 (fun H locs hI => ?_)
    refine lv_iinc (v := (u.1 + (1 : Int32))) (lv' := [(3, .int (u.1 + (1 : Int32))), (0, .ref (G.1 a0)), (1, .int x1), (2, .int x2)]) hx hb d_Home_feed_54 hl (k := 3) rfl rfl (by decide) rfl (fun ls hl => ?_)
    refine lv_goto (tgt := 28) hx hb d_Home_feed_57 (by decide) ?_
    exact hk28 ((u.1 + (1 : Int32)), h53) hm _ _ _ hI (lv_sub hl [1, 2, 3, 0] rfl)
theorem r_Home_feed_28 {p : Program} {l : Launch} {e : Env} {s : State} {m : MethodId} {args : Array Value} {below : List Frame} {meth : Method} {c : Code} {G : zG} {K : Nat} (X : zX p s m args meth c "AllHome" prog_1_method_2_code 4 (some .int) G (zA G K)) {r : Int32} {h' : zH} (a0 : Nat) (x1 : Int32) (x2 : Int32) : ∀ (n : Nat) (w : Int32 × zH), zloop (g_Home_feed_28 a0 x1 x2) n w = some (r, h') → ∀ (H : Heap) (locs : List Loc) (ls : Array Slot), zI G K s (zA G K) H locs w.2 → lv_has ls 4 [(0, .ref (G.1 a0)), (1, .int x1), (2, .int x2), (3, .int w.1)] → W p l e (zR 0) s m args below meth c H locs 0 0 (MQ below (zQi G K r h') args s 0 0 (zA G K)) (F0 m 28 ls []) := by
  intro n
  induction n with
  | zero => intro w hm; cases hm
  | succ n ih => intro w hm H locs ls hI hl; exact r_Home_feed_28_b X a0 x1 x2 (zloop (g_Home_feed_28 a0 x1 x2) n) ih w hm hI hl
set_option maxHeartbeats 4000000 in
set_option maxRecDepth 100000 in
theorem r_Home_feed_0 {p : Program} {l : Launch} {e : Env} {s : State} {m : MethodId} {args : Array Value} {below : List Frame} {meth : Method} {c : Code} {G : zG} {K : Nat} (X : zX p s m args meth c "AllHome" prog_1_method_2_code 4 (some .int) G (zA G K)) {r : Int32} {h' : zH} (a0 : Nat) (x1 : Int32) (x2 : Int32) (h : zH) (hm : m_Home_feed a0 x1 x2 h = some (r, h')) {H : Heap} {locs : List Loc} {ls : Array Slot} (hI : zI G K s (zA G K) H locs h) (hl : lv_has ls 4 [(0, .ref (G.1 a0)), (1, .int x1), (2, .int x2)]) : W p l e (zR 0) s m args below meth c H locs 0 0 (MQ below (zQi G K r h') args s 0 0 (zA G K)) (F0 m 0 ls []) := by
  obtain ⟨hx, hb, hml, hown, hts, hr, hlocks, hK, hST, hNs⟩ := id X
  unfold m_Home_feed at hm
  refine lv_iload_n hx hb d_Home_feed_0 rfl (lv_at hl 1 rfl) ?_
  refine lv_iconst (v := 1) hx hb d_Home_feed_1 (by decide) ?_
  refine lv_icmp_lt (tgt := 10) hx hb d_Home_feed_2 (by decide) (fun hc2 => ?_) (fun hc2 => ?_)
  · replace hm := zif_t hc2 hm
    refine lv_iconst (v := -1) hx hb d_Home_feed_10 (by decide) ?_
    obtain ⟨rfl, rfl⟩ := zs2 hm
    exact z_iret X hI d_Home_feed_11
  · replace hm := zif_f hc2 hm
    refine lv_iload_n hx hb d_Home_feed_5 rfl (lv_at hl 1 rfl) ?_
    refine lv_iconst (v := 4) hx hb d_Home_feed_6 (by decide) ?_
    refine lv_icmp_le (tgt := 12) hx hb d_Home_feed_7 (by decide) (fun hc7 => ?_) (fun hc7 => ?_)
    · replace hm := zif_t hc7 hm
      refine lv_aload_n hx hb d_Home_feed_12 rfl (lv_at hl 0 rfl) ?_
      obtain ⟨v13, hv, hm⟩ := zbd hm
      refine z_getI X hI F_Home_59 hv d_Home_feed_13 ?_
      refine lv_bipush (v := 60) hx hb d_Home_feed_16 (by decide) ?_
      refine lv_iload_n hx hb d_Home_feed_18 rfl (lv_at hl 1 rfl) ?_
      refine lv_isub hx hb d_Home_feed_19 ?_
      refine lv_icmp_le (tgt := 26) hx hb d_Home_feed_20 (by decide) (fun hc20 => ?_) (fun hc20 => ?_)
      · replace hm := zif_t hc20 hm
        refine lv_iconst (v := 0) hx hb d_Home_feed_26 (by decide) ?_
        refine lv_istore_n (lv' := [(3, .int (0 : Int32)), (0, .ref (G.1 a0)), (1, .int x1), (2, .int x2)]) hx hb d_Home_feed_27 rfl hl (by decide) rfl (fun ls hl => ?_)
        exact r_Home_feed_28 X a0 x1 x2 zN ((0 : Int32), h) hm _ _ _ hI (lv_sub hl [1, 2, 3, 0] rfl)
      · replace hm := zif_f hc20 hm
        refine lv_bipush (v := -3) hx hb d_Home_feed_23 (by decide) ?_
        obtain ⟨rfl, rfl⟩ := zs2 hm
        exact z_iret X hI d_Home_feed_25
    · replace hm := zif_f hc7 hm
      refine lv_iconst (v := -1) hx hb d_Home_feed_10 (by decide) ?_
      obtain ⟨rfl, rfl⟩ := zs2 hm
      exact z_iret X hI d_Home_feed_11
set_option maxHeartbeats 4000000 in
set_option maxRecDepth 100000 in
theorem c_Home_feed (l : Launch) (G : zG) (K : Nat) (a0 : Nat) (x1 : Int32) (x2 : Int32) (h : zH) (r : Int32) (h' : zH) (hm : m_Home_feed a0 x1 x2 h = some (r, h')) : zMi l G K y_Home_feed prog_1_method_2_code 4 0 [.ref (G.1 a0), .int x1, .int x2] h r h' := zMet (by decide +kernel) (Nat.le_of_ble_eq_true rfl) (fun p e s m below meth c ls X hI hl => r_Home_feed_0 X a0 x1 x2 h hm hI hl)
-- walk of AllHome$Huts.size
theorem d_Huts_size_0 : decode prog_3_method_2_code 0 = .ok (.aload_n 0, 1) := by decide +kernel
theorem d_Huts_size_1 : decode prog_3_method_2_code 1 = .ok (.getfield 23, 3) := by decide +kernel
theorem d_Huts_size_4 : decode prog_3_method_2_code 4 = .ok (.ireturn, 1) := by decide +kernel
set_option maxHeartbeats 4000000 in
set_option maxRecDepth 100000 in
theorem r_Huts_size_0 {p : Program} {l : Launch} {e : Env} {s : State} {m : MethodId} {args : Array Value} {below : List Frame} {meth : Method} {c : Code} {G : zG} {K : Nat} (X : zX p s m args meth c "AllHome$Huts" prog_3_method_2_code 1 (some .int) G (zA G K)) {r : Int32} (a0 : Nat) (h : zH) (hm : m_Huts_size a0 h = some r) {H : Heap} {locs : List Loc} {ls : Array Slot} (hI : zI G K s (zA G K) H locs h) (hl : lv_has ls 1 [(0, .ref (G.1 a0))]) : W p l e (zR 0) s m args below meth c H locs 0 0 (MQ below (zQi G K r h) args s 0 0 (zA G K)) (F0 m 0 ls []) := by
  obtain ⟨hx, hb, hml, hown, hts, hr, hlocks, hK, hST, hNs⟩ := id X
  unfold m_Huts_size at hm
  refine lv_aload_n hx hb d_Huts_size_0 rfl (lv_at hl 0 rfl) ?_
  obtain ⟨v1, hv, hm⟩ := zbd hm
  refine z_getI X hI F_Huts_23 hv d_Huts_size_1 ?_
  obtain rfl := zs1 hm
  exact z_iret X hI d_Huts_size_4
set_option maxHeartbeats 4000000 in
set_option maxRecDepth 100000 in
theorem c_Huts_size (l : Launch) (G : zG) (K : Nat) (a0 : Nat) (h : zH) (r : Int32) (hm : m_Huts_size a0 h = some r) : zMi l G K y_Huts_size prog_3_method_2_code 1 0 [.ref (G.1 a0)] h r h := zMet (by decide +kernel) (Nat.le_of_ble_eq_true rfl) (fun p e s m below meth c ls X hI hl => r_Huts_size_0 X a0 h hm hI hl)
-- walk of AllHome$Huts.addWords
theorem d_Huts_addWords_0 : decode prog_3_method_8_code 0 = .ok (.iconst 0, 1) := by decide +kernel
theorem d_Huts_addWords_1 : decode prog_3_method_8_code 1 = .ok (.istore 4, 2) := by decide +kernel
theorem d_Huts_addWords_3 : decode prog_3_method_8_code 3 = .ok (.iload 4, 2) := by decide +kernel
theorem d_Huts_addWords_5 : decode prog_3_method_8_code 5 = .ok (.iload_n 3, 1) := by decide +kernel
theorem d_Huts_addWords_6 : decode prog_3_method_8_code 6 = .ok (.if_icmp .ge 34, 3) := by decide +kernel
theorem d_Huts_addWords_9 : decode prog_3_method_8_code 9 = .ok (.iload_n 1, 1) := by decide +kernel
theorem d_Huts_addWords_10 : decode prog_3_method_8_code 10 = .ok (.iload 4, 2) := by decide +kernel
theorem d_Huts_addWords_12 : decode prog_3_method_8_code 12 = .ok (.iadd, 1) := by decide +kernel
theorem d_Huts_addWords_13 : decode prog_3_method_8_code 13 = .ok (.sipush 270, 3) := by decide +kernel
theorem d_Huts_addWords_16 : decode prog_3_method_8_code 16 = .ok (.if_icmp .ge 24, 3) := by decide +kernel
theorem d_Huts_addWords_19 : decode prog_3_method_8_code 19 = .ok (.aload_n 0, 1) := by decide +kernel
theorem d_Huts_addWords_20 : decode prog_3_method_8_code 20 = .ok (.getfield 13, 3) := by decide +kernel
theorem d_Huts_addWords_23 : decode prog_3_method_8_code 23 = .ok (.aload_n 0, 1) := by decide +kernel
theorem d_Huts_addWords_24 : decode prog_3_method_8_code 24 = .ok (.getfield 23, 3) := by decide +kernel
theorem d_Huts_addWords_27 : decode prog_3_method_8_code 27 = .ok (.aaload, 1) := by decide +kernel
theorem d_Huts_addWords_28 : decode prog_3_method_8_code 28 = .ok (.iload_n 1, 1) := by decide +kernel
theorem d_Huts_addWords_29 : decode prog_3_method_8_code 29 = .ok (.iload 4, 2) := by decide +kernel
theorem d_Huts_addWords_31 : decode prog_3_method_8_code 31 = .ok (.iadd, 1) := by decide +kernel
theorem d_Huts_addWords_32 : decode prog_3_method_8_code 32 = .ok (.iload_n 2, 1) := by decide +kernel
theorem d_Huts_addWords_33 : decode prog_3_method_8_code 33 = .ok (.iastore, 1) := by decide +kernel
theorem d_Huts_addWords_34 : decode prog_3_method_8_code 34 = .ok (.iinc 4 1, 3) := by decide +kernel
theorem d_Huts_addWords_37 : decode prog_3_method_8_code 37 = .ok (.goto (-34), 3) := by decide +kernel
theorem d_Huts_addWords_40 : decode prog_3_method_8_code 40 = .ok (.iload_n 1, 1) := by decide +kernel
theorem d_Huts_addWords_41 : decode prog_3_method_8_code 41 = .ok (.iload_n 3, 1) := by decide +kernel
theorem d_Huts_addWords_42 : decode prog_3_method_8_code 42 = .ok (.iadd, 1) := by decide +kernel
theorem d_Huts_addWords_43 : decode prog_3_method_8_code 43 = .ok (.sipush 270, 3) := by decide +kernel
theorem d_Huts_addWords_46 : decode prog_3_method_8_code 46 = .ok (.invokestatic 35, 3) := by decide +kernel
theorem d_Huts_addWords_49 : decode prog_3_method_8_code 49 = .ok (.ireturn, 1) := by decide +kernel
set_option maxHeartbeats 4000000 in
set_option maxRecDepth 100000 in
theorem r_Huts_addWords_3_b {p : Program} {l : Launch} {e : Env} {s : State} {m : MethodId} {args : Array Value} {below : List Frame} {meth : Method} {c : Code} {G : zG} {K : Nat} (X : zX p s m args meth c "AllHome$Huts" prog_3_method_8_code 5 (some .int) G (zA G K)) {r : Int32} {h' : zH} (a0 : Nat) (x1 : Int32) (x2 : Int32) (x3 : Int32) (k3 : (Int32 × zH) → Option (Int32 × zH)) (hk3 : ∀ (w : Int32 × zH), k3 w = some (r, h') → ∀ (H : Heap) (locs : List Loc) (ls : Array Slot), zI G K s (zA G K) H locs w.2 → lv_has ls 5 [(0, .ref (G.1 a0)), (1, .int x1), (2, .int x2), (3, .int x3), (4, .int w.1)] → W p l e (zR 1) s m args below meth c H locs 0 0 (MQ below (zQi G K r h') args s 0 0 (zA G K)) (F0 m 3 ls [])) (u : Int32 × zH) (hm : g_Huts_addWords_3 a0 x1 x2 x3 k3 u = some (r, h')) {H : Heap} {locs : List Loc} {ls : Array Slot} (hI : zI G K s (zA G K) H locs u.2) (hl : lv_has ls 5 [(0, .ref (G.1 a0)), (1, .int x1), (2, .int x2), (3, .int x3), (4, .int u.1)]) : W p l e (zR 1) s m args below meth c H locs 0 0 (MQ below (zQi G K r h') args s 0 0 (zA G K)) (F0 m 3 ls []) := by
  obtain ⟨hx, hb, hml, hown, hts, hr, hlocks, hK, hST, hNs⟩ := id X
  unfold g_Huts_addWords_3 at hm
  refine lv_iload hx hb d_Huts_addWords_3 (lv_at hl 4 rfl) ?_
  refine lv_iload_n hx hb d_Huts_addWords_5 rfl (lv_at hl 3 rfl) ?_
  refine lv_icmp_ge (tgt := 40) hx hb d_Huts_addWords_6 (by decide) (fun hc6 => ?_) (fun hc6 => ?_)
  · replace hm := zif_t hc6 hm
    refine lv_iload_n hx hb d_Huts_addWords_40 rfl (lv_at hl 1 rfl) ?_
    refine lv_iload_n hx hb d_Huts_addWords_41 rfl (lv_at hl 3 rfl) ?_
    refine lv_iadd hx hb d_Huts_addWords_42 ?_
    refine lv_sipush (v := 270) hx hb d_Huts_addWords_43 (by decide) ?_
    refine va_mmin hx hb (hml.trans hl.1.symm) hown (hts _ kw234) (hts _ kw235) (hts _ kw9) (hts _ kw236) (Nat.le_of_ble_eq_true rfl) (Nat.le_of_ble_eq_true rfl) (Nat.zero_le _) (Nat.zero_le _) d_Huts_addWords_46 ?_
    obtain ⟨rfl, rfl⟩ := zs2 hm
    exact z_iret X hI d_Huts_addWords_49
  · replace hm := zif_f hc6 hm
    refine lv_iload_n hx hb d_Huts_addWords_9 rfl (lv_at hl 1 rfl) ?_
    refine lv_iload hx hb d_Huts_addWords_10 (lv_at hl 4 rfl) ?_
    refine lv_iadd hx hb d_Huts_addWords_12 ?_
    refine lv_sipush (v := 270) hx hb d_Huts_addWords_13 (by decide) ?_
    refine lv_icmp_ge (tgt := 40) hx hb d_Huts_addWords_16 (by decide) (fun hc16 => ?_) (fun hc16 => ?_)
    · replace hm := zif_t hc16 hm
      refine lv_iload_n hx hb d_Huts_addWords_40 rfl (lv_at hl 1 rfl) ?_
      refine lv_iload_n hx hb d_Huts_addWords_41 rfl (lv_at hl 3 rfl) ?_
      refine lv_iadd hx hb d_Huts_addWords_42 ?_
      refine lv_sipush (v := 270) hx hb d_Huts_addWords_43 (by decide) ?_
      refine va_mmin hx hb (hml.trans hl.1.symm) hown (hts _ kw234) (hts _ kw235) (hts _ kw9) (hts _ kw236) (Nat.le_of_ble_eq_true rfl) (Nat.le_of_ble_eq_true rfl) (Nat.zero_le _) (Nat.zero_le _) d_Huts_addWords_46 ?_
      obtain ⟨rfl, rfl⟩ := zs2 hm
      exact z_iret X hI d_Huts_addWords_49
    · replace hm := zif_f hc16 hm
      refine lv_aload_n hx hb d_Huts_addWords_19 rfl (lv_at hl 0 rfl) ?_
      obtain ⟨v20, hv, hm⟩ := zbd hm
      refine z_getR X hI F_Huts_13 hv d_Huts_addWords_20 ?_
      refine lv_aload_n hx hb d_Huts_addWords_23 rfl (lv_at hl 0 rfl) ?_
      obtain ⟨v24, hv, hm⟩ := zbd hm
      refine z_getI X hI F_Huts_23 hv d_Huts_addWords_24 ?_
      obtain ⟨v27, hv, hm⟩ := zbd hm
      refine z_aald X hI 5 (.array .int) rfl rfl hv d_Huts_addWords_27 ?_
      refine lv_iload_n hx hb d_Huts_addWords_28 rfl (lv_at hl 1 rfl) ?_
      refine lv_iload hx hb d_Huts_addWords_29 (lv_at hl 4 rfl) ?_
      refine lv_iadd hx hb d_Huts_addWords_31 ?_
      refine lv_iload_n hx hb d_Huts_addWords_32 rfl (lv_at hl 2 rfl) ?_
      obtain ⟨h33, hv, hm⟩ := zbd hm
      refine z_iast X hI hv d_Huts_addWords_33 (fun H locs hI => ?_)
      refine lv_iinc (v := (u.1 + (1 : Int32))) (lv' := [(4, .int (u.1 + (1 : Int32))), (0, .ref (G.1 a0)), (1, .int x1), (2, .int x2), (3, .int x3)]) hx hb d_Huts_addWords_34 hl (k := 4) rfl rfl (by decide) rfl (fun ls hl => ?_)
      refine lv_goto (tgt := 3) hx hb d_Huts_addWords_37 (by decide) ?_
      exact hk3 ((u.1 + (1 : Int32)), h33) hm _ _ _ hI (lv_sub hl [1, 2, 3, 4, 0] rfl)
theorem r_Huts_addWords_3 {p : Program} {l : Launch} {e : Env} {s : State} {m : MethodId} {args : Array Value} {below : List Frame} {meth : Method} {c : Code} {G : zG} {K : Nat} (X : zX p s m args meth c "AllHome$Huts" prog_3_method_8_code 5 (some .int) G (zA G K)) {r : Int32} {h' : zH} (a0 : Nat) (x1 : Int32) (x2 : Int32) (x3 : Int32) : ∀ (n : Nat) (w : Int32 × zH), zloop (g_Huts_addWords_3 a0 x1 x2 x3) n w = some (r, h') → ∀ (H : Heap) (locs : List Loc) (ls : Array Slot), zI G K s (zA G K) H locs w.2 → lv_has ls 5 [(0, .ref (G.1 a0)), (1, .int x1), (2, .int x2), (3, .int x3), (4, .int w.1)] → W p l e (zR 1) s m args below meth c H locs 0 0 (MQ below (zQi G K r h') args s 0 0 (zA G K)) (F0 m 3 ls []) := by
  intro n
  induction n with
  | zero => intro w hm; cases hm
  | succ n ih => intro w hm H locs ls hI hl; exact r_Huts_addWords_3_b X a0 x1 x2 x3 (zloop (g_Huts_addWords_3 a0 x1 x2 x3) n) ih w hm hI hl
set_option maxHeartbeats 4000000 in
set_option maxRecDepth 100000 in
theorem r_Huts_addWords_0 {p : Program} {l : Launch} {e : Env} {s : State} {m : MethodId} {args : Array Value} {below : List Frame} {meth : Method} {c : Code} {G : zG} {K : Nat} (X : zX p s m args meth c "AllHome$Huts" prog_3_method_8_code 5 (some .int) G (zA G K)) {r : Int32} {h' : zH} (a0 : Nat) (x1 : Int32) (x2 : Int32) (x3 : Int32) (h : zH) (hm : m_Huts_addWords a0 x1 x2 x3 h = some (r, h')) {H : Heap} {locs : List Loc} {ls : Array Slot} (hI : zI G K s (zA G K) H locs h) (hl : lv_has ls 5 [(0, .ref (G.1 a0)), (1, .int x1), (2, .int x2), (3, .int x3)]) : W p l e (zR 1) s m args below meth c H locs 0 0 (MQ below (zQi G K r h') args s 0 0 (zA G K)) (F0 m 0 ls []) := by
  obtain ⟨hx, hb, hml, hown, hts, hr, hlocks, hK, hST, hNs⟩ := id X
  unfold m_Huts_addWords at hm
  refine lv_iconst (v := 0) hx hb d_Huts_addWords_0 (by decide) ?_
  refine lv_istore (lv' := [(4, .int (0 : Int32)), (0, .ref (G.1 a0)), (1, .int x1), (2, .int x2), (3, .int x3)]) hx hb d_Huts_addWords_1 hl (by decide) rfl (fun ls hl => ?_)
  exact r_Huts_addWords_3 X a0 x1 x2 x3 zN ((0 : Int32), h) hm _ _ _ hI (lv_sub hl [1, 2, 3, 4, 0] rfl)
set_option maxHeartbeats 4000000 in
set_option maxRecDepth 100000 in
theorem c_Huts_addWords (l : Launch) (G : zG) (K : Nat) (a0 : Nat) (x1 : Int32) (x2 : Int32) (x3 : Int32) (h : zH) (r : Int32) (h' : zH) (hm : m_Huts_addWords a0 x1 x2 x3 h = some (r, h')) : zMi l G K y_Huts_addWords prog_3_method_8_code 5 1 [.ref (G.1 a0), .int x1, .int x2, .int x3] h r h' := zMet (by decide +kernel) (Nat.le_of_ble_eq_true rfl) (fun p e s m below meth c ls X hI hl => r_Huts_addWords_0 X a0 x1 x2 x3 h hm hI hl)
-- walk of AllHome$Huts.read
theorem d_Huts_read_0 : decode prog_3_method_7_code 0 = .ok (.aload_n 0, 1) := by decide +kernel
theorem d_Huts_read_1 : decode prog_3_method_7_code 1 = .ok (.getfield 23, 3) := by decide +kernel
theorem d_Huts_read_4 : decode prog_3_method_7_code 4 = .ok (.bipush 6, 2) := by decide +kernel
theorem d_Huts_read_6 : decode prog_3_method_7_code 6 = .ok (.if_icmp .ge 19, 3) := by decide +kernel
theorem d_Huts_read_9 : decode prog_3_method_7_code 9 = .ok (.iload_n 2, 1) := by decide +kernel
theorem d_Huts_read_10 : decode prog_3_method_7_code 10 = .ok (.ifCond .lt 15, 3) := by decide +kernel
theorem d_Huts_read_13 : decode prog_3_method_7_code 13 = .ok (.iload_n 2, 1) := by decide +kernel
theorem d_Huts_read_14 : decode prog_3_method_7_code 14 = .ok (.bipush 60, 2) := by decide +kernel
theorem d_Huts_read_16 : decode prog_3_method_7_code 16 = .ok (.if_icmp .gt 9, 3) := by decide +kernel
theorem d_Huts_read_19 : decode prog_3_method_7_code 19 = .ok (.iload_n 2, 1) := by decide +kernel
theorem d_Huts_read_20 : decode prog_3_method_7_code 20 = .ok (.aload_n 1, 1) := by decide +kernel
theorem d_Huts_read_21 : decode prog_3_method_7_code 21 = .ok (.arraylength, 1) := by decide +kernel
theorem d_Huts_read_22 : decode prog_3_method_7_code 22 = .ok (.if_icmp .le 5, 3) := by decide +kernel
theorem d_Huts_read_25 : decode prog_3_method_7_code 25 = .ok (.iconst 0, 1) := by decide +kernel
theorem d_Huts_read_26 : decode prog_3_method_7_code 26 = .ok (.ireturn, 1) := by decide +kernel
theorem d_Huts_read_27 : decode prog_3_method_7_code 27 = .ok (.iconst 0, 1) := by decide +kernel
theorem d_Huts_read_28 : decode prog_3_method_7_code 28 = .ok (.istore_n 3, 1) := by decide +kernel
theorem d_Huts_read_29 : decode prog_3_method_7_code 29 = .ok (.iconst 0, 1) := by decide +kernel
theorem d_Huts_read_30 : decode prog_3_method_7_code 30 = .ok (.istore 4, 2) := by decide +kernel
theorem d_Huts_read_32 : decode prog_3_method_7_code 32 = .ok (.iconst 0, 1) := by decide +kernel
theorem d_Huts_read_33 : decode prog_3_method_7_code 33 = .ok (.istore 5, 2) := by decide +kernel
theorem d_Huts_read_35 : decode prog_3_method_7_code 35 = .ok (.iconst 0, 1) := by decide +kernel
theorem d_Huts_read_36 : decode prog_3_method_7_code 36 = .ok (.istore 6, 2) := by decide +kernel
theorem d_Huts_read_38 : decode prog_3_method_7_code 38 = .ok (.iload 6, 2) := by decide +kernel
theorem d_Huts_read_40 : decode prog_3_method_7_code 40 = .ok (.iload_n 2, 1) := by decide +kernel
theorem d_Huts_read_41 : decode prog_3_method_7_code 41 = .ok (.if_icmp .ge 133, 3) := by decide +kernel
theorem d_Huts_read_44 : decode prog_3_method_7_code 44 = .ok (.aload_n 1, 1) := by decide +kernel
theorem d_Huts_read_45 : decode prog_3_method_7_code 45 = .ok (.iload 6, 2) := by decide +kernel
theorem d_Huts_read_47 : decode prog_3_method_7_code 47 = .ok (.iaload, 1) := by decide +kernel
theorem d_Huts_read_48 : decode prog_3_method_7_code 48 = .ok (.istore 7, 2) := by decide +kernel
theorem d_Huts_read_50 : decode prog_3_method_7_code 50 = .ok (.iload 7, 2) := by decide +kernel
theorem d_Huts_read_52 : decode prog_3_method_7_code 52 = .ok (.bipush 97, 2) := by decide +kernel
theorem d_Huts_read_54 : decode prog_3_method_7_code 54 = .ok (.isub, 1) := by decide +kernel
theorem d_Huts_read_55 : decode prog_3_method_7_code 55 = .ok (.istore 8, 2) := by decide +kernel
theorem d_Huts_read_57 : decode prog_3_method_7_code 57 = .ok (.iload 8, 2) := by decide +kernel
theorem d_Huts_read_59 : decode prog_3_method_7_code 59 = .ok (.ifCond .lt 46, 3) := by decide +kernel
theorem d_Huts_read_62 : decode prog_3_method_7_code 62 = .ok (.iload 8, 2) := by decide +kernel
theorem d_Huts_read_64 : decode prog_3_method_7_code 64 = .ok (.bipush 6, 2) := by decide +kernel
theorem d_Huts_read_66 : decode prog_3_method_7_code 66 = .ok (.if_icmp .ge 39, 3) := by decide +kernel
theorem d_Huts_read_69 : decode prog_3_method_7_code 69 = .ok (.iload 8, 2) := by decide +kernel
theorem d_Huts_read_71 : decode prog_3_method_7_code 71 = .ok (.aload_n 0, 1) := by decide +kernel
theorem d_Huts_read_72 : decode prog_3_method_7_code 72 = .ok (.getfield 23, 3) := by decide +kernel
theorem d_Huts_read_75 : decode prog_3_method_7_code 75 = .ok (.if_icmp .eq 30, 3) := by decide +kernel
theorem d_Huts_read_78 : decode prog_3_method_7_code 78 = .ok (.aload_n 0, 1) := by decide +kernel
theorem d_Huts_read_79 : decode prog_3_method_7_code 79 = .ok (.iload 4, 2) := by decide +kernel
theorem d_Huts_read_81 : decode prog_3_method_7_code 81 = .ok (.iload 8, 2) := by decide +kernel
theorem d_Huts_read_83 : decode prog_3_method_7_code 83 = .ok (.iload 5, 2) := by decide +kernel
theorem d_Huts_read_85 : decode prog_3_method_7_code 85 = .ok (.ifCond .ne 7, 3) := by decide +kernel
theorem d_Huts_read_88 : decode prog_3_method_7_code 88 = .ok (.iconst 1, 1) := by decide +kernel
theorem d_Huts_read_89 : decode prog_3_method_7_code 89 = .ok (.goto 5, 3) := by decide +kernel
theorem d_Huts_read_92 : decode prog_3_method_7_code 92 = .ok (.iload 5, 2) := by decide +kernel
theorem d_Huts_read_94 : decode prog_3_method_7_code 94 = .ok (.invokevirtual 31, 3) := by decide +kernel
theorem d_Huts_read_97 : decode prog_3_method_7_code 97 = .ok (.istore 4, 2) := by decide +kernel
theorem d_Huts_read_99 : decode prog_3_method_7_code 99 = .ok (.iconst 0, 1) := by decide +kernel
theorem d_Huts_read_100 : decode prog_3_method_7_code 100 = .ok (.istore 5, 2) := by decide +kernel
theorem d_Huts_read_102 : decode prog_3_method_7_code 102 = .ok (.goto 66, 3) := by decide +kernel
theorem d_Huts_read_105 : decode prog_3_method_7_code 105 = .ok (.iload 7, 2) := by decide +kernel
theorem d_Huts_read_107 : decode prog_3_method_7_code 107 = .ok (.bipush 59, 2) := by decide +kernel
theorem d_Huts_read_109 : decode prog_3_method_7_code 109 = .ok (.if_icmp .ne 27, 3) := by decide +kernel
theorem d_Huts_read_112 : decode prog_3_method_7_code 112 = .ok (.iload 5, 2) := by decide +kernel
theorem d_Huts_read_114 : decode prog_3_method_7_code 114 = .ok (.ifCond .ne 22, 3) := by decide +kernel
theorem d_Huts_read_117 : decode prog_3_method_7_code 117 = .ok (.iinc 3 1, 3) := by decide +kernel
theorem d_Huts_read_120 : decode prog_3_method_7_code 120 = .ok (.aload_n 0, 1) := by decide +kernel
theorem d_Huts_read_121 : decode prog_3_method_7_code 121 = .ok (.getfield 16, 3) := by decide +kernel
theorem d_Huts_read_124 : decode prog_3_method_7_code 124 = .ok (.aload_n 0, 1) := by decide +kernel
theorem d_Huts_read_125 : decode prog_3_method_7_code 125 = .ok (.getfield 23, 3) := by decide +kernel
theorem d_Huts_read_128 : decode prog_3_method_7_code 128 = .ok (.aaload, 1) := by decide +kernel
theorem d_Huts_read_129 : decode prog_3_method_7_code 129 = .ok (.iload_n 3, 1) := by decide +kernel
theorem d_Huts_read_130 : decode prog_3_method_7_code 130 = .ok (.iload 4, 2) := by decide +kernel
theorem d_Huts_read_132 : decode prog_3_method_7_code 132 = .ok (.iastore, 1) := by decide +kernel
theorem d_Huts_read_133 : decode prog_3_method_7_code 133 = .ok (.goto 35, 3) := by decide +kernel
theorem d_Huts_read_136 : decode prog_3_method_7_code 136 = .ok (.iload 7, 2) := by decide +kernel
theorem d_Huts_read_138 : decode prog_3_method_7_code 138 = .ok (.bipush 50, 2) := by decide +kernel
theorem d_Huts_read_140 : decode prog_3_method_7_code 140 = .ok (.if_icmp .lt 25, 3) := by decide +kernel
theorem d_Huts_read_143 : decode prog_3_method_7_code 143 = .ok (.iload 7, 2) := by decide +kernel
theorem d_Huts_read_145 : decode prog_3_method_7_code 145 = .ok (.bipush 57, 2) := by decide +kernel
theorem d_Huts_read_147 : decode prog_3_method_7_code 147 = .ok (.if_icmp .gt 18, 3) := by decide +kernel
theorem d_Huts_read_150 : decode prog_3_method_7_code 150 = .ok (.iload 5, 2) := by decide +kernel
theorem d_Huts_read_152 : decode prog_3_method_7_code 152 = .ok (.ifCond .ne 13, 3) := by decide +kernel
theorem d_Huts_read_155 : decode prog_3_method_7_code 155 = .ok (.iload 7, 2) := by decide +kernel
theorem d_Huts_read_157 : decode prog_3_method_7_code 157 = .ok (.bipush 48, 2) := by decide +kernel
theorem d_Huts_read_159 : decode prog_3_method_7_code 159 = .ok (.isub, 1) := by decide +kernel
theorem d_Huts_read_160 : decode prog_3_method_7_code 160 = .ok (.istore 5, 2) := by decide +kernel
theorem d_Huts_read_162 : decode prog_3_method_7_code 162 = .ok (.goto 6, 3) := by decide +kernel
theorem d_Huts_read_165 : decode prog_3_method_7_code 165 = .ok (.iload 6, 2) := by decide +kernel
theorem d_Huts_read_167 : decode prog_3_method_7_code 167 = .ok (.ireturn, 1) := by decide +kernel
theorem d_Huts_read_168 : decode prog_3_method_7_code 168 = .ok (.iinc 6 1, 3) := by decide +kernel
theorem d_Huts_read_171 : decode prog_3_method_7_code 171 = .ok (.goto (-133), 3) := by decide +kernel
theorem d_Huts_read_174 : decode prog_3_method_7_code 174 = .ok (.iload 5, 2) := by decide +kernel
theorem d_Huts_read_176 : decode prog_3_method_7_code 176 = .ok (.ifCond .eq 5, 3) := by decide +kernel
theorem d_Huts_read_179 : decode prog_3_method_7_code 179 = .ok (.iload_n 2, 1) := by decide +kernel
theorem d_Huts_read_180 : decode prog_3_method_7_code 180 = .ok (.ireturn, 1) := by decide +kernel
theorem d_Huts_read_181 : decode prog_3_method_7_code 181 = .ok (.aload_n 0, 1) := by decide +kernel
theorem d_Huts_read_182 : decode prog_3_method_7_code 182 = .ok (.getfield 16, 3) := by decide +kernel
theorem d_Huts_read_185 : decode prog_3_method_7_code 185 = .ok (.aload_n 0, 1) := by decide +kernel
theorem d_Huts_read_186 : decode prog_3_method_7_code 186 = .ok (.getfield 23, 3) := by decide +kernel
theorem d_Huts_read_189 : decode prog_3_method_7_code 189 = .ok (.aaload, 1) := by decide +kernel
theorem d_Huts_read_190 : decode prog_3_method_7_code 190 = .ok (.iload_n 3, 1) := by decide +kernel
theorem d_Huts_read_191 : decode prog_3_method_7_code 191 = .ok (.iconst 1, 1) := by decide +kernel
theorem d_Huts_read_192 : decode prog_3_method_7_code 192 = .ok (.iadd, 1) := by decide +kernel
theorem d_Huts_read_193 : decode prog_3_method_7_code 193 = .ok (.iload 4, 2) := by decide +kernel
theorem d_Huts_read_195 : decode prog_3_method_7_code 195 = .ok (.iastore, 1) := by decide +kernel
theorem d_Huts_read_196 : decode prog_3_method_7_code 196 = .ok (.aload_n 0, 1) := by decide +kernel
theorem d_Huts_read_197 : decode prog_3_method_7_code 197 = .ok (.getfield 19, 3) := by decide +kernel
theorem d_Huts_read_200 : decode prog_3_method_7_code 200 = .ok (.aload_n 0, 1) := by decide +kernel
theorem d_Huts_read_201 : decode prog_3_method_7_code 201 = .ok (.getfield 23, 3) := by decide +kernel
theorem d_Huts_read_204 : decode prog_3_method_7_code 204 = .ok (.iload_n 3, 1) := by decide +kernel
theorem d_Huts_read_205 : decode prog_3_method_7_code 205 = .ok (.iconst 1, 1) := by decide +kernel
theorem d_Huts_read_206 : decode prog_3_method_7_code 206 = .ok (.iadd, 1) := by decide +kernel
theorem d_Huts_read_207 : decode prog_3_method_7_code 207 = .ok (.iastore, 1) := by decide +kernel
theorem d_Huts_read_208 : decode prog_3_method_7_code 208 = .ok (.aload_n 0, 1) := by decide +kernel
theorem d_Huts_read_209 : decode prog_3_method_7_code 209 = .ok (.dup, 1) := by decide +kernel
theorem d_Huts_read_210 : decode prog_3_method_7_code 210 = .ok (.getfield 23, 3) := by decide +kernel
theorem d_Huts_read_213 : decode prog_3_method_7_code 213 = .ok (.iconst 1, 1) := by decide +kernel
theorem d_Huts_read_214 : decode prog_3_method_7_code 214 = .ok (.iadd, 1) := by decide +kernel
theorem d_Huts_read_215 : decode prog_3_method_7_code 215 = .ok (.putfield 23, 3) := by decide +kernel
theorem d_Huts_read_218 : decode prog_3_method_7_code 218 = .ok (.iconst (-1), 1) := by decide +kernel
theorem d_Huts_read_219 : decode prog_3_method_7_code 219 = .ok (.ireturn, 1) := by decide +kernel
set_option maxHeartbeats 4000000 in
set_option maxRecDepth 100000 in
theorem r_Huts_read_136 {p : Program} {l : Launch} {e : Env} {s : State} {m : MethodId} {args : Array Value} {below : List Frame} {meth : Method} {c : Code} {G : zG} {K : Nat} (X : zX p s m args meth c "AllHome$Huts" prog_3_method_7_code 9 (some .int) G (zA G K)) {r : Int32} {h' : zH} (a0 : Nat) (a1 : Nat) (x2 : Int32) (x3 : Int32) (x4 : Int32) (x5 : Int32) (x6 : Int32) (x7 : Int32) (h : zH) (k38 : (Int32 × Int32 × Int32 × Int32 × zH) → Option (Int32 × zH)) (hk38 : ∀ (w : Int32 × Int32 × Int32 × Int32 × zH), k38 w = some (r, h') → ∀ (H : Heap) (locs : List Loc) (ls : Array Slot), zI G K s (zA G K) H locs w.2.2.2.2 → lv_has ls 9 [(0, .ref (G.1 a0)), (1, .ref (G.1 a1)), (2, .int x2), (3, .int w.1), (4, .int w.2.1), (5, .int w.2.2.1), (6, .int w.2.2.2.1)] → W p l e (zR 2) s m args below meth c H locs 0 0 (MQ below (zQi G K r h') args s 0 0 (zA G K)) (F0 m 38 ls [])) (hm : g_Huts_read_136 a0 a1 x2 x3 x4 x5 x6 x7 h k38 = some (r, h')) {H : Heap} {locs : List Loc} {ls : Array Slot} (hI : zI G K s (zA G K) H locs h) (hl : lv_has ls 9 [(0, .ref (G.1 a0)), (1, .ref (G.1 a1)), (2, .int x2), (3, .int x3), (4, .int x4), (5, .int x5), (6, .int x6), (7, .int x7)]) : W p l e (zR 2) s m args below meth c H locs 0 0 (MQ below (zQi G K r h') args s 0 0 (zA G K)) (F0 m 136 ls []) := by
  obtain ⟨hx, hb, hml, hown, hts, hr, hlocks, hK, hST, hNs⟩ := id X
  unfold g_Huts_read_136 at hm
  refine lv_iload hx hb d_Huts_read_136 (lv_at hl 7 rfl) ?_
  refine lv_bipush (v := 50) hx hb d_Huts_read_138 (by decide) ?_
  refine lv_icmp_lt (tgt := 165) hx hb d_Huts_read_140 (by decide) (fun hc140 => ?_) (fun hc140 => ?_)
  · replace hm := zif_t hc140 hm
    refine lv_iload hx hb d_Huts_read_165 (lv_at hl 6 rfl) ?_
    obtain ⟨rfl, rfl⟩ := zs2 hm
    exact z_iret X hI d_Huts_read_167
  · replace hm := zif_f hc140 hm
    refine lv_iload hx hb d_Huts_read_143 (lv_at hl 7 rfl) ?_
    refine lv_bipush (v := 57) hx hb d_Huts_read_145 (by decide) ?_
    refine lv_icmp_gt (tgt := 165) hx hb d_Huts_read_147 (by decide) (fun hc147 => ?_) (fun hc147 => ?_)
    · replace hm := zif_t hc147 hm
      refine lv_iload hx hb d_Huts_read_165 (lv_at hl 6 rfl) ?_
      obtain ⟨rfl, rfl⟩ := zs2 hm
      exact z_iret X hI d_Huts_read_167
    · replace hm := zif_f hc147 hm
      refine lv_iload hx hb d_Huts_read_150 (lv_at hl 5 rfl) ?_
      refine lv_if_ne (tgt := 165) hx hb d_Huts_read_152 (by decide) (fun hc152 => ?_) (fun hc152 => ?_)
      · replace hm := zif_f hc152 hm
        refine lv_iload hx hb d_Huts_read_165 (lv_at hl 6 rfl) ?_
        obtain ⟨rfl, rfl⟩ := zs2 hm
        exact z_iret X hI d_Huts_read_167
      · replace hm := zif_t hc152 hm
        refine lv_iload hx hb d_Huts_read_155 (lv_at hl 7 rfl) ?_
        refine lv_bipush (v := 48) hx hb d_Huts_read_157 (by decide) ?_
        refine lv_isub hx hb d_Huts_read_159 ?_
        refine lv_istore (lv' := [(5, .int (x7 - (48 : Int32))), (0, .ref (G.1 a0)), (1, .ref (G.1 a1)), (2, .int x2), (3, .int x3), (4, .int x4), (6, .int x6), (7, .int x7)]) hx hb d_Huts_read_160 hl (by decide) rfl (fun ls hl => ?_)
        refine lv_goto (tgt := 168) hx hb d_Huts_read_162 (by decide) ?_
        refine lv_iinc (v := (x6 + (1 : Int32))) (lv' := [(6, .int (x6 + (1 : Int32))), (5, .int (x7 - (48 : Int32))), (0, .ref (G.1 a0)), (1, .ref (G.1 a1)), (2, .int x2), (3, .int x3), (4, .int x4), (7, .int x7)]) hx hb d_Huts_read_168 hl (k := 6) rfl rfl (by decide) rfl (fun ls hl => ?_)
        refine lv_goto (tgt := 38) hx hb d_Huts_read_171 (by decide) ?_
        exact hk38 (x3, x4, (x7 - (48 : Int32)), (x6 + (1 : Int32)), h) hm _ _ _ hI (lv_sub hl [2, 3, 4, 5, 6, 1, 0] rfl)
set_option maxHeartbeats 4000000 in
set_option maxRecDepth 100000 in
theorem r_Huts_read_105 {p : Program} {l : Launch} {e : Env} {s : State} {m : MethodId} {args : Array Value} {below : List Frame} {meth : Method} {c : Code} {G : zG} {K : Nat} (X : zX p s m args meth c "AllHome$Huts" prog_3_method_7_code 9 (some .int) G (zA G K)) {r : Int32} {h' : zH} (a0 : Nat) (a1 : Nat) (x2 : Int32) (x3 : Int32) (x4 : Int32) (x5 : Int32) (x6 : Int32) (x7 : Int32) (h : zH) (k38 : (Int32 × Int32 × Int32 × Int32 × zH) → Option (Int32 × zH)) (hk38 : ∀ (w : Int32 × Int32 × Int32 × Int32 × zH), k38 w = some (r, h') → ∀ (H : Heap) (locs : List Loc) (ls : Array Slot), zI G K s (zA G K) H locs w.2.2.2.2 → lv_has ls 9 [(0, .ref (G.1 a0)), (1, .ref (G.1 a1)), (2, .int x2), (3, .int w.1), (4, .int w.2.1), (5, .int w.2.2.1), (6, .int w.2.2.2.1)] → W p l e (zR 2) s m args below meth c H locs 0 0 (MQ below (zQi G K r h') args s 0 0 (zA G K)) (F0 m 38 ls [])) (hm : g_Huts_read_105 a0 a1 x2 x3 x4 x5 x6 x7 h k38 = some (r, h')) {H : Heap} {locs : List Loc} {ls : Array Slot} (hI : zI G K s (zA G K) H locs h) (hl : lv_has ls 9 [(0, .ref (G.1 a0)), (1, .ref (G.1 a1)), (2, .int x2), (3, .int x3), (4, .int x4), (5, .int x5), (6, .int x6), (7, .int x7)]) : W p l e (zR 2) s m args below meth c H locs 0 0 (MQ below (zQi G K r h') args s 0 0 (zA G K)) (F0 m 105 ls []) := by
  obtain ⟨hx, hb, hml, hown, hts, hr, hlocks, hK, hST, hNs⟩ := id X
  unfold g_Huts_read_105 at hm
  refine lv_iload hx hb d_Huts_read_105 (lv_at hl 7 rfl) ?_
  refine lv_bipush (v := 59) hx hb d_Huts_read_107 (by decide) ?_
  refine lv_icmp_ne (tgt := 136) hx hb d_Huts_read_109 (by decide) (fun hc109 => ?_) (fun hc109 => ?_)
  · replace hm := zif_f hc109 hm
    exact r_Huts_read_136 X a0 a1 x2 x3 x4 x5 x6 x7 h k38 hk38 hm hI (lv_sub hl [0, 1, 2, 3, 4, 5, 6, 7] rfl)
  · replace hm := zif_t hc109 hm
    refine lv_iload hx hb d_Huts_read_112 (lv_at hl 5 rfl) ?_
    refine lv_if_ne (tgt := 136) hx hb d_Huts_read_114 (by decide) (fun hc114 => ?_) (fun hc114 => ?_)
    · replace hm := zif_f hc114 hm
      exact r_Huts_read_136 X a0 a1 x2 x3 x4 x5 x6 x7 h k38 hk38 hm hI (lv_sub hl [0, 1, 2, 3, 4, 5, 6, 7] rfl)
    · replace hm := zif_t hc114 hm
      refine lv_iinc (v := (x3 + (1 : Int32))) (lv' := [(3, .int (x3 + (1 : Int32))), (0, .ref (G.1 a0)), (1, .ref (G.1 a1)), (2, .int x2), (4, .int x4), (5, .int x5), (6, .int x6), (7, .int x7)]) hx hb d_Huts_read_117 hl (k := 3) rfl rfl (by decide) rfl (fun ls hl => ?_)
      refine lv_aload_n hx hb d_Huts_read_120 rfl (lv_at hl 1 rfl) ?_
      obtain ⟨v121, hv, hm⟩ := zbd hm
      refine z_getR X hI F_Huts_16 hv d_Huts_read_121 ?_
      refine lv_aload_n hx hb d_Huts_read_124 rfl (lv_at hl 1 rfl) ?_
      obtain ⟨v125, hv, hm⟩ := zbd hm
      refine z_getI X hI F_Huts_23 hv d_Huts_read_125 ?_
      obtain ⟨v128, hv, hm⟩ := zbd hm
      refine z_aald X hI 5 (.array .int) rfl rfl hv d_Huts_read_128 ?_
      refine lv_iload_n hx hb d_Huts_read_129 rfl (lv_at hl 0 rfl) ?_
      refine lv_iload hx hb d_Huts_read_130 (lv_at hl 4 rfl) ?_
      obtain ⟨h132, hv, hm⟩ := zbd hm
      refine z_iast X hI hv d_Huts_read_132 (fun H locs hI => ?_)
      refine lv_goto (tgt := 168) hx hb d_Huts_read_133 (by decide) ?_
      refine lv_iinc (v := (x6 + (1 : Int32))) (lv' := [(6, .int (x6 + (1 : Int32))), (3, .int (x3 + (1 : Int32))), (0, .ref (G.1 a0)), (1, .ref (G.1 a1)), (2, .int x2), (4, .int x4), (5, .int x5), (7, .int x7)]) hx hb d_Huts_read_168 hl (k := 6) rfl rfl (by decide) rfl (fun ls hl => ?_)
      refine lv_goto (tgt := 38) hx hb d_Huts_read_171 (by decide) ?_
      exact hk38 ((x3 + (1 : Int32)), x4, x5, (x6 + (1 : Int32)), h132) hm _ _ _ hI (lv_sub hl [2, 3, 4, 1, 5, 6, 0] rfl)
set_option maxHeartbeats 4000000 in
set_option maxRecDepth 100000 in
theorem r_Huts_read_38_b {p : Program} {l : Launch} {e : Env} {s : State} {m : MethodId} {args : Array Value} {below : List Frame} {meth : Method} {c : Code} {G : zG} {K : Nat} (X : zX p s m args meth c "AllHome$Huts" prog_3_method_7_code 9 (some .int) G (zA G K)) {r : Int32} {h' : zH} (a0 : Nat) (a1 : Nat) (x2 : Int32) (k38 : (Int32 × Int32 × Int32 × Int32 × zH) → Option (Int32 × zH)) (hk38 : ∀ (w : Int32 × Int32 × Int32 × Int32 × zH), k38 w = some (r, h') → ∀ (H : Heap) (locs : List Loc) (ls : Array Slot), zI G K s (zA G K) H locs w.2.2.2.2 → lv_has ls 9 [(0, .ref (G.1 a0)), (1, .ref (G.1 a1)), (2, .int x2), (3, .int w.1), (4, .int w.2.1), (5, .int w.2.2.1), (6, .int w.2.2.2.1)] → W p l e (zR 2) s m args below meth c H locs 0 0 (MQ below (zQi G K r h') args s 0 0 (zA G K)) (F0 m 38 ls [])) (u : Int32 × Int32 × Int32 × Int32 × zH) (hm : g_Huts_read_38 a0 a1 x2 k38 u = some (r, h')) {H : Heap} {locs : List Loc} {ls : Array Slot} (hI : zI G K s (zA G K) H locs u.2.2.2.2) (hl : lv_has ls 9 [(0, .ref (G.1 a0)), (1, .ref (G.1 a1)), (2, .int x2), (3, .int u.1), (4, .int u.2.1), (5, .int u.2.2.1), (6, .int u.2.2.2.1)]) : W p l e (zR 2) s m args below meth c H locs 0 0 (MQ below (zQi G K r h') args s 0 0 (zA G K)) (F0 m 38 ls []) := by
  obtain ⟨hx, hb, hml, hown, hts, hr, hlocks, hK, hST, hNs⟩ := id X
  unfold g_Huts_read_38 at hm
  refine lv_iload hx hb d_Huts_read_38 (lv_at hl 6 rfl) ?_
  refine lv_iload_n hx hb d_Huts_read_40 rfl (lv_at hl 2 rfl) ?_
  refine lv_icmp_ge (tgt := 174) hx hb d_Huts_read_41 (by decide) (fun hc41 => ?_) (fun hc41 => ?_)
  · replace hm := zif_t hc41 hm
    refine lv_iload hx hb d_Huts_read_174 (lv_at hl 5 rfl) ?_
    refine lv_if_eq (tgt := 181) hx hb d_Huts_read_176 (by decide) (fun hc176 => ?_) (fun hc176 => ?_)
    · replace hm := zif_t hc176 hm
      refine lv_aload_n hx hb d_Huts_read_181 rfl (lv_at hl 0 rfl) ?_
      obtain ⟨v182, hv, hm⟩ := zbd hm
      refine z_getR X hI F_Huts_16 hv d_Huts_read_182 ?_
      refine lv_aload_n hx hb d_Huts_read_185 rfl (lv_at hl 0 rfl) ?_
      obtain ⟨v186, hv, hm⟩ := zbd hm
      refine z_getI X hI F_Huts_23 hv d_Huts_read_186 ?_
      obtain ⟨v189, hv, hm⟩ := zbd hm
      refine z_aald X hI 5 (.array .int) rfl rfl hv d_Huts_read_189 ?_
      refine lv_iload_n hx hb d_Huts_read_190 rfl (lv_at hl 3 rfl) ?_
      refine lv_iconst (v := 1) hx hb d_Huts_read_191 (by decide) ?_
      refine lv_iadd hx hb d_Huts_read_192 ?_
      refine lv_iload hx hb d_Huts_read_193 (lv_at hl 4 rfl) ?_
      obtain ⟨h195, hv, hm⟩ := zbd hm
      refine z_iast X hI hv d_Huts_read_195 (fun H locs hI => ?_)
      refine lv_aload_n hx hb d_Huts_read_196 rfl (lv_at hl 0 rfl) ?_
      obtain ⟨v197, hv, hm⟩ := zbd hm
      refine z_getR X hI F_Huts_19 hv d_Huts_read_197 ?_
      refine lv_aload_n hx hb d_Huts_read_200 rfl (lv_at hl 0 rfl) ?_
      obtain ⟨v201, hv, hm⟩ := zbd hm
      refine z_getI X hI F_Huts_23 hv d_Huts_read_201 ?_
      refine lv_iload_n hx hb d_Huts_read_204 rfl (lv_at hl 3 rfl) ?_
      refine lv_iconst (v := 1) hx hb d_Huts_read_205 (by decide) ?_
      refine lv_iadd hx hb d_Huts_read_206 ?_
      obtain ⟨h207, hv, hm⟩ := zbd hm
      refine z_iast X hI hv d_Huts_read_207 (fun H locs hI => ?_)
      refine lv_aload_n hx hb d_Huts_read_208 rfl (lv_at hl 0 rfl) ?_
      refine lv_dup hx hb d_Huts_read_209 rfl ?_
      obtain ⟨v210, hv, hm⟩ := zbd hm
      refine z_getI X hI F_Huts_23 hv d_Huts_read_210 ?_
      refine lv_iconst (v := 1) hx hb d_Huts_read_213 (by decide) ?_
      refine lv_iadd hx hb d_Huts_read_214 ?_
      obtain ⟨h215, hv, hm⟩ := zbd hm
      refine z_putI X hI P_Huts_23 hv d_Huts_read_215 (fun H locs hI => ?_)
      refine lv_iconst (v := -1) hx hb d_Huts_read_218 (by decide) ?_
      obtain ⟨rfl, rfl⟩ := zs2 hm
      exact z_iret X hI d_Huts_read_219
    · replace hm := zif_f hc176 hm
      refine lv_iload_n hx hb d_Huts_read_179 rfl (lv_at hl 2 rfl) ?_
      obtain ⟨rfl, rfl⟩ := zs2 hm
      exact z_iret X hI d_Huts_read_180
  · replace hm := zif_f hc41 hm
    refine lv_aload_n hx hb d_Huts_read_44 rfl (lv_at hl 1 rfl) ?_
    refine lv_iload hx hb d_Huts_read_45 (lv_at hl 6 rfl) ?_
    obtain ⟨v47, hv, hm⟩ := zbd hm
    refine z_iald X hI hv d_Huts_read_47 ?_
    refine lv_istore (lv' := [(7, .int v47), (0, .ref (G.1 a0)), (1, .ref (G.1 a1)), (2, .int x2), (3, .int u.1), (4, .int u.2.1), (5, .int u.2.2.1), (6, .int u.2.2.2.1)]) hx hb d_Huts_read_48 hl (by decide) rfl (fun ls hl => ?_)
    refine lv_iload hx hb d_Huts_read_50 (lv_at hl 0 rfl) ?_
    refine lv_bipush (v := 97) hx hb d_Huts_read_52 (by decide) ?_
    refine lv_isub hx hb d_Huts_read_54 ?_
    refine lv_istore (lv' := [(8, .int (v47 - (97 : Int32))), (7, .int v47), (0, .ref (G.1 a0)), (1, .ref (G.1 a1)), (2, .int x2), (3, .int u.1), (4, .int u.2.1), (5, .int u.2.2.1), (6, .int u.2.2.2.1)]) hx hb d_Huts_read_55 hl (by decide) rfl (fun ls hl => ?_)
    refine lv_iload hx hb d_Huts_read_57 (lv_at hl 0 rfl) ?_
    refine lv_if_lt (tgt := 105) hx hb d_Huts_read_59 (by decide) (fun hc59 => ?_) (fun hc59 => ?_)
    · replace hm := zif_t hc59 hm
      exact r_Huts_read_105 X a0 a1 x2 u.1 u.2.1 u.2.2.1 u.2.2.2.1 v47 u.2.2.2.2 k38 hk38 hm hI (lv_sub hl [2, 3, 4, 5, 6, 7, 8, 1] rfl)
    · replace hm := zif_f hc59 hm
      refine lv_iload hx hb d_Huts_read_62 (lv_at hl 0 rfl) ?_
      refine lv_bipush (v := 6) hx hb d_Huts_read_64 (by decide) ?_
      refine lv_icmp_ge (tgt := 105) hx hb d_Huts_read_66 (by decide) (fun hc66 => ?_) (fun hc66 => ?_)
      · replace hm := zif_t hc66 hm
        exact r_Huts_read_105 X a0 a1 x2 u.1 u.2.1 u.2.2.1 u.2.2.2.1 v47 u.2.2.2.2 k38 hk38 hm hI (lv_sub hl [2, 3, 4, 5, 6, 7, 8, 1] rfl)
      · replace hm := zif_f hc66 hm
        refine lv_iload hx hb d_Huts_read_69 (lv_at hl 0 rfl) ?_
        refine lv_aload_n hx hb d_Huts_read_71 rfl (lv_at hl 2 rfl) ?_
        obtain ⟨v72, hv, hm⟩ := zbd hm
        refine z_getI X hI F_Huts_23 hv d_Huts_read_72 ?_
        refine lv_icmp_eq (tgt := 105) hx hb d_Huts_read_75 (by decide) (fun hc75 => ?_) (fun hc75 => ?_)
        · replace hm := zif_t hc75 hm
          exact r_Huts_read_105 X a0 a1 x2 u.1 u.2.1 u.2.2.1 u.2.2.2.1 v47 u.2.2.2.2 k38 hk38 hm hI (lv_sub hl [2, 3, 4, 5, 6, 7, 8, 1] rfl)
        · replace hm := zif_f hc75 hm
          refine lv_aload_n hx hb d_Huts_read_78 rfl (lv_at hl 2 rfl) ?_
          refine lv_iload hx hb d_Huts_read_79 (lv_at hl 6 rfl) ?_
          refine lv_iload hx hb d_Huts_read_81 (lv_at hl 0 rfl) ?_
          refine lv_iload hx hb d_Huts_read_83 (lv_at hl 7 rfl) ?_
          refine lv_if_ne (tgt := 92) hx hb d_Huts_read_85 (by decide) (fun hc85 => ?_) (fun hc85 => ?_)
          · replace hm := zif_f hc85 hm
            refine lv_iload hx hb d_Huts_read_92 (lv_at hl 7 rfl) ?_
            obtain ⟨v94, h94, hv, hm⟩ := zb2_at hm
            obtain ⟨hq, hv⟩ := zcv_at hv
            refine z_ci hI (z_runV (As := [.int u.2.1, .int (v47 - (97 : Int32)), .int u.2.2.1]) (rest := []) X hI hl.1 (c_Huts_addWords l G K a0 u.2.1 (v47 - (97 : Int32)) u.2.2.1 u.2.2.2.2 _ _ hv) C_Huts_31 rfl hq (Nat.le_of_ble_eq_true rfl) ⟨Nat.le_of_ble_eq_true rfl, Nat.le_of_ble_eq_true rfl, Nat.zero_le _, Nat.zero_le _⟩ rfl d_Huts_read_94) (fun H locs hI => ?_)
            refine lv_istore (lv' := [(4, .int v94), (8, .int (v47 - (97 : Int32))), (7, .int v47), (0, .ref (G.1 a0)), (1, .ref (G.1 a1)), (2, .int x2), (3, .int u.1), (5, .int u.2.2.1), (6, .int u.2.2.2.1)]) hx hb d_Huts_read_97 hl (by decide) rfl (fun ls hl => ?_)
            refine lv_iconst (v := 0) hx hb d_Huts_read_99 (by decide) ?_
            refine lv_istore (lv' := [(5, .int (0 : Int32)), (4, .int v94), (8, .int (v47 - (97 : Int32))), (7, .int v47), (0, .ref (G.1 a0)), (1, .ref (G.1 a1)), (2, .int x2), (3, .int u.1), (6, .int u.2.2.2.1)]) hx hb d_Huts_read_100 hl (by decide) rfl (fun ls hl => ?_)
            refine lv_goto (tgt := 168) hx hb d_Huts_read_102 (by decide) ?_
            refine lv_iinc (v := (u.2.2.2.1 + (1 : Int32))) (lv' := [(6, .int (u.2.2.2.1 + (1 : Int32))), (5, .int (0 : Int32)), (4, .int v94), (8, .int (v47 - (97 : Int32))), (7, .int v47), (0, .ref (G.1 a0)), (1, .ref (G.1 a1)), (2, .int x2), (3, .int u.1)]) hx hb d_Huts_read_168 hl (k := 8) rfl rfl (by decide) rfl (fun ls hl => ?_)
            refine lv_goto (tgt := 38) hx hb d_Huts_read_171 (by decide) ?_
            exact hk38 (u.1, v94, (0 : Int32), (u.2.2.2.1 + (1 : Int32)), h94) hm _ _ _ hI (lv_sub hl [5, 6, 7, 8, 2, 1, 0] rfl)
          · replace hm := zif_t hc85 hm
            refine lv_iconst (v := 1) hx hb d_Huts_read_88 (by decide) ?_
            refine lv_goto (tgt := 94) hx hb d_Huts_read_89 (by decide) ?_
            obtain ⟨v94, h94, hv, hm⟩ := zb2_at hm
            obtain ⟨hq, hv⟩ := zcv_at hv
            refine z_ci hI (z_runV (As := [.int u.2.1, .int (v47 - (97 : Int32)), .int (1 : Int32)]) (rest := []) X hI hl.1 (c_Huts_addWords l G K a0 u.2.1 (v47 - (97 : Int32)) (1 : Int32) u.2.2.2.2 _ _ hv) C_Huts_31 rfl hq (Nat.le_of_ble_eq_true rfl) ⟨Nat.le_of_ble_eq_true rfl, Nat.le_of_ble_eq_true rfl, Nat.zero_le _, Nat.zero_le _⟩ rfl d_Huts_read_94) (fun H locs hI => ?_)
            refine lv_istore (lv' := [(4, .int v94), (8, .int (v47 - (97 : Int32))), (7, .int v47), (0, .ref (G.1 a0)), (1, .ref (G.1 a1)), (2, .int x2), (3, .int u.1), (5, .int u.2.2.1), (6, .int u.2.2.2.1)]) hx hb d_Huts_read_97 hl (by decide) rfl (fun ls hl => ?_)
            refine lv_iconst (v := 0) hx hb d_Huts_read_99 (by decide) ?_
            refine lv_istore (lv' := [(5, .int (0 : Int32)), (4, .int v94), (8, .int (v47 - (97 : Int32))), (7, .int v47), (0, .ref (G.1 a0)), (1, .ref (G.1 a1)), (2, .int x2), (3, .int u.1), (6, .int u.2.2.2.1)]) hx hb d_Huts_read_100 hl (by decide) rfl (fun ls hl => ?_)
            refine lv_goto (tgt := 168) hx hb d_Huts_read_102 (by decide) ?_
            refine lv_iinc (v := (u.2.2.2.1 + (1 : Int32))) (lv' := [(6, .int (u.2.2.2.1 + (1 : Int32))), (5, .int (0 : Int32)), (4, .int v94), (8, .int (v47 - (97 : Int32))), (7, .int v47), (0, .ref (G.1 a0)), (1, .ref (G.1 a1)), (2, .int x2), (3, .int u.1)]) hx hb d_Huts_read_168 hl (k := 8) rfl rfl (by decide) rfl (fun ls hl => ?_)
            refine lv_goto (tgt := 38) hx hb d_Huts_read_171 (by decide) ?_
            exact hk38 (u.1, v94, (0 : Int32), (u.2.2.2.1 + (1 : Int32)), h94) hm _ _ _ hI (lv_sub hl [5, 6, 7, 8, 2, 1, 0] rfl)
theorem r_Huts_read_38 {p : Program} {l : Launch} {e : Env} {s : State} {m : MethodId} {args : Array Value} {below : List Frame} {meth : Method} {c : Code} {G : zG} {K : Nat} (X : zX p s m args meth c "AllHome$Huts" prog_3_method_7_code 9 (some .int) G (zA G K)) {r : Int32} {h' : zH} (a0 : Nat) (a1 : Nat) (x2 : Int32) : ∀ (n : Nat) (w : Int32 × Int32 × Int32 × Int32 × zH), zloop (g_Huts_read_38 a0 a1 x2) n w = some (r, h') → ∀ (H : Heap) (locs : List Loc) (ls : Array Slot), zI G K s (zA G K) H locs w.2.2.2.2 → lv_has ls 9 [(0, .ref (G.1 a0)), (1, .ref (G.1 a1)), (2, .int x2), (3, .int w.1), (4, .int w.2.1), (5, .int w.2.2.1), (6, .int w.2.2.2.1)] → W p l e (zR 2) s m args below meth c H locs 0 0 (MQ below (zQi G K r h') args s 0 0 (zA G K)) (F0 m 38 ls []) := by
  intro n
  induction n with
  | zero => intro w hm; cases hm
  | succ n ih => intro w hm H locs ls hI hl; exact r_Huts_read_38_b X a0 a1 x2 (zloop (g_Huts_read_38 a0 a1 x2) n) ih w hm hI hl
set_option maxHeartbeats 4000000 in
set_option maxRecDepth 100000 in
theorem r_Huts_read_0 {p : Program} {l : Launch} {e : Env} {s : State} {m : MethodId} {args : Array Value} {below : List Frame} {meth : Method} {c : Code} {G : zG} {K : Nat} (X : zX p s m args meth c "AllHome$Huts" prog_3_method_7_code 9 (some .int) G (zA G K)) {r : Int32} {h' : zH} (a0 : Nat) (a1 : Nat) (x2 : Int32) (h : zH) (hm : m_Huts_read a0 a1 x2 h = some (r, h')) {H : Heap} {locs : List Loc} {ls : Array Slot} (hI : zI G K s (zA G K) H locs h) (hl : lv_has ls 9 [(0, .ref (G.1 a0)), (1, .ref (G.1 a1)), (2, .int x2)]) : W p l e (zR 2) s m args below meth c H locs 0 0 (MQ below (zQi G K r h') args s 0 0 (zA G K)) (F0 m 0 ls []) := by
  obtain ⟨hx, hb, hml, hown, hts, hr, hlocks, hK, hST, hNs⟩ := id X
  unfold m_Huts_read at hm
  refine lv_aload_n hx hb d_Huts_read_0 rfl (lv_at hl 0 rfl) ?_
  obtain ⟨v1, hv, hm⟩ := zbd hm
  refine z_getI X hI F_Huts_23 hv d_Huts_read_1 ?_
  refine lv_bipush (v := 6) hx hb d_Huts_read_4 (by decide) ?_
  refine lv_icmp_ge (tgt := 25) hx hb d_Huts_read_6 (by decide) (fun hc6 => ?_) (fun hc6 => ?_)
  · replace hm := zif_t hc6 hm
    refine lv_iconst (v := 0) hx hb d_Huts_read_25 (by decide) ?_
    obtain ⟨rfl, rfl⟩ := zs2 hm
    exact z_iret X hI d_Huts_read_26
  · replace hm := zif_f hc6 hm
    refine lv_iload_n hx hb d_Huts_read_9 rfl (lv_at hl 2 rfl) ?_
    refine lv_if_lt (tgt := 25) hx hb d_Huts_read_10 (by decide) (fun hc10 => ?_) (fun hc10 => ?_)
    · replace hm := zif_t hc10 hm
      refine lv_iconst (v := 0) hx hb d_Huts_read_25 (by decide) ?_
      obtain ⟨rfl, rfl⟩ := zs2 hm
      exact z_iret X hI d_Huts_read_26
    · replace hm := zif_f hc10 hm
      refine lv_iload_n hx hb d_Huts_read_13 rfl (lv_at hl 2 rfl) ?_
      refine lv_bipush (v := 60) hx hb d_Huts_read_14 (by decide) ?_
      refine lv_icmp_gt (tgt := 25) hx hb d_Huts_read_16 (by decide) (fun hc16 => ?_) (fun hc16 => ?_)
      · replace hm := zif_t hc16 hm
        refine lv_iconst (v := 0) hx hb d_Huts_read_25 (by decide) ?_
        obtain ⟨rfl, rfl⟩ := zs2 hm
        exact z_iret X hI d_Huts_read_26
      · replace hm := zif_f hc16 hm
        refine lv_iload_n hx hb d_Huts_read_19 rfl (lv_at hl 2 rfl) ?_
        refine lv_aload_n hx hb d_Huts_read_20 rfl (lv_at hl 1 rfl) ?_
        obtain ⟨v21, hv, hm⟩ := zbd hm
        refine z_alen X hI hv d_Huts_read_21 ?_
        refine lv_icmp_le (tgt := 27) hx hb d_Huts_read_22 (by decide) (fun hc22 => ?_) (fun hc22 => ?_)
        · replace hm := zif_t hc22 hm
          refine lv_iconst (v := 0) hx hb d_Huts_read_27 (by decide) ?_
          refine lv_istore_n (lv' := [(3, .int (0 : Int32)), (0, .ref (G.1 a0)), (1, .ref (G.1 a1)), (2, .int x2)]) hx hb d_Huts_read_28 rfl hl (by decide) rfl (fun ls hl => ?_)
          refine lv_iconst (v := 0) hx hb d_Huts_read_29 (by decide) ?_
          refine lv_istore (lv' := [(4, .int (0 : Int32)), (3, .int (0 : Int32)), (0, .ref (G.1 a0)), (1, .ref (G.1 a1)), (2, .int x2)]) hx hb d_Huts_read_30 hl (by decide) rfl (fun ls hl => ?_)
          refine lv_iconst (v := 0) hx hb d_Huts_read_32 (by decide) ?_
          refine lv_istore (lv' := [(5, .int (0 : Int32)), (4, .int (0 : Int32)), (3, .int (0 : Int32)), (0, .ref (G.1 a0)), (1, .ref (G.1 a1)), (2, .int x2)]) hx hb d_Huts_read_33 hl (by decide) rfl (fun ls hl => ?_)
          refine lv_iconst (v := 0) hx hb d_Huts_read_35 (by decide) ?_
          refine lv_istore (lv' := [(6, .int (0 : Int32)), (5, .int (0 : Int32)), (4, .int (0 : Int32)), (3, .int (0 : Int32)), (0, .ref (G.1 a0)), (1, .ref (G.1 a1)), (2, .int x2)]) hx hb d_Huts_read_36 hl (by decide) rfl (fun ls hl => ?_)
          exact r_Huts_read_38 X a0 a1 x2 zN ((0 : Int32), (0 : Int32), (0 : Int32), (0 : Int32), h) hm _ _ _ hI (lv_sub hl [4, 5, 6, 3, 2, 1, 0] rfl)
        · replace hm := zif_f hc22 hm
          refine lv_iconst (v := 0) hx hb d_Huts_read_25 (by decide) ?_
          obtain ⟨rfl, rfl⟩ := zs2 hm
          exact z_iret X hI d_Huts_read_26
set_option maxHeartbeats 4000000 in
set_option maxRecDepth 100000 in
theorem c_Huts_read (l : Launch) (G : zG) (K : Nat) (a0 : Nat) (a1 : Nat) (x2 : Int32) (h : zH) (r : Int32) (h' : zH) (hm : m_Huts_read a0 a1 x2 h = some (r, h')) : zMi l G K y_Huts_read prog_3_method_7_code 9 2 [.ref (G.1 a0), .ref (G.1 a1), .int x2] h r h' := zMet (by decide +kernel) (Nat.le_of_ble_eq_true rfl) (fun p e s m below meth c ls X hI hl => r_Huts_read_0 X a0 a1 x2 h hm hI hl)
-- walk of AllHome$Orders.forget
theorem d_Orders_forget_0 : decode prog_4_method_2_code 0 = .ok (.aload_n 0, 1) := by decide +kernel
theorem d_Orders_forget_1 : decode prog_4_method_2_code 1 = .ok (.iconst (-1), 1) := by decide +kernel
theorem d_Orders_forget_2 : decode prog_4_method_2_code 2 = .ok (.putfield 42, 3) := by decide +kernel
theorem d_Orders_forget_5 : decode prog_4_method_2_code 5 = .ok (.return_, 1) := by decide +kernel
set_option maxHeartbeats 4000000 in
set_option maxRecDepth 100000 in
theorem r_Orders_forget_0 {p : Program} {l : Launch} {e : Env} {s : State} {m : MethodId} {args : Array Value} {below : List Frame} {meth : Method} {c : Code} {G : zG} {K : Nat} (X : zX p s m args meth c "AllHome$Orders" prog_4_method_2_code 1 none G (zA G K)) {h' : zH} (a0 : Nat) (h : zH) (hm : m_Orders_forget a0 h = some h') {H : Heap} {locs : List Loc} {ls : Array Slot} (hI : zI G K s (zA G K) H locs h) (hl : lv_has ls 1 [(0, .ref (G.1 a0))]) : W p l e (zR 0) s m args below meth c H locs 0 0 (MQ below (zQv G K h') args s 0 0 (zA G K)) (F0 m 0 ls []) := by
  obtain ⟨hx, hb, hml, hown, hts, hr, hlocks, hK, hST, hNs⟩ := id X
  unfold m_Orders_forget at hm
  refine lv_aload_n hx hb d_Orders_forget_0 rfl (lv_at hl 0 rfl) ?_
  refine lv_iconst (v := -1) hx hb d_Orders_forget_1 (by decide) ?_
  obtain ⟨h2, hv, hm⟩ := zbd hm
  refine z_putI X hI P_Orders_42 hv d_Orders_forget_2 (fun H locs hI => ?_)
  obtain rfl := zs1 hm
  exact z_vret X hI d_Orders_forget_5
set_option maxHeartbeats 4000000 in
set_option maxRecDepth 100000 in
theorem c_Orders_forget (l : Launch) (G : zG) (K : Nat) (a0 : Nat) (h : zH) (h' : zH) (hm : m_Orders_forget a0 h = some h') : zMv l G K y_Orders_forget prog_4_method_2_code 1 0 [.ref (G.1 a0)] h h' := zMet (by decide +kernel) (Nat.le_of_ble_eq_true rfl) (fun p e s m below meth c ls X hI hl => r_Orders_forget_0 X a0 h hm hI hl)
-- walk of AllHome.hut
theorem d_Home_hut_0 : decode prog_1_method_3_code 0 = .ok (.aload_n 0, 1) := by decide +kernel
theorem d_Home_hut_1 : decode prog_1_method_3_code 1 = .ok (.getfield 63, 3) := by decide +kernel
theorem d_Home_hut_4 : decode prog_1_method_3_code 4 = .ok (.ifCond .le 6, 3) := by decide +kernel
theorem d_Home_hut_7 : decode prog_1_method_3_code 7 = .ok (.bipush (-5), 2) := by decide +kernel
theorem d_Home_hut_9 : decode prog_1_method_3_code 9 = .ok (.ireturn, 1) := by decide +kernel
theorem d_Home_hut_10 : decode prog_1_method_3_code 10 = .ok (.aload_n 0, 1) := by decide +kernel
theorem d_Home_hut_11 : decode prog_1_method_3_code 11 = .ok (.getfield 16, 3) := by decide +kernel
theorem d_Home_hut_14 : decode prog_1_method_3_code 14 = .ok (.invokevirtual 66, 3) := by decide +kernel
theorem d_Home_hut_17 : decode prog_1_method_3_code 17 = .ok (.bipush 6, 2) := by decide +kernel
theorem d_Home_hut_19 : decode prog_1_method_3_code 19 = .ok (.if_icmp .lt 6, 3) := by decide +kernel
theorem d_Home_hut_22 : decode prog_1_method_3_code 22 = .ok (.bipush (-3), 2) := by decide +kernel
theorem d_Home_hut_24 : decode prog_1_method_3_code 24 = .ok (.ireturn, 1) := by decide +kernel
theorem d_Home_hut_25 : decode prog_1_method_3_code 25 = .ok (.aload_n 0, 1) := by decide +kernel
theorem d_Home_hut_26 : decode prog_1_method_3_code 26 = .ok (.getfield 16, 3) := by decide +kernel
theorem d_Home_hut_29 : decode prog_1_method_3_code 29 = .ok (.aload_n 0, 1) := by decide +kernel
theorem d_Home_hut_30 : decode prog_1_method_3_code 30 = .ok (.getfield 9, 3) := by decide +kernel
theorem d_Home_hut_33 : decode prog_1_method_3_code 33 = .ok (.aload_n 0, 1) := by decide +kernel
theorem d_Home_hut_34 : decode prog_1_method_3_code 34 = .ok (.getfield 59, 3) := by decide +kernel
theorem d_Home_hut_37 : decode prog_1_method_3_code 37 = .ok (.invokevirtual 70, 3) := by decide +kernel
theorem d_Home_hut_40 : decode prog_1_method_3_code 40 = .ok (.istore_n 1, 1) := by decide +kernel
theorem d_Home_hut_41 : decode prog_1_method_3_code 41 = .ok (.aload_n 0, 1) := by decide +kernel
theorem d_Home_hut_42 : decode prog_1_method_3_code 42 = .ok (.iconst 0, 1) := by decide +kernel
theorem d_Home_hut_43 : decode prog_1_method_3_code 43 = .ok (.putfield 59, 3) := by decide +kernel
theorem d_Home_hut_46 : decode prog_1_method_3_code 46 = .ok (.iload_n 1, 1) := by decide +kernel
theorem d_Home_hut_47 : decode prog_1_method_3_code 47 = .ok (.iconst (-1), 1) := by decide +kernel
theorem d_Home_hut_48 : decode prog_1_method_3_code 48 = .ok (.if_icmp .eq 8, 3) := by decide +kernel
theorem d_Home_hut_51 : decode prog_1_method_3_code 51 = .ok (.bipush (-100), 2) := by decide +kernel
theorem d_Home_hut_53 : decode prog_1_method_3_code 53 = .ok (.iload_n 1, 1) := by decide +kernel
theorem d_Home_hut_54 : decode prog_1_method_3_code 54 = .ok (.isub, 1) := by decide +kernel
theorem d_Home_hut_55 : decode prog_1_method_3_code 55 = .ok (.ireturn, 1) := by decide +kernel
theorem d_Home_hut_56 : decode prog_1_method_3_code 56 = .ok (.aload_n 0, 1) := by decide +kernel
theorem d_Home_hut_57 : decode prog_1_method_3_code 57 = .ok (.getfield 37, 3) := by decide +kernel
theorem d_Home_hut_60 : decode prog_1_method_3_code 60 = .ok (.invokevirtual 74, 3) := by decide +kernel
theorem d_Home_hut_63 : decode prog_1_method_3_code 63 = .ok (.aload_n 0, 1) := by decide +kernel
theorem d_Home_hut_64 : decode prog_1_method_3_code 64 = .ok (.getfield 41, 3) := by decide +kernel
theorem d_Home_hut_67 : decode prog_1_method_3_code 67 = .ok (.invokevirtual 74, 3) := by decide +kernel
theorem d_Home_hut_70 : decode prog_1_method_3_code 70 = .ok (.aload_n 0, 1) := by decide +kernel
theorem d_Home_hut_71 : decode prog_1_method_3_code 71 = .ok (.getfield 16, 3) := by decide +kernel
theorem d_Home_hut_74 : decode prog_1_method_3_code 74 = .ok (.invokevirtual 66, 3) := by decide +kernel
theorem d_Home_hut_77 : decode prog_1_method_3_code 77 = .ok (.iconst 1, 1) := by decide +kernel
theorem d_Home_hut_78 : decode prog_1_method_3_code 78 = .ok (.isub, 1) := by decide +kernel
theorem d_Home_hut_79 : decode prog_1_method_3_code 79 = .ok (.ireturn, 1) := by decide +kernel
set_option maxHeartbeats 4000000 in
set_option maxRecDepth 100000 in
theorem r_Home_hut_0 {p : Program} {l : Launch} {e : Env} {s : State} {m : MethodId} {args : Array Value} {below : List Frame} {meth : Method} {c : Code} {G : zG} {K : Nat} (X : zX p s m args meth c "AllHome" prog_1_method_3_code 2 (some .int) G (zA G K)) {r : Int32} {h' : zH} (a0 : Nat) (h : zH) (hm : m_Home_hut a0 h = some (r, h')) {H : Heap} {locs : List Loc} {ls : Array Slot} (hI : zI G K s (zA G K) H locs h) (hl : lv_has ls 2 [(0, .ref (G.1 a0))]) : W p l e (zR 3) s m args below meth c H locs 0 0 (MQ below (zQi G K r h') args s 0 0 (zA G K)) (F0 m 0 ls []) := by
  obtain ⟨hx, hb, hml, hown, hts, hr, hlocks, hK, hST, hNs⟩ := id X
  unfold m_Home_hut at hm
  refine lv_aload_n hx hb d_Home_hut_0 rfl (lv_at hl 0 rfl) ?_
  obtain ⟨v1, hv, hm⟩ := zbd hm
  refine z_getI X hI F_Home_63 hv d_Home_hut_1 ?_
  refine lv_if_le (tgt := 10) hx hb d_Home_hut_4 (by decide) (fun hc4 => ?_) (fun hc4 => ?_)
  · replace hm := zif_t hc4 hm
    refine lv_aload_n hx hb d_Home_hut_10 rfl (lv_at hl 0 rfl) ?_
    obtain ⟨v11, hv, hm⟩ := zbd hm
    refine z_getR X hI F_Home_16 hv d_Home_hut_11 ?_
    obtain ⟨v14, hv, hm⟩ := zbd hm
    obtain ⟨hq, hv⟩ := zcv_at hv
    refine z_ci hI (z_runV (As := []) (rest := []) X hI hl.1 (c_Huts_size l G K v11 h _ hv) C_Home_66 rfl hq (Nat.le_of_ble_eq_true rfl) ⟨Nat.le_of_ble_eq_true rfl, Nat.le_of_ble_eq_true rfl, Nat.zero_le _, Nat.zero_le _⟩ rfl d_Home_hut_14) (fun H locs hI => ?_)
    refine lv_bipush (v := 6) hx hb d_Home_hut_17 (by decide) ?_
    refine lv_icmp_lt (tgt := 25) hx hb d_Home_hut_19 (by decide) (fun hc19 => ?_) (fun hc19 => ?_)
    · replace hm := zif_t hc19 hm
      refine lv_aload_n hx hb d_Home_hut_25 rfl (lv_at hl 0 rfl) ?_
      obtain ⟨v26, hv, hm⟩ := zbd hm
      refine z_getR X hI F_Home_16 hv d_Home_hut_26 ?_
      refine lv_aload_n hx hb d_Home_hut_29 rfl (lv_at hl 0 rfl) ?_
      obtain ⟨v30, hv, hm⟩ := zbd hm
      refine z_getR X hI F_Home_9 hv d_Home_hut_30 ?_
      refine lv_aload_n hx hb d_Home_hut_33 rfl (lv_at hl 0 rfl) ?_
      obtain ⟨v34, hv, hm⟩ := zbd hm
      refine z_getI X hI F_Home_59 hv d_Home_hut_34 ?_
      obtain ⟨v37, h37, hv, hm⟩ := zb2_at hm
      obtain ⟨hq, hv⟩ := zcv_at hv
      refine z_ci hI (z_runV (As := [.ref (G.1 v30), .int v34]) (rest := []) X hI hl.1 (c_Huts_read l G K v26 v30 v34 h _ _ hv) C_Home_70 rfl hq (Nat.le_of_ble_eq_true rfl) ⟨Nat.le_of_ble_eq_true rfl, Nat.le_of_ble_eq_true rfl, Nat.zero_le _, Nat.zero_le _⟩ rfl d_Home_hut_37) (fun H locs hI => ?_)
      refine lv_istore_n (lv' := [(1, .int v37), (0, .ref (G.1 a0))]) hx hb d_Home_hut_40 rfl hl (by decide) rfl (fun ls hl => ?_)
      refine lv_aload_n hx hb d_Home_hut_41 rfl (lv_at hl 1 rfl) ?_
      refine lv_iconst (v := 0) hx hb d_Home_hut_42 (by decide) ?_
      obtain ⟨h43, hv, hm⟩ := zbd hm
      refine z_putI X hI P_Home_59 hv d_Home_hut_43 (fun H locs hI => ?_)
      refine lv_iload_n hx hb d_Home_hut_46 rfl (lv_at hl 0 rfl) ?_
      refine lv_iconst (v := -1) hx hb d_Home_hut_47 (by decide) ?_
      refine lv_icmp_eq (tgt := 56) hx hb d_Home_hut_48 (by decide) (fun hc48 => ?_) (fun hc48 => ?_)
      · replace hm := zif_t hc48 hm
        refine lv_aload_n hx hb d_Home_hut_56 rfl (lv_at hl 1 rfl) ?_
        obtain ⟨v57, hv, hm⟩ := zbd hm
        refine z_getR X hI F_Home_37 hv d_Home_hut_57 ?_
        obtain ⟨h60, hv, hm⟩ := zbd hm
        obtain ⟨hq, hv⟩ := zcv_at hv
        refine z_cv hI (z_runV (As := []) (rest := []) X hI hl.1 (c_Orders_forget l G K v57 h43 _ hv) C_Home_74 rfl hq (Nat.le_of_ble_eq_true rfl) ⟨Nat.le_of_ble_eq_true rfl, Nat.le_of_ble_eq_true rfl, Nat.zero_le _, Nat.zero_le _⟩ rfl d_Home_hut_60) (fun H locs hI => ?_)
        refine lv_aload_n hx hb d_Home_hut_63 rfl (lv_at hl 1 rfl) ?_
        obtain ⟨v64, hv, hm⟩ := zbd hm
        refine z_getR X hI F_Home_41 hv d_Home_hut_64 ?_
        obtain ⟨h67, hv, hm⟩ := zbd hm
        obtain ⟨hq, hv⟩ := zcv_at hv
        refine z_cv hI (z_runV (As := []) (rest := []) X hI hl.1 (c_Orders_forget l G K v64 h60 _ hv) C_Home_74 rfl hq (Nat.le_of_ble_eq_true rfl) ⟨Nat.le_of_ble_eq_true rfl, Nat.le_of_ble_eq_true rfl, Nat.zero_le _, Nat.zero_le _⟩ rfl d_Home_hut_67) (fun H locs hI => ?_)
        refine lv_aload_n hx hb d_Home_hut_70 rfl (lv_at hl 1 rfl) ?_
        obtain ⟨v71, hv, hm⟩ := zbd hm
        refine z_getR X hI F_Home_16 hv d_Home_hut_71 ?_
        obtain ⟨v74, hv, hm⟩ := zbd hm
        obtain ⟨hq, hv⟩ := zcv_at hv
        refine z_ci hI (z_runV (As := []) (rest := []) X hI hl.1 (c_Huts_size l G K v71 h67 _ hv) C_Home_66 rfl hq (Nat.le_of_ble_eq_true rfl) ⟨Nat.le_of_ble_eq_true rfl, Nat.le_of_ble_eq_true rfl, Nat.zero_le _, Nat.zero_le _⟩ rfl d_Home_hut_74) (fun H locs hI => ?_)
        refine lv_iconst (v := 1) hx hb d_Home_hut_77 (by decide) ?_
        refine lv_isub hx hb d_Home_hut_78 ?_
        obtain ⟨rfl, rfl⟩ := zs2 hm
        exact z_iret X hI d_Home_hut_79
      · replace hm := zif_f hc48 hm
        refine lv_bipush (v := -100) hx hb d_Home_hut_51 (by decide) ?_
        refine lv_iload_n hx hb d_Home_hut_53 rfl (lv_at hl 0 rfl) ?_
        refine lv_isub hx hb d_Home_hut_54 ?_
        obtain ⟨rfl, rfl⟩ := zs2 hm
        exact z_iret X hI d_Home_hut_55
    · replace hm := zif_f hc19 hm
      refine lv_bipush (v := -3) hx hb d_Home_hut_22 (by decide) ?_
      obtain ⟨rfl, rfl⟩ := zs2 hm
      exact z_iret X hI d_Home_hut_24
  · replace hm := zif_f hc4 hm
    refine lv_bipush (v := -5) hx hb d_Home_hut_7 (by decide) ?_
    obtain ⟨rfl, rfl⟩ := zs2 hm
    exact z_iret X hI d_Home_hut_9
set_option maxHeartbeats 4000000 in
set_option maxRecDepth 100000 in
theorem c_Home_hut (l : Launch) (G : zG) (K : Nat) (a0 : Nat) (h : zH) (r : Int32) (h' : zH) (hm : m_Home_hut a0 h = some (r, h')) : zMi l G K y_Home_hut prog_1_method_3_code 2 3 [.ref (G.1 a0)] h r h' := zMet (by decide +kernel) (Nat.le_of_ble_eq_true rfl) (fun p e s m below meth c ls X hI hl => r_Home_hut_0 X a0 h hm hI hl)
-- walk of AllHome$Huts.has
theorem d_Huts_has_0 : decode prog_3_method_3_code 0 = .ok (.iload_n 1, 1) := by decide +kernel
theorem d_Huts_has_1 : decode prog_3_method_3_code 1 = .ok (.ifCond .lt 15, 3) := by decide +kernel
theorem d_Huts_has_4 : decode prog_3_method_3_code 4 = .ok (.iload_n 1, 1) := by decide +kernel
theorem d_Huts_has_5 : decode prog_3_method_3_code 5 = .ok (.aload_n 0, 1) := by decide +kernel
theorem d_Huts_has_6 : decode prog_3_method_3_code 6 = .ok (.getfield 23, 3) := by decide +kernel
theorem d_Huts_has_9 : decode prog_3_method_3_code 9 = .ok (.if_icmp .ge 7, 3) := by decide +kernel
theorem d_Huts_has_12 : decode prog_3_method_3_code 12 = .ok (.iconst 1, 1) := by decide +kernel
theorem d_Huts_has_13 : decode prog_3_method_3_code 13 = .ok (.goto 4, 3) := by decide +kernel
theorem d_Huts_has_16 : decode prog_3_method_3_code 16 = .ok (.iconst 0, 1) := by decide +kernel
theorem d_Huts_has_17 : decode prog_3_method_3_code 17 = .ok (.ireturn, 1) := by decide +kernel
set_option maxHeartbeats 4000000 in
set_option maxRecDepth 100000 in
theorem r_Huts_has_0 {p : Program} {l : Launch} {e : Env} {s : State} {m : MethodId} {args : Array Value} {below : List Frame} {meth : Method} {c : Code} {G : zG} {K : Nat} (X : zX p s m args meth c "AllHome$Huts" prog_3_method_3_code 2 (some .boolean) G (zA G K)) {r : Int32} (a0 : Nat) (x1 : Int32) (h : zH) (hm : m_Huts_has a0 x1 h = some r) {H : Heap} {locs : List Loc} {ls : Array Slot} (hI : zI G K s (zA G K) H locs h) (hl : lv_has ls 2 [(0, .ref (G.1 a0)), (1, .int x1)]) : W p l e (zR 0) s m args below meth c H locs 0 0 (MQ below (zQi G K r h) args s 0 0 (zA G K)) (F0 m 0 ls []) := by
  obtain ⟨hx, hb, hml, hown, hts, hr, hlocks, hK, hST, hNs⟩ := id X
  unfold m_Huts_has at hm
  refine lv_iload_n hx hb d_Huts_has_0 rfl (lv_at hl 1 rfl) ?_
  refine lv_if_lt (tgt := 16) hx hb d_Huts_has_1 (by decide) (fun hc1 => ?_) (fun hc1 => ?_)
  · replace hm := zif_t hc1 hm
    refine lv_iconst (v := 0) hx hb d_Huts_has_16 (by decide) ?_
    obtain rfl := zs1 hm
    exact z_zret X hI (by decide) d_Huts_has_17
  · replace hm := zif_f hc1 hm
    refine lv_iload_n hx hb d_Huts_has_4 rfl (lv_at hl 1 rfl) ?_
    refine lv_aload_n hx hb d_Huts_has_5 rfl (lv_at hl 0 rfl) ?_
    obtain ⟨v6, hv, hm⟩ := zbd hm
    refine z_getI X hI F_Huts_23 hv d_Huts_has_6 ?_
    refine lv_icmp_ge (tgt := 16) hx hb d_Huts_has_9 (by decide) (fun hc9 => ?_) (fun hc9 => ?_)
    · replace hm := zif_t hc9 hm
      refine lv_iconst (v := 0) hx hb d_Huts_has_16 (by decide) ?_
      obtain rfl := zs1 hm
      exact z_zret X hI (by decide) d_Huts_has_17
    · replace hm := zif_f hc9 hm
      refine lv_iconst (v := 1) hx hb d_Huts_has_12 (by decide) ?_
      refine lv_goto (tgt := 17) hx hb d_Huts_has_13 (by decide) ?_
      obtain rfl := zs1 hm
      exact z_zret X hI (by decide) d_Huts_has_17
set_option maxHeartbeats 4000000 in
set_option maxRecDepth 100000 in
theorem c_Huts_has (l : Launch) (G : zG) (K : Nat) (a0 : Nat) (x1 : Int32) (h : zH) (r : Int32) (hm : m_Huts_has a0 x1 h = some r) : zMz l G K y_Huts_has prog_3_method_3_code 2 0 [.ref (G.1 a0), .int x1] h r h := zMet (by decide +kernel) (Nat.le_of_ble_eq_true rfl) (fun p e s m below meth c ls X hI hl => r_Huts_has_0 X a0 x1 h hm hI hl)
-- walk of AllHome$Huts.linesOf
theorem d_Huts_linesOf_0 : decode prog_3_method_4_code 0 = .ok (.aload_n 0, 1) := by decide +kernel
theorem d_Huts_linesOf_1 : decode prog_3_method_4_code 1 = .ok (.iload_n 1, 1) := by decide +kernel
theorem d_Huts_linesOf_2 : decode prog_3_method_4_code 2 = .ok (.invokevirtual 27, 3) := by decide +kernel
theorem d_Huts_linesOf_5 : decode prog_3_method_4_code 5 = .ok (.ifCond .eq 12, 3) := by decide +kernel
theorem d_Huts_linesOf_8 : decode prog_3_method_4_code 8 = .ok (.aload_n 0, 1) := by decide +kernel
theorem d_Huts_linesOf_9 : decode prog_3_method_4_code 9 = .ok (.getfield 19, 3) := by decide +kernel
theorem d_Huts_linesOf_12 : decode prog_3_method_4_code 12 = .ok (.iload_n 1, 1) := by decide +kernel
theorem d_Huts_linesOf_13 : decode prog_3_method_4_code 13 = .ok (.iaload, 1) := by decide +kernel
theorem d_Huts_linesOf_14 : decode prog_3_method_4_code 14 = .ok (.goto 4, 3) := by decide +kernel
theorem d_Huts_linesOf_17 : decode prog_3_method_4_code 17 = .ok (.iconst 0, 1) := by decide +kernel
theorem d_Huts_linesOf_18 : decode prog_3_method_4_code 18 = .ok (.ireturn, 1) := by decide +kernel
set_option maxHeartbeats 4000000 in
set_option maxRecDepth 100000 in
theorem r_Huts_linesOf_0 {p : Program} {l : Launch} {e : Env} {s : State} {m : MethodId} {args : Array Value} {below : List Frame} {meth : Method} {c : Code} {G : zG} {K : Nat} (X : zX p s m args meth c "AllHome$Huts" prog_3_method_4_code 2 (some .int) G (zA G K)) {r : Int32} (a0 : Nat) (x1 : Int32) (h : zH) (hm : m_Huts_linesOf a0 x1 h = some r) {H : Heap} {locs : List Loc} {ls : Array Slot} (hI : zI G K s (zA G K) H locs h) (hl : lv_has ls 2 [(0, .ref (G.1 a0)), (1, .int x1)]) : W p l e (zR 1) s m args below meth c H locs 0 0 (MQ below (zQi G K r h) args s 0 0 (zA G K)) (F0 m 0 ls []) := by
  obtain ⟨hx, hb, hml, hown, hts, hr, hlocks, hK, hST, hNs⟩ := id X
  unfold m_Huts_linesOf at hm
  refine lv_aload_n hx hb d_Huts_linesOf_0 rfl (lv_at hl 0 rfl) ?_
  refine lv_iload_n hx hb d_Huts_linesOf_1 rfl (lv_at hl 1 rfl) ?_
  obtain ⟨v2, hv, hm⟩ := zbd hm
  obtain ⟨hq, hv⟩ := zcv_at hv
  refine z_ci hI (z_runV (As := [.int x1]) (rest := []) X hI hl.1 (c_Huts_has l G K a0 x1 h _ hv) C_Huts_27 rfl hq (Nat.le_of_ble_eq_true rfl) ⟨Nat.le_of_ble_eq_true rfl, Nat.le_of_ble_eq_true rfl, Nat.zero_le _, Nat.zero_le _⟩ rfl d_Huts_linesOf_2) (fun H locs hI => ?_)
  refine lv_if_eq (tgt := 17) hx hb d_Huts_linesOf_5 (by decide) (fun hc5 => ?_) (fun hc5 => ?_)
  · replace hm := zif_t hc5 hm
    refine lv_iconst (v := 0) hx hb d_Huts_linesOf_17 (by decide) ?_
    obtain rfl := zs1 hm
    exact z_iret X hI d_Huts_linesOf_18
  · replace hm := zif_f hc5 hm
    refine lv_aload_n hx hb d_Huts_linesOf_8 rfl (lv_at hl 0 rfl) ?_
    obtain ⟨v9, hv, hm⟩ := zbd hm
    refine z_getR X hI F_Huts_19 hv d_Huts_linesOf_9 ?_
    refine lv_iload_n hx hb d_Huts_linesOf_12 rfl (lv_at hl 1 rfl) ?_
    obtain ⟨v13, hv, hm⟩ := zbd hm
    refine z_iald X hI hv d_Huts_linesOf_13 ?_
    refine lv_goto (tgt := 18) hx hb d_Huts_linesOf_14 (by decide) ?_
    obtain rfl := zs1 hm
    exact z_iret X hI d_Huts_linesOf_18
set_option maxHeartbeats 4000000 in
set_option maxRecDepth 100000 in
theorem c_Huts_linesOf (l : Launch) (G : zG) (K : Nat) (a0 : Nat) (x1 : Int32) (h : zH) (r : Int32) (hm : m_Huts_linesOf a0 x1 h = some r) : zMi l G K y_Huts_linesOf prog_3_method_4_code 2 1 [.ref (G.1 a0), .int x1] h r h := zMet (by decide +kernel) (Nat.le_of_ble_eq_true rfl) (fun p e s m below meth c ls X hI hl => r_Huts_linesOf_0 X a0 x1 h hm hI hl)
-- walk of AllHome$Huts.wordsOf
theorem d_Huts_wordsOf_0 : decode prog_3_method_5_code 0 = .ok (.aload_n 0, 1) := by decide +kernel
theorem d_Huts_wordsOf_1 : decode prog_3_method_5_code 1 = .ok (.iload_n 1, 1) := by decide +kernel
theorem d_Huts_wordsOf_2 : decode prog_3_method_5_code 2 = .ok (.invokevirtual 27, 3) := by decide +kernel
theorem d_Huts_wordsOf_5 : decode prog_3_method_5_code 5 = .ok (.ifCond .eq 17, 3) := by decide +kernel
theorem d_Huts_wordsOf_8 : decode prog_3_method_5_code 8 = .ok (.iload_n 2, 1) := by decide +kernel
theorem d_Huts_wordsOf_9 : decode prog_3_method_5_code 9 = .ok (.ifCond .lt 13, 3) := by decide +kernel
theorem d_Huts_wordsOf_12 : decode prog_3_method_5_code 12 = .ok (.iload_n 2, 1) := by decide +kernel
theorem d_Huts_wordsOf_13 : decode prog_3_method_5_code 13 = .ok (.aload_n 0, 1) := by decide +kernel
theorem d_Huts_wordsOf_14 : decode prog_3_method_5_code 14 = .ok (.getfield 19, 3) := by decide +kernel
theorem d_Huts_wordsOf_17 : decode prog_3_method_5_code 17 = .ok (.iload_n 1, 1) := by decide +kernel
theorem d_Huts_wordsOf_18 : decode prog_3_method_5_code 18 = .ok (.iaload, 1) := by decide +kernel
theorem d_Huts_wordsOf_19 : decode prog_3_method_5_code 19 = .ok (.if_icmp .lt 5, 3) := by decide +kernel
theorem d_Huts_wordsOf_22 : decode prog_3_method_5_code 22 = .ok (.iconst 0, 1) := by decide +kernel
theorem d_Huts_wordsOf_23 : decode prog_3_method_5_code 23 = .ok (.ireturn, 1) := by decide +kernel
theorem d_Huts_wordsOf_24 : decode prog_3_method_5_code 24 = .ok (.aload_n 0, 1) := by decide +kernel
theorem d_Huts_wordsOf_25 : decode prog_3_method_5_code 25 = .ok (.getfield 16, 3) := by decide +kernel
theorem d_Huts_wordsOf_28 : decode prog_3_method_5_code 28 = .ok (.iload_n 1, 1) := by decide +kernel
theorem d_Huts_wordsOf_29 : decode prog_3_method_5_code 29 = .ok (.aaload, 1) := by decide +kernel
theorem d_Huts_wordsOf_30 : decode prog_3_method_5_code 30 = .ok (.iload_n 2, 1) := by decide +kernel
theorem d_Huts_wordsOf_31 : decode prog_3_method_5_code 31 = .ok (.iconst 1, 1) := by decide +kernel
theorem d_Huts_wordsOf_32 : decode prog_3_method_5_code 32 = .ok (.iadd, 1) := by decide +kernel
theorem d_Huts_wordsOf_33 : decode prog_3_method_5_code 33 = .ok (.iaload, 1) := by decide +kernel
theorem d_Huts_wordsOf_34 : decode prog_3_method_5_code 34 = .ok (.aload_n 0, 1) := by decide +kernel
theorem d_Huts_wordsOf_35 : decode prog_3_method_5_code 35 = .ok (.getfield 16, 3) := by decide +kernel
theorem d_Huts_wordsOf_38 : decode prog_3_method_5_code 38 = .ok (.iload_n 1, 1) := by decide +kernel
theorem d_Huts_wordsOf_39 : decode prog_3_method_5_code 39 = .ok (.aaload, 1) := by decide +kernel
theorem d_Huts_wordsOf_40 : decode prog_3_method_5_code 40 = .ok (.iload_n 2, 1) := by decide +kernel
theorem d_Huts_wordsOf_41 : decode prog_3_method_5_code 41 = .ok (.iaload, 1) := by decide +kernel
theorem d_Huts_wordsOf_42 : decode prog_3_method_5_code 42 = .ok (.isub, 1) := by decide +kernel
theorem d_Huts_wordsOf_43 : decode prog_3_method_5_code 43 = .ok (.ireturn, 1) := by decide +kernel
set_option maxHeartbeats 4000000 in
set_option maxRecDepth 100000 in
theorem r_Huts_wordsOf_0 {p : Program} {l : Launch} {e : Env} {s : State} {m : MethodId} {args : Array Value} {below : List Frame} {meth : Method} {c : Code} {G : zG} {K : Nat} (X : zX p s m args meth c "AllHome$Huts" prog_3_method_5_code 3 (some .int) G (zA G K)) {r : Int32} (a0 : Nat) (x1 : Int32) (x2 : Int32) (h : zH) (hm : m_Huts_wordsOf a0 x1 x2 h = some r) {H : Heap} {locs : List Loc} {ls : Array Slot} (hI : zI G K s (zA G K) H locs h) (hl : lv_has ls 3 [(0, .ref (G.1 a0)), (1, .int x1), (2, .int x2)]) : W p l e (zR 1) s m args below meth c H locs 0 0 (MQ below (zQi G K r h) args s 0 0 (zA G K)) (F0 m 0 ls []) := by
  obtain ⟨hx, hb, hml, hown, hts, hr, hlocks, hK, hST, hNs⟩ := id X
  unfold m_Huts_wordsOf at hm
  refine lv_aload_n hx hb d_Huts_wordsOf_0 rfl (lv_at hl 0 rfl) ?_
  refine lv_iload_n hx hb d_Huts_wordsOf_1 rfl (lv_at hl 1 rfl) ?_
  obtain ⟨v2, hv, hm⟩ := zbd hm
  obtain ⟨hq, hv⟩ := zcv_at hv
  refine z_ci hI (z_runV (As := [.int x1]) (rest := []) X hI hl.1 (c_Huts_has l G K a0 x1 h _ hv) C_Huts_27 rfl hq (Nat.le_of_ble_eq_true rfl) ⟨Nat.le_of_ble_eq_true rfl, Nat.le_of_ble_eq_true rfl, Nat.zero_le _, Nat.zero_le _⟩ rfl d_Huts_wordsOf_2) (fun H locs hI => ?_)
  refine lv_if_eq (tgt := 22) hx hb d_Huts_wordsOf_5 (by decide) (fun hc5 => ?_) (fun hc5 => ?_)
  · replace hm := zif_t hc5 hm
    refine lv_iconst (v := 0) hx hb d_Huts_wordsOf_22 (by decide) ?_
    obtain rfl := zs1 hm
    exact z_iret X hI d_Huts_wordsOf_23
  · replace hm := zif_f hc5 hm
    refine lv_iload_n hx hb d_Huts_wordsOf_8 rfl (lv_at hl 2 rfl) ?_
    refine lv_if_lt (tgt := 22) hx hb d_Huts_wordsOf_9 (by decide) (fun hc9 => ?_) (fun hc9 => ?_)
    · replace hm := zif_t hc9 hm
      refine lv_iconst (v := 0) hx hb d_Huts_wordsOf_22 (by decide) ?_
      obtain rfl := zs1 hm
      exact z_iret X hI d_Huts_wordsOf_23
    · replace hm := zif_f hc9 hm
      refine lv_iload_n hx hb d_Huts_wordsOf_12 rfl (lv_at hl 2 rfl) ?_
      refine lv_aload_n hx hb d_Huts_wordsOf_13 rfl (lv_at hl 0 rfl) ?_
      obtain ⟨v14, hv, hm⟩ := zbd hm
      refine z_getR X hI F_Huts_19 hv d_Huts_wordsOf_14 ?_
      refine lv_iload_n hx hb d_Huts_wordsOf_17 rfl (lv_at hl 1 rfl) ?_
      obtain ⟨v18, hv, hm⟩ := zbd hm
      refine z_iald X hI hv d_Huts_wordsOf_18 ?_
      refine lv_icmp_lt (tgt := 24) hx hb d_Huts_wordsOf_19 (by decide) (fun hc19 => ?_) (fun hc19 => ?_)
      · replace hm := zif_t hc19 hm
        refine lv_aload_n hx hb d_Huts_wordsOf_24 rfl (lv_at hl 0 rfl) ?_
        obtain ⟨v25, hv, hm⟩ := zbd hm
        refine z_getR X hI F_Huts_16 hv d_Huts_wordsOf_25 ?_
        refine lv_iload_n hx hb d_Huts_wordsOf_28 rfl (lv_at hl 1 rfl) ?_
        obtain ⟨v29, hv, hm⟩ := zbd hm
        refine z_aald X hI 5 (.array .int) rfl rfl hv d_Huts_wordsOf_29 ?_
        refine lv_iload_n hx hb d_Huts_wordsOf_30 rfl (lv_at hl 2 rfl) ?_
        refine lv_iconst (v := 1) hx hb d_Huts_wordsOf_31 (by decide) ?_
        refine lv_iadd hx hb d_Huts_wordsOf_32 ?_
        obtain ⟨v33, hv, hm⟩ := zbd hm
        refine z_iald X hI hv d_Huts_wordsOf_33 ?_
        refine lv_aload_n hx hb d_Huts_wordsOf_34 rfl (lv_at hl 0 rfl) ?_
        obtain ⟨v35, hv, hm⟩ := zbd hm
        refine z_getR X hI F_Huts_16 hv d_Huts_wordsOf_35 ?_
        refine lv_iload_n hx hb d_Huts_wordsOf_38 rfl (lv_at hl 1 rfl) ?_
        obtain ⟨v39, hv, hm⟩ := zbd hm
        refine z_aald X hI 5 (.array .int) rfl rfl hv d_Huts_wordsOf_39 ?_
        refine lv_iload_n hx hb d_Huts_wordsOf_40 rfl (lv_at hl 2 rfl) ?_
        obtain ⟨v41, hv, hm⟩ := zbd hm
        refine z_iald X hI hv d_Huts_wordsOf_41 ?_
        refine lv_isub hx hb d_Huts_wordsOf_42 ?_
        obtain rfl := zs1 hm
        exact z_iret X hI d_Huts_wordsOf_43
      · replace hm := zif_f hc19 hm
        refine lv_iconst (v := 0) hx hb d_Huts_wordsOf_22 (by decide) ?_
        obtain rfl := zs1 hm
        exact z_iret X hI d_Huts_wordsOf_23
set_option maxHeartbeats 4000000 in
set_option maxRecDepth 100000 in
theorem c_Huts_wordsOf (l : Launch) (G : zG) (K : Nat) (a0 : Nat) (x1 : Int32) (x2 : Int32) (h : zH) (r : Int32) (hm : m_Huts_wordsOf a0 x1 x2 h = some r) : zMi l G K y_Huts_wordsOf prog_3_method_5_code 3 1 [.ref (G.1 a0), .int x1, .int x2] h r h := zMet (by decide +kernel) (Nat.le_of_ble_eq_true rfl) (fun p e s m below meth c ls X hI hl => r_Huts_wordsOf_0 X a0 x1 x2 h hm hI hl)
-- walk of AllHome.line
theorem d_Home_line_0 : decode prog_1_method_4_code 0 = .ok (.aload_n 0, 1) := by decide +kernel
theorem d_Home_line_1 : decode prog_1_method_4_code 1 = .ok (.getfield 16, 3) := by decide +kernel
theorem d_Home_line_4 : decode prog_1_method_4_code 4 = .ok (.iload_n 1, 1) := by decide +kernel
theorem d_Home_line_5 : decode prog_1_method_4_code 5 = .ok (.invokevirtual 77, 3) := by decide +kernel
theorem d_Home_line_8 : decode prog_1_method_4_code 8 = .ok (.ifCond .eq 20, 3) := by decide +kernel
theorem d_Home_line_11 : decode prog_1_method_4_code 11 = .ok (.iload_n 2, 1) := by decide +kernel
theorem d_Home_line_12 : decode prog_1_method_4_code 12 = .ok (.iconst (-1), 1) := by decide +kernel
theorem d_Home_line_13 : decode prog_1_method_4_code 13 = .ok (.if_icmp .lt 15, 3) := by decide +kernel
theorem d_Home_line_16 : decode prog_1_method_4_code 16 = .ok (.iload_n 2, 1) := by decide +kernel
theorem d_Home_line_17 : decode prog_1_method_4_code 17 = .ok (.aload_n 0, 1) := by decide +kernel
theorem d_Home_line_18 : decode prog_1_method_4_code 18 = .ok (.getfield 16, 3) := by decide +kernel
theorem d_Home_line_21 : decode prog_1_method_4_code 21 = .ok (.iload_n 1, 1) := by decide +kernel
theorem d_Home_line_22 : decode prog_1_method_4_code 22 = .ok (.invokevirtual 81, 3) := by decide +kernel
theorem d_Home_line_25 : decode prog_1_method_4_code 25 = .ok (.if_icmp .lt 5, 3) := by decide +kernel
theorem d_Home_line_28 : decode prog_1_method_4_code 28 = .ok (.iconst (-1), 1) := by decide +kernel
theorem d_Home_line_29 : decode prog_1_method_4_code 29 = .ok (.ireturn, 1) := by decide +kernel
theorem d_Home_line_30 : decode prog_1_method_4_code 30 = .ok (.iload_n 2, 1) := by decide +kernel
theorem d_Home_line_31 : decode prog_1_method_4_code 31 = .ok (.iconst (-1), 1) := by decide +kernel
theorem d_Home_line_32 : decode prog_1_method_4_code 32 = .ok (.if_icmp .ne 14, 3) := by decide +kernel
theorem d_Home_line_35 : decode prog_1_method_4_code 35 = .ok (.aload_n 0, 1) := by decide +kernel
theorem d_Home_line_36 : decode prog_1_method_4_code 36 = .ok (.getfield 16, 3) := by decide +kernel
theorem d_Home_line_39 : decode prog_1_method_4_code 39 = .ok (.iload_n 1, 1) := by decide +kernel
theorem d_Home_line_40 : decode prog_1_method_4_code 40 = .ok (.invokevirtual 81, 3) := by decide +kernel
theorem d_Home_line_43 : decode prog_1_method_4_code 43 = .ok (.goto 12, 3) := by decide +kernel
theorem d_Home_line_46 : decode prog_1_method_4_code 46 = .ok (.aload_n 0, 1) := by decide +kernel
theorem d_Home_line_47 : decode prog_1_method_4_code 47 = .ok (.getfield 16, 3) := by decide +kernel
theorem d_Home_line_50 : decode prog_1_method_4_code 50 = .ok (.iload_n 1, 1) := by decide +kernel
theorem d_Home_line_51 : decode prog_1_method_4_code 51 = .ok (.iload_n 2, 1) := by decide +kernel
theorem d_Home_line_52 : decode prog_1_method_4_code 52 = .ok (.invokevirtual 85, 3) := by decide +kernel
theorem d_Home_line_55 : decode prog_1_method_4_code 55 = .ok (.ireturn, 1) := by decide +kernel
set_option maxHeartbeats 4000000 in
set_option maxRecDepth 100000 in
theorem r_Home_line_0 {p : Program} {l : Launch} {e : Env} {s : State} {m : MethodId} {args : Array Value} {below : List Frame} {meth : Method} {c : Code} {G : zG} {K : Nat} (X : zX p s m args meth c "AllHome" prog_1_method_4_code 3 (some .int) G (zA G K)) {r : Int32} (a0 : Nat) (x1 : Int32) (x2 : Int32) (h : zH) (hm : m_Home_line a0 x1 x2 h = some r) {H : Heap} {locs : List Loc} {ls : Array Slot} (hI : zI G K s (zA G K) H locs h) (hl : lv_has ls 3 [(0, .ref (G.1 a0)), (1, .int x1), (2, .int x2)]) : W p l e (zR 2) s m args below meth c H locs 0 0 (MQ below (zQi G K r h) args s 0 0 (zA G K)) (F0 m 0 ls []) := by
  obtain ⟨hx, hb, hml, hown, hts, hr, hlocks, hK, hST, hNs⟩ := id X
  unfold m_Home_line at hm
  refine lv_aload_n hx hb d_Home_line_0 rfl (lv_at hl 0 rfl) ?_
  obtain ⟨v1, hv, hm⟩ := zbd hm
  refine z_getR X hI F_Home_16 hv d_Home_line_1 ?_
  refine lv_iload_n hx hb d_Home_line_4 rfl (lv_at hl 1 rfl) ?_
  obtain ⟨v5, hv, hm⟩ := zbd hm
  obtain ⟨hq, hv⟩ := zcv_at hv
  refine z_ci hI (z_runV (As := [.int x1]) (rest := []) X hI hl.1 (c_Huts_has l G K v1 x1 h _ hv) C_Home_77 rfl hq (Nat.le_of_ble_eq_true rfl) ⟨Nat.le_of_ble_eq_true rfl, Nat.le_of_ble_eq_true rfl, Nat.zero_le _, Nat.zero_le _⟩ rfl d_Home_line_5) (fun H locs hI => ?_)
  refine lv_if_eq (tgt := 28) hx hb d_Home_line_8 (by decide) (fun hc8 => ?_) (fun hc8 => ?_)
  · replace hm := zif_t hc8 hm
    refine lv_iconst (v := -1) hx hb d_Home_line_28 (by decide) ?_
    obtain rfl := zs1 hm
    exact z_iret X hI d_Home_line_29
  · replace hm := zif_f hc8 hm
    refine lv_iload_n hx hb d_Home_line_11 rfl (lv_at hl 2 rfl) ?_
    refine lv_iconst (v := -1) hx hb d_Home_line_12 (by decide) ?_
    refine lv_icmp_lt (tgt := 28) hx hb d_Home_line_13 (by decide) (fun hc13 => ?_) (fun hc13 => ?_)
    · replace hm := zif_t hc13 hm
      refine lv_iconst (v := -1) hx hb d_Home_line_28 (by decide) ?_
      obtain rfl := zs1 hm
      exact z_iret X hI d_Home_line_29
    · replace hm := zif_f hc13 hm
      refine lv_iload_n hx hb d_Home_line_16 rfl (lv_at hl 2 rfl) ?_
      refine lv_aload_n hx hb d_Home_line_17 rfl (lv_at hl 0 rfl) ?_
      obtain ⟨v18, hv, hm⟩ := zbd hm
      refine z_getR X hI F_Home_16 hv d_Home_line_18 ?_
      refine lv_iload_n hx hb d_Home_line_21 rfl (lv_at hl 1 rfl) ?_
      obtain ⟨v22, hv, hm⟩ := zbd hm
      obtain ⟨hq, hv⟩ := zcv_at hv
      refine z_ci hI (z_runV (As := [.int x1]) (rest := [.int x2]) X hI hl.1 (c_Huts_linesOf l G K v18 x1 h _ hv) C_Home_81 rfl hq (Nat.le_of_ble_eq_true rfl) ⟨Nat.le_of_ble_eq_true rfl, Nat.le_of_ble_eq_true rfl, Nat.zero_le _, Nat.zero_le _⟩ rfl d_Home_line_22) (fun H locs hI => ?_)
      refine lv_icmp_lt (tgt := 30) hx hb d_Home_line_25 (by decide) (fun hc25 => ?_) (fun hc25 => ?_)
      · replace hm := zif_t hc25 hm
        refine lv_iload_n hx hb d_Home_line_30 rfl (lv_at hl 2 rfl) ?_
        refine lv_iconst (v := -1) hx hb d_Home_line_31 (by decide) ?_
        refine lv_icmp_ne (tgt := 46) hx hb d_Home_line_32 (by decide) (fun hc32 => ?_) (fun hc32 => ?_)
        · replace hm := zif_f hc32 hm
          refine lv_aload_n hx hb d_Home_line_46 rfl (lv_at hl 0 rfl) ?_
          obtain ⟨v47, hv, hm⟩ := zbd hm
          refine z_getR X hI F_Home_16 hv d_Home_line_47 ?_
          refine lv_iload_n hx hb d_Home_line_50 rfl (lv_at hl 1 rfl) ?_
          refine lv_iload_n hx hb d_Home_line_51 rfl (lv_at hl 2 rfl) ?_
          obtain ⟨v52, hv, hm⟩ := zbd hm
          obtain ⟨hq, hv⟩ := zcv_at hv
          refine z_ci hI (z_runV (As := [.int x1, .int x2]) (rest := []) X hI hl.1 (c_Huts_wordsOf l G K v47 x1 x2 h _ hv) C_Home_85 rfl hq (Nat.le_of_ble_eq_true rfl) ⟨Nat.le_of_ble_eq_true rfl, Nat.le_of_ble_eq_true rfl, Nat.zero_le _, Nat.zero_le _⟩ rfl d_Home_line_52) (fun H locs hI => ?_)
          obtain rfl := zs1 hm
          exact z_iret X hI d_Home_line_55
        · replace hm := zif_t hc32 hm
          refine lv_aload_n hx hb d_Home_line_35 rfl (lv_at hl 0 rfl) ?_
          obtain ⟨v36, hv, hm⟩ := zbd hm
          refine z_getR X hI F_Home_16 hv d_Home_line_36 ?_
          refine lv_iload_n hx hb d_Home_line_39 rfl (lv_at hl 1 rfl) ?_
          obtain ⟨v40, hv, hm⟩ := zbd hm
          obtain ⟨hq, hv⟩ := zcv_at hv
          refine z_ci hI (z_runV (As := [.int x1]) (rest := []) X hI hl.1 (c_Huts_linesOf l G K v36 x1 h _ hv) C_Home_81 rfl hq (Nat.le_of_ble_eq_true rfl) ⟨Nat.le_of_ble_eq_true rfl, Nat.le_of_ble_eq_true rfl, Nat.zero_le _, Nat.zero_le _⟩ rfl d_Home_line_40) (fun H locs hI => ?_)
          refine lv_goto (tgt := 55) hx hb d_Home_line_43 (by decide) ?_
          obtain rfl := zs1 hm
          exact z_iret X hI d_Home_line_55
      · replace hm := zif_f hc25 hm
        refine lv_iconst (v := -1) hx hb d_Home_line_28 (by decide) ?_
        obtain rfl := zs1 hm
        exact z_iret X hI d_Home_line_29
set_option maxHeartbeats 4000000 in
set_option maxRecDepth 100000 in
theorem c_Home_line (l : Launch) (G : zG) (K : Nat) (a0 : Nat) (x1 : Int32) (x2 : Int32) (h : zH) (r : Int32) (hm : m_Home_line a0 x1 x2 h = some r) : zMi l G K y_Home_line prog_1_method_4_code 3 2 [.ref (G.1 a0), .int x1, .int x2] h r h := zMet (by decide +kernel) (Nat.le_of_ble_eq_true rfl) (fun p e s m below meth c ls X hI hl => r_Home_line_0 X a0 x1 x2 h hm hI hl)
-- walk of AllHome$Huts.goal
theorem d_Huts_goal_0 : decode prog_3_method_6_code 0 = .ok (.aload_n 0, 1) := by decide +kernel
theorem d_Huts_goal_1 : decode prog_3_method_6_code 1 = .ok (.iload_n 1, 1) := by decide +kernel
theorem d_Huts_goal_2 : decode prog_3_method_6_code 2 = .ok (.invokevirtual 27, 3) := by decide +kernel
theorem d_Huts_goal_5 : decode prog_3_method_6_code 5 = .ok (.ifCond .eq 17, 3) := by decide +kernel
theorem d_Huts_goal_8 : decode prog_3_method_6_code 8 = .ok (.iload_n 2, 1) := by decide +kernel
theorem d_Huts_goal_9 : decode prog_3_method_6_code 9 = .ok (.ifCond .lt 13, 3) := by decide +kernel
theorem d_Huts_goal_12 : decode prog_3_method_6_code 12 = .ok (.iload_n 2, 1) := by decide +kernel
theorem d_Huts_goal_13 : decode prog_3_method_6_code 13 = .ok (.aload_n 0, 1) := by decide +kernel
theorem d_Huts_goal_14 : decode prog_3_method_6_code 14 = .ok (.getfield 19, 3) := by decide +kernel
theorem d_Huts_goal_17 : decode prog_3_method_6_code 17 = .ok (.iload_n 1, 1) := by decide +kernel
theorem d_Huts_goal_18 : decode prog_3_method_6_code 18 = .ok (.iaload, 1) := by decide +kernel
theorem d_Huts_goal_19 : decode prog_3_method_6_code 19 = .ok (.if_icmp .lt 5, 3) := by decide +kernel
theorem d_Huts_goal_22 : decode prog_3_method_6_code 22 = .ok (.iconst (-1), 1) := by decide +kernel
theorem d_Huts_goal_23 : decode prog_3_method_6_code 23 = .ok (.ireturn, 1) := by decide +kernel
theorem d_Huts_goal_24 : decode prog_3_method_6_code 24 = .ok (.aload_n 0, 1) := by decide +kernel
theorem d_Huts_goal_25 : decode prog_3_method_6_code 25 = .ok (.getfield 16, 3) := by decide +kernel
theorem d_Huts_goal_28 : decode prog_3_method_6_code 28 = .ok (.iload_n 1, 1) := by decide +kernel
theorem d_Huts_goal_29 : decode prog_3_method_6_code 29 = .ok (.aaload, 1) := by decide +kernel
theorem d_Huts_goal_30 : decode prog_3_method_6_code 30 = .ok (.iload_n 2, 1) := by decide +kernel
theorem d_Huts_goal_31 : decode prog_3_method_6_code 31 = .ok (.iconst 1, 1) := by decide +kernel
theorem d_Huts_goal_32 : decode prog_3_method_6_code 32 = .ok (.iadd, 1) := by decide +kernel
theorem d_Huts_goal_33 : decode prog_3_method_6_code 33 = .ok (.iaload, 1) := by decide +kernel
theorem d_Huts_goal_34 : decode prog_3_method_6_code 34 = .ok (.aload_n 0, 1) := by decide +kernel
theorem d_Huts_goal_35 : decode prog_3_method_6_code 35 = .ok (.getfield 16, 3) := by decide +kernel
theorem d_Huts_goal_38 : decode prog_3_method_6_code 38 = .ok (.iload_n 1, 1) := by decide +kernel
theorem d_Huts_goal_39 : decode prog_3_method_6_code 39 = .ok (.aaload, 1) := by decide +kernel
theorem d_Huts_goal_40 : decode prog_3_method_6_code 40 = .ok (.iload_n 2, 1) := by decide +kernel
theorem d_Huts_goal_41 : decode prog_3_method_6_code 41 = .ok (.iaload, 1) := by decide +kernel
theorem d_Huts_goal_42 : decode prog_3_method_6_code 42 = .ok (.isub, 1) := by decide +kernel
theorem d_Huts_goal_43 : decode prog_3_method_6_code 43 = .ok (.istore 4, 2) := by decide +kernel
theorem d_Huts_goal_45 : decode prog_3_method_6_code 45 = .ok (.iload_n 3, 1) := by decide +kernel
theorem d_Huts_goal_46 : decode prog_3_method_6_code 46 = .ok (.ifCond .lt 29, 3) := by decide +kernel
theorem d_Huts_goal_49 : decode prog_3_method_6_code 49 = .ok (.iload_n 3, 1) := by decide +kernel
theorem d_Huts_goal_50 : decode prog_3_method_6_code 50 = .ok (.iload 4, 2) := by decide +kernel
theorem d_Huts_goal_52 : decode prog_3_method_6_code 52 = .ok (.if_icmp .ge 23, 3) := by decide +kernel
theorem d_Huts_goal_55 : decode prog_3_method_6_code 55 = .ok (.aload_n 0, 1) := by decide +kernel
theorem d_Huts_goal_56 : decode prog_3_method_6_code 56 = .ok (.getfield 13, 3) := by decide +kernel
theorem d_Huts_goal_59 : decode prog_3_method_6_code 59 = .ok (.iload_n 1, 1) := by decide +kernel
theorem d_Huts_goal_60 : decode prog_3_method_6_code 60 = .ok (.aaload, 1) := by decide +kernel
theorem d_Huts_goal_61 : decode prog_3_method_6_code 61 = .ok (.aload_n 0, 1) := by decide +kernel
theorem d_Huts_goal_62 : decode prog_3_method_6_code 62 = .ok (.getfield 16, 3) := by decide +kernel
theorem d_Huts_goal_65 : decode prog_3_method_6_code 65 = .ok (.iload_n 1, 1) := by decide +kernel
theorem d_Huts_goal_66 : decode prog_3_method_6_code 66 = .ok (.aaload, 1) := by decide +kernel
theorem d_Huts_goal_67 : decode prog_3_method_6_code 67 = .ok (.iload_n 2, 1) := by decide +kernel
theorem d_Huts_goal_68 : decode prog_3_method_6_code 68 = .ok (.iaload, 1) := by decide +kernel
theorem d_Huts_goal_69 : decode prog_3_method_6_code 69 = .ok (.iload_n 3, 1) := by decide +kernel
theorem d_Huts_goal_70 : decode prog_3_method_6_code 70 = .ok (.iadd, 1) := by decide +kernel
theorem d_Huts_goal_71 : decode prog_3_method_6_code 71 = .ok (.iaload, 1) := by decide +kernel
theorem d_Huts_goal_72 : decode prog_3_method_6_code 72 = .ok (.goto 4, 3) := by decide +kernel
theorem d_Huts_goal_75 : decode prog_3_method_6_code 75 = .ok (.iconst (-1), 1) := by decide +kernel
theorem d_Huts_goal_76 : decode prog_3_method_6_code 76 = .ok (.ireturn, 1) := by decide +kernel
set_option maxHeartbeats 4000000 in
set_option maxRecDepth 100000 in
theorem r_Huts_goal_0 {p : Program} {l : Launch} {e : Env} {s : State} {m : MethodId} {args : Array Value} {below : List Frame} {meth : Method} {c : Code} {G : zG} {K : Nat} (X : zX p s m args meth c "AllHome$Huts" prog_3_method_6_code 5 (some .int) G (zA G K)) {r : Int32} (a0 : Nat) (x1 : Int32) (x2 : Int32) (x3 : Int32) (h : zH) (hm : m_Huts_goal a0 x1 x2 x3 h = some r) {H : Heap} {locs : List Loc} {ls : Array Slot} (hI : zI G K s (zA G K) H locs h) (hl : lv_has ls 5 [(0, .ref (G.1 a0)), (1, .int x1), (2, .int x2), (3, .int x3)]) : W p l e (zR 1) s m args below meth c H locs 0 0 (MQ below (zQi G K r h) args s 0 0 (zA G K)) (F0 m 0 ls []) := by
  obtain ⟨hx, hb, hml, hown, hts, hr, hlocks, hK, hST, hNs⟩ := id X
  unfold m_Huts_goal at hm
  refine lv_aload_n hx hb d_Huts_goal_0 rfl (lv_at hl 0 rfl) ?_
  refine lv_iload_n hx hb d_Huts_goal_1 rfl (lv_at hl 1 rfl) ?_
  obtain ⟨v2, hv, hm⟩ := zbd hm
  obtain ⟨hq, hv⟩ := zcv_at hv
  refine z_ci hI (z_runV (As := [.int x1]) (rest := []) X hI hl.1 (c_Huts_has l G K a0 x1 h _ hv) C_Huts_27 rfl hq (Nat.le_of_ble_eq_true rfl) ⟨Nat.le_of_ble_eq_true rfl, Nat.le_of_ble_eq_true rfl, Nat.zero_le _, Nat.zero_le _⟩ rfl d_Huts_goal_2) (fun H locs hI => ?_)
  refine lv_if_eq (tgt := 22) hx hb d_Huts_goal_5 (by decide) (fun hc5 => ?_) (fun hc5 => ?_)
  · replace hm := zif_t hc5 hm
    refine lv_iconst (v := -1) hx hb d_Huts_goal_22 (by decide) ?_
    obtain rfl := zs1 hm
    exact z_iret X hI d_Huts_goal_23
  · replace hm := zif_f hc5 hm
    refine lv_iload_n hx hb d_Huts_goal_8 rfl (lv_at hl 2 rfl) ?_
    refine lv_if_lt (tgt := 22) hx hb d_Huts_goal_9 (by decide) (fun hc9 => ?_) (fun hc9 => ?_)
    · replace hm := zif_t hc9 hm
      refine lv_iconst (v := -1) hx hb d_Huts_goal_22 (by decide) ?_
      obtain rfl := zs1 hm
      exact z_iret X hI d_Huts_goal_23
    · replace hm := zif_f hc9 hm
      refine lv_iload_n hx hb d_Huts_goal_12 rfl (lv_at hl 2 rfl) ?_
      refine lv_aload_n hx hb d_Huts_goal_13 rfl (lv_at hl 0 rfl) ?_
      obtain ⟨v14, hv, hm⟩ := zbd hm
      refine z_getR X hI F_Huts_19 hv d_Huts_goal_14 ?_
      refine lv_iload_n hx hb d_Huts_goal_17 rfl (lv_at hl 1 rfl) ?_
      obtain ⟨v18, hv, hm⟩ := zbd hm
      refine z_iald X hI hv d_Huts_goal_18 ?_
      refine lv_icmp_lt (tgt := 24) hx hb d_Huts_goal_19 (by decide) (fun hc19 => ?_) (fun hc19 => ?_)
      · replace hm := zif_t hc19 hm
        refine lv_aload_n hx hb d_Huts_goal_24 rfl (lv_at hl 0 rfl) ?_
        obtain ⟨v25, hv, hm⟩ := zbd hm
        refine z_getR X hI F_Huts_16 hv d_Huts_goal_25 ?_
        refine lv_iload_n hx hb d_Huts_goal_28 rfl (lv_at hl 1 rfl) ?_
        obtain ⟨v29, hv, hm⟩ := zbd hm
        refine z_aald X hI 5 (.array .int) rfl rfl hv d_Huts_goal_29 ?_
        refine lv_iload_n hx hb d_Huts_goal_30 rfl (lv_at hl 2 rfl) ?_
        refine lv_iconst (v := 1) hx hb d_Huts_goal_31 (by decide) ?_
        refine lv_iadd hx hb d_Huts_goal_32 ?_
        obtain ⟨v33, hv, hm⟩ := zbd hm
        refine z_iald X hI hv d_Huts_goal_33 ?_
        refine lv_aload_n hx hb d_Huts_goal_34 rfl (lv_at hl 0 rfl) ?_
        obtain ⟨v35, hv, hm⟩ := zbd hm
        refine z_getR X hI F_Huts_16 hv d_Huts_goal_35 ?_
        refine lv_iload_n hx hb d_Huts_goal_38 rfl (lv_at hl 1 rfl) ?_
        obtain ⟨v39, hv, hm⟩ := zbd hm
        refine z_aald X hI 5 (.array .int) rfl rfl hv d_Huts_goal_39 ?_
        refine lv_iload_n hx hb d_Huts_goal_40 rfl (lv_at hl 2 rfl) ?_
        obtain ⟨v41, hv, hm⟩ := zbd hm
        refine z_iald X hI hv d_Huts_goal_41 ?_
        refine lv_isub hx hb d_Huts_goal_42 ?_
        refine lv_istore (lv' := [(4, .int (v33 - v41)), (0, .ref (G.1 a0)), (1, .int x1), (2, .int x2), (3, .int x3)]) hx hb d_Huts_goal_43 hl (by decide) rfl (fun ls hl => ?_)
        refine lv_iload_n hx hb d_Huts_goal_45 rfl (lv_at hl 4 rfl) ?_
        refine lv_if_lt (tgt := 75) hx hb d_Huts_goal_46 (by decide) (fun hc46 => ?_) (fun hc46 => ?_)
        · replace hm := zif_t hc46 hm
          refine lv_iconst (v := -1) hx hb d_Huts_goal_75 (by decide) ?_
          obtain rfl := zs1 hm
          exact z_iret X hI d_Huts_goal_76
        · replace hm := zif_f hc46 hm
          refine lv_iload_n hx hb d_Huts_goal_49 rfl (lv_at hl 4 rfl) ?_
          refine lv_iload hx hb d_Huts_goal_50 (lv_at hl 0 rfl) ?_
          refine lv_icmp_ge (tgt := 75) hx hb d_Huts_goal_52 (by decide) (fun hc52 => ?_) (fun hc52 => ?_)
          · replace hm := zif_t hc52 hm
            refine lv_iconst (v := -1) hx hb d_Huts_goal_75 (by decide) ?_
            obtain rfl := zs1 hm
            exact z_iret X hI d_Huts_goal_76
          · replace hm := zif_f hc52 hm
            refine lv_aload_n hx hb d_Huts_goal_55 rfl (lv_at hl 1 rfl) ?_
            obtain ⟨v56, hv, hm⟩ := zbd hm
            refine z_getR X hI F_Huts_13 hv d_Huts_goal_56 ?_
            refine lv_iload_n hx hb d_Huts_goal_59 rfl (lv_at hl 2 rfl) ?_
            obtain ⟨v60, hv, hm⟩ := zbd hm
            refine z_aald X hI 5 (.array .int) rfl rfl hv d_Huts_goal_60 ?_
            refine lv_aload_n hx hb d_Huts_goal_61 rfl (lv_at hl 1 rfl) ?_
            obtain ⟨v62, hv, hm⟩ := zbd hm
            refine z_getR X hI F_Huts_16 hv d_Huts_goal_62 ?_
            refine lv_iload_n hx hb d_Huts_goal_65 rfl (lv_at hl 2 rfl) ?_
            obtain ⟨v66, hv, hm⟩ := zbd hm
            refine z_aald X hI 5 (.array .int) rfl rfl hv d_Huts_goal_66 ?_
            refine lv_iload_n hx hb d_Huts_goal_67 rfl (lv_at hl 3 rfl) ?_
            obtain ⟨v68, hv, hm⟩ := zbd hm
            refine z_iald X hI hv d_Huts_goal_68 ?_
            refine lv_iload_n hx hb d_Huts_goal_69 rfl (lv_at hl 4 rfl) ?_
            refine lv_iadd hx hb d_Huts_goal_70 ?_
            obtain ⟨v71, hv, hm⟩ := zbd hm
            refine z_iald X hI hv d_Huts_goal_71 ?_
            refine lv_goto (tgt := 76) hx hb d_Huts_goal_72 (by decide) ?_
            obtain rfl := zs1 hm
            exact z_iret X hI d_Huts_goal_76
      · replace hm := zif_f hc19 hm
        refine lv_iconst (v := -1) hx hb d_Huts_goal_22 (by decide) ?_
        obtain rfl := zs1 hm
        exact z_iret X hI d_Huts_goal_23
set_option maxHeartbeats 4000000 in
set_option maxRecDepth 100000 in
theorem c_Huts_goal (l : Launch) (G : zG) (K : Nat) (a0 : Nat) (x1 : Int32) (x2 : Int32) (x3 : Int32) (h : zH) (r : Int32) (hm : m_Huts_goal a0 x1 x2 x3 h = some r) : zMi l G K y_Huts_goal prog_3_method_6_code 5 1 [.ref (G.1 a0), .int x1, .int x2, .int x3] h r h := zMet (by decide +kernel) (Nat.le_of_ble_eq_true rfl) (fun p e s m below meth c ls X hI hl => r_Huts_goal_0 X a0 x1 x2 x3 h hm hI hl)
-- walk of AllHome.goesTo
theorem d_Home_goesTo_0 : decode prog_1_method_5_code 0 = .ok (.aload_n 0, 1) := by decide +kernel
theorem d_Home_goesTo_1 : decode prog_1_method_5_code 1 = .ok (.getfield 16, 3) := by decide +kernel
theorem d_Home_goesTo_4 : decode prog_1_method_5_code 4 = .ok (.iload_n 1, 1) := by decide +kernel
theorem d_Home_goesTo_5 : decode prog_1_method_5_code 5 = .ok (.invokevirtual 77, 3) := by decide +kernel
theorem d_Home_goesTo_8 : decode prog_1_method_5_code 8 = .ok (.ifCond .eq 20, 3) := by decide +kernel
theorem d_Home_goesTo_11 : decode prog_1_method_5_code 11 = .ok (.iload_n 3, 1) := by decide +kernel
theorem d_Home_goesTo_12 : decode prog_1_method_5_code 12 = .ok (.ifCond .lt 16, 3) := by decide +kernel
theorem d_Home_goesTo_15 : decode prog_1_method_5_code 15 = .ok (.iload_n 3, 1) := by decide +kernel
theorem d_Home_goesTo_16 : decode prog_1_method_5_code 16 = .ok (.aload_n 0, 1) := by decide +kernel
theorem d_Home_goesTo_17 : decode prog_1_method_5_code 17 = .ok (.getfield 16, 3) := by decide +kernel
theorem d_Home_goesTo_20 : decode prog_1_method_5_code 20 = .ok (.iload_n 1, 1) := by decide +kernel
theorem d_Home_goesTo_21 : decode prog_1_method_5_code 21 = .ok (.iload_n 2, 1) := by decide +kernel
theorem d_Home_goesTo_22 : decode prog_1_method_5_code 22 = .ok (.invokevirtual 85, 3) := by decide +kernel
theorem d_Home_goesTo_25 : decode prog_1_method_5_code 25 = .ok (.if_icmp .lt 5, 3) := by decide +kernel
theorem d_Home_goesTo_28 : decode prog_1_method_5_code 28 = .ok (.iconst (-1), 1) := by decide +kernel
theorem d_Home_goesTo_29 : decode prog_1_method_5_code 29 = .ok (.ireturn, 1) := by decide +kernel
theorem d_Home_goesTo_30 : decode prog_1_method_5_code 30 = .ok (.aload_n 0, 1) := by decide +kernel
theorem d_Home_goesTo_31 : decode prog_1_method_5_code 31 = .ok (.getfield 16, 3) := by decide +kernel
theorem d_Home_goesTo_34 : decode prog_1_method_5_code 34 = .ok (.iload_n 1, 1) := by decide +kernel
theorem d_Home_goesTo_35 : decode prog_1_method_5_code 35 = .ok (.iload_n 2, 1) := by decide +kernel
theorem d_Home_goesTo_36 : decode prog_1_method_5_code 36 = .ok (.iload_n 3, 1) := by decide +kernel
theorem d_Home_goesTo_37 : decode prog_1_method_5_code 37 = .ok (.invokevirtual 89, 3) := by decide +kernel
theorem d_Home_goesTo_40 : decode prog_1_method_5_code 40 = .ok (.ireturn, 1) := by decide +kernel
set_option maxHeartbeats 4000000 in
set_option maxRecDepth 100000 in
theorem r_Home_goesTo_0 {p : Program} {l : Launch} {e : Env} {s : State} {m : MethodId} {args : Array Value} {below : List Frame} {meth : Method} {c : Code} {G : zG} {K : Nat} (X : zX p s m args meth c "AllHome" prog_1_method_5_code 4 (some .int) G (zA G K)) {r : Int32} (a0 : Nat) (x1 : Int32) (x2 : Int32) (x3 : Int32) (h : zH) (hm : m_Home_goesTo a0 x1 x2 x3 h = some r) {H : Heap} {locs : List Loc} {ls : Array Slot} (hI : zI G K s (zA G K) H locs h) (hl : lv_has ls 4 [(0, .ref (G.1 a0)), (1, .int x1), (2, .int x2), (3, .int x3)]) : W p l e (zR 2) s m args below meth c H locs 0 0 (MQ below (zQi G K r h) args s 0 0 (zA G K)) (F0 m 0 ls []) := by
  obtain ⟨hx, hb, hml, hown, hts, hr, hlocks, hK, hST, hNs⟩ := id X
  unfold m_Home_goesTo at hm
  refine lv_aload_n hx hb d_Home_goesTo_0 rfl (lv_at hl 0 rfl) ?_
  obtain ⟨v1, hv, hm⟩ := zbd hm
  refine z_getR X hI F_Home_16 hv d_Home_goesTo_1 ?_
  refine lv_iload_n hx hb d_Home_goesTo_4 rfl (lv_at hl 1 rfl) ?_
  obtain ⟨v5, hv, hm⟩ := zbd hm
  obtain ⟨hq, hv⟩ := zcv_at hv
  refine z_ci hI (z_runV (As := [.int x1]) (rest := []) X hI hl.1 (c_Huts_has l G K v1 x1 h _ hv) C_Home_77 rfl hq (Nat.le_of_ble_eq_true rfl) ⟨Nat.le_of_ble_eq_true rfl, Nat.le_of_ble_eq_true rfl, Nat.zero_le _, Nat.zero_le _⟩ rfl d_Home_goesTo_5) (fun H locs hI => ?_)
  refine lv_if_eq (tgt := 28) hx hb d_Home_goesTo_8 (by decide) (fun hc8 => ?_) (fun hc8 => ?_)
  · replace hm := zif_t hc8 hm
    refine lv_iconst (v := -1) hx hb d_Home_goesTo_28 (by decide) ?_
    obtain rfl := zs1 hm
    exact z_iret X hI d_Home_goesTo_29
  · replace hm := zif_f hc8 hm
    refine lv_iload_n hx hb d_Home_goesTo_11 rfl (lv_at hl 3 rfl) ?_
    refine lv_if_lt (tgt := 28) hx hb d_Home_goesTo_12 (by decide) (fun hc12 => ?_) (fun hc12 => ?_)
    · replace hm := zif_t hc12 hm
      refine lv_iconst (v := -1) hx hb d_Home_goesTo_28 (by decide) ?_
      obtain rfl := zs1 hm
      exact z_iret X hI d_Home_goesTo_29
    · replace hm := zif_f hc12 hm
      refine lv_iload_n hx hb d_Home_goesTo_15 rfl (lv_at hl 3 rfl) ?_
      refine lv_aload_n hx hb d_Home_goesTo_16 rfl (lv_at hl 0 rfl) ?_
      obtain ⟨v17, hv, hm⟩ := zbd hm
      refine z_getR X hI F_Home_16 hv d_Home_goesTo_17 ?_
      refine lv_iload_n hx hb d_Home_goesTo_20 rfl (lv_at hl 1 rfl) ?_
      refine lv_iload_n hx hb d_Home_goesTo_21 rfl (lv_at hl 2 rfl) ?_
      obtain ⟨v22, hv, hm⟩ := zbd hm
      obtain ⟨hq, hv⟩ := zcv_at hv
      refine z_ci hI (z_runV (As := [.int x1, .int x2]) (rest := [.int x3]) X hI hl.1 (c_Huts_wordsOf l G K v17 x1 x2 h _ hv) C_Home_85 rfl hq (Nat.le_of_ble_eq_true rfl) ⟨Nat.le_of_ble_eq_true rfl, Nat.le_of_ble_eq_true rfl, Nat.zero_le _, Nat.zero_le _⟩ rfl d_Home_goesTo_22) (fun H locs hI => ?_)
      refine lv_icmp_lt (tgt := 30) hx hb d_Home_goesTo_25 (by decide) (fun hc25 => ?_) (fun hc25 => ?_)
      · replace hm := zif_t hc25 hm
        refine lv_aload_n hx hb d_Home_goesTo_30 rfl (lv_at hl 0 rfl) ?_
        obtain ⟨v31, hv, hm⟩ := zbd hm
        refine z_getR X hI F_Home_16 hv d_Home_goesTo_31 ?_
        refine lv_iload_n hx hb d_Home_goesTo_34 rfl (lv_at hl 1 rfl) ?_
        refine lv_iload_n hx hb d_Home_goesTo_35 rfl (lv_at hl 2 rfl) ?_
        refine lv_iload_n hx hb d_Home_goesTo_36 rfl (lv_at hl 3 rfl) ?_
        obtain ⟨v37, hv, hm⟩ := zbd hm
        obtain ⟨hq, hv⟩ := zcv_at hv
        refine z_ci hI (z_runV (As := [.int x1, .int x2, .int x3]) (rest := []) X hI hl.1 (c_Huts_goal l G K v31 x1 x2 x3 h _ hv) C_Home_89 rfl hq (Nat.le_of_ble_eq_true rfl) ⟨Nat.le_of_ble_eq_true rfl, Nat.le_of_ble_eq_true rfl, Nat.zero_le _, Nat.zero_le _⟩ rfl d_Home_goesTo_37) (fun H locs hI => ?_)
        obtain rfl := zs1 hm
        exact z_iret X hI d_Home_goesTo_40
      · replace hm := zif_f hc25 hm
        refine lv_iconst (v := -1) hx hb d_Home_goesTo_28 (by decide) ?_
        obtain rfl := zs1 hm
        exact z_iret X hI d_Home_goesTo_29
set_option maxHeartbeats 4000000 in
set_option maxRecDepth 100000 in
theorem c_Home_goesTo (l : Launch) (G : zG) (K : Nat) (a0 : Nat) (x1 : Int32) (x2 : Int32) (x3 : Int32) (h : zH) (r : Int32) (hm : m_Home_goesTo a0 x1 x2 x3 h = some r) : zMi l G K y_Home_goesTo prog_1_method_5_code 4 2 [.ref (G.1 a0), .int x1, .int x2, .int x3] h r h := zMet (by decide +kernel) (Nat.le_of_ble_eq_true rfl) (fun p e s m below meth c ls X hI hl => r_Home_goesTo_0 X a0 x1 x2 x3 h hm hI hl)
-- walk of AllHome.isKind
theorem d_Home_isKind_0 : decode prog_1_method_32_code 0 = .ok (.iload_n 0, 1) := by decide +kernel
theorem d_Home_isKind_1 : decode prog_1_method_32_code 1 = .ok (.ifCond .lt 13, 3) := by decide +kernel
theorem d_Home_isKind_4 : decode prog_1_method_32_code 4 = .ok (.iload_n 0, 1) := by decide +kernel
theorem d_Home_isKind_5 : decode prog_1_method_32_code 5 = .ok (.bipush 9, 2) := by decide +kernel
theorem d_Home_isKind_7 : decode prog_1_method_32_code 7 = .ok (.if_icmp .ge 7, 3) := by decide +kernel
theorem d_Home_isKind_10 : decode prog_1_method_32_code 10 = .ok (.iconst 1, 1) := by decide +kernel
theorem d_Home_isKind_11 : decode prog_1_method_32_code 11 = .ok (.goto 4, 3) := by decide +kernel
theorem d_Home_isKind_14 : decode prog_1_method_32_code 14 = .ok (.iconst 0, 1) := by decide +kernel
theorem d_Home_isKind_15 : decode prog_1_method_32_code 15 = .ok (.ireturn, 1) := by decide +kernel
set_option maxHeartbeats 4000000 in
set_option maxRecDepth 100000 in
theorem r_Home_isKind_0 {p : Program} {l : Launch} {e : Env} {s : State} {m : MethodId} {args : Array Value} {below : List Frame} {meth : Method} {c : Code} {G : zG} {K : Nat} (X : zX p s m args meth c "AllHome" prog_1_method_32_code 1 (some .boolean) G (zA G K)) {r : Int32} (x0 : Int32) (h : zH) (hm : m_Home_isKind x0 h = some r) {H : Heap} {locs : List Loc} {ls : Array Slot} (hI : zI G K s (zA G K) H locs h) (hl : lv_has ls 1 [(0, .int x0)]) : W p l e (zR 0) s m args below meth c H locs 0 0 (MQ below (zQi G K r h) args s 0 0 (zA G K)) (F0 m 0 ls []) := by
  obtain ⟨hx, hb, hml, hown, hts, hr, hlocks, hK, hST, hNs⟩ := id X
  unfold m_Home_isKind at hm
  refine lv_iload_n hx hb d_Home_isKind_0 rfl (lv_at hl 0 rfl) ?_
  refine lv_if_lt (tgt := 14) hx hb d_Home_isKind_1 (by decide) (fun hc1 => ?_) (fun hc1 => ?_)
  · replace hm := zif_t hc1 hm
    refine lv_iconst (v := 0) hx hb d_Home_isKind_14 (by decide) ?_
    obtain rfl := zs1 hm
    exact z_zret X hI (by decide) d_Home_isKind_15
  · replace hm := zif_f hc1 hm
    refine lv_iload_n hx hb d_Home_isKind_4 rfl (lv_at hl 0 rfl) ?_
    refine lv_bipush (v := 9) hx hb d_Home_isKind_5 (by decide) ?_
    refine lv_icmp_ge (tgt := 14) hx hb d_Home_isKind_7 (by decide) (fun hc7 => ?_) (fun hc7 => ?_)
    · replace hm := zif_t hc7 hm
      refine lv_iconst (v := 0) hx hb d_Home_isKind_14 (by decide) ?_
      obtain rfl := zs1 hm
      exact z_zret X hI (by decide) d_Home_isKind_15
    · replace hm := zif_f hc7 hm
      refine lv_iconst (v := 1) hx hb d_Home_isKind_10 (by decide) ?_
      refine lv_goto (tgt := 15) hx hb d_Home_isKind_11 (by decide) ?_
      obtain rfl := zs1 hm
      exact z_zret X hI (by decide) d_Home_isKind_15
set_option maxHeartbeats 4000000 in
set_option maxRecDepth 100000 in
theorem c_Home_isKind (l : Launch) (G : zG) (K : Nat) (x0 : Int32) (h : zH) (r : Int32) (hm : m_Home_isKind x0 h = some r) : zMz l G K y_Home_isKind prog_1_method_32_code 1 0 [.int x0] h r h := zMet (by decide +kernel) (Nat.le_of_ble_eq_true rfl) (fun p e s m below meth c ls X hI hl => r_Home_isKind_0 X x0 h hm hI hl)
-- walk of AllHome.way
theorem d_Home_way_0 : decode prog_1_method_6_code 0 = .ok (.iload_n 1, 1) := by decide +kernel
theorem d_Home_way_1 : decode prog_1_method_6_code 1 = .ok (.invokestatic 93, 3) := by decide +kernel
theorem d_Home_way_4 : decode prog_1_method_6_code 4 = .ok (.ifCond .ne 5, 3) := by decide +kernel
theorem d_Home_way_7 : decode prog_1_method_6_code 7 = .ok (.iconst (-1), 1) := by decide +kernel
theorem d_Home_way_8 : decode prog_1_method_6_code 8 = .ok (.ireturn, 1) := by decide +kernel
theorem d_Home_way_9 : decode prog_1_method_6_code 9 = .ok (.aload_n 0, 1) := by decide +kernel
theorem d_Home_way_10 : decode prog_1_method_6_code 10 = .ok (.getfield 96, 3) := by decide +kernel
theorem d_Home_way_13 : decode prog_1_method_6_code 13 = .ok (.bipush 10, 2) := by decide +kernel
theorem d_Home_way_15 : decode prog_1_method_6_code 15 = .ok (.if_icmp .lt 6, 3) := by decide +kernel
theorem d_Home_way_18 : decode prog_1_method_6_code 18 = .ok (.bipush (-3), 2) := by decide +kernel
theorem d_Home_way_20 : decode prog_1_method_6_code 20 = .ok (.ireturn, 1) := by decide +kernel
theorem d_Home_way_21 : decode prog_1_method_6_code 21 = .ok (.aload_n 0, 1) := by decide +kernel
theorem d_Home_way_22 : decode prog_1_method_6_code 22 = .ok (.getfield 20, 3) := by decide +kernel
theorem d_Home_way_25 : decode prog_1_method_6_code 25 = .ok (.aload_n 0, 1) := by decide +kernel
theorem d_Home_way_26 : decode prog_1_method_6_code 26 = .ok (.getfield 96, 3) := by decide +kernel
theorem d_Home_way_29 : decode prog_1_method_6_code 29 = .ok (.iload_n 1, 1) := by decide +kernel
theorem d_Home_way_30 : decode prog_1_method_6_code 30 = .ok (.iastore, 1) := by decide +kernel
theorem d_Home_way_31 : decode prog_1_method_6_code 31 = .ok (.aload_n 0, 1) := by decide +kernel
theorem d_Home_way_32 : decode prog_1_method_6_code 32 = .ok (.dup, 1) := by decide +kernel
theorem d_Home_way_33 : decode prog_1_method_6_code 33 = .ok (.getfield 96, 3) := by decide +kernel
theorem d_Home_way_36 : decode prog_1_method_6_code 36 = .ok (.iconst 1, 1) := by decide +kernel
theorem d_Home_way_37 : decode prog_1_method_6_code 37 = .ok (.iadd, 1) := by decide +kernel
theorem d_Home_way_38 : decode prog_1_method_6_code 38 = .ok (.putfield 96, 3) := by decide +kernel
theorem d_Home_way_41 : decode prog_1_method_6_code 41 = .ok (.aload_n 0, 1) := by decide +kernel
theorem d_Home_way_42 : decode prog_1_method_6_code 42 = .ok (.getfield 96, 3) := by decide +kernel
theorem d_Home_way_45 : decode prog_1_method_6_code 45 = .ok (.iconst 1, 1) := by decide +kernel
theorem d_Home_way_46 : decode prog_1_method_6_code 46 = .ok (.isub, 1) := by decide +kernel
theorem d_Home_way_47 : decode prog_1_method_6_code 47 = .ok (.ireturn, 1) := by decide +kernel
set_option maxHeartbeats 4000000 in
set_option maxRecDepth 100000 in
theorem r_Home_way_0 {p : Program} {l : Launch} {e : Env} {s : State} {m : MethodId} {args : Array Value} {below : List Frame} {meth : Method} {c : Code} {G : zG} {K : Nat} (X : zX p s m args meth c "AllHome" prog_1_method_6_code 2 (some .int) G (zA G K)) {r : Int32} {h' : zH} (a0 : Nat) (x1 : Int32) (h : zH) (hm : m_Home_way a0 x1 h = some (r, h')) {H : Heap} {locs : List Loc} {ls : Array Slot} (hI : zI G K s (zA G K) H locs h) (hl : lv_has ls 2 [(0, .ref (G.1 a0)), (1, .int x1)]) : W p l e (zR 1) s m args below meth c H locs 0 0 (MQ below (zQi G K r h') args s 0 0 (zA G K)) (F0 m 0 ls []) := by
  obtain ⟨hx, hb, hml, hown, hts, hr, hlocks, hK, hST, hNs⟩ := id X
  unfold m_Home_way at hm
  refine lv_iload_n hx hb d_Home_way_0 rfl (lv_at hl 1 rfl) ?_
  obtain ⟨v1, hv, hm⟩ := zbd hm
  refine z_ci hI (z_runS (As := [.int x1]) (rest := []) X hI hl.1 (c_Home_isKind l G K x1 h _ hv) C_Home_93 rfl (Nat.le_of_ble_eq_true rfl) ⟨Nat.le_of_ble_eq_true rfl, Nat.le_of_ble_eq_true rfl, Nat.zero_le _, Nat.zero_le _⟩ rfl d_Home_way_1) (fun H locs hI => ?_)
  refine lv_if_ne (tgt := 9) hx hb d_Home_way_4 (by decide) (fun hc4 => ?_) (fun hc4 => ?_)
  · replace hm := zif_f hc4 hm
    refine lv_aload_n hx hb d_Home_way_9 rfl (lv_at hl 0 rfl) ?_
    obtain ⟨v10, hv, hm⟩ := zbd hm
    refine z_getI X hI F_Home_96 hv d_Home_way_10 ?_
    refine lv_bipush (v := 10) hx hb d_Home_way_13 (by decide) ?_
    refine lv_icmp_lt (tgt := 21) hx hb d_Home_way_15 (by decide) (fun hc15 => ?_) (fun hc15 => ?_)
    · replace hm := zif_t hc15 hm
      refine lv_aload_n hx hb d_Home_way_21 rfl (lv_at hl 0 rfl) ?_
      obtain ⟨v22, hv, hm⟩ := zbd hm
      refine z_getR X hI F_Home_20 hv d_Home_way_22 ?_
      refine lv_aload_n hx hb d_Home_way_25 rfl (lv_at hl 0 rfl) ?_
      obtain ⟨v26, hv, hm⟩ := zbd hm
      refine z_getI X hI F_Home_96 hv d_Home_way_26 ?_
      refine lv_iload_n hx hb d_Home_way_29 rfl (lv_at hl 1 rfl) ?_
      obtain ⟨h30, hv, hm⟩ := zbd hm
      refine z_iast X hI hv d_Home_way_30 (fun H locs hI => ?_)
      refine lv_aload_n hx hb d_Home_way_31 rfl (lv_at hl 0 rfl) ?_
      refine lv_dup hx hb d_Home_way_32 rfl ?_
      obtain ⟨v33, hv, hm⟩ := zbd hm
      refine z_getI X hI F_Home_96 hv d_Home_way_33 ?_
      refine lv_iconst (v := 1) hx hb d_Home_way_36 (by decide) ?_
      refine lv_iadd hx hb d_Home_way_37 ?_
      obtain ⟨h38, hv, hm⟩ := zbd hm
      refine z_putI X hI P_Home_96 hv d_Home_way_38 (fun H locs hI => ?_)
      refine lv_aload_n hx hb d_Home_way_41 rfl (lv_at hl 0 rfl) ?_
      obtain ⟨v42, hv, hm⟩ := zbd hm
      refine z_getI X hI F_Home_96 hv d_Home_way_42 ?_
      refine lv_iconst (v := 1) hx hb d_Home_way_45 (by decide) ?_
      refine lv_isub hx hb d_Home_way_46 ?_
      obtain ⟨rfl, rfl⟩ := zs2 hm
      exact z_iret X hI d_Home_way_47
    · replace hm := zif_f hc15 hm
      refine lv_bipush (v := -3) hx hb d_Home_way_18 (by decide) ?_
      obtain ⟨rfl, rfl⟩ := zs2 hm
      exact z_iret X hI d_Home_way_20
  · replace hm := zif_t hc4 hm
    refine lv_iconst (v := -1) hx hb d_Home_way_7 (by decide) ?_
    obtain ⟨rfl, rfl⟩ := zs2 hm
    exact z_iret X hI d_Home_way_8
set_option maxHeartbeats 4000000 in
set_option maxRecDepth 100000 in
theorem c_Home_way (l : Launch) (G : zG) (K : Nat) (a0 : Nat) (x1 : Int32) (h : zH) (r : Int32) (h' : zH) (hm : m_Home_way a0 x1 h = some (r, h')) : zMi l G K y_Home_way prog_1_method_6_code 2 1 [.ref (G.1 a0), .int x1] h r h' := zMet (by decide +kernel) (Nat.le_of_ble_eq_true rfl) (fun p e s m below meth c ls X hI hl => r_Home_way_0 X a0 x1 h hm hI hl)
-- walk of AllHome.isWay
theorem d_Home_isWay_0 : decode prog_1_method_29_code 0 = .ok (.iload_n 1, 1) := by decide +kernel
theorem d_Home_isWay_1 : decode prog_1_method_29_code 1 = .ok (.ifCond .lt 15, 3) := by decide +kernel
theorem d_Home_isWay_4 : decode prog_1_method_29_code 4 = .ok (.iload_n 1, 1) := by decide +kernel
theorem d_Home_isWay_5 : decode prog_1_method_29_code 5 = .ok (.aload_n 0, 1) := by decide +kernel
theorem d_Home_isWay_6 : decode prog_1_method_29_code 6 = .ok (.getfield 96, 3) := by decide +kernel
theorem d_Home_isWay_9 : decode prog_1_method_29_code 9 = .ok (.if_icmp .ge 7, 3) := by decide +kernel
theorem d_Home_isWay_12 : decode prog_1_method_29_code 12 = .ok (.iconst 1, 1) := by decide +kernel
theorem d_Home_isWay_13 : decode prog_1_method_29_code 13 = .ok (.goto 4, 3) := by decide +kernel
theorem d_Home_isWay_16 : decode prog_1_method_29_code 16 = .ok (.iconst 0, 1) := by decide +kernel
theorem d_Home_isWay_17 : decode prog_1_method_29_code 17 = .ok (.ireturn, 1) := by decide +kernel
set_option maxHeartbeats 4000000 in
set_option maxRecDepth 100000 in
theorem r_Home_isWay_0 {p : Program} {l : Launch} {e : Env} {s : State} {m : MethodId} {args : Array Value} {below : List Frame} {meth : Method} {c : Code} {G : zG} {K : Nat} (X : zX p s m args meth c "AllHome" prog_1_method_29_code 2 (some .boolean) G (zA G K)) {r : Int32} (a0 : Nat) (x1 : Int32) (h : zH) (hm : m_Home_isWay a0 x1 h = some r) {H : Heap} {locs : List Loc} {ls : Array Slot} (hI : zI G K s (zA G K) H locs h) (hl : lv_has ls 2 [(0, .ref (G.1 a0)), (1, .int x1)]) : W p l e (zR 0) s m args below meth c H locs 0 0 (MQ below (zQi G K r h) args s 0 0 (zA G K)) (F0 m 0 ls []) := by
  obtain ⟨hx, hb, hml, hown, hts, hr, hlocks, hK, hST, hNs⟩ := id X
  unfold m_Home_isWay at hm
  refine lv_iload_n hx hb d_Home_isWay_0 rfl (lv_at hl 1 rfl) ?_
  refine lv_if_lt (tgt := 16) hx hb d_Home_isWay_1 (by decide) (fun hc1 => ?_) (fun hc1 => ?_)
  · replace hm := zif_t hc1 hm
    refine lv_iconst (v := 0) hx hb d_Home_isWay_16 (by decide) ?_
    obtain rfl := zs1 hm
    exact z_zret X hI (by decide) d_Home_isWay_17
  · replace hm := zif_f hc1 hm
    refine lv_iload_n hx hb d_Home_isWay_4 rfl (lv_at hl 1 rfl) ?_
    refine lv_aload_n hx hb d_Home_isWay_5 rfl (lv_at hl 0 rfl) ?_
    obtain ⟨v6, hv, hm⟩ := zbd hm
    refine z_getI X hI F_Home_96 hv d_Home_isWay_6 ?_
    refine lv_icmp_ge (tgt := 16) hx hb d_Home_isWay_9 (by decide) (fun hc9 => ?_) (fun hc9 => ?_)
    · replace hm := zif_t hc9 hm
      refine lv_iconst (v := 0) hx hb d_Home_isWay_16 (by decide) ?_
      obtain rfl := zs1 hm
      exact z_zret X hI (by decide) d_Home_isWay_17
    · replace hm := zif_f hc9 hm
      refine lv_iconst (v := 1) hx hb d_Home_isWay_12 (by decide) ?_
      refine lv_goto (tgt := 17) hx hb d_Home_isWay_13 (by decide) ?_
      obtain rfl := zs1 hm
      exact z_zret X hI (by decide) d_Home_isWay_17
set_option maxHeartbeats 4000000 in
set_option maxRecDepth 100000 in
theorem c_Home_isWay (l : Launch) (G : zG) (K : Nat) (a0 : Nat) (x1 : Int32) (h : zH) (r : Int32) (hm : m_Home_isWay a0 x1 h = some r) : zMz l G K y_Home_isWay prog_1_method_29_code 2 0 [.ref (G.1 a0), .int x1] h r h := zMet (by decide +kernel) (Nat.le_of_ble_eq_true rfl) (fun p e s m below meth c ls X hI hl => r_Home_isWay_0 X a0 x1 h hm hI hl)
-- walk of AllHome.kindOf
theorem d_Home_kindOf_0 : decode prog_1_method_7_code 0 = .ok (.aload_n 0, 1) := by decide +kernel
theorem d_Home_kindOf_1 : decode prog_1_method_7_code 1 = .ok (.iload_n 1, 1) := by decide +kernel
theorem d_Home_kindOf_2 : decode prog_1_method_7_code 2 = .ok (.invokevirtual 99, 3) := by decide +kernel
theorem d_Home_kindOf_5 : decode prog_1_method_7_code 5 = .ok (.ifCond .eq 12, 3) := by decide +kernel
theorem d_Home_kindOf_8 : decode prog_1_method_7_code 8 = .ok (.aload_n 0, 1) := by decide +kernel
theorem d_Home_kindOf_9 : decode prog_1_method_7_code 9 = .ok (.getfield 20, 3) := by decide +kernel
theorem d_Home_kindOf_12 : decode prog_1_method_7_code 12 = .ok (.iload_n 1, 1) := by decide +kernel
theorem d_Home_kindOf_13 : decode prog_1_method_7_code 13 = .ok (.iaload, 1) := by decide +kernel
theorem d_Home_kindOf_14 : decode prog_1_method_7_code 14 = .ok (.goto 4, 3) := by decide +kernel
theorem d_Home_kindOf_17 : decode prog_1_method_7_code 17 = .ok (.iconst (-1), 1) := by decide +kernel
theorem d_Home_kindOf_18 : decode prog_1_method_7_code 18 = .ok (.ireturn, 1) := by decide +kernel
set_option maxHeartbeats 4000000 in
set_option maxRecDepth 100000 in
theorem r_Home_kindOf_0 {p : Program} {l : Launch} {e : Env} {s : State} {m : MethodId} {args : Array Value} {below : List Frame} {meth : Method} {c : Code} {G : zG} {K : Nat} (X : zX p s m args meth c "AllHome" prog_1_method_7_code 2 (some .int) G (zA G K)) {r : Int32} (a0 : Nat) (x1 : Int32) (h : zH) (hm : m_Home_kindOf a0 x1 h = some r) {H : Heap} {locs : List Loc} {ls : Array Slot} (hI : zI G K s (zA G K) H locs h) (hl : lv_has ls 2 [(0, .ref (G.1 a0)), (1, .int x1)]) : W p l e (zR 1) s m args below meth c H locs 0 0 (MQ below (zQi G K r h) args s 0 0 (zA G K)) (F0 m 0 ls []) := by
  obtain ⟨hx, hb, hml, hown, hts, hr, hlocks, hK, hST, hNs⟩ := id X
  unfold m_Home_kindOf at hm
  refine lv_aload_n hx hb d_Home_kindOf_0 rfl (lv_at hl 0 rfl) ?_
  refine lv_iload_n hx hb d_Home_kindOf_1 rfl (lv_at hl 1 rfl) ?_
  obtain ⟨v2, hv, hm⟩ := zbd hm
  obtain ⟨hq, hv⟩ := zcv_at hv
  refine z_ci hI (z_runV (As := [.int x1]) (rest := []) X hI hl.1 (c_Home_isWay l G K a0 x1 h _ hv) C_Home_99 rfl hq (Nat.le_of_ble_eq_true rfl) ⟨Nat.le_of_ble_eq_true rfl, Nat.le_of_ble_eq_true rfl, Nat.zero_le _, Nat.zero_le _⟩ rfl d_Home_kindOf_2) (fun H locs hI => ?_)
  refine lv_if_eq (tgt := 17) hx hb d_Home_kindOf_5 (by decide) (fun hc5 => ?_) (fun hc5 => ?_)
  · replace hm := zif_t hc5 hm
    refine lv_iconst (v := -1) hx hb d_Home_kindOf_17 (by decide) ?_
    obtain rfl := zs1 hm
    exact z_iret X hI d_Home_kindOf_18
  · replace hm := zif_f hc5 hm
    refine lv_aload_n hx hb d_Home_kindOf_8 rfl (lv_at hl 0 rfl) ?_
    obtain ⟨v9, hv, hm⟩ := zbd hm
    refine z_getR X hI F_Home_20 hv d_Home_kindOf_9 ?_
    refine lv_iload_n hx hb d_Home_kindOf_12 rfl (lv_at hl 1 rfl) ?_
    obtain ⟨v13, hv, hm⟩ := zbd hm
    refine z_iald X hI hv d_Home_kindOf_13 ?_
    refine lv_goto (tgt := 18) hx hb d_Home_kindOf_14 (by decide) ?_
    obtain rfl := zs1 hm
    exact z_iret X hI d_Home_kindOf_18
set_option maxHeartbeats 4000000 in
set_option maxRecDepth 100000 in
theorem c_Home_kindOf (l : Launch) (G : zG) (K : Nat) (a0 : Nat) (x1 : Int32) (h : zH) (r : Int32) (hm : m_Home_kindOf a0 x1 h = some r) : zMi l G K y_Home_kindOf prog_1_method_7_code 2 1 [.ref (G.1 a0), .int x1] h r h := zMet (by decide +kernel) (Nat.le_of_ble_eq_true rfl) (fun p e s m below meth c ls X hI hl => r_Home_kindOf_0 X a0 x1 h hm hI hl)
-- walk of java/util/Arrays.fill
theorem d_Fill_I_0 : decode prog_12_method_103_code 0 = .ok (.iconst 0, 1) := by decide +kernel
theorem d_Fill_I_1 : decode prog_12_method_103_code 1 = .ok (.istore_n 2, 1) := by decide +kernel
theorem d_Fill_I_2 : decode prog_12_method_103_code 2 = .ok (.aload_n 0, 1) := by decide +kernel
theorem d_Fill_I_3 : decode prog_12_method_103_code 3 = .ok (.arraylength, 1) := by decide +kernel
theorem d_Fill_I_4 : decode prog_12_method_103_code 4 = .ok (.istore_n 3, 1) := by decide +kernel
theorem d_Fill_I_5 : decode prog_12_method_103_code 5 = .ok (.iload_n 2, 1) := by decide +kernel
theorem d_Fill_I_6 : decode prog_12_method_103_code 6 = .ok (.iload_n 3, 1) := by decide +kernel
theorem d_Fill_I_7 : decode prog_12_method_103_code 7 = .ok (.if_icmp .ge 13, 3) := by decide +kernel
theorem d_Fill_I_10 : decode prog_12_method_103_code 10 = .ok (.aload_n 0, 1) := by decide +kernel
theorem d_Fill_I_11 : decode prog_12_method_103_code 11 = .ok (.iload_n 2, 1) := by decide +kernel
theorem d_Fill_I_12 : decode prog_12_method_103_code 12 = .ok (.iload_n 1, 1) := by decide +kernel
theorem d_Fill_I_13 : decode prog_12_method_103_code 13 = .ok (.iastore, 1) := by decide +kernel
theorem d_Fill_I_14 : decode prog_12_method_103_code 14 = .ok (.iinc 2 1, 3) := by decide +kernel
theorem d_Fill_I_17 : decode prog_12_method_103_code 17 = .ok (.goto (-12), 3) := by decide +kernel
theorem d_Fill_I_20 : decode prog_12_method_103_code 20 = .ok (.return_, 1) := by decide +kernel
set_option maxHeartbeats 4000000 in
set_option maxRecDepth 100000 in
theorem r_Fill_I_5_b {p : Program} {l : Launch} {e : Env} {s : State} {m : MethodId} {args : Array Value} {below : List Frame} {meth : Method} {c : Code} {G : zG} {K : Nat} (X : zX p s m args meth c "java/util/Arrays" prog_12_method_103_code 4 none G (zA G K)) {h' : zH} (a0 : Nat) (x1 : Int32) (x3 : Int32) (k5 : (Int32 × zH) → Option zH) (hk5 : ∀ (w : Int32 × zH), k5 w = some h' → ∀ (H : Heap) (locs : List Loc) (ls : Array Slot), zI G K s (zA G K) H locs w.2 → lv_has ls 4 [(0, .ref (G.1 a0)), (1, .int x1), (2, .int w.1), (3, .int x3)] → W p l e (zR 0) s m args below meth c H locs 0 0 (MQ below (zQv G K h') args s 0 0 (zA G K)) (F0 m 5 ls [])) (u : Int32 × zH) (hm : g_Fill_I_5 a0 x1 x3 k5 u = some h') {H : Heap} {locs : List Loc} {ls : Array Slot} (hI : zI G K s (zA G K) H locs u.2) (hl : lv_has ls 4 [(0, .ref (G.1 a0)), (1, .int x1), (2, .int u.1), (3, .int x3)]) : W p l e (zR 0) s m args below meth c H locs 0 0 (MQ below (zQv G K h') args s 0 0 (zA G K)) (F0 m 5 ls []) := by
  obtain ⟨hx, hb, hml, hown, hts, hr, hlocks, hK, hST, hNs⟩ := id X
  unfold g_Fill_I_5 at hm
  refine lv_iload_n hx hb d_Fill_I_5 rfl (lv_at hl 2 rfl) ?_
  refine lv_iload_n hx hb d_Fill_I_6 rfl (lv_at hl 3 rfl) ?_
  refine lv_icmp_ge (tgt := 20) hx hb d_Fill_I_7 (by decide) (fun hc7 => ?_) (fun hc7 => ?_)
  · replace hm := zif_t hc7 hm
    obtain rfl := zs1 hm
    exact z_vret X hI d_Fill_I_20
  · replace hm := zif_f hc7 hm
    refine lv_aload_n hx hb d_Fill_I_10 rfl (lv_at hl 0 rfl) ?_
    refine lv_iload_n hx hb d_Fill_I_11 rfl (lv_at hl 2 rfl) ?_
    refine lv_iload_n hx hb d_Fill_I_12 rfl (lv_at hl 1 rfl) ?_
    obtain ⟨h13, hv, hm⟩ := zbd hm
    refine z_iast X hI hv d_Fill_I_13 (fun H locs hI => ?_)
    refine lv_iinc (v := (u.1 + (1 : Int32))) (lv' := [(2, .int (u.1 + (1 : Int32))), (0, .ref (G.1 a0)), (1, .int x1), (3, .int x3)]) hx hb d_Fill_I_14 hl (k := 2) rfl rfl (by decide) rfl (fun ls hl => ?_)
    refine lv_goto (tgt := 5) hx hb d_Fill_I_17 (by decide) ?_
    exact hk5 ((u.1 + (1 : Int32)), h13) hm _ _ _ hI (lv_sub hl [1, 2, 0, 3] rfl)
theorem r_Fill_I_5 {p : Program} {l : Launch} {e : Env} {s : State} {m : MethodId} {args : Array Value} {below : List Frame} {meth : Method} {c : Code} {G : zG} {K : Nat} (X : zX p s m args meth c "java/util/Arrays" prog_12_method_103_code 4 none G (zA G K)) {h' : zH} (a0 : Nat) (x1 : Int32) (x3 : Int32) : ∀ (n : Nat) (w : Int32 × zH), zloop (g_Fill_I_5 a0 x1 x3) n w = some h' → ∀ (H : Heap) (locs : List Loc) (ls : Array Slot), zI G K s (zA G K) H locs w.2 → lv_has ls 4 [(0, .ref (G.1 a0)), (1, .int x1), (2, .int w.1), (3, .int x3)] → W p l e (zR 0) s m args below meth c H locs 0 0 (MQ below (zQv G K h') args s 0 0 (zA G K)) (F0 m 5 ls []) := by
  intro n
  induction n with
  | zero => intro w hm; cases hm
  | succ n ih => intro w hm H locs ls hI hl; exact r_Fill_I_5_b X a0 x1 x3 (zloop (g_Fill_I_5 a0 x1 x3) n) ih w hm hI hl
set_option maxHeartbeats 4000000 in
set_option maxRecDepth 100000 in
theorem r_Fill_I_0 {p : Program} {l : Launch} {e : Env} {s : State} {m : MethodId} {args : Array Value} {below : List Frame} {meth : Method} {c : Code} {G : zG} {K : Nat} (X : zX p s m args meth c "java/util/Arrays" prog_12_method_103_code 4 none G (zA G K)) {h' : zH} (a0 : Nat) (x1 : Int32) (h : zH) (hm : m_Fill_I a0 x1 h = some h') {H : Heap} {locs : List Loc} {ls : Array Slot} (hI : zI G K s (zA G K) H locs h) (hl : lv_has ls 4 [(0, .ref (G.1 a0)), (1, .int x1)]) : W p l e (zR 0) s m args below meth c H locs 0 0 (MQ below (zQv G K h') args s 0 0 (zA G K)) (F0 m 0 ls []) := by
  obtain ⟨hx, hb, hml, hown, hts, hr, hlocks, hK, hST, hNs⟩ := id X
  unfold m_Fill_I at hm
  refine lv_iconst (v := 0) hx hb d_Fill_I_0 (by decide) ?_
  refine lv_istore_n (lv' := [(2, .int (0 : Int32)), (0, .ref (G.1 a0)), (1, .int x1)]) hx hb d_Fill_I_1 rfl hl (by decide) rfl (fun ls hl => ?_)
  refine lv_aload_n hx hb d_Fill_I_2 rfl (lv_at hl 1 rfl) ?_
  obtain ⟨v3, hv, hm⟩ := zbd hm
  refine z_alen X hI hv d_Fill_I_3 ?_
  refine lv_istore_n (lv' := [(3, .int v3), (2, .int (0 : Int32)), (0, .ref (G.1 a0)), (1, .int x1)]) hx hb d_Fill_I_4 rfl hl (by decide) rfl (fun ls hl => ?_)
  exact r_Fill_I_5 X a0 x1 v3 zN ((0 : Int32), h) hm _ _ _ hI (lv_sub hl [2, 3, 1, 0] rfl)
set_option maxHeartbeats 4000000 in
set_option maxRecDepth 100000 in
theorem c_Fill_I (l : Launch) (G : zG) (K : Nat) (a0 : Nat) (x1 : Int32) (h : zH) (h' : zH) (hm : m_Fill_I a0 x1 h = some h') : zMv l G K y_Fill_I prog_12_method_103_code 4 0 [.ref (G.1 a0), .int x1] h h' := zMet (by decide +kernel) (Nat.le_of_ble_eq_true rfl) (fun p e s m below meth c ls X hI hl => r_Fill_I_0 X a0 x1 h hm hI hl)
-- walk of AllHome$Rules.begin
theorem d_Rules_begin_0 : decode prog_5_method_3_code 0 = .ok (.aload_n 0, 1) := by decide +kernel
theorem d_Rules_begin_1 : decode prog_5_method_3_code 1 = .ok (.iload_n 2, 1) := by decide +kernel
theorem d_Rules_begin_2 : decode prog_5_method_3_code 2 = .ok (.invokestatic 19, 3) := by decide +kernel
theorem d_Rules_begin_5 : decode prog_5_method_3_code 5 = .ok (.ifCond .eq 7, 3) := by decide +kernel
theorem d_Rules_begin_8 : decode prog_5_method_3_code 8 = .ok (.iload_n 2, 1) := by decide +kernel
theorem d_Rules_begin_9 : decode prog_5_method_3_code 9 = .ok (.goto 4, 3) := by decide +kernel
theorem d_Rules_begin_12 : decode prog_5_method_3_code 12 = .ok (.iconst 0, 1) := by decide +kernel
theorem d_Rules_begin_13 : decode prog_5_method_3_code 13 = .ok (.putfield 23, 3) := by decide +kernel
theorem d_Rules_begin_16 : decode prog_5_method_3_code 16 = .ok (.aload_n 0, 1) := by decide +kernel
theorem d_Rules_begin_17 : decode prog_5_method_3_code 17 = .ok (.getstatic 26, 3) := by decide +kernel
theorem d_Rules_begin_20 : decode prog_5_method_3_code 20 = .ok (.aload_n 0, 1) := by decide +kernel
theorem d_Rules_begin_21 : decode prog_5_method_3_code 21 = .ok (.getfield 23, 3) := by decide +kernel
theorem d_Rules_begin_24 : decode prog_5_method_3_code 24 = .ok (.iaload, 1) := by decide +kernel
theorem d_Rules_begin_25 : decode prog_5_method_3_code 25 = .ok (.putfield 15, 3) := by decide +kernel
theorem d_Rules_begin_28 : decode prog_5_method_3_code 28 = .ok (.aload_n 1, 1) := by decide +kernel
theorem d_Rules_begin_29 : decode prog_5_method_3_code 29 = .ok (.iconst 0, 1) := by decide +kernel
theorem d_Rules_begin_30 : decode prog_5_method_3_code 30 = .ok (.invokestatic 30, 3) := by decide +kernel
theorem d_Rules_begin_33 : decode prog_5_method_3_code 33 = .ok (.aload_n 1, 1) := by decide +kernel
theorem d_Rules_begin_34 : decode prog_5_method_3_code 34 = .ok (.iconst 0, 1) := by decide +kernel
theorem d_Rules_begin_35 : decode prog_5_method_3_code 35 = .ok (.iconst 1, 1) := by decide +kernel
theorem d_Rules_begin_36 : decode prog_5_method_3_code 36 = .ok (.iastore, 1) := by decide +kernel
theorem d_Rules_begin_37 : decode prog_5_method_3_code 37 = .ok (.aload_n 1, 1) := by decide +kernel
theorem d_Rules_begin_38 : decode prog_5_method_3_code 38 = .ok (.bipush 6, 2) := by decide +kernel
theorem d_Rules_begin_40 : decode prog_5_method_3_code 40 = .ok (.iconst 1, 1) := by decide +kernel
theorem d_Rules_begin_41 : decode prog_5_method_3_code 41 = .ok (.iastore, 1) := by decide +kernel
theorem d_Rules_begin_42 : decode prog_5_method_3_code 42 = .ok (.aload_n 0, 1) := by decide +kernel
theorem d_Rules_begin_43 : decode prog_5_method_3_code 43 = .ok (.getfield 15, 3) := by decide +kernel
theorem d_Rules_begin_46 : decode prog_5_method_3_code 46 = .ok (.iconst 1, 1) := by decide +kernel
theorem d_Rules_begin_47 : decode prog_5_method_3_code 47 = .ok (.if_icmp .ne 15, 3) := by decide +kernel
theorem d_Rules_begin_50 : decode prog_5_method_3_code 50 = .ok (.aload_n 1, 1) := by decide +kernel
theorem d_Rules_begin_51 : decode prog_5_method_3_code 51 = .ok (.bipush 68, 2) := by decide +kernel
theorem d_Rules_begin_53 : decode prog_5_method_3_code 53 = .ok (.bipush 64, 2) := by decide +kernel
theorem d_Rules_begin_55 : decode prog_5_method_3_code 55 = .ok (.iastore, 1) := by decide +kernel
theorem d_Rules_begin_56 : decode prog_5_method_3_code 56 = .ok (.aload_n 1, 1) := by decide +kernel
theorem d_Rules_begin_57 : decode prog_5_method_3_code 57 = .ok (.bipush 74, 2) := by decide +kernel
theorem d_Rules_begin_59 : decode prog_5_method_3_code 59 = .ok (.bipush 64, 2) := by decide +kernel
theorem d_Rules_begin_61 : decode prog_5_method_3_code 61 = .ok (.iastore, 1) := by decide +kernel
theorem d_Rules_begin_62 : decode prog_5_method_3_code 62 = .ok (.aload_n 0, 1) := by decide +kernel
theorem d_Rules_begin_63 : decode prog_5_method_3_code 63 = .ok (.getfield 15, 3) := by decide +kernel
theorem d_Rules_begin_66 : decode prog_5_method_3_code 66 = .ok (.iconst 2, 1) := by decide +kernel
theorem d_Rules_begin_67 : decode prog_5_method_3_code 67 = .ok (.if_icmp .ne 29, 3) := by decide +kernel
theorem d_Rules_begin_70 : decode prog_5_method_3_code 70 = .ok (.aload_n 1, 1) := by decide +kernel
theorem d_Rules_begin_71 : decode prog_5_method_3_code 71 = .ok (.bipush 87, 2) := by decide +kernel
theorem d_Rules_begin_73 : decode prog_5_method_3_code 73 = .ok (.iconst 1, 1) := by decide +kernel
theorem d_Rules_begin_74 : decode prog_5_method_3_code 74 = .ok (.iastore, 1) := by decide +kernel
theorem d_Rules_begin_75 : decode prog_5_method_3_code 75 = .ok (.iconst 0, 1) := by decide +kernel
theorem d_Rules_begin_76 : decode prog_5_method_3_code 76 = .ok (.istore_n 3, 1) := by decide +kernel
theorem d_Rules_begin_77 : decode prog_5_method_3_code 77 = .ok (.iload_n 3, 1) := by decide +kernel
theorem d_Rules_begin_78 : decode prog_5_method_3_code 78 = .ok (.bipush 6, 2) := by decide +kernel
theorem d_Rules_begin_80 : decode prog_5_method_3_code 80 = .ok (.if_icmp .ge 16, 3) := by decide +kernel
theorem d_Rules_begin_83 : decode prog_5_method_3_code 83 = .ok (.aload_n 1, 1) := by decide +kernel
theorem d_Rules_begin_84 : decode prog_5_method_3_code 84 = .ok (.bipush 81, 2) := by decide +kernel
theorem d_Rules_begin_86 : decode prog_5_method_3_code 86 = .ok (.iload_n 3, 1) := by decide +kernel
theorem d_Rules_begin_87 : decode prog_5_method_3_code 87 = .ok (.iadd, 1) := by decide +kernel
theorem d_Rules_begin_88 : decode prog_5_method_3_code 88 = .ok (.iconst (-1), 1) := by decide +kernel
theorem d_Rules_begin_89 : decode prog_5_method_3_code 89 = .ok (.iastore, 1) := by decide +kernel
theorem d_Rules_begin_90 : decode prog_5_method_3_code 90 = .ok (.iinc 3 1, 3) := by decide +kernel
theorem d_Rules_begin_93 : decode prog_5_method_3_code 93 = .ok (.goto (-16), 3) := by decide +kernel
theorem d_Rules_begin_96 : decode prog_5_method_3_code 96 = .ok (.return_, 1) := by decide +kernel
set_option maxHeartbeats 4000000 in
set_option maxRecDepth 100000 in
theorem r_Rules_begin_77_b {p : Program} {l : Launch} {e : Env} {s : State} {m : MethodId} {args : Array Value} {below : List Frame} {meth : Method} {c : Code} {G : zG} {K : Nat} (X : zX p s m args meth c "AllHome$Rules" prog_5_method_3_code 4 none G (zA G K)) {h' : zH} (a1 : Nat) (k77 : (Int32 × zH) → Option zH) (hk77 : ∀ (w : Int32 × zH), k77 w = some h' → ∀ (H : Heap) (locs : List Loc) (ls : Array Slot), zI G K s (zA G K) H locs w.2 → lv_has ls 4 [(1, .ref (G.1 a1)), (3, .int w.1)] → W p l e (zR 1) s m args below meth c H locs 0 0 (MQ below (zQv G K h') args s 0 0 (zA G K)) (F0 m 77 ls [])) (u : Int32 × zH) (hm : g_Rules_begin_77 a1 k77 u = some h') {H : Heap} {locs : List Loc} {ls : Array Slot} (hI : zI G K s (zA G K) H locs u.2) (hl : lv_has ls 4 [(1, .ref (G.1 a1)), (3, .int u.1)]) : W p l e (zR 1) s m args below meth c H locs 0 0 (MQ below (zQv G K h') args s 0 0 (zA G K)) (F0 m 77 ls []) := by
  obtain ⟨hx, hb, hml, hown, hts, hr, hlocks, hK, hST, hNs⟩ := id X
  unfold g_Rules_begin_77 at hm
  refine lv_iload_n hx hb d_Rules_begin_77 rfl (lv_at hl 1 rfl) ?_
  refine lv_bipush (v := 6) hx hb d_Rules_begin_78 (by decide) ?_
  refine lv_icmp_ge (tgt := 96) hx hb d_Rules_begin_80 (by decide) (fun hc80 => ?_) (fun hc80 => ?_)
  · replace hm := zif_t hc80 hm
    obtain rfl := zs1 hm
    exact z_vret X hI d_Rules_begin_96
  · replace hm := zif_f hc80 hm
    refine lv_aload_n hx hb d_Rules_begin_83 rfl (lv_at hl 0 rfl) ?_
    refine lv_bipush (v := 81) hx hb d_Rules_begin_84 (by decide) ?_
    refine lv_iload_n hx hb d_Rules_begin_86 rfl (lv_at hl 1 rfl) ?_
    refine lv_iadd hx hb d_Rules_begin_87 ?_
    refine lv_iconst (v := -1) hx hb d_Rules_begin_88 (by decide) ?_
    obtain ⟨h89, hv, hm⟩ := zbd hm
    refine z_iast X hI hv d_Rules_begin_89 (fun H locs hI => ?_)
    refine lv_iinc (v := (u.1 + (1 : Int32))) (lv' := [(3, .int (u.1 + (1 : Int32))), (1, .ref (G.1 a1))]) hx hb d_Rules_begin_90 hl (k := 1) rfl rfl (by decide) rfl (fun ls hl => ?_)
    refine lv_goto (tgt := 77) hx hb d_Rules_begin_93 (by decide) ?_
    exact hk77 ((u.1 + (1 : Int32)), h89) hm _ _ _ hI (lv_sub hl [1, 0] rfl)
theorem r_Rules_begin_77 {p : Program} {l : Launch} {e : Env} {s : State} {m : MethodId} {args : Array Value} {below : List Frame} {meth : Method} {c : Code} {G : zG} {K : Nat} (X : zX p s m args meth c "AllHome$Rules" prog_5_method_3_code 4 none G (zA G K)) {h' : zH} (a1 : Nat) : ∀ (n : Nat) (w : Int32 × zH), zloop (g_Rules_begin_77 a1) n w = some h' → ∀ (H : Heap) (locs : List Loc) (ls : Array Slot), zI G K s (zA G K) H locs w.2 → lv_has ls 4 [(1, .ref (G.1 a1)), (3, .int w.1)] → W p l e (zR 1) s m args below meth c H locs 0 0 (MQ below (zQv G K h') args s 0 0 (zA G K)) (F0 m 77 ls []) := by
  intro n
  induction n with
  | zero => intro w hm; cases hm
  | succ n ih => intro w hm H locs ls hI hl; exact r_Rules_begin_77_b X a1 (zloop (g_Rules_begin_77 a1) n) ih w hm hI hl
set_option maxHeartbeats 4000000 in
set_option maxRecDepth 100000 in
theorem r_Rules_begin_62 {p : Program} {l : Launch} {e : Env} {s : State} {m : MethodId} {args : Array Value} {below : List Frame} {meth : Method} {c : Code} {G : zG} {K : Nat} (X : zX p s m args meth c "AllHome$Rules" prog_5_method_3_code 4 none G (zA G K)) {h' : zH} (a0 : Nat) (a1 : Nat) (h : zH) (hm : g_Rules_begin_62 a0 a1 h = some h') {H : Heap} {locs : List Loc} {ls : Array Slot} (hI : zI G K s (zA G K) H locs h) (hl : lv_has ls 4 [(0, .ref (G.1 a0)), (1, .ref (G.1 a1))]) : W p l e (zR 1) s m args below meth c H locs 0 0 (MQ below (zQv G K h') args s 0 0 (zA G K)) (F0 m 62 ls []) := by
  obtain ⟨hx, hb, hml, hown, hts, hr, hlocks, hK, hST, hNs⟩ := id X
  unfold g_Rules_begin_62 at hm
  refine lv_aload_n hx hb d_Rules_begin_62 rfl (lv_at hl 0 rfl) ?_
  obtain ⟨v63, hv, hm⟩ := zbd hm
  refine z_getI X hI F_Rules_15 hv d_Rules_begin_63 ?_
  refine lv_iconst (v := 2) hx hb d_Rules_begin_66 (by decide) ?_
  refine lv_icmp_ne (tgt := 96) hx hb d_Rules_begin_67 (by decide) (fun hc67 => ?_) (fun hc67 => ?_)
  · replace hm := zif_f hc67 hm
    obtain rfl := zs1 hm
    exact z_vret X hI d_Rules_begin_96
  · replace hm := zif_t hc67 hm
    refine lv_aload_n hx hb d_Rules_begin_70 rfl (lv_at hl 1 rfl) ?_
    refine lv_bipush (v := 87) hx hb d_Rules_begin_71 (by decide) ?_
    refine lv_iconst (v := 1) hx hb d_Rules_begin_73 (by decide) ?_
    obtain ⟨h74, hv, hm⟩ := zbd hm
    refine z_iast X hI hv d_Rules_begin_74 (fun H locs hI => ?_)
    refine lv_iconst (v := 0) hx hb d_Rules_begin_75 (by decide) ?_
    refine lv_istore_n (lv' := [(3, .int (0 : Int32)), (0, .ref (G.1 a0)), (1, .ref (G.1 a1))]) hx hb d_Rules_begin_76 rfl hl (by decide) rfl (fun ls hl => ?_)
    exact r_Rules_begin_77 X a1 zN ((0 : Int32), h74) hm _ _ _ hI (lv_sub hl [2, 0] rfl)
set_option maxHeartbeats 4000000 in
set_option maxRecDepth 100000 in
theorem r_Rules_begin_13 {p : Program} {l : Launch} {e : Env} {s : State} {m : MethodId} {args : Array Value} {below : List Frame} {meth : Method} {c : Code} {G : zG} {K : Nat} (X : zX p s m args meth c "AllHome$Rules" prog_5_method_3_code 4 none G (zA G K)) {h' : zH} (a0 : Nat) (a1 : Nat) (c0 : Nat) (y1 : Int32) (h : zH) (hm : g_Rules_begin_13 a0 a1 c0 y1 h = some h') {H : Heap} {locs : List Loc} {ls : Array Slot} (hI : zI G K s (zA G K) H locs h) (hl : lv_has ls 4 [(0, .ref (G.1 a0)), (1, .ref (G.1 a1))]) : W p l e (zR 1) s m args below meth c H locs 0 0 (MQ below (zQv G K h') args s 0 0 (zA G K)) (F0 m 13 ls [.int y1, .ref (G.1 c0)]) := by
  obtain ⟨hx, hb, hml, hown, hts, hr, hlocks, hK, hST, hNs⟩ := id X
  unfold g_Rules_begin_13 at hm
  obtain ⟨h13, hv, hm⟩ := zbd hm
  refine z_putI X hI P_Rules_23 hv d_Rules_begin_13 (fun H locs hI => ?_)
  refine lv_aload_n hx hb d_Rules_begin_16 rfl (lv_at hl 0 rfl) ?_
  refine z_getsN X hI 1 (by decide) (List.mem_of_getElem? (i := 4) rfl) d_Rules_begin_17 ?_
  refine lv_aload_n hx hb d_Rules_begin_20 rfl (lv_at hl 0 rfl) ?_
  obtain ⟨v21, hv, hm⟩ := zbd hm
  refine z_getI X hI F_Rules_23 hv d_Rules_begin_21 ?_
  obtain ⟨v24, hv, hm⟩ := zbd hm
  refine z_tab X hI 1 (by decide) hv d_Rules_begin_24 ?_
  obtain ⟨h25, hv, hm⟩ := zbd hm
  refine z_putI X hI P_Rules_15 hv d_Rules_begin_25 (fun H locs hI => ?_)
  refine lv_aload_n hx hb d_Rules_begin_28 rfl (lv_at hl 1 rfl) ?_
  refine lv_iconst (v := 0) hx hb d_Rules_begin_29 (by decide) ?_
  obtain ⟨h30, hv, hm⟩ := zbd hm
  refine z_cv hI (z_runS (As := [.ref (G.1 a1), .int (0 : Int32)]) (rest := []) X hI hl.1 (c_Fill_I l G K a1 (0 : Int32) h25 _ hv) C_Rules_30 rfl (Nat.le_of_ble_eq_true rfl) ⟨Nat.le_of_ble_eq_true rfl, Nat.le_of_ble_eq_true rfl, Nat.zero_le _, Nat.zero_le _⟩ rfl d_Rules_begin_30) (fun H locs hI => ?_)
  refine lv_aload_n hx hb d_Rules_begin_33 rfl (lv_at hl 1 rfl) ?_
  refine lv_iconst (v := 0) hx hb d_Rules_begin_34 (by decide) ?_
  refine lv_iconst (v := 1) hx hb d_Rules_begin_35 (by decide) ?_
  obtain ⟨h36, hv, hm⟩ := zbd hm
  refine z_iast X hI hv d_Rules_begin_36 (fun H locs hI => ?_)
  refine lv_aload_n hx hb d_Rules_begin_37 rfl (lv_at hl 1 rfl) ?_
  refine lv_bipush (v := 6) hx hb d_Rules_begin_38 (by decide) ?_
  refine lv_iconst (v := 1) hx hb d_Rules_begin_40 (by decide) ?_
  obtain ⟨h41, hv, hm⟩ := zbd hm
  refine z_iast X hI hv d_Rules_begin_41 (fun H locs hI => ?_)
  refine lv_aload_n hx hb d_Rules_begin_42 rfl (lv_at hl 0 rfl) ?_
  obtain ⟨v43, hv, hm⟩ := zbd hm
  refine z_getI X hI F_Rules_15 hv d_Rules_begin_43 ?_
  refine lv_iconst (v := 1) hx hb d_Rules_begin_46 (by decide) ?_
  refine lv_icmp_ne (tgt := 62) hx hb d_Rules_begin_47 (by decide) (fun hc47 => ?_) (fun hc47 => ?_)
  · replace hm := zif_f hc47 hm
    exact r_Rules_begin_62 X a0 a1 h41 hm hI (lv_sub hl [0, 1] rfl)
  · replace hm := zif_t hc47 hm
    refine lv_aload_n hx hb d_Rules_begin_50 rfl (lv_at hl 1 rfl) ?_
    refine lv_bipush (v := 68) hx hb d_Rules_begin_51 (by decide) ?_
    refine lv_bipush (v := 64) hx hb d_Rules_begin_53 (by decide) ?_
    obtain ⟨h55, hv, hm⟩ := zbd hm
    refine z_iast X hI hv d_Rules_begin_55 (fun H locs hI => ?_)
    refine lv_aload_n hx hb d_Rules_begin_56 rfl (lv_at hl 1 rfl) ?_
    refine lv_bipush (v := 74) hx hb d_Rules_begin_57 (by decide) ?_
    refine lv_bipush (v := 64) hx hb d_Rules_begin_59 (by decide) ?_
    obtain ⟨h61, hv, hm⟩ := zbd hm
    refine z_iast X hI hv d_Rules_begin_61 (fun H locs hI => ?_)
    exact r_Rules_begin_62 X a0 a1 h61 hm hI (lv_sub hl [0, 1] rfl)
set_option maxHeartbeats 4000000 in
set_option maxRecDepth 100000 in
theorem r_Rules_begin_0 {p : Program} {l : Launch} {e : Env} {s : State} {m : MethodId} {args : Array Value} {below : List Frame} {meth : Method} {c : Code} {G : zG} {K : Nat} (X : zX p s m args meth c "AllHome$Rules" prog_5_method_3_code 4 none G (zA G K)) {h' : zH} (a0 : Nat) (a1 : Nat) (x2 : Int32) (h : zH) (hm : m_Rules_begin a0 a1 x2 h = some h') {H : Heap} {locs : List Loc} {ls : Array Slot} (hI : zI G K s (zA G K) H locs h) (hl : lv_has ls 4 [(0, .ref (G.1 a0)), (1, .ref (G.1 a1)), (2, .int x2)]) : W p l e (zR 1) s m args below meth c H locs 0 0 (MQ below (zQv G K h') args s 0 0 (zA G K)) (F0 m 0 ls []) := by
  obtain ⟨hx, hb, hml, hown, hts, hr, hlocks, hK, hST, hNs⟩ := id X
  unfold m_Rules_begin at hm
  refine lv_aload_n hx hb d_Rules_begin_0 rfl (lv_at hl 0 rfl) ?_
  refine lv_iload_n hx hb d_Rules_begin_1 rfl (lv_at hl 2 rfl) ?_
  obtain ⟨v2, hv, hm⟩ := zbd hm
  refine z_ci hI (z_runN (As := [.int x2]) (rest := [.ref (G.1 a0)]) X hI hl.1 (c_Home_isKind l G K x2 h _ hv) C_Rules_19 rfl (Nat.le_of_ble_eq_true rfl) ⟨Nat.le_of_ble_eq_true rfl, Nat.le_of_ble_eq_true rfl, Nat.zero_le _, Nat.zero_le _⟩ rfl d_Rules_begin_2) (fun H locs hI => ?_)
  refine lv_if_eq (tgt := 12) hx hb d_Rules_begin_5 (by decide) (fun hc5 => ?_) (fun hc5 => ?_)
  · replace hm := zif_t hc5 hm
    refine lv_iconst (v := 0) hx hb d_Rules_begin_12 (by decide) ?_
    exact r_Rules_begin_13 X a0 a1 a0 (0 : Int32) h hm hI (lv_sub hl [0, 1] rfl)
  · replace hm := zif_f hc5 hm
    refine lv_iload_n hx hb d_Rules_begin_8 rfl (lv_at hl 2 rfl) ?_
    refine lv_goto (tgt := 13) hx hb d_Rules_begin_9 (by decide) ?_
    exact r_Rules_begin_13 X a0 a1 a0 x2 h hm hI (lv_sub hl [0, 1] rfl)
set_option maxHeartbeats 4000000 in
set_option maxRecDepth 100000 in
theorem c_Rules_begin (l : Launch) (G : zG) (K : Nat) (a0 : Nat) (a1 : Nat) (x2 : Int32) (h : zH) (h' : zH) (hm : m_Rules_begin a0 a1 x2 h = some h') : zMv l G K y_Rules_begin prog_5_method_3_code 4 1 [.ref (G.1 a0), .ref (G.1 a1), .int x2] h h' := zMet (by decide +kernel) (Nat.le_of_ble_eq_true rfl) (fun p e s m below meth c ls X hI hl => r_Rules_begin_0 X a0 a1 x2 h hm hI hl)
end
