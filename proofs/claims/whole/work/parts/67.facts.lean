/-! names of the methods, words of the tables, facts on fields and calls: by program -/
def y_Huts_init : MethodName := ⟨"AllHome$Huts", "<init>", "()V"⟩
def y_Rules_init : MethodName := ⟨"AllHome$Rules", "<init>", "(LAllHome$Huts;)V"⟩
def y_Orders_init : MethodName := ⟨"AllHome$Orders", "<init>", "(LAllHome$Huts;)V"⟩
def y_Acts_init : MethodName := ⟨"AllHome$Acts", "<init>", "()V"⟩
def y_Run_init : MethodName := ⟨"AllHome$Run", "<init>", "(LAllHome$Huts;)V"⟩
def y_Shelf_init : MethodName := ⟨"AllHome$Shelf", "<init>", "()V"⟩
def y_Home_init : MethodName := ⟨"AllHome", "<init>", "()V"⟩
def y_Home_feed : MethodName := ⟨"AllHome", "feed", "(II)I"⟩
def y_Huts_size : MethodName := ⟨"AllHome$Huts", "size", "()I"⟩
def y_Huts_addWords : MethodName := ⟨"AllHome$Huts", "addWords", "(III)I"⟩
def y_Huts_read : MethodName := ⟨"AllHome$Huts", "read", "([II)I"⟩
def y_Orders_forget : MethodName := ⟨"AllHome$Orders", "forget", "()V"⟩
def y_Home_hut : MethodName := ⟨"AllHome", "hut", "()I"⟩
def y_Huts_has : MethodName := ⟨"AllHome$Huts", "has", "(I)Z"⟩
def y_Huts_linesOf : MethodName := ⟨"AllHome$Huts", "linesOf", "(I)I"⟩
def y_Huts_wordsOf : MethodName := ⟨"AllHome$Huts", "wordsOf", "(II)I"⟩
def y_Home_line : MethodName := ⟨"AllHome", "line", "(II)I"⟩
def y_Huts_goal : MethodName := ⟨"AllHome$Huts", "goal", "(III)I"⟩
def y_Home_goesTo : MethodName := ⟨"AllHome", "goesTo", "(III)I"⟩
def y_Home_isKind : MethodName := ⟨"AllHome", "isKind", "(I)Z"⟩
def y_Home_way : MethodName := ⟨"AllHome", "way", "(I)I"⟩
def y_Home_isWay : MethodName := ⟨"AllHome", "isWay", "(I)Z"⟩
def y_Home_kindOf : MethodName := ⟨"AllHome", "kindOf", "(I)I"⟩
def y_Fill_I : MethodName := ⟨"java/util/Arrays", "fill", "([II)V"⟩
def y_Rules_begin : MethodName := ⟨"AllHome$Rules", "begin", "([II)V"⟩
def y_Run_begin : MethodName := ⟨"AllHome$Run", "begin", "(II)V"⟩
def y_Home_run : MethodName := ⟨"AllHome", "run", "(I)I"⟩
def y_Home_isRun : MethodName := ⟨"AllHome", "isRun", "(I)Z"⟩
def y_Rules_partUnits : MethodName := ⟨"AllHome$Rules", "partUnits", "([II)I"⟩
def y_Rules_send : MethodName := ⟨"AllHome$Rules", "send", "([III)I"⟩
def y_Rules_sendNote : MethodName := ⟨"AllHome$Rules", "sendNote", "([IIII)I"⟩
def y_Rules_goOn : MethodName := ⟨"AllHome$Rules", "goOn", "([II)I"⟩
def y_Rules_isOnTheWay : MethodName := ⟨"AllHome$Rules", "isOnTheWay", "([III)Z"⟩
def y_Rules_closeGap : MethodName := ⟨"AllHome$Rules", "closeGap", "([III)V"⟩
def y_Rules_takeAwayWord : MethodName := ⟨"AllHome$Rules", "takeAwayWord", "([II)V"⟩
def y_Rules_joinTree : MethodName := ⟨"AllHome$Rules", "joinTree", "([III)I"⟩
def y_Rules_comeWord : MethodName := ⟨"AllHome$Rules", "comeWord", "([II)I"⟩
def y_Rules_takeStone : MethodName := ⟨"AllHome$Rules", "takeStone", "([IIII)I"⟩
def y_Rules_takeSums : MethodName := ⟨"AllHome$Rules", "takeSums", "([IIII)I"⟩
def y_Rules_comeNote : MethodName := ⟨"AllHome$Rules", "comeNote", "([II)I"⟩
def y_Home_isUnder : MethodName := ⟨"AllHome", "isUnder", "(II)Z"⟩
def y_Rules_ask : MethodName := ⟨"AllHome$Rules", "ask", "([II)I"⟩
def y_Rules_lose : MethodName := ⟨"AllHome$Rules", "lose", "([II)I"⟩
def y_Rules_leaveTree : MethodName := ⟨"AllHome$Rules", "leaveTree", "([I)I"⟩
def y_Rules_seesAllHome : MethodName := ⟨"AllHome$Rules", "seesAllHome", "([I)Z"⟩
def y_Rules_apply : MethodName := ⟨"AllHome$Rules", "apply", "([III)I"⟩
def y_Home_isOver : MethodName := ⟨"AllHome", "isOver", "([I)Z"⟩
def y_Run_advance : MethodName := ⟨"AllHome$Run", "advance", "([III)I"⟩
def y_Home_step : MethodName := ⟨"AllHome", "step", "(III)I"⟩
def y_Home_isShelf : MethodName := ⟨"AllHome", "isShelf", "(I)Z"⟩
def y_Shelf_isEmpty : MethodName := ⟨"AllHome$Shelf", "isEmpty", "()Z"⟩
def y_Shelf_isRowOf : MethodName := ⟨"AllHome$Shelf", "isRowOf", "(I)Z"⟩
def y_Shelf_hasPlace : MethodName := ⟨"AllHome$Shelf", "hasPlace", "(I)Z"⟩
def y_Shelf_at : MethodName := ⟨"AllHome$Shelf", "at", "(I)J"⟩
def y_Home_steps : MethodName := ⟨"AllHome", "steps", "(IIII)I"⟩
def y_Run_hutsAwake : MethodName := ⟨"AllHome$Run", "hutsAwake", "()I"⟩
def y_Run_tell : MethodName := ⟨"AllHome$Run", "tell", "(I)I"⟩
def y_Home_ofRun : MethodName := ⟨"AllHome", "ofRun", "(II)I"⟩
def y_Rules_family : MethodName := ⟨"AllHome$Rules", "family", "()I"⟩
def y_Run_family : MethodName := ⟨"AllHome$Run", "family", "()I"⟩
def y_Run_cell : MethodName := ⟨"AllHome$Run", "cell", "(I)I"⟩
def y_Home_ofHut : MethodName := ⟨"AllHome", "ofHut", "(III)I"⟩
def y_Home_word : MethodName := ⟨"AllHome", "word", "(III)I"⟩
def y_Home_note : MethodName := ⟨"AllHome", "note", "(III)I"⟩
def y_Home_total : MethodName := ⟨"AllHome", "total", "(I)I"⟩
def y_Orders_printOf : MethodName := ⟨"AllHome$Orders", "printOf", "([I)I"⟩
def y_Orders_addSpare : MethodName := ⟨"AllHome$Orders", "addSpare", "(II)I"⟩
def y_Orders_numbersOf : MethodName := ⟨"AllHome$Orders", "numbersOf", "([II)I"⟩
def y_Orders_alike : MethodName := ⟨"AllHome$Orders", "alike", "([I[II)Z"⟩
def y_Orders_findSpare : MethodName := ⟨"AllHome$Orders", "findSpare", "()I"⟩
def y_Orders_tryStep : MethodName := ⟨"AllHome$Orders", "tryStep", "(III)V"⟩
def y_Orders_explore : MethodName := ⟨"AllHome$Orders", "explore", "(I)V"⟩
def y_Orders_isBig : MethodName := ⟨"AllHome$Orders", "isBig", "()Z"⟩
def y_Home_goThrough : MethodName := ⟨"AllHome", "goThrough", "(I)I"⟩
def y_Orders_size : MethodName := ⟨"AllHome$Orders", "size", "()I"⟩
def y_Home_states : MethodName := ⟨"AllHome", "states", "(I)I"⟩
def y_Orders_firstSaying : MethodName := ⟨"AllHome$Orders", "firstSaying", "(Z)I"⟩
def y_Orders_early : MethodName := ⟨"AllHome$Orders", "early", "()I"⟩
def y_Orders_soon : MethodName := ⟨"AllHome$Orders", "soon", "()I"⟩
def y_Orders_stepsTo : MethodName := ⟨"AllHome$Orders", "stepsTo", "(I)I"⟩
def y_Orders_stepOnTheWayTo : MethodName := ⟨"AllHome$Orders", "stepOnTheWayTo", "(II)I"⟩
def y_Home_least : MethodName := ⟨"AllHome", "least", "(III)I"⟩
def y_Orders_spreadCanSay : MethodName := ⟨"AllHome$Orders", "spreadCanSay", "()Z"⟩
def y_Orders_stuckStates : MethodName := ⟨"AllHome$Orders", "stuckStates", "()I"⟩
def y_Home_stuck : MethodName := ⟨"AllHome", "stuck", "(I)I"⟩
def y_Orders_unlikeWorks : MethodName := ⟨"AllHome$Orders", "unlikeWorks", "()I"⟩
def y_Home_work : MethodName := ⟨"AllHome", "work", "(II)I"⟩
def y_Acts_clear : MethodName := ⟨"AllHome$Acts", "clear", "()V"⟩
def y_Acts_bodyOf : MethodName := ⟨"AllHome$Acts", "bodyOf", "(II)I"⟩
def y_Acts_begun : MethodName := ⟨"AllHome$Acts", "begun", "(I)V"⟩
def y_Acts_perform : MethodName := ⟨"AllHome$Acts", "perform", "(IIII)I"⟩
def y_Acts_begin : MethodName := ⟨"AllHome$Acts", "begin", "(IIII)I"⟩
def y_Home_act : MethodName := ⟨"AllHome", "act", "(III)I"⟩
def y_Acts_traced : MethodName := ⟨"AllHome$Acts", "traced", "(I)I"⟩
def y_Home_trace : MethodName := ⟨"AllHome", "trace", "(I)I"⟩
def y_Shelf_holdWay : MethodName := ⟨"AllHome$Shelf", "holdWay", "(I)V"⟩
def y_Home_keep : MethodName := ⟨"AllHome", "keep", "(II)I"⟩
def y_Fill_J : MethodName := ⟨"java/util/Arrays", "fill", "([JJ)V"⟩
def y_Shelf_holdRow : MethodName := ⟨"AllHome$Shelf", "holdRow", "(II)V"⟩
def y_Home_row : MethodName := ⟨"AllHome", "row", "(III)I"⟩
def y_Shelf_isRow : MethodName := ⟨"AllHome$Shelf", "isRow", "()Z"⟩
def y_Home_wantPlace : MethodName := ⟨"AllHome", "wantPlace", "(II)I"⟩
def y_Shelf_lowestBits : MethodName := ⟨"AllHome$Shelf", "lowestBits", "(J)J"⟩
def y_Shelf_set : MethodName := ⟨"AllHome$Shelf", "set", "(IJ)V"⟩
def y_Home_put : MethodName := ⟨"AllHome", "put", "(IIJ)I"⟩
def y_Home_element : MethodName := ⟨"AllHome", "element", "(II)J"⟩
def y_Shelf_sort : MethodName := ⟨"AllHome$Shelf", "sort", "()I"⟩
def y_Shelf_hasPlaces : MethodName := ⟨"AllHome$Shelf", "hasPlaces", "(II)Z"⟩
def y_Shelf_copyTo : MethodName := ⟨"AllHome$Shelf", "copyTo", "(ILAllHome$Shelf;II)V"⟩
def y_Home_shift : MethodName := ⟨"AllHome", "shift", "(IIIII)I"⟩
def y_Shelf_heldWay : MethodName := ⟨"AllHome$Shelf", "heldWay", "()I"⟩
def y_Home_taken : MethodName := ⟨"AllHome", "taken", "(II)I"⟩
def y_Acts_ran : MethodName := ⟨"AllHome$Acts", "ran", "()I"⟩
def y_Home_count : MethodName := ⟨"AllHome", "count", "(I)I"⟩
def y_Model_init : MethodName := ⟨"AllHomeModel", "<init>", "()V"⟩
def y_Model_within : MethodName := ⟨"AllHomeModel", "within", "(JJJ)Z"⟩
def y_Model_isHut : MethodName := ⟨"AllHomeModel", "isHut", "(I)Z"⟩
def y_Model_isWay : MethodName := ⟨"AllHomeModel", "isWay", "(I)Z"⟩
def y_Model_feed : MethodName := ⟨"AllHomeModel", "feed", "(II)I"⟩
def y_Model_isOther : MethodName := ⟨"AllHomeModel", "isOther", "(II)Z"⟩
def y_Model_faultOf : MethodName := ⟨"AllHomeModel", "faultOf", "(I)I"⟩
def y_Model_hut : MethodName := ⟨"AllHomeModel", "hut", "()I"⟩
def y_Model_lines : MethodName := ⟨"AllHomeModel", "lines", "(I)I"⟩
def y_Model_inLine : MethodName := ⟨"AllHomeModel", "inLine", "(III)I"⟩
def y_Model_line : MethodName := ⟨"AllHomeModel", "line", "(II)I"⟩
def y_Model_goesTo : MethodName := ⟨"AllHomeModel", "goesTo", "(III)I"⟩
def y_Model_way : MethodName := ⟨"AllHomeModel", "way", "(I)I"⟩
def y_Model_kindOf : MethodName := ⟨"AllHomeModel", "kindOf", "(I)I"⟩
def y_Model_above : MethodName := ⟨"AllHomeModel", "above", "(I)I"⟩
def y_Model_isUnder : MethodName := ⟨"AllHomeModel", "isUnder", "(II)Z"⟩
def y_Model_begin : MethodName := ⟨"AllHomeModel", "begin", "(I)V"⟩
def y_Model_of : MethodName := ⟨"AllHomeModel", "of", "(II)I"⟩
def y_Model_add : MethodName := ⟨"AllHomeModel", "add", "(III)V"⟩
def y_Model_become : MethodName := ⟨"AllHomeModel", "become", "(III)V"⟩
def y_Model_words : MethodName := ⟨"AllHomeModel", "words", "()I"⟩
def y_Model_notes : MethodName := ⟨"AllHomeModel", "notes", "()I"⟩
def y_Model_putLast : MethodName := ⟨"AllHomeModel", "putLast", "(IIII)V"⟩
def y_Model_takeOut : MethodName := ⟨"AllHomeModel", "takeOut", "(II)V"⟩
def y_Model_sendNote : MethodName := ⟨"AllHomeModel", "sendNote", "(III)V"⟩
def y_Model_sendWord : MethodName := ⟨"AllHomeModel", "sendWord", "(II)V"⟩
def y_Model_goOn : MethodName := ⟨"AllHomeModel", "goOn", "(I)Z"⟩
def y_Model_comes : MethodName := ⟨"AllHomeModel", "comes", "(I)Z"⟩
def y_Model_stoneAt : MethodName := ⟨"AllHomeModel", "stoneAt", "(III)V"⟩
def y_Model_sumsAt : MethodName := ⟨"AllHomeModel", "sumsAt", "(III)V"⟩
def y_Model_noteComes : MethodName := ⟨"AllHomeModel", "noteComes", "(I)Z"⟩
def y_Model_asks : MethodName := ⟨"AllHomeModel", "asks", "(I)Z"⟩
def y_Model_behind : MethodName := ⟨"AllHomeModel", "behind", "()V"⟩
def y_Model_doStep : MethodName := ⟨"AllHomeModel", "doStep", "(II)I"⟩
def y_Model_isOver : MethodName := ⟨"AllHomeModel", "isOver", "()Z"⟩
def y_Model_keepRun : MethodName := ⟨"AllHomeModel", "keepRun", "(I)V"⟩
def y_Model_takeRun : MethodName := ⟨"AllHomeModel", "takeRun", "(I)V"⟩
def y_Model_run : MethodName := ⟨"AllHomeModel", "run", "(I)I"⟩
def y_Model_isRun : MethodName := ⟨"AllHomeModel", "isRun", "(I)Z"⟩
def y_Model_stepOf : MethodName := ⟨"AllHomeModel", "stepOf", "(III)I"⟩
def y_Model_step : MethodName := ⟨"AllHomeModel", "step", "(III)I"⟩
def y_Model_isShelf : MethodName := ⟨"AllHomeModel", "isShelf", "(I)Z"⟩
def y_Model_steps : MethodName := ⟨"AllHomeModel", "steps", "(IIII)I"⟩
def y_Model_ofRun : MethodName := ⟨"AllHomeModel", "ofRun", "(II)I"⟩
def y_Model_ofHut : MethodName := ⟨"AllHomeModel", "ofHut", "(III)I"⟩
def y_Model_word : MethodName := ⟨"AllHomeModel", "word", "(III)I"⟩
def y_Model_note : MethodName := ⟨"AllHomeModel", "note", "(III)I"⟩
def y_Model_total : MethodName := ⟨"AllHomeModel", "total", "(I)I"⟩
def y_Model_bringBack : MethodName := ⟨"AllHomeModel", "bringBack", "(I)V"⟩
def y_Model_findState : MethodName := ⟨"AllHomeModel", "findState", "()I"⟩
def y_Model_keepState : MethodName := ⟨"AllHomeModel", "keepState", "(II)V"⟩
def y_Model_goFrom : MethodName := ⟨"AllHomeModel", "goFrom", "(I)V"⟩
def y_Model_findAll : MethodName := ⟨"AllHomeModel", "findAll", "(I)I"⟩
def y_Model_noOrders : MethodName := ⟨"AllHomeModel", "noOrders", "(I)I"⟩
def y_Model_states : MethodName := ⟨"AllHomeModel", "states", "(I)I"⟩
def y_Model_stepsTo : MethodName := ⟨"AllHomeModel", "stepsTo", "(I)I"⟩
def y_Model_least : MethodName := ⟨"AllHomeModel", "least", "(III)I"⟩
def y_Model_stuck : MethodName := ⟨"AllHomeModel", "stuck", "(I)I"⟩
def y_Model_worksAlike : MethodName := ⟨"AllHomeModel", "worksAlike", "(II)Z"⟩
def y_Model_workMany : MethodName := ⟨"AllHomeModel", "workMany", "()I"⟩
def y_Model_work : MethodName := ⟨"AllHomeModel", "work", "(II)I"⟩
def y_Model_ranBody : MethodName := ⟨"AllHomeModel", "ranBody", "(I)V"⟩
def y_Model_sends : MethodName := ⟨"AllHomeModel", "sends", "(II)I"⟩
def y_Model_asksOf : MethodName := ⟨"AllHomeModel", "asksOf", "(II)I"⟩
def y_Model_owes : MethodName := ⟨"AllHomeModel", "owes", "(II)I"⟩
def y_Model_tells : MethodName := ⟨"AllHomeModel", "tells", "(II)I"⟩
def y_Model_act : MethodName := ⟨"AllHomeModel", "act", "(III)I"⟩
def y_Model_trace : MethodName := ⟨"AllHomeModel", "trace", "(I)I"⟩
def y_Model_keep : MethodName := ⟨"AllHomeModel", "keep", "(II)I"⟩
def y_Model_row : MethodName := ⟨"AllHomeModel", "row", "(III)I"⟩
def y_Model_refusal : MethodName := ⟨"AllHomeModel", "refusal", "(II)I"⟩
def y_Model_asSort : MethodName := ⟨"AllHomeModel", "asSort", "(IJ)J"⟩
def y_Model_put : MethodName := ⟨"AllHomeModel", "put", "(IIJ)I"⟩
def y_Model_element : MethodName := ⟨"AllHomeModel", "element", "(II)J"⟩
def y_Model_shift : MethodName := ⟨"AllHomeModel", "shift", "(IIIII)I"⟩
def y_Model_taken : MethodName := ⟨"AllHomeModel", "taken", "(II)I"⟩
def y_Model_count : MethodName := ⟨"AllHomeModel", "count", "(I)I"⟩
theorem kw178 : (Jvm.Cond.fieldLink "AllHome" (59 : Nat) "AllHome" "tapeLength" "I") ∈ zTb := zTb_in (List.mem_of_getElem? (i := 244) (by decide +kernel)) (by decide +kernel)
theorem kw177 : (Jvm.Cond.fieldLink "AllHome" (9 : Nat) "AllHome" "tape" "[I") ∈ zTb := zTb_in (List.mem_of_getElem? (i := 243) (by decide +kernel)) (by decide +kernel)
theorem kw31 : (Jvm.Cond.fieldLink "AllHome$Huts" (23 : Nat) "AllHome$Huts" "size" "I") ∈ zTb := zTb_in (List.mem_of_getElem? (i := 97) (by decide +kernel)) (by decide +kernel)
theorem kw234 : (Jvm.Cond.methodLink "AllHome$Huts" (35 : Nat) ({ cls := "java/lang/Math", name := "min", desc := "(II)I" } : Jvm.MethodName)) ∈ zTb := zTb_in (List.mem_of_getElem? (i := 300) (by decide +kernel)) (by decide +kernel)
theorem kw235 : (Jvm.Cond.static ({ cls := "java/lang/Math", name := "min", desc := "(II)I" } : Jvm.MethodName)) ∈ zTb := zTb_in (List.mem_of_getElem? (i := 301) (by decide +kernel)) (by decide +kernel)
theorem kw9 : (Jvm.Cond.initialized "java/lang/Math") ∈ zTb := zTb_in (List.mem_of_getElem? (i := 75) (by decide +kernel)) (by decide +kernel)
theorem kw236 : (Jvm.Cond.code ({ cls := "java/lang/Math", name := "min", desc := "(II)I" } : Jvm.MethodName) prog_10_method_69_code (2 : Nat) (Option.some Jvm.ClassFile.FieldType.int)) ∈ zTb := zTb_in (List.mem_of_getElem? (i := 302) (by decide +kernel)) (by decide +kernel)
theorem kw28 : (Jvm.Cond.fieldLink "AllHome$Huts" (13 : Nat) "AllHome$Huts" "goals" "[[I") ∈ zTb := zTb_in (List.mem_of_getElem? (i := 94) (by decide +kernel)) (by decide +kernel)
theorem kw29 : (Jvm.Cond.fieldLink "AllHome$Huts" (16 : Nat) "AllHome$Huts" "starts" "[[I") ∈ zTb := zTb_in (List.mem_of_getElem? (i := 95) (by decide +kernel)) (by decide +kernel)
theorem kw30 : (Jvm.Cond.fieldLink "AllHome$Huts" (19 : Nat) "AllHome$Huts" "lines" "[I") ∈ zTb := zTb_in (List.mem_of_getElem? (i := 96) (by decide +kernel)) (by decide +kernel)
theorem kp0 : Cond.selects "AllHome$Huts" ⟨"AllHome$Huts", "addWords", "(III)I"⟩ ⟨"AllHome$Huts", "addWords", "(III)I"⟩ ∈ zTb := zTb_in (List.mem_of_getElem? (i := 0) (by decide +kernel)) (by decide +kernel)
theorem kw230 : (Jvm.Cond.methodLink "AllHome$Huts" (31 : Nat) ({ cls := "AllHome$Huts", name := "addWords", desc := "(III)I" } : Jvm.MethodName)) ∈ zTb := zTb_in (List.mem_of_getElem? (i := 296) (by decide +kernel)) (by decide +kernel)
theorem kw232 : (Jvm.Cond.instanceMethod ({ cls := "AllHome$Huts", name := "addWords", desc := "(III)I" } : Jvm.MethodName)) ∈ zTb := zTb_in (List.mem_of_getElem? (i := 298) (by decide +kernel)) (by decide +kernel)
theorem kw2 : (Jvm.Cond.initialized "AllHome$Huts") ∈ zTb := zTb_in (List.mem_of_getElem? (i := 68) (by decide +kernel)) (by decide +kernel)
theorem kw233 : (Jvm.Cond.code ({ cls := "AllHome$Huts", name := "addWords", desc := "(III)I" } : Jvm.MethodName) prog_3_method_8_code (5 : Nat) (Option.some Jvm.ClassFile.FieldType.int)) ∈ zTb := zTb_in (List.mem_of_getElem? (i := 299) (by decide +kernel)) (by decide +kernel)
theorem kw81 : (Jvm.Cond.fieldLink "AllHome$Orders" (42 : Nat) "AllHome$Orders" "explored" "I") ∈ zTb := zTb_in (List.mem_of_getElem? (i := 147) (by decide +kernel)) (by decide +kernel)
theorem kw183 : (Jvm.Cond.fieldLink "AllHome" (63 : Nat) "AllHome" "runsBegun" "I") ∈ zTb := zTb_in (List.mem_of_getElem? (i := 249) (by decide +kernel)) (by decide +kernel)
theorem kw179 : (Jvm.Cond.fieldLink "AllHome" (16 : Nat) "AllHome" "huts" "LAllHome$Huts;") ∈ zTb := zTb_in (List.mem_of_getElem? (i := 245) (by decide +kernel)) (by decide +kernel)
theorem kw224 : (Jvm.Cond.selects "AllHome$Huts" ({ cls := "AllHome$Huts", name := "size", desc := "()I" } : Jvm.MethodName) ({ cls := "AllHome$Huts", name := "size", desc := "()I" } : Jvm.MethodName)) ∈ zTb := zTb_in (List.mem_of_getElem? (i := 290) (by decide +kernel)) (by decide +kernel)
theorem kw222 : (Jvm.Cond.methodLink "AllHome" (66 : Nat) ({ cls := "AllHome$Huts", name := "size", desc := "()I" } : Jvm.MethodName)) ∈ zTb := zTb_in (List.mem_of_getElem? (i := 288) (by decide +kernel)) (by decide +kernel)
theorem kw223 : (Jvm.Cond.instanceMethod ({ cls := "AllHome$Huts", name := "size", desc := "()I" } : Jvm.MethodName)) ∈ zTb := zTb_in (List.mem_of_getElem? (i := 289) (by decide +kernel)) (by decide +kernel)
theorem kw225 : (Jvm.Cond.code ({ cls := "AllHome$Huts", name := "size", desc := "()I" } : Jvm.MethodName) prog_3_method_2_code (1 : Nat) (Option.some Jvm.ClassFile.FieldType.int)) ∈ zTb := zTb_in (List.mem_of_getElem? (i := 291) (by decide +kernel)) (by decide +kernel)
theorem kw228 : (Jvm.Cond.selects "AllHome$Huts" ({ cls := "AllHome$Huts", name := "read", desc := "([II)I" } : Jvm.MethodName) ({ cls := "AllHome$Huts", name := "read", desc := "([II)I" } : Jvm.MethodName)) ∈ zTb := zTb_in (List.mem_of_getElem? (i := 294) (by decide +kernel)) (by decide +kernel)
theorem kw226 : (Jvm.Cond.methodLink "AllHome" (70 : Nat) ({ cls := "AllHome$Huts", name := "read", desc := "([II)I" } : Jvm.MethodName)) ∈ zTb := zTb_in (List.mem_of_getElem? (i := 292) (by decide +kernel)) (by decide +kernel)
theorem kw227 : (Jvm.Cond.instanceMethod ({ cls := "AllHome$Huts", name := "read", desc := "([II)I" } : Jvm.MethodName)) ∈ zTb := zTb_in (List.mem_of_getElem? (i := 293) (by decide +kernel)) (by decide +kernel)
theorem kw229 : (Jvm.Cond.code ({ cls := "AllHome$Huts", name := "read", desc := "([II)I" } : Jvm.MethodName) prog_3_method_7_code (9 : Nat) (Option.some Jvm.ClassFile.FieldType.int)) ∈ zTb := zTb_in (List.mem_of_getElem? (i := 295) (by decide +kernel)) (by decide +kernel)
theorem kw185 : (Jvm.Cond.fieldLink "AllHome" (37 : Nat) "AllHome" "orders" "LAllHome$Orders;") ∈ zTb := zTb_in (List.mem_of_getElem? (i := 251) (by decide +kernel)) (by decide +kernel)
theorem kw239 : (Jvm.Cond.selects "AllHome$Orders" ({ cls := "AllHome$Orders", name := "forget", desc := "()V" } : Jvm.MethodName) ({ cls := "AllHome$Orders", name := "forget", desc := "()V" } : Jvm.MethodName)) ∈ zTb := zTb_in (List.mem_of_getElem? (i := 305) (by decide +kernel)) (by decide +kernel)
theorem kw237 : (Jvm.Cond.methodLink "AllHome" (74 : Nat) ({ cls := "AllHome$Orders", name := "forget", desc := "()V" } : Jvm.MethodName)) ∈ zTb := zTb_in (List.mem_of_getElem? (i := 303) (by decide +kernel)) (by decide +kernel)
theorem kw238 : (Jvm.Cond.instanceMethod ({ cls := "AllHome$Orders", name := "forget", desc := "()V" } : Jvm.MethodName)) ∈ zTb := zTb_in (List.mem_of_getElem? (i := 304) (by decide +kernel)) (by decide +kernel)
theorem kw3 : (Jvm.Cond.initialized "AllHome$Orders") ∈ zTb := zTb_in (List.mem_of_getElem? (i := 69) (by decide +kernel)) (by decide +kernel)
theorem kw240 : (Jvm.Cond.code ({ cls := "AllHome$Orders", name := "forget", desc := "()V" } : Jvm.MethodName) prog_4_method_2_code (1 : Nat) (Option.none : Option Jvm.ClassFile.FieldType)) ∈ zTb := zTb_in (List.mem_of_getElem? (i := 306) (by decide +kernel)) (by decide +kernel)
theorem kw186 : (Jvm.Cond.fieldLink "AllHome" (41 : Nat) "AllHome" "plainOrders" "LAllHome$Orders;") ∈ zTb := zTb_in (List.mem_of_getElem? (i := 252) (by decide +kernel)) (by decide +kernel)
theorem kw247 : (Jvm.Cond.selects "AllHome$Huts" ({ cls := "AllHome$Huts", name := "has", desc := "(I)Z" } : Jvm.MethodName) ({ cls := "AllHome$Huts", name := "has", desc := "(I)Z" } : Jvm.MethodName)) ∈ zTb := zTb_in (List.mem_of_getElem? (i := 313) (by decide +kernel)) (by decide +kernel)
theorem kw253 : (Jvm.Cond.methodLink "AllHome$Huts" (27 : Nat) ({ cls := "AllHome$Huts", name := "has", desc := "(I)Z" } : Jvm.MethodName)) ∈ zTb := zTb_in (List.mem_of_getElem? (i := 319) (by decide +kernel)) (by decide +kernel)
theorem kw246 : (Jvm.Cond.instanceMethod ({ cls := "AllHome$Huts", name := "has", desc := "(I)Z" } : Jvm.MethodName)) ∈ zTb := zTb_in (List.mem_of_getElem? (i := 312) (by decide +kernel)) (by decide +kernel)
theorem kw248 : (Jvm.Cond.code ({ cls := "AllHome$Huts", name := "has", desc := "(I)Z" } : Jvm.MethodName) prog_3_method_3_code (2 : Nat) (Option.some Jvm.ClassFile.FieldType.boolean)) ∈ zTb := zTb_in (List.mem_of_getElem? (i := 314) (by decide +kernel)) (by decide +kernel)
theorem kw245 : (Jvm.Cond.methodLink "AllHome" (77 : Nat) ({ cls := "AllHome$Huts", name := "has", desc := "(I)Z" } : Jvm.MethodName)) ∈ zTb := zTb_in (List.mem_of_getElem? (i := 311) (by decide +kernel)) (by decide +kernel)
theorem kw251 : (Jvm.Cond.selects "AllHome$Huts" ({ cls := "AllHome$Huts", name := "linesOf", desc := "(I)I" } : Jvm.MethodName) ({ cls := "AllHome$Huts", name := "linesOf", desc := "(I)I" } : Jvm.MethodName)) ∈ zTb := zTb_in (List.mem_of_getElem? (i := 317) (by decide +kernel)) (by decide +kernel)
theorem kw249 : (Jvm.Cond.methodLink "AllHome" (81 : Nat) ({ cls := "AllHome$Huts", name := "linesOf", desc := "(I)I" } : Jvm.MethodName)) ∈ zTb := zTb_in (List.mem_of_getElem? (i := 315) (by decide +kernel)) (by decide +kernel)
theorem kw250 : (Jvm.Cond.instanceMethod ({ cls := "AllHome$Huts", name := "linesOf", desc := "(I)I" } : Jvm.MethodName)) ∈ zTb := zTb_in (List.mem_of_getElem? (i := 316) (by decide +kernel)) (by decide +kernel)
theorem kw252 : (Jvm.Cond.code ({ cls := "AllHome$Huts", name := "linesOf", desc := "(I)I" } : Jvm.MethodName) prog_3_method_4_code (2 : Nat) (Option.some Jvm.ClassFile.FieldType.int)) ∈ zTb := zTb_in (List.mem_of_getElem? (i := 318) (by decide +kernel)) (by decide +kernel)
theorem kw256 : (Jvm.Cond.selects "AllHome$Huts" ({ cls := "AllHome$Huts", name := "wordsOf", desc := "(II)I" } : Jvm.MethodName) ({ cls := "AllHome$Huts", name := "wordsOf", desc := "(II)I" } : Jvm.MethodName)) ∈ zTb := zTb_in (List.mem_of_getElem? (i := 322) (by decide +kernel)) (by decide +kernel)
theorem kw254 : (Jvm.Cond.methodLink "AllHome" (85 : Nat) ({ cls := "AllHome$Huts", name := "wordsOf", desc := "(II)I" } : Jvm.MethodName)) ∈ zTb := zTb_in (List.mem_of_getElem? (i := 320) (by decide +kernel)) (by decide +kernel)
theorem kw255 : (Jvm.Cond.instanceMethod ({ cls := "AllHome$Huts", name := "wordsOf", desc := "(II)I" } : Jvm.MethodName)) ∈ zTb := zTb_in (List.mem_of_getElem? (i := 321) (by decide +kernel)) (by decide +kernel)
theorem kw257 : (Jvm.Cond.code ({ cls := "AllHome$Huts", name := "wordsOf", desc := "(II)I" } : Jvm.MethodName) prog_3_method_5_code (3 : Nat) (Option.some Jvm.ClassFile.FieldType.int)) ∈ zTb := zTb_in (List.mem_of_getElem? (i := 323) (by decide +kernel)) (by decide +kernel)
theorem kw264 : (Jvm.Cond.selects "AllHome$Huts" ({ cls := "AllHome$Huts", name := "goal", desc := "(III)I" } : Jvm.MethodName) ({ cls := "AllHome$Huts", name := "goal", desc := "(III)I" } : Jvm.MethodName)) ∈ zTb := zTb_in (List.mem_of_getElem? (i := 330) (by decide +kernel)) (by decide +kernel)
theorem kw262 : (Jvm.Cond.methodLink "AllHome" (89 : Nat) ({ cls := "AllHome$Huts", name := "goal", desc := "(III)I" } : Jvm.MethodName)) ∈ zTb := zTb_in (List.mem_of_getElem? (i := 328) (by decide +kernel)) (by decide +kernel)
theorem kw263 : (Jvm.Cond.instanceMethod ({ cls := "AllHome$Huts", name := "goal", desc := "(III)I" } : Jvm.MethodName)) ∈ zTb := zTb_in (List.mem_of_getElem? (i := 329) (by decide +kernel)) (by decide +kernel)
theorem kw265 : (Jvm.Cond.code ({ cls := "AllHome$Huts", name := "goal", desc := "(III)I" } : Jvm.MethodName) prog_3_method_6_code (5 : Nat) (Option.some Jvm.ClassFile.FieldType.int)) ∈ zTb := zTb_in (List.mem_of_getElem? (i := 331) (by decide +kernel)) (by decide +kernel)
theorem kw270 : (Jvm.Cond.methodLink "AllHome" (93 : Nat) ({ cls := "AllHome", name := "isKind", desc := "(I)Z" } : Jvm.MethodName)) ∈ zTb := zTb_in (List.mem_of_getElem? (i := 336) (by decide +kernel)) (by decide +kernel)
theorem kw271 : (Jvm.Cond.static ({ cls := "AllHome", name := "isKind", desc := "(I)Z" } : Jvm.MethodName)) ∈ zTb := zTb_in (List.mem_of_getElem? (i := 337) (by decide +kernel)) (by decide +kernel)
theorem kw1 : (Jvm.Cond.initialized "AllHome") ∈ zTb := zTb_in (List.mem_of_getElem? (i := 67) (by decide +kernel)) (by decide +kernel)
theorem kw272 : (Jvm.Cond.code ({ cls := "AllHome", name := "isKind", desc := "(I)Z" } : Jvm.MethodName) prog_1_method_32_code (1 : Nat) (Option.some Jvm.ClassFile.FieldType.boolean)) ∈ zTb := zTb_in (List.mem_of_getElem? (i := 338) (by decide +kernel)) (by decide +kernel)
theorem kw181 : (Jvm.Cond.fieldLink "AllHome" (96 : Nat) "AllHome" "ways" "I") ∈ zTb := zTb_in (List.mem_of_getElem? (i := 247) (by decide +kernel)) (by decide +kernel)
theorem kw180 : (Jvm.Cond.fieldLink "AllHome" (20 : Nat) "AllHome" "kinds" "[I") ∈ zTb := zTb_in (List.mem_of_getElem? (i := 246) (by decide +kernel)) (by decide +kernel)
theorem kp1 : Cond.selects "AllHome" ⟨"AllHome", "isWay", "(I)Z"⟩ ⟨"AllHome", "isWay", "(I)Z"⟩ ∈ zTb := zTb_in (List.mem_of_getElem? (i := 1) (by decide +kernel)) (by decide +kernel)
theorem kw277 : (Jvm.Cond.methodLink "AllHome" (99 : Nat) ({ cls := "AllHome", name := "isWay", desc := "(I)Z" } : Jvm.MethodName)) ∈ zTb := zTb_in (List.mem_of_getElem? (i := 343) (by decide +kernel)) (by decide +kernel)
theorem kw279 : (Jvm.Cond.instanceMethod ({ cls := "AllHome", name := "isWay", desc := "(I)Z" } : Jvm.MethodName)) ∈ zTb := zTb_in (List.mem_of_getElem? (i := 345) (by decide +kernel)) (by decide +kernel)
theorem kw280 : (Jvm.Cond.code ({ cls := "AllHome", name := "isWay", desc := "(I)Z" } : Jvm.MethodName) prog_1_method_29_code (2 : Nat) (Option.some Jvm.ClassFile.FieldType.boolean)) ∈ zTb := zTb_in (List.mem_of_getElem? (i := 346) (by decide +kernel)) (by decide +kernel)
theorem kw58 : (Jvm.Cond.fieldLink "AllHome$Rules" (23 : Nat) "AllHome$Rules" "kind" "I") ∈ zTb := zTb_in (List.mem_of_getElem? (i := 124) (by decide +kernel)) (by decide +kernel)
theorem kw59 : (Jvm.Cond.fieldLink "AllHome$Rules" (15 : Nat) "AllHome$Rules" "family" "I") ∈ zTb := zTb_in (List.mem_of_getElem? (i := 125) (by decide +kernel)) (by decide +kernel)
theorem kw296 : (Jvm.Cond.methodLink "AllHome$Rules" (30 : Nat) ({ cls := "java/util/Arrays", name := "fill", desc := "([II)V" } : Jvm.MethodName)) ∈ zTb := zTb_in (List.mem_of_getElem? (i := 362) (by decide +kernel)) (by decide +kernel)
theorem kw297 : (Jvm.Cond.static ({ cls := "java/util/Arrays", name := "fill", desc := "([II)V" } : Jvm.MethodName)) ∈ zTb := zTb_in (List.mem_of_getElem? (i := 363) (by decide +kernel)) (by decide +kernel)
theorem kw10 : (Jvm.Cond.initialized "java/util/Arrays") ∈ zTb := zTb_in (List.mem_of_getElem? (i := 76) (by decide +kernel)) (by decide +kernel)
theorem kw298 : (Jvm.Cond.code ({ cls := "java/util/Arrays", name := "fill", desc := "([II)V" } : Jvm.MethodName) prog_12_method_103_code (4 : Nat) (Option.none : Option Jvm.ClassFile.FieldType)) ∈ zTb := zTb_in (List.mem_of_getElem? (i := 364) (by decide +kernel)) (by decide +kernel)
theorem kw139 : (Jvm.Cond.fieldLink "AllHome$Run" (20 : Nat) "AllHome$Run" "rules" "LAllHome$Rules;") ∈ zTb := zTb_in (List.mem_of_getElem? (i := 205) (by decide +kernel)) (by decide +kernel)
theorem kw140 : (Jvm.Cond.fieldLink "AllHome$Run" (9 : Nat) "AllHome$Run" "cells" "[I") ∈ zTb := zTb_in (List.mem_of_getElem? (i := 206) (by decide +kernel)) (by decide +kernel)
theorem kw291 : (Jvm.Cond.selects "AllHome$Rules" ({ cls := "AllHome$Rules", name := "begin", desc := "([II)V" } : Jvm.MethodName) ({ cls := "AllHome$Rules", name := "begin", desc := "([II)V" } : Jvm.MethodName)) ∈ zTb := zTb_in (List.mem_of_getElem? (i := 357) (by decide +kernel)) (by decide +kernel)
theorem kw289 : (Jvm.Cond.methodLink "AllHome$Run" (24 : Nat) ({ cls := "AllHome$Rules", name := "begin", desc := "([II)V" } : Jvm.MethodName)) ∈ zTb := zTb_in (List.mem_of_getElem? (i := 355) (by decide +kernel)) (by decide +kernel)
theorem kw290 : (Jvm.Cond.instanceMethod ({ cls := "AllHome$Rules", name := "begin", desc := "([II)V" } : Jvm.MethodName)) ∈ zTb := zTb_in (List.mem_of_getElem? (i := 356) (by decide +kernel)) (by decide +kernel)
theorem kw4 : (Jvm.Cond.initialized "AllHome$Rules") ∈ zTb := zTb_in (List.mem_of_getElem? (i := 70) (by decide +kernel)) (by decide +kernel)
theorem kw292 : (Jvm.Cond.code ({ cls := "AllHome$Rules", name := "begin", desc := "([II)V" } : Jvm.MethodName) prog_5_method_3_code (4 : Nat) (Option.none : Option Jvm.ClassFile.FieldType)) ∈ zTb := zTb_in (List.mem_of_getElem? (i := 358) (by decide +kernel)) (by decide +kernel)
theorem kw141 : (Jvm.Cond.fieldLink "AllHome$Run" (28 : Nat) "AllHome$Run" "way" "I") ∈ zTb := zTb_in (List.mem_of_getElem? (i := 207) (by decide +kernel)) (by decide +kernel)
theorem kw142 : (Jvm.Cond.fieldLink "AllHome$Run" (32 : Nat) "AllHome$Run" "done" "I") ∈ zTb := zTb_in (List.mem_of_getElem? (i := 208) (by decide +kernel)) (by decide +kernel)
theorem kw143 : (Jvm.Cond.fieldLink "AllHome$Run" (35 : Nat) "AllHome$Run" "saidAt" "I") ∈ zTb := zTb_in (List.mem_of_getElem? (i := 209) (by decide +kernel)) (by decide +kernel)
theorem kw144 : (Jvm.Cond.fieldLink "AllHome$Run" (38 : Nat) "AllHome$Run" "overAt" "I") ∈ zTb := zTb_in (List.mem_of_getElem? (i := 210) (by decide +kernel)) (by decide +kernel)
theorem kw182 : (Jvm.Cond.fieldLink "AllHome" (25 : Nat) "AllHome" "runs" "[LAllHome$Run;") ∈ zTb := zTb_in (List.mem_of_getElem? (i := 248) (by decide +kernel)) (by decide +kernel)
theorem kw287 : (Jvm.Cond.selects "AllHome$Run" ({ cls := "AllHome$Run", name := "begin", desc := "(II)V" } : Jvm.MethodName) ({ cls := "AllHome$Run", name := "begin", desc := "(II)V" } : Jvm.MethodName)) ∈ zTb := zTb_in (List.mem_of_getElem? (i := 353) (by decide +kernel)) (by decide +kernel)
theorem kw285 : (Jvm.Cond.methodLink "AllHome" (102 : Nat) ({ cls := "AllHome$Run", name := "begin", desc := "(II)V" } : Jvm.MethodName)) ∈ zTb := zTb_in (List.mem_of_getElem? (i := 351) (by decide +kernel)) (by decide +kernel)
theorem kw286 : (Jvm.Cond.instanceMethod ({ cls := "AllHome$Run", name := "begin", desc := "(II)V" } : Jvm.MethodName)) ∈ zTb := zTb_in (List.mem_of_getElem? (i := 352) (by decide +kernel)) (by decide +kernel)
theorem kw6 : (Jvm.Cond.initialized "AllHome$Run") ∈ zTb := zTb_in (List.mem_of_getElem? (i := 72) (by decide +kernel)) (by decide +kernel)
theorem kw288 : (Jvm.Cond.code ({ cls := "AllHome$Run", name := "begin", desc := "(II)V" } : Jvm.MethodName) prog_6_method_2_code (3 : Nat) (Option.none : Option Jvm.ClassFile.FieldType)) ∈ zTb := zTb_in (List.mem_of_getElem? (i := 354) (by decide +kernel)) (by decide +kernel)
theorem kw329 : (Jvm.Cond.methodLink "AllHome$Rules" (81 : Nat) ({ cls := "AllHome$Rules", name := "partUnits", desc := "([II)I" } : Jvm.MethodName)) ∈ zTb := zTb_in (List.mem_of_getElem? (i := 395) (by decide +kernel)) (by decide +kernel)
theorem kw330 : (Jvm.Cond.static ({ cls := "AllHome$Rules", name := "partUnits", desc := "([II)I" } : Jvm.MethodName)) ∈ zTb := zTb_in (List.mem_of_getElem? (i := 396) (by decide +kernel)) (by decide +kernel)
theorem kw331 : (Jvm.Cond.code ({ cls := "AllHome$Rules", name := "partUnits", desc := "([II)I" } : Jvm.MethodName) prog_5_method_7_code (3 : Nat) (Option.some Jvm.ClassFile.FieldType.int)) ∈ zTb := zTb_in (List.mem_of_getElem? (i := 397) (by decide +kernel)) (by decide +kernel)
theorem kw57 : (Jvm.Cond.fieldLink "AllHome$Rules" (9 : Nat) "AllHome$Rules" "huts" "LAllHome$Huts;") ∈ zTb := zTb_in (List.mem_of_getElem? (i := 123) (by decide +kernel)) (by decide +kernel)
theorem kw322 : (Jvm.Cond.methodLink "AllHome$Rules" (60 : Nat) ({ cls := "AllHome$Huts", name := "has", desc := "(I)Z" } : Jvm.MethodName)) ∈ zTb := zTb_in (List.mem_of_getElem? (i := 388) (by decide +kernel)) (by decide +kernel)
theorem kw323 : (Jvm.Cond.methodLink "AllHome$Rules" (65 : Nat) ({ cls := "AllHome$Huts", name := "wordsOf", desc := "(II)I" } : Jvm.MethodName)) ∈ zTb := zTb_in (List.mem_of_getElem? (i := 389) (by decide +kernel)) (by decide +kernel)
theorem kw332 : (Jvm.Cond.methodLink "AllHome$Rules" (77 : Nat) ({ cls := "AllHome$Rules", name := "sendNote", desc := "([IIII)I" } : Jvm.MethodName)) ∈ zTb := zTb_in (List.mem_of_getElem? (i := 398) (by decide +kernel)) (by decide +kernel)
theorem kw333 : (Jvm.Cond.static ({ cls := "AllHome$Rules", name := "sendNote", desc := "([IIII)I" } : Jvm.MethodName)) ∈ zTb := zTb_in (List.mem_of_getElem? (i := 399) (by decide +kernel)) (by decide +kernel)
theorem kw334 : (Jvm.Cond.code ({ cls := "AllHome$Rules", name := "sendNote", desc := "([IIII)I" } : Jvm.MethodName) prog_5_method_8_code (5 : Nat) (Option.some Jvm.ClassFile.FieldType.int)) ∈ zTb := zTb_in (List.mem_of_getElem? (i := 400) (by decide +kernel)) (by decide +kernel)
theorem kw324 : (Jvm.Cond.methodLink "AllHome$Rules" (69 : Nat) ({ cls := "AllHome$Huts", name := "goal", desc := "(III)I" } : Jvm.MethodName)) ∈ zTb := zTb_in (List.mem_of_getElem? (i := 390) (by decide +kernel)) (by decide +kernel)
theorem kp4 : Cond.selects "AllHome$Rules" ⟨"AllHome$Rules", "send", "([III)I"⟩ ⟨"AllHome$Rules", "send", "([III)I"⟩ ∈ zTb := zTb_in (List.mem_of_getElem? (i := 4) (by decide +kernel)) (by decide +kernel)
theorem kw325 : (Jvm.Cond.methodLink "AllHome$Rules" (73 : Nat) ({ cls := "AllHome$Rules", name := "send", desc := "([III)I" } : Jvm.MethodName)) ∈ zTb := zTb_in (List.mem_of_getElem? (i := 391) (by decide +kernel)) (by decide +kernel)
theorem kw327 : (Jvm.Cond.instanceMethod ({ cls := "AllHome$Rules", name := "send", desc := "([III)I" } : Jvm.MethodName)) ∈ zTb := zTb_in (List.mem_of_getElem? (i := 393) (by decide +kernel)) (by decide +kernel)
theorem kw328 : (Jvm.Cond.code ({ cls := "AllHome$Rules", name := "send", desc := "([III)I" } : Jvm.MethodName) prog_5_method_6_code (6 : Nat) (Option.some Jvm.ClassFile.FieldType.int)) ∈ zTb := zTb_in (List.mem_of_getElem? (i := 394) (by decide +kernel)) (by decide +kernel)
theorem kw345 : (Jvm.Cond.methodLink "AllHome$Rules" (94 : Nat) ({ cls := "AllHome$Rules", name := "closeGap", desc := "([III)V" } : Jvm.MethodName)) ∈ zTb := zTb_in (List.mem_of_getElem? (i := 411) (by decide +kernel)) (by decide +kernel)
theorem kw346 : (Jvm.Cond.static ({ cls := "AllHome$Rules", name := "closeGap", desc := "([III)V" } : Jvm.MethodName)) ∈ zTb := zTb_in (List.mem_of_getElem? (i := 412) (by decide +kernel)) (by decide +kernel)
theorem kw347 : (Jvm.Cond.code ({ cls := "AllHome$Rules", name := "closeGap", desc := "([III)V" } : Jvm.MethodName) prog_5_method_14_code (4 : Nat) (Option.none : Option Jvm.ClassFile.FieldType)) ∈ zTb := zTb_in (List.mem_of_getElem? (i := 413) (by decide +kernel)) (by decide +kernel)
theorem kw339 : (Jvm.Cond.methodLink "AllHome$Rules" (84 : Nat) ({ cls := "AllHome$Rules", name := "isOnTheWay", desc := "([III)Z" } : Jvm.MethodName)) ∈ zTb := zTb_in (List.mem_of_getElem? (i := 405) (by decide +kernel)) (by decide +kernel)
theorem kw340 : (Jvm.Cond.static ({ cls := "AllHome$Rules", name := "isOnTheWay", desc := "([III)Z" } : Jvm.MethodName)) ∈ zTb := zTb_in (List.mem_of_getElem? (i := 406) (by decide +kernel)) (by decide +kernel)
theorem kw341 : (Jvm.Cond.code ({ cls := "AllHome$Rules", name := "isOnTheWay", desc := "([III)Z" } : Jvm.MethodName) prog_5_method_9_code (3 : Nat) (Option.some Jvm.ClassFile.FieldType.boolean)) ∈ zTb := zTb_in (List.mem_of_getElem? (i := 407) (by decide +kernel)) (by decide +kernel)
theorem kw342 : (Jvm.Cond.methodLink "AllHome$Rules" (88 : Nat) ({ cls := "AllHome$Rules", name := "takeAwayWord", desc := "([II)V" } : Jvm.MethodName)) ∈ zTb := zTb_in (List.mem_of_getElem? (i := 408) (by decide +kernel)) (by decide +kernel)
theorem kw343 : (Jvm.Cond.static ({ cls := "AllHome$Rules", name := "takeAwayWord", desc := "([II)V" } : Jvm.MethodName)) ∈ zTb := zTb_in (List.mem_of_getElem? (i := 409) (by decide +kernel)) (by decide +kernel)
theorem kw344 : (Jvm.Cond.code ({ cls := "AllHome$Rules", name := "takeAwayWord", desc := "([II)V" } : Jvm.MethodName) prog_5_method_13_code (2 : Nat) (Option.none : Option Jvm.ClassFile.FieldType)) ∈ zTb := zTb_in (List.mem_of_getElem? (i := 410) (by decide +kernel)) (by decide +kernel)
theorem kw348 : (Jvm.Cond.methodLink "AllHome$Rules" (91 : Nat) ({ cls := "AllHome$Rules", name := "joinTree", desc := "([III)I" } : Jvm.MethodName)) ∈ zTb := zTb_in (List.mem_of_getElem? (i := 414) (by decide +kernel)) (by decide +kernel)
theorem kw349 : (Jvm.Cond.static ({ cls := "AllHome$Rules", name := "joinTree", desc := "([III)I" } : Jvm.MethodName)) ∈ zTb := zTb_in (List.mem_of_getElem? (i := 415) (by decide +kernel)) (by decide +kernel)
theorem kw350 : (Jvm.Cond.code ({ cls := "AllHome$Rules", name := "joinTree", desc := "([III)I" } : Jvm.MethodName) prog_5_method_11_code (3 : Nat) (Option.some Jvm.ClassFile.FieldType.int)) ∈ zTb := zTb_in (List.mem_of_getElem? (i := 416) (by decide +kernel)) (by decide +kernel)
theorem kw362 : (Jvm.Cond.methodLink "AllHome$Rules" (104 : Nat) ({ cls := "AllHome$Huts", name := "size", desc := "()I" } : Jvm.MethodName)) ∈ zTb := zTb_in (List.mem_of_getElem? (i := 428) (by decide +kernel)) (by decide +kernel)
theorem kw355 : (Jvm.Cond.methodLink "AllHome$Rules" (98 : Nat) ({ cls := "AllHome$Rules", name := "takeStone", desc := "([IIII)I" } : Jvm.MethodName)) ∈ zTb := zTb_in (List.mem_of_getElem? (i := 421) (by decide +kernel)) (by decide +kernel)
theorem kw356 : (Jvm.Cond.static ({ cls := "AllHome$Rules", name := "takeStone", desc := "([IIII)I" } : Jvm.MethodName)) ∈ zTb := zTb_in (List.mem_of_getElem? (i := 422) (by decide +kernel)) (by decide +kernel)
theorem kw357 : (Jvm.Cond.code ({ cls := "AllHome$Rules", name := "takeStone", desc := "([IIII)I" } : Jvm.MethodName) prog_5_method_16_code (5 : Nat) (Option.some Jvm.ClassFile.FieldType.int)) ∈ zTb := zTb_in (List.mem_of_getElem? (i := 423) (by decide +kernel)) (by decide +kernel)
theorem kp7 : Cond.selects "AllHome$Rules" ⟨"AllHome$Rules", "takeSums", "([IIII)I"⟩ ⟨"AllHome$Rules", "takeSums", "([IIII)I"⟩ ∈ zTb := zTb_in (List.mem_of_getElem? (i := 7) (by decide +kernel)) (by decide +kernel)
theorem kw358 : (Jvm.Cond.methodLink "AllHome$Rules" (101 : Nat) ({ cls := "AllHome$Rules", name := "takeSums", desc := "([IIII)I" } : Jvm.MethodName)) ∈ zTb := zTb_in (List.mem_of_getElem? (i := 424) (by decide +kernel)) (by decide +kernel)
theorem kw360 : (Jvm.Cond.instanceMethod ({ cls := "AllHome$Rules", name := "takeSums", desc := "([IIII)I" } : Jvm.MethodName)) ∈ zTb := zTb_in (List.mem_of_getElem? (i := 426) (by decide +kernel)) (by decide +kernel)
theorem kw361 : (Jvm.Cond.code ({ cls := "AllHome$Rules", name := "takeSums", desc := "([IIII)I" } : Jvm.MethodName) prog_5_method_17_code (6 : Nat) (Option.some Jvm.ClassFile.FieldType.int)) ∈ zTb := zTb_in (List.mem_of_getElem? (i := 427) (by decide +kernel)) (by decide +kernel)
theorem kw370 : (Jvm.Cond.fieldLink "AllHome" (224 : Nat) "AllHome" "ABOVE" "[I") ∈ zTb := zTb_in (List.mem_of_getElem? (i := 436) (by decide +kernel)) (by decide +kernel)
theorem kw368 : (Jvm.Cond.static ({ cls := "AllHome", name := "isUnder", desc := "(II)Z" } : Jvm.MethodName)) ∈ zTb := zTb_in (List.mem_of_getElem? (i := 434) (by decide +kernel)) (by decide +kernel)
theorem kw369 : (Jvm.Cond.code ({ cls := "AllHome", name := "isUnder", desc := "(II)Z" } : Jvm.MethodName) prog_1_method_33_code (4 : Nat) (Option.some Jvm.ClassFile.FieldType.boolean)) ∈ zTb := zTb_in (List.mem_of_getElem? (i := 435) (by decide +kernel)) (by decide +kernel)
theorem kp3 : Cond.selects "AllHome$Rules" ⟨"AllHome$Rules", "goOn", "([II)I"⟩ ⟨"AllHome$Rules", "goOn", "([II)I"⟩ ∈ zTb := zTb_in (List.mem_of_getElem? (i := 3) (by decide +kernel)) (by decide +kernel)
theorem kw318 : (Jvm.Cond.methodLink "AllHome$Rules" (36 : Nat) ({ cls := "AllHome$Rules", name := "goOn", desc := "([II)I" } : Jvm.MethodName)) ∈ zTb := zTb_in (List.mem_of_getElem? (i := 384) (by decide +kernel)) (by decide +kernel)
theorem kw320 : (Jvm.Cond.instanceMethod ({ cls := "AllHome$Rules", name := "goOn", desc := "([II)I" } : Jvm.MethodName)) ∈ zTb := zTb_in (List.mem_of_getElem? (i := 386) (by decide +kernel)) (by decide +kernel)
theorem kw321 : (Jvm.Cond.code ({ cls := "AllHome$Rules", name := "goOn", desc := "([II)I" } : Jvm.MethodName) prog_5_method_5_code (5 : Nat) (Option.some Jvm.ClassFile.FieldType.int)) ∈ zTb := zTb_in (List.mem_of_getElem? (i := 387) (by decide +kernel)) (by decide +kernel)
theorem kp10 : Cond.selects "AllHome$Rules" ⟨"AllHome$Rules", "seesAllHome", "([I)Z"⟩ ⟨"AllHome$Rules", "seesAllHome", "([I)Z"⟩ ∈ zTb := zTb_in (List.mem_of_getElem? (i := 10) (by decide +kernel)) (by decide +kernel)
theorem kw379 : (Jvm.Cond.methodLink "AllHome$Rules" (56 : Nat) ({ cls := "AllHome$Rules", name := "seesAllHome", desc := "([I)Z" } : Jvm.MethodName)) ∈ zTb := zTb_in (List.mem_of_getElem? (i := 445) (by decide +kernel)) (by decide +kernel)
theorem kw381 : (Jvm.Cond.instanceMethod ({ cls := "AllHome$Rules", name := "seesAllHome", desc := "([I)Z" } : Jvm.MethodName)) ∈ zTb := zTb_in (List.mem_of_getElem? (i := 447) (by decide +kernel)) (by decide +kernel)
theorem kw382 : (Jvm.Cond.code ({ cls := "AllHome$Rules", name := "seesAllHome", desc := "([I)Z" } : Jvm.MethodName) prog_5_method_20_code (4 : Nat) (Option.some Jvm.ClassFile.FieldType.boolean)) ∈ zTb := zTb_in (List.mem_of_getElem? (i := 448) (by decide +kernel)) (by decide +kernel)
theorem kp9 : Cond.selects "AllHome$Rules" ⟨"AllHome$Rules", "leaveTree", "([I)I"⟩ ⟨"AllHome$Rules", "leaveTree", "([I)I"⟩ ∈ zTb := zTb_in (List.mem_of_getElem? (i := 9) (by decide +kernel)) (by decide +kernel)
theorem kw375 : (Jvm.Cond.methodLink "AllHome$Rules" (52 : Nat) ({ cls := "AllHome$Rules", name := "leaveTree", desc := "([I)I" } : Jvm.MethodName)) ∈ zTb := zTb_in (List.mem_of_getElem? (i := 441) (by decide +kernel)) (by decide +kernel)
theorem kw377 : (Jvm.Cond.instanceMethod ({ cls := "AllHome$Rules", name := "leaveTree", desc := "([I)I" } : Jvm.MethodName)) ∈ zTb := zTb_in (List.mem_of_getElem? (i := 443) (by decide +kernel)) (by decide +kernel)
theorem kw378 : (Jvm.Cond.code ({ cls := "AllHome$Rules", name := "leaveTree", desc := "([I)I" } : Jvm.MethodName) prog_5_method_19_code (5 : Nat) (Option.some Jvm.ClassFile.FieldType.int)) ∈ zTb := zTb_in (List.mem_of_getElem? (i := 444) (by decide +kernel)) (by decide +kernel)
theorem kp5 : Cond.selects "AllHome$Rules" ⟨"AllHome$Rules", "comeWord", "([II)I"⟩ ⟨"AllHome$Rules", "comeWord", "([II)I"⟩ ∈ zTb := zTb_in (List.mem_of_getElem? (i := 5) (by decide +kernel)) (by decide +kernel)
theorem kw335 : (Jvm.Cond.methodLink "AllHome$Rules" (40 : Nat) ({ cls := "AllHome$Rules", name := "comeWord", desc := "([II)I" } : Jvm.MethodName)) ∈ zTb := zTb_in (List.mem_of_getElem? (i := 401) (by decide +kernel)) (by decide +kernel)
theorem kw337 : (Jvm.Cond.instanceMethod ({ cls := "AllHome$Rules", name := "comeWord", desc := "([II)I" } : Jvm.MethodName)) ∈ zTb := zTb_in (List.mem_of_getElem? (i := 403) (by decide +kernel)) (by decide +kernel)
theorem kw338 : (Jvm.Cond.code ({ cls := "AllHome$Rules", name := "comeWord", desc := "([II)I" } : Jvm.MethodName) prog_5_method_10_code (6 : Nat) (Option.some Jvm.ClassFile.FieldType.int)) ∈ zTb := zTb_in (List.mem_of_getElem? (i := 404) (by decide +kernel)) (by decide +kernel)
theorem kp6 : Cond.selects "AllHome$Rules" ⟨"AllHome$Rules", "comeNote", "([II)I"⟩ ⟨"AllHome$Rules", "comeNote", "([II)I"⟩ ∈ zTb := zTb_in (List.mem_of_getElem? (i := 6) (by decide +kernel)) (by decide +kernel)
theorem kw351 : (Jvm.Cond.methodLink "AllHome$Rules" (43 : Nat) ({ cls := "AllHome$Rules", name := "comeNote", desc := "([II)I" } : Jvm.MethodName)) ∈ zTb := zTb_in (List.mem_of_getElem? (i := 417) (by decide +kernel)) (by decide +kernel)
theorem kw353 : (Jvm.Cond.instanceMethod ({ cls := "AllHome$Rules", name := "comeNote", desc := "([II)I" } : Jvm.MethodName)) ∈ zTb := zTb_in (List.mem_of_getElem? (i := 419) (by decide +kernel)) (by decide +kernel)
theorem kw354 : (Jvm.Cond.code ({ cls := "AllHome$Rules", name := "comeNote", desc := "([II)I" } : Jvm.MethodName) prog_5_method_15_code (6 : Nat) (Option.some Jvm.ClassFile.FieldType.int)) ∈ zTb := zTb_in (List.mem_of_getElem? (i := 420) (by decide +kernel)) (by decide +kernel)
theorem kp8 : Cond.selects "AllHome$Rules" ⟨"AllHome$Rules", "ask", "([II)I"⟩ ⟨"AllHome$Rules", "ask", "([II)I"⟩ ∈ zTb := zTb_in (List.mem_of_getElem? (i := 8) (by decide +kernel)) (by decide +kernel)
theorem kw363 : (Jvm.Cond.methodLink "AllHome$Rules" (46 : Nat) ({ cls := "AllHome$Rules", name := "ask", desc := "([II)I" } : Jvm.MethodName)) ∈ zTb := zTb_in (List.mem_of_getElem? (i := 429) (by decide +kernel)) (by decide +kernel)
theorem kw365 : (Jvm.Cond.instanceMethod ({ cls := "AllHome$Rules", name := "ask", desc := "([II)I" } : Jvm.MethodName)) ∈ zTb := zTb_in (List.mem_of_getElem? (i := 431) (by decide +kernel)) (by decide +kernel)
theorem kw366 : (Jvm.Cond.code ({ cls := "AllHome$Rules", name := "ask", desc := "([II)I" } : Jvm.MethodName) prog_5_method_18_code (3 : Nat) (Option.some Jvm.ClassFile.FieldType.int)) ∈ zTb := zTb_in (List.mem_of_getElem? (i := 432) (by decide +kernel)) (by decide +kernel)
theorem kw372 : (Jvm.Cond.methodLink "AllHome$Rules" (49 : Nat) ({ cls := "AllHome$Rules", name := "lose", desc := "([II)I" } : Jvm.MethodName)) ∈ zTb := zTb_in (List.mem_of_getElem? (i := 438) (by decide +kernel)) (by decide +kernel)
theorem kw373 : (Jvm.Cond.static ({ cls := "AllHome$Rules", name := "lose", desc := "([II)I" } : Jvm.MethodName)) ∈ zTb := zTb_in (List.mem_of_getElem? (i := 439) (by decide +kernel)) (by decide +kernel)
theorem kw374 : (Jvm.Cond.code ({ cls := "AllHome$Rules", name := "lose", desc := "([II)I" } : Jvm.MethodName) prog_5_method_12_code (2 : Nat) (Option.some Jvm.ClassFile.FieldType.int)) ∈ zTb := zTb_in (List.mem_of_getElem? (i := 440) (by decide +kernel)) (by decide +kernel)
theorem kw311 : (Jvm.Cond.methodLink "AllHome$Run" (46 : Nat) ({ cls := "java/lang/System", name := "arraycopy", desc := "(Ljava/lang/Object;ILjava/lang/Object;II)V" } : Jvm.MethodName)) ∈ zTb := zTb_in (List.mem_of_getElem? (i := 377) (by decide +kernel)) (by decide +kernel)
theorem kw313 : (Jvm.Cond.native ({ cls := "java/lang/System", name := "arraycopy", desc := "(Ljava/lang/Object;ILjava/lang/Object;II)V" } : Jvm.MethodName)) ∈ zTb := zTb_in (List.mem_of_getElem? (i := 379) (by decide +kernel)) (by decide +kernel)
theorem kw312 : (Jvm.Cond.static ({ cls := "java/lang/System", name := "arraycopy", desc := "(Ljava/lang/Object;ILjava/lang/Object;II)V" } : Jvm.MethodName)) ∈ zTb := zTb_in (List.mem_of_getElem? (i := 378) (by decide +kernel)) (by decide +kernel)
theorem kw11 : (Jvm.Cond.initialized "java/lang/System") ∈ zTb := zTb_in (List.mem_of_getElem? (i := 77) (by decide +kernel)) (by decide +kernel)
theorem kw316 : (Jvm.Cond.selects "AllHome$Rules" ({ cls := "AllHome$Rules", name := "apply", desc := "([III)I" } : Jvm.MethodName) ({ cls := "AllHome$Rules", name := "apply", desc := "([III)I" } : Jvm.MethodName)) ∈ zTb := zTb_in (List.mem_of_getElem? (i := 382) (by decide +kernel)) (by decide +kernel)
theorem kw314 : (Jvm.Cond.methodLink "AllHome$Run" (52 : Nat) ({ cls := "AllHome$Rules", name := "apply", desc := "([III)I" } : Jvm.MethodName)) ∈ zTb := zTb_in (List.mem_of_getElem? (i := 380) (by decide +kernel)) (by decide +kernel)
theorem kw315 : (Jvm.Cond.instanceMethod ({ cls := "AllHome$Rules", name := "apply", desc := "([III)I" } : Jvm.MethodName)) ∈ zTb := zTb_in (List.mem_of_getElem? (i := 381) (by decide +kernel)) (by decide +kernel)
theorem kw317 : (Jvm.Cond.code ({ cls := "AllHome$Rules", name := "apply", desc := "([III)I" } : Jvm.MethodName) prog_5_method_4_code (5 : Nat) (Option.some Jvm.ClassFile.FieldType.int)) ∈ zTb := zTb_in (List.mem_of_getElem? (i := 383) (by decide +kernel)) (by decide +kernel)
theorem kw384 : (Jvm.Cond.static ({ cls := "AllHome", name := "isOver", desc := "([I)Z" } : Jvm.MethodName)) ∈ zTb := zTb_in (List.mem_of_getElem? (i := 450) (by decide +kernel)) (by decide +kernel)
theorem kw385 : (Jvm.Cond.code ({ cls := "AllHome", name := "isOver", desc := "([I)Z" } : Jvm.MethodName) prog_1_method_36_code (2 : Nat) (Option.some Jvm.ClassFile.FieldType.boolean)) ∈ zTb := zTb_in (List.mem_of_getElem? (i := 451) (by decide +kernel)) (by decide +kernel)
theorem kp2 : Cond.selects "AllHome" ⟨"AllHome", "isRun", "(I)Z"⟩ ⟨"AllHome", "isRun", "(I)Z"⟩ ∈ zTb := zTb_in (List.mem_of_getElem? (i := 2) (by decide +kernel)) (by decide +kernel)
theorem kw303 : (Jvm.Cond.methodLink "AllHome" (106 : Nat) ({ cls := "AllHome", name := "isRun", desc := "(I)Z" } : Jvm.MethodName)) ∈ zTb := zTb_in (List.mem_of_getElem? (i := 369) (by decide +kernel)) (by decide +kernel)
theorem kw305 : (Jvm.Cond.instanceMethod ({ cls := "AllHome", name := "isRun", desc := "(I)Z" } : Jvm.MethodName)) ∈ zTb := zTb_in (List.mem_of_getElem? (i := 371) (by decide +kernel)) (by decide +kernel)
theorem kw306 : (Jvm.Cond.code ({ cls := "AllHome", name := "isRun", desc := "(I)Z" } : Jvm.MethodName) prog_1_method_30_code (2 : Nat) (Option.some Jvm.ClassFile.FieldType.boolean)) ∈ zTb := zTb_in (List.mem_of_getElem? (i := 372) (by decide +kernel)) (by decide +kernel)
theorem kw184 : (Jvm.Cond.fieldLink "AllHome" (29 : Nat) "AllHome" "spare" "[I") ∈ zTb := zTb_in (List.mem_of_getElem? (i := 250) (by decide +kernel)) (by decide +kernel)
theorem kw309 : (Jvm.Cond.selects "AllHome$Run" ({ cls := "AllHome$Run", name := "advance", desc := "([III)I" } : Jvm.MethodName) ({ cls := "AllHome$Run", name := "advance", desc := "([III)I" } : Jvm.MethodName)) ∈ zTb := zTb_in (List.mem_of_getElem? (i := 375) (by decide +kernel)) (by decide +kernel)
theorem kw307 : (Jvm.Cond.methodLink "AllHome" (109 : Nat) ({ cls := "AllHome$Run", name := "advance", desc := "([III)I" } : Jvm.MethodName)) ∈ zTb := zTb_in (List.mem_of_getElem? (i := 373) (by decide +kernel)) (by decide +kernel)
theorem kw308 : (Jvm.Cond.instanceMethod ({ cls := "AllHome$Run", name := "advance", desc := "([III)I" } : Jvm.MethodName)) ∈ zTb := zTb_in (List.mem_of_getElem? (i := 374) (by decide +kernel)) (by decide +kernel)
theorem kw310 : (Jvm.Cond.code ({ cls := "AllHome$Run", name := "advance", desc := "([III)I" } : Jvm.MethodName) prog_6_method_5_code (5 : Nat) (Option.some Jvm.ClassFile.FieldType.int)) ∈ zTb := zTb_in (List.mem_of_getElem? (i := 376) (by decide +kernel)) (by decide +kernel)
theorem kw166 : (Jvm.Cond.fieldLink "AllHome$Shelf" (19 : Nat) "AllHome$Shelf" "way" "I") ∈ zTb := zTb_in (List.mem_of_getElem? (i := 232) (by decide +kernel)) (by decide +kernel)
theorem kw165 : (Jvm.Cond.fieldLink "AllHome$Shelf" (15 : Nat) "AllHome$Shelf" "sort" "I") ∈ zTb := zTb_in (List.mem_of_getElem? (i := 231) (by decide +kernel)) (by decide +kernel)
theorem kw164 : (Jvm.Cond.fieldLink "AllHome$Shelf" (22 : Nat) "AllHome$Shelf" "length" "I") ∈ zTb := zTb_in (List.mem_of_getElem? (i := 230) (by decide +kernel)) (by decide +kernel)
theorem kw403 : (Jvm.Cond.selects "AllHome$Shelf" ({ cls := "AllHome$Shelf", name := "hasPlace", desc := "(I)Z" } : Jvm.MethodName) ({ cls := "AllHome$Shelf", name := "hasPlace", desc := "(I)Z" } : Jvm.MethodName)) ∈ zTb := zTb_in (List.mem_of_getElem? (i := 469) (by decide +kernel)) (by decide +kernel)
theorem kw409 : (Jvm.Cond.methodLink "AllHome$Shelf" (40 : Nat) ({ cls := "AllHome$Shelf", name := "hasPlace", desc := "(I)Z" } : Jvm.MethodName)) ∈ zTb := zTb_in (List.mem_of_getElem? (i := 475) (by decide +kernel)) (by decide +kernel)
theorem kw402 : (Jvm.Cond.instanceMethod ({ cls := "AllHome$Shelf", name := "hasPlace", desc := "(I)Z" } : Jvm.MethodName)) ∈ zTb := zTb_in (List.mem_of_getElem? (i := 468) (by decide +kernel)) (by decide +kernel)
theorem kw7 : (Jvm.Cond.initialized "AllHome$Shelf") ∈ zTb := zTb_in (List.mem_of_getElem? (i := 73) (by decide +kernel)) (by decide +kernel)
theorem kw404 : (Jvm.Cond.code ({ cls := "AllHome$Shelf", name := "hasPlace", desc := "(I)Z" } : Jvm.MethodName) prog_7_method_9_code (2 : Nat) (Option.some Jvm.ClassFile.FieldType.boolean)) ∈ zTb := zTb_in (List.mem_of_getElem? (i := 470) (by decide +kernel)) (by decide +kernel)
theorem kw410 : (Jvm.Cond.constantLong "AllHome$Shelf" (46 : Nat) (-9223372036854775808 : Int64)) ∈ zTb := zTb_in (List.mem_of_getElem? (i := 476) (by decide +kernel)) (by decide +kernel)
theorem kw163 : (Jvm.Cond.fieldLink "AllHome$Shelf" (11 : Nat) "AllHome$Shelf" "elements" "[J") ∈ zTb := zTb_in (List.mem_of_getElem? (i := 229) (by decide +kernel)) (by decide +kernel)
theorem kw390 : (Jvm.Cond.methodLink "AllHome" (113 : Nat) ({ cls := "AllHome", name := "isShelf", desc := "(I)Z" } : Jvm.MethodName)) ∈ zTb := zTb_in (List.mem_of_getElem? (i := 456) (by decide +kernel)) (by decide +kernel)
theorem kw391 : (Jvm.Cond.static ({ cls := "AllHome", name := "isShelf", desc := "(I)Z" } : Jvm.MethodName)) ∈ zTb := zTb_in (List.mem_of_getElem? (i := 457) (by decide +kernel)) (by decide +kernel)
theorem kw392 : (Jvm.Cond.code ({ cls := "AllHome", name := "isShelf", desc := "(I)Z" } : Jvm.MethodName) prog_1_method_31_code (1 : Nat) (Option.some Jvm.ClassFile.FieldType.boolean)) ∈ zTb := zTb_in (List.mem_of_getElem? (i := 458) (by decide +kernel)) (by decide +kernel)
theorem kw188 : (Jvm.Cond.fieldLink "AllHome" (53 : Nat) "AllHome" "shelves" "[LAllHome$Shelf;") ∈ zTb := zTb_in (List.mem_of_getElem? (i := 254) (by decide +kernel)) (by decide +kernel)
theorem kw395 : (Jvm.Cond.selects "AllHome$Shelf" ({ cls := "AllHome$Shelf", name := "isEmpty", desc := "()Z" } : Jvm.MethodName) ({ cls := "AllHome$Shelf", name := "isEmpty", desc := "()Z" } : Jvm.MethodName)) ∈ zTb := zTb_in (List.mem_of_getElem? (i := 461) (by decide +kernel)) (by decide +kernel)
theorem kw393 : (Jvm.Cond.methodLink "AllHome" (116 : Nat) ({ cls := "AllHome$Shelf", name := "isEmpty", desc := "()Z" } : Jvm.MethodName)) ∈ zTb := zTb_in (List.mem_of_getElem? (i := 459) (by decide +kernel)) (by decide +kernel)
theorem kw394 : (Jvm.Cond.instanceMethod ({ cls := "AllHome$Shelf", name := "isEmpty", desc := "()Z" } : Jvm.MethodName)) ∈ zTb := zTb_in (List.mem_of_getElem? (i := 460) (by decide +kernel)) (by decide +kernel)
theorem kw396 : (Jvm.Cond.code ({ cls := "AllHome$Shelf", name := "isEmpty", desc := "()Z" } : Jvm.MethodName) prog_7_method_4_code (1 : Nat) (Option.some Jvm.ClassFile.FieldType.boolean)) ∈ zTb := zTb_in (List.mem_of_getElem? (i := 462) (by decide +kernel)) (by decide +kernel)
theorem kw399 : (Jvm.Cond.selects "AllHome$Shelf" ({ cls := "AllHome$Shelf", name := "isRowOf", desc := "(I)Z" } : Jvm.MethodName) ({ cls := "AllHome$Shelf", name := "isRowOf", desc := "(I)Z" } : Jvm.MethodName)) ∈ zTb := zTb_in (List.mem_of_getElem? (i := 465) (by decide +kernel)) (by decide +kernel)
theorem kw397 : (Jvm.Cond.methodLink "AllHome" (120 : Nat) ({ cls := "AllHome$Shelf", name := "isRowOf", desc := "(I)Z" } : Jvm.MethodName)) ∈ zTb := zTb_in (List.mem_of_getElem? (i := 463) (by decide +kernel)) (by decide +kernel)
theorem kw398 : (Jvm.Cond.instanceMethod ({ cls := "AllHome$Shelf", name := "isRowOf", desc := "(I)Z" } : Jvm.MethodName)) ∈ zTb := zTb_in (List.mem_of_getElem? (i := 464) (by decide +kernel)) (by decide +kernel)
theorem kw400 : (Jvm.Cond.code ({ cls := "AllHome$Shelf", name := "isRowOf", desc := "(I)Z" } : Jvm.MethodName) prog_7_method_6_code (2 : Nat) (Option.some Jvm.ClassFile.FieldType.boolean)) ∈ zTb := zTb_in (List.mem_of_getElem? (i := 466) (by decide +kernel)) (by decide +kernel)
theorem kw401 : (Jvm.Cond.methodLink "AllHome" (123 : Nat) ({ cls := "AllHome$Shelf", name := "hasPlace", desc := "(I)Z" } : Jvm.MethodName)) ∈ zTb := zTb_in (List.mem_of_getElem? (i := 467) (by decide +kernel)) (by decide +kernel)
theorem kw407 : (Jvm.Cond.selects "AllHome$Shelf" ({ cls := "AllHome$Shelf", name := "at", desc := "(I)J" } : Jvm.MethodName) ({ cls := "AllHome$Shelf", name := "at", desc := "(I)J" } : Jvm.MethodName)) ∈ zTb := zTb_in (List.mem_of_getElem? (i := 473) (by decide +kernel)) (by decide +kernel)
theorem kw405 : (Jvm.Cond.methodLink "AllHome" (126 : Nat) ({ cls := "AllHome$Shelf", name := "at", desc := "(I)J" } : Jvm.MethodName)) ∈ zTb := zTb_in (List.mem_of_getElem? (i := 471) (by decide +kernel)) (by decide +kernel)
theorem kw406 : (Jvm.Cond.instanceMethod ({ cls := "AllHome$Shelf", name := "at", desc := "(I)J" } : Jvm.MethodName)) ∈ zTb := zTb_in (List.mem_of_getElem? (i := 472) (by decide +kernel)) (by decide +kernel)
theorem kw408 : (Jvm.Cond.code ({ cls := "AllHome$Shelf", name := "at", desc := "(I)J" } : Jvm.MethodName) prog_7_method_11_code (2 : Nat) (Option.some Jvm.ClassFile.FieldType.long)) ∈ zTb := zTb_in (List.mem_of_getElem? (i := 474) (by decide +kernel)) (by decide +kernel)
theorem kp11 : Cond.selects "AllHome$Run" ⟨"AllHome$Run", "hutsAwake", "()I"⟩ ⟨"AllHome$Run", "hutsAwake", "()I"⟩ ∈ zTb := zTb_in (List.mem_of_getElem? (i := 11) (by decide +kernel)) (by decide +kernel)
theorem kw419 : (Jvm.Cond.methodLink "AllHome$Run" (60 : Nat) ({ cls := "AllHome$Run", name := "hutsAwake", desc := "()I" } : Jvm.MethodName)) ∈ zTb := zTb_in (List.mem_of_getElem? (i := 485) (by decide +kernel)) (by decide +kernel)
theorem kw421 : (Jvm.Cond.instanceMethod ({ cls := "AllHome$Run", name := "hutsAwake", desc := "()I" } : Jvm.MethodName)) ∈ zTb := zTb_in (List.mem_of_getElem? (i := 487) (by decide +kernel)) (by decide +kernel)
theorem kw422 : (Jvm.Cond.code ({ cls := "AllHome$Run", name := "hutsAwake", desc := "()I" } : Jvm.MethodName) prog_6_method_7_code (3 : Nat) (Option.some Jvm.ClassFile.FieldType.int)) ∈ zTb := zTb_in (List.mem_of_getElem? (i := 488) (by decide +kernel)) (by decide +kernel)
theorem kw417 : (Jvm.Cond.selects "AllHome$Run" ({ cls := "AllHome$Run", name := "tell", desc := "(I)I" } : Jvm.MethodName) ({ cls := "AllHome$Run", name := "tell", desc := "(I)I" } : Jvm.MethodName)) ∈ zTb := zTb_in (List.mem_of_getElem? (i := 483) (by decide +kernel)) (by decide +kernel)
theorem kw415 : (Jvm.Cond.methodLink "AllHome" (130 : Nat) ({ cls := "AllHome$Run", name := "tell", desc := "(I)I" } : Jvm.MethodName)) ∈ zTb := zTb_in (List.mem_of_getElem? (i := 481) (by decide +kernel)) (by decide +kernel)
theorem kw416 : (Jvm.Cond.instanceMethod ({ cls := "AllHome$Run", name := "tell", desc := "(I)I" } : Jvm.MethodName)) ∈ zTb := zTb_in (List.mem_of_getElem? (i := 482) (by decide +kernel)) (by decide +kernel)
theorem kw418 : (Jvm.Cond.code ({ cls := "AllHome$Run", name := "tell", desc := "(I)I" } : Jvm.MethodName) prog_6_method_6_code (2 : Nat) (Option.some Jvm.ClassFile.FieldType.int)) ∈ zTb := zTb_in (List.mem_of_getElem? (i := 484) (by decide +kernel)) (by decide +kernel)
theorem kw438 : (Jvm.Cond.selects "AllHome$Rules" ({ cls := "AllHome$Rules", name := "family", desc := "()I" } : Jvm.MethodName) ({ cls := "AllHome$Rules", name := "family", desc := "()I" } : Jvm.MethodName)) ∈ zTb := zTb_in (List.mem_of_getElem? (i := 504) (by decide +kernel)) (by decide +kernel)
theorem kw436 : (Jvm.Cond.methodLink "AllHome$Run" (41 : Nat) ({ cls := "AllHome$Rules", name := "family", desc := "()I" } : Jvm.MethodName)) ∈ zTb := zTb_in (List.mem_of_getElem? (i := 502) (by decide +kernel)) (by decide +kernel)
theorem kw437 : (Jvm.Cond.instanceMethod ({ cls := "AllHome$Rules", name := "family", desc := "()I" } : Jvm.MethodName)) ∈ zTb := zTb_in (List.mem_of_getElem? (i := 503) (by decide +kernel)) (by decide +kernel)
theorem kw439 : (Jvm.Cond.code ({ cls := "AllHome$Rules", name := "family", desc := "()I" } : Jvm.MethodName) prog_5_method_2_code (1 : Nat) (Option.some Jvm.ClassFile.FieldType.int)) ∈ zTb := zTb_in (List.mem_of_getElem? (i := 505) (by decide +kernel)) (by decide +kernel)
theorem kw444 : (Jvm.Cond.constant "AllHome$Run" (45 : Nat) (-2000000000 : Int32)) ∈ zTb := zTb_in (List.mem_of_getElem? (i := 510) (by decide +kernel)) (by decide +kernel)
theorem kw429 : (Jvm.Cond.constant "AllHome" (136 : Nat) (-2000000000 : Int32)) ∈ zTb := zTb_in (List.mem_of_getElem? (i := 495) (by decide +kernel)) (by decide +kernel)
theorem kw427 : (Jvm.Cond.fieldLink "AllHome" (133 : Nat) "AllHome" "HUT_CELLS" "[I") ∈ zTb := zTb_in (List.mem_of_getElem? (i := 493) (by decide +kernel)) (by decide +kernel)
theorem kw430 : (Jvm.Cond.fieldLink "AllHome" (137 : Nat) "AllHome" "HUT_FAMILY" "[I") ∈ zTb := zTb_in (List.mem_of_getElem? (i := 496) (by decide +kernel)) (by decide +kernel)
theorem kw442 : (Jvm.Cond.selects "AllHome$Run" ({ cls := "AllHome$Run", name := "cell", desc := "(I)I" } : Jvm.MethodName) ({ cls := "AllHome$Run", name := "cell", desc := "(I)I" } : Jvm.MethodName)) ∈ zTb := zTb_in (List.mem_of_getElem? (i := 508) (by decide +kernel)) (by decide +kernel)
theorem kw440 : (Jvm.Cond.methodLink "AllHome" (143 : Nat) ({ cls := "AllHome$Run", name := "cell", desc := "(I)I" } : Jvm.MethodName)) ∈ zTb := zTb_in (List.mem_of_getElem? (i := 506) (by decide +kernel)) (by decide +kernel)
theorem kw441 : (Jvm.Cond.instanceMethod ({ cls := "AllHome$Run", name := "cell", desc := "(I)I" } : Jvm.MethodName)) ∈ zTb := zTb_in (List.mem_of_getElem? (i := 507) (by decide +kernel)) (by decide +kernel)
theorem kw443 : (Jvm.Cond.code ({ cls := "AllHome$Run", name := "cell", desc := "(I)I" } : Jvm.MethodName) prog_6_method_4_code (2 : Nat) (Option.some Jvm.ClassFile.FieldType.int)) ∈ zTb := zTb_in (List.mem_of_getElem? (i := 509) (by decide +kernel)) (by decide +kernel)
theorem kw434 : (Jvm.Cond.selects "AllHome$Run" ({ cls := "AllHome$Run", name := "family", desc := "()I" } : Jvm.MethodName) ({ cls := "AllHome$Run", name := "family", desc := "()I" } : Jvm.MethodName)) ∈ zTb := zTb_in (List.mem_of_getElem? (i := 500) (by decide +kernel)) (by decide +kernel)
theorem kw432 : (Jvm.Cond.methodLink "AllHome" (140 : Nat) ({ cls := "AllHome$Run", name := "family", desc := "()I" } : Jvm.MethodName)) ∈ zTb := zTb_in (List.mem_of_getElem? (i := 498) (by decide +kernel)) (by decide +kernel)
theorem kw433 : (Jvm.Cond.instanceMethod ({ cls := "AllHome$Run", name := "family", desc := "()I" } : Jvm.MethodName)) ∈ zTb := zTb_in (List.mem_of_getElem? (i := 499) (by decide +kernel)) (by decide +kernel)
theorem kw435 : (Jvm.Cond.code ({ cls := "AllHome$Run", name := "family", desc := "()I" } : Jvm.MethodName) prog_6_method_3_code (1 : Nat) (Option.some Jvm.ClassFile.FieldType.int)) ∈ zTb := zTb_in (List.mem_of_getElem? (i := 501) (by decide +kernel)) (by decide +kernel)
theorem kw79 : (Jvm.Cond.fieldLink "AllHome$Orders" (63 : Nat) "AllHome$Orders" "size" "I") ∈ zTb := zTb_in (List.mem_of_getElem? (i := 145) (by decide +kernel)) (by decide +kernel)
theorem kw78 : (Jvm.Cond.fieldLink "AllHome$Orders" (39 : Nat) "AllHome$Orders" "spare" "[I") ∈ zTb := zTb_in (List.mem_of_getElem? (i := 144) (by decide +kernel)) (by decide +kernel)
theorem kw70 : (Jvm.Cond.fieldLink "AllHome$Orders" (13 : Nat) "AllHome$Orders" "found" "[[I") ∈ zTb := zTb_in (List.mem_of_getElem? (i := 136) (by decide +kernel)) (by decide +kernel)
theorem kw475 : (Jvm.Cond.methodLink "AllHome$Orders" (87 : Nat) ({ cls := "java/lang/System", name := "arraycopy", desc := "(Ljava/lang/Object;ILjava/lang/Object;II)V" } : Jvm.MethodName)) ∈ zTb := zTb_in (List.mem_of_getElem? (i := 541) (by decide +kernel)) (by decide +kernel)
theorem kw71 : (Jvm.Cond.fieldLink "AllHome$Orders" (16 : Nat) "AllHome$Orders" "prints" "[I") ∈ zTb := zTb_in (List.mem_of_getElem? (i := 137) (by decide +kernel)) (by decide +kernel)
theorem kw476 : (Jvm.Cond.methodLink "AllHome$Orders" (100 : Nat) ({ cls := "AllHome$Orders", name := "printOf", desc := "([I)I" } : Jvm.MethodName)) ∈ zTb := zTb_in (List.mem_of_getElem? (i := 542) (by decide +kernel)) (by decide +kernel)
theorem kw477 : (Jvm.Cond.static ({ cls := "AllHome$Orders", name := "printOf", desc := "([I)I" } : Jvm.MethodName)) ∈ zTb := zTb_in (List.mem_of_getElem? (i := 543) (by decide +kernel)) (by decide +kernel)
theorem kw478 : (Jvm.Cond.code ({ cls := "AllHome$Orders", name := "printOf", desc := "([I)I" } : Jvm.MethodName) prog_4_method_10_code (3 : Nat) (Option.some Jvm.ClassFile.FieldType.int)) ∈ zTb := zTb_in (List.mem_of_getElem? (i := 544) (by decide +kernel)) (by decide +kernel)
theorem kw72 : (Jvm.Cond.fieldLink "AllHome$Orders" (20 : Nat) "AllHome$Orders" "ahead" "[I") ∈ zTb := zTb_in (List.mem_of_getElem? (i := 138) (by decide +kernel)) (by decide +kernel)
theorem kw73 : (Jvm.Cond.fieldLink "AllHome$Orders" (23 : Nat) "AllHome$Orders" "stepHere" "[I") ∈ zTb := zTb_in (List.mem_of_getElem? (i := 139) (by decide +kernel)) (by decide +kernel)
theorem kw74 : (Jvm.Cond.fieldLink "AllHome$Orders" (26 : Nat) "AllHome$Orders" "depth" "[I") ∈ zTb := zTb_in (List.mem_of_getElem? (i := 140) (by decide +kernel)) (by decide +kernel)
theorem kw76 : (Jvm.Cond.fieldLink "AllHome$Orders" (32 : Nat) "AllHome$Orders" "nexts" "[I") ∈ zTb := zTb_in (List.mem_of_getElem? (i := 142) (by decide +kernel)) (by decide +kernel)
theorem kw80 : (Jvm.Cond.fieldLink "AllHome$Orders" (59 : Nat) "AllHome$Orders" "big" "Z") ∈ zTb := zTb_in (List.mem_of_getElem? (i := 146) (by decide +kernel)) (by decide +kernel)
theorem kw68 : (Jvm.Cond.fieldLink "AllHome$Orders" (46 : Nat) "AllHome$Orders" "huts" "LAllHome$Huts;") ∈ zTb := zTb_in (List.mem_of_getElem? (i := 134) (by decide +kernel)) (by decide +kernel)
theorem kw469 : (Jvm.Cond.methodLink "AllHome$Orders" (66 : Nat) ({ cls := "AllHome$Huts", name := "size", desc := "()I" } : Jvm.MethodName)) ∈ zTb := zTb_in (List.mem_of_getElem? (i := 535) (by decide +kernel)) (by decide +kernel)
theorem kw492 : (Jvm.Cond.methodLink "AllHome$Orders" (104 : Nat) ({ cls := "AllHome$Orders", name := "alike", desc := "([I[II)Z" } : Jvm.MethodName)) ∈ zTb := zTb_in (List.mem_of_getElem? (i := 558) (by decide +kernel)) (by decide +kernel)
theorem kw493 : (Jvm.Cond.static ({ cls := "AllHome$Orders", name := "alike", desc := "([I[II)Z" } : Jvm.MethodName)) ∈ zTb := zTb_in (List.mem_of_getElem? (i := 559) (by decide +kernel)) (by decide +kernel)
theorem kw494 : (Jvm.Cond.code ({ cls := "AllHome$Orders", name := "alike", desc := "([I[II)Z" } : Jvm.MethodName) prog_4_method_11_code (4 : Nat) (Option.some Jvm.ClassFile.FieldType.boolean)) ∈ zTb := zTb_in (List.mem_of_getElem? (i := 560) (by decide +kernel)) (by decide +kernel)
theorem kw69 : (Jvm.Cond.fieldLink "AllHome$Orders" (55 : Nat) "AllHome$Orders" "rules" "LAllHome$Rules;") ∈ zTb := zTb_in (List.mem_of_getElem? (i := 135) (by decide +kernel)) (by decide +kernel)
theorem kw487 : (Jvm.Cond.methodLink "AllHome$Orders" (93 : Nat) ({ cls := "AllHome$Rules", name := "apply", desc := "([III)I" } : Jvm.MethodName)) ∈ zTb := zTb_in (List.mem_of_getElem? (i := 553) (by decide +kernel)) (by decide +kernel)
theorem kp16 : Cond.selects "AllHome$Orders" ⟨"AllHome$Orders", "findSpare", "()I"⟩ ⟨"AllHome$Orders", "findSpare", "()I"⟩ ∈ zTb := zTb_in (List.mem_of_getElem? (i := 16) (by decide +kernel)) (by decide +kernel)
theorem kw488 : (Jvm.Cond.methodLink "AllHome$Orders" (97 : Nat) ({ cls := "AllHome$Orders", name := "findSpare", desc := "()I" } : Jvm.MethodName)) ∈ zTb := zTb_in (List.mem_of_getElem? (i := 554) (by decide +kernel)) (by decide +kernel)
theorem kw490 : (Jvm.Cond.instanceMethod ({ cls := "AllHome$Orders", name := "findSpare", desc := "()I" } : Jvm.MethodName)) ∈ zTb := zTb_in (List.mem_of_getElem? (i := 556) (by decide +kernel)) (by decide +kernel)
theorem kw491 : (Jvm.Cond.code ({ cls := "AllHome$Orders", name := "findSpare", desc := "()I" } : Jvm.MethodName) prog_4_method_8_code (3 : Nat) (Option.some Jvm.ClassFile.FieldType.int)) ∈ zTb := zTb_in (List.mem_of_getElem? (i := 557) (by decide +kernel)) (by decide +kernel)
theorem kw75 : (Jvm.Cond.fieldLink "AllHome$Orders" (29 : Nat) "AllHome$Orders" "next" "[[I") ∈ zTb := zTb_in (List.mem_of_getElem? (i := 141) (by decide +kernel)) (by decide +kernel)
theorem kp13 : Cond.selects "AllHome$Orders" ⟨"AllHome$Orders", "addSpare", "(II)I"⟩ ⟨"AllHome$Orders", "addSpare", "(II)I"⟩ ∈ zTb := zTb_in (List.mem_of_getElem? (i := 13) (by decide +kernel)) (by decide +kernel)
theorem kw471 : (Jvm.Cond.methodLink "AllHome$Orders" (75 : Nat) ({ cls := "AllHome$Orders", name := "addSpare", desc := "(II)I" } : Jvm.MethodName)) ∈ zTb := zTb_in (List.mem_of_getElem? (i := 537) (by decide +kernel)) (by decide +kernel)
theorem kw473 : (Jvm.Cond.instanceMethod ({ cls := "AllHome$Orders", name := "addSpare", desc := "(II)I" } : Jvm.MethodName)) ∈ zTb := zTb_in (List.mem_of_getElem? (i := 539) (by decide +kernel)) (by decide +kernel)
theorem kw474 : (Jvm.Cond.code ({ cls := "AllHome$Orders", name := "addSpare", desc := "(II)I" } : Jvm.MethodName) prog_4_method_9_code (3 : Nat) (Option.some Jvm.ClassFile.FieldType.int)) ∈ zTb := zTb_in (List.mem_of_getElem? (i := 540) (by decide +kernel)) (by decide +kernel)
theorem kw470 : (Jvm.Cond.methodLink "AllHome$Orders" (71 : Nat) ({ cls := "AllHome$Rules", name := "begin", desc := "([II)V" } : Jvm.MethodName)) ∈ zTb := zTb_in (List.mem_of_getElem? (i := 536) (by decide +kernel)) (by decide +kernel)
theorem kp14 : Cond.selects "AllHome$Orders" ⟨"AllHome$Orders", "numbersOf", "([II)I"⟩ ⟨"AllHome$Orders", "numbersOf", "([II)I"⟩ ∈ zTb := zTb_in (List.mem_of_getElem? (i := 14) (by decide +kernel)) (by decide +kernel)
theorem kw479 : (Jvm.Cond.methodLink "AllHome$Orders" (79 : Nat) ({ cls := "AllHome$Orders", name := "numbersOf", desc := "([II)I" } : Jvm.MethodName)) ∈ zTb := zTb_in (List.mem_of_getElem? (i := 545) (by decide +kernel)) (by decide +kernel)
theorem kw481 : (Jvm.Cond.instanceMethod ({ cls := "AllHome$Orders", name := "numbersOf", desc := "([II)I" } : Jvm.MethodName)) ∈ zTb := zTb_in (List.mem_of_getElem? (i := 547) (by decide +kernel)) (by decide +kernel)
theorem kw482 : (Jvm.Cond.code ({ cls := "AllHome$Orders", name := "numbersOf", desc := "([II)I" } : Jvm.MethodName) prog_4_method_6_code (3 : Nat) (Option.some Jvm.ClassFile.FieldType.int)) ∈ zTb := zTb_in (List.mem_of_getElem? (i := 548) (by decide +kernel)) (by decide +kernel)
theorem kp15 : Cond.selects "AllHome$Orders" ⟨"AllHome$Orders", "tryStep", "(III)V"⟩ ⟨"AllHome$Orders", "tryStep", "(III)V"⟩ ∈ zTb := zTb_in (List.mem_of_getElem? (i := 15) (by decide +kernel)) (by decide +kernel)
theorem kw483 : (Jvm.Cond.methodLink "AllHome$Orders" (83 : Nat) ({ cls := "AllHome$Orders", name := "tryStep", desc := "(III)V" } : Jvm.MethodName)) ∈ zTb := zTb_in (List.mem_of_getElem? (i := 549) (by decide +kernel)) (by decide +kernel)
theorem kw485 : (Jvm.Cond.instanceMethod ({ cls := "AllHome$Orders", name := "tryStep", desc := "(III)V" } : Jvm.MethodName)) ∈ zTb := zTb_in (List.mem_of_getElem? (i := 551) (by decide +kernel)) (by decide +kernel)
theorem kw486 : (Jvm.Cond.code ({ cls := "AllHome$Orders", name := "tryStep", desc := "(III)V" } : Jvm.MethodName) prog_4_method_7_code (5 : Nat) (Option.none : Option Jvm.ClassFile.FieldType)) ∈ zTb := zTb_in (List.mem_of_getElem? (i := 552) (by decide +kernel)) (by decide +kernel)
theorem kw467 : (Jvm.Cond.selects "AllHome$Orders" ({ cls := "AllHome$Orders", name := "explore", desc := "(I)V" } : Jvm.MethodName) ({ cls := "AllHome$Orders", name := "explore", desc := "(I)V" } : Jvm.MethodName)) ∈ zTb := zTb_in (List.mem_of_getElem? (i := 533) (by decide +kernel)) (by decide +kernel)
theorem kw465 : (Jvm.Cond.methodLink "AllHome" (168 : Nat) ({ cls := "AllHome$Orders", name := "explore", desc := "(I)V" } : Jvm.MethodName)) ∈ zTb := zTb_in (List.mem_of_getElem? (i := 531) (by decide +kernel)) (by decide +kernel)
theorem kw466 : (Jvm.Cond.instanceMethod ({ cls := "AllHome$Orders", name := "explore", desc := "(I)V" } : Jvm.MethodName)) ∈ zTb := zTb_in (List.mem_of_getElem? (i := 532) (by decide +kernel)) (by decide +kernel)
theorem kw468 : (Jvm.Cond.code ({ cls := "AllHome$Orders", name := "explore", desc := "(I)V" } : Jvm.MethodName) prog_4_method_5_code (7 : Nat) (Option.none : Option Jvm.ClassFile.FieldType)) ∈ zTb := zTb_in (List.mem_of_getElem? (i := 534) (by decide +kernel)) (by decide +kernel)
theorem kw497 : (Jvm.Cond.selects "AllHome$Orders" ({ cls := "AllHome$Orders", name := "isBig", desc := "()Z" } : Jvm.MethodName) ({ cls := "AllHome$Orders", name := "isBig", desc := "()Z" } : Jvm.MethodName)) ∈ zTb := zTb_in (List.mem_of_getElem? (i := 563) (by decide +kernel)) (by decide +kernel)
theorem kw495 : (Jvm.Cond.methodLink "AllHome" (172 : Nat) ({ cls := "AllHome$Orders", name := "isBig", desc := "()Z" } : Jvm.MethodName)) ∈ zTb := zTb_in (List.mem_of_getElem? (i := 561) (by decide +kernel)) (by decide +kernel)
theorem kw496 : (Jvm.Cond.instanceMethod ({ cls := "AllHome$Orders", name := "isBig", desc := "()Z" } : Jvm.MethodName)) ∈ zTb := zTb_in (List.mem_of_getElem? (i := 562) (by decide +kernel)) (by decide +kernel)
theorem kw498 : (Jvm.Cond.code ({ cls := "AllHome$Orders", name := "isBig", desc := "()Z" } : Jvm.MethodName) prog_4_method_3_code (1 : Nat) (Option.some Jvm.ClassFile.FieldType.boolean)) ∈ zTb := zTb_in (List.mem_of_getElem? (i := 564) (by decide +kernel)) (by decide +kernel)
theorem kp12 : Cond.selects "AllHome" ⟨"AllHome", "goThrough", "(I)I"⟩ ⟨"AllHome", "goThrough", "(I)I"⟩ ∈ zTb := zTb_in (List.mem_of_getElem? (i := 12) (by decide +kernel)) (by decide +kernel)
theorem kw461 : (Jvm.Cond.methodLink "AllHome" (146 : Nat) ({ cls := "AllHome", name := "goThrough", desc := "(I)I" } : Jvm.MethodName)) ∈ zTb := zTb_in (List.mem_of_getElem? (i := 527) (by decide +kernel)) (by decide +kernel)
theorem kw463 : (Jvm.Cond.instanceMethod ({ cls := "AllHome", name := "goThrough", desc := "(I)I" } : Jvm.MethodName)) ∈ zTb := zTb_in (List.mem_of_getElem? (i := 529) (by decide +kernel)) (by decide +kernel)
theorem kw464 : (Jvm.Cond.code ({ cls := "AllHome", name := "goThrough", desc := "(I)I" } : Jvm.MethodName) prog_1_method_34_code (2 : Nat) (Option.some Jvm.ClassFile.FieldType.int)) ∈ zTb := zTb_in (List.mem_of_getElem? (i := 530) (by decide +kernel)) (by decide +kernel)
theorem kw501 : (Jvm.Cond.selects "AllHome$Orders" ({ cls := "AllHome$Orders", name := "size", desc := "()I" } : Jvm.MethodName) ({ cls := "AllHome$Orders", name := "size", desc := "()I" } : Jvm.MethodName)) ∈ zTb := zTb_in (List.mem_of_getElem? (i := 567) (by decide +kernel)) (by decide +kernel)
theorem kw499 : (Jvm.Cond.methodLink "AllHome" (149 : Nat) ({ cls := "AllHome$Orders", name := "size", desc := "()I" } : Jvm.MethodName)) ∈ zTb := zTb_in (List.mem_of_getElem? (i := 565) (by decide +kernel)) (by decide +kernel)
theorem kw500 : (Jvm.Cond.instanceMethod ({ cls := "AllHome$Orders", name := "size", desc := "()I" } : Jvm.MethodName)) ∈ zTb := zTb_in (List.mem_of_getElem? (i := 566) (by decide +kernel)) (by decide +kernel)
theorem kw502 : (Jvm.Cond.code ({ cls := "AllHome$Orders", name := "size", desc := "()I" } : Jvm.MethodName) prog_4_method_4_code (1 : Nat) (Option.some Jvm.ClassFile.FieldType.int)) ∈ zTb := zTb_in (List.mem_of_getElem? (i := 568) (by decide +kernel)) (by decide +kernel)
theorem kp17 : Cond.selects "AllHome$Orders" ⟨"AllHome$Orders", "firstSaying", "(Z)I"⟩ ⟨"AllHome$Orders", "firstSaying", "(Z)I"⟩ ∈ zTb := zTb_in (List.mem_of_getElem? (i := 17) (by decide +kernel)) (by decide +kernel)
theorem kw511 : (Jvm.Cond.methodLink "AllHome$Orders" (108 : Nat) ({ cls := "AllHome$Orders", name := "firstSaying", desc := "(Z)I" } : Jvm.MethodName)) ∈ zTb := zTb_in (List.mem_of_getElem? (i := 577) (by decide +kernel)) (by decide +kernel)
theorem kw513 : (Jvm.Cond.instanceMethod ({ cls := "AllHome$Orders", name := "firstSaying", desc := "(Z)I" } : Jvm.MethodName)) ∈ zTb := zTb_in (List.mem_of_getElem? (i := 579) (by decide +kernel)) (by decide +kernel)
theorem kw514 : (Jvm.Cond.code ({ cls := "AllHome$Orders", name := "firstSaying", desc := "(Z)I" } : Jvm.MethodName) prog_4_method_14_code (3 : Nat) (Option.some Jvm.ClassFile.FieldType.int)) ∈ zTb := zTb_in (List.mem_of_getElem? (i := 580) (by decide +kernel)) (by decide +kernel)
theorem kw522 : (Jvm.Cond.selects "AllHome$Orders" ({ cls := "AllHome$Orders", name := "stepsTo", desc := "(I)I" } : Jvm.MethodName) ({ cls := "AllHome$Orders", name := "stepsTo", desc := "(I)I" } : Jvm.MethodName)) ∈ zTb := zTb_in (List.mem_of_getElem? (i := 588) (by decide +kernel)) (by decide +kernel)
theorem kw528 : (Jvm.Cond.methodLink "AllHome$Orders" (116 : Nat) ({ cls := "AllHome$Orders", name := "stepsTo", desc := "(I)I" } : Jvm.MethodName)) ∈ zTb := zTb_in (List.mem_of_getElem? (i := 594) (by decide +kernel)) (by decide +kernel)
theorem kw521 : (Jvm.Cond.instanceMethod ({ cls := "AllHome$Orders", name := "stepsTo", desc := "(I)I" } : Jvm.MethodName)) ∈ zTb := zTb_in (List.mem_of_getElem? (i := 587) (by decide +kernel)) (by decide +kernel)
theorem kw523 : (Jvm.Cond.code ({ cls := "AllHome$Orders", name := "stepsTo", desc := "(I)I" } : Jvm.MethodName) prog_4_method_15_code (2 : Nat) (Option.some Jvm.ClassFile.FieldType.int)) ∈ zTb := zTb_in (List.mem_of_getElem? (i := 589) (by decide +kernel)) (by decide +kernel)
theorem kw518 : (Jvm.Cond.selects "AllHome$Orders" ({ cls := "AllHome$Orders", name := "soon", desc := "()I" } : Jvm.MethodName) ({ cls := "AllHome$Orders", name := "soon", desc := "()I" } : Jvm.MethodName)) ∈ zTb := zTb_in (List.mem_of_getElem? (i := 584) (by decide +kernel)) (by decide +kernel)
theorem kw516 : (Jvm.Cond.methodLink "AllHome" (153 : Nat) ({ cls := "AllHome$Orders", name := "soon", desc := "()I" } : Jvm.MethodName)) ∈ zTb := zTb_in (List.mem_of_getElem? (i := 582) (by decide +kernel)) (by decide +kernel)
theorem kw517 : (Jvm.Cond.instanceMethod ({ cls := "AllHome$Orders", name := "soon", desc := "()I" } : Jvm.MethodName)) ∈ zTb := zTb_in (List.mem_of_getElem? (i := 583) (by decide +kernel)) (by decide +kernel)
theorem kw519 : (Jvm.Cond.code ({ cls := "AllHome$Orders", name := "soon", desc := "()I" } : Jvm.MethodName) prog_4_method_13_code (1 : Nat) (Option.some Jvm.ClassFile.FieldType.int)) ∈ zTb := zTb_in (List.mem_of_getElem? (i := 585) (by decide +kernel)) (by decide +kernel)
theorem kw520 : (Jvm.Cond.methodLink "AllHome" (156 : Nat) ({ cls := "AllHome$Orders", name := "stepsTo", desc := "(I)I" } : Jvm.MethodName)) ∈ zTb := zTb_in (List.mem_of_getElem? (i := 586) (by decide +kernel)) (by decide +kernel)
theorem kw526 : (Jvm.Cond.selects "AllHome$Orders" ({ cls := "AllHome$Orders", name := "stepOnTheWayTo", desc := "(II)I" } : Jvm.MethodName) ({ cls := "AllHome$Orders", name := "stepOnTheWayTo", desc := "(II)I" } : Jvm.MethodName)) ∈ zTb := zTb_in (List.mem_of_getElem? (i := 592) (by decide +kernel)) (by decide +kernel)
theorem kw524 : (Jvm.Cond.methodLink "AllHome" (159 : Nat) ({ cls := "AllHome$Orders", name := "stepOnTheWayTo", desc := "(II)I" } : Jvm.MethodName)) ∈ zTb := zTb_in (List.mem_of_getElem? (i := 590) (by decide +kernel)) (by decide +kernel)
theorem kw525 : (Jvm.Cond.instanceMethod ({ cls := "AllHome$Orders", name := "stepOnTheWayTo", desc := "(II)I" } : Jvm.MethodName)) ∈ zTb := zTb_in (List.mem_of_getElem? (i := 591) (by decide +kernel)) (by decide +kernel)
theorem kw527 : (Jvm.Cond.code ({ cls := "AllHome$Orders", name := "stepOnTheWayTo", desc := "(II)I" } : Jvm.MethodName) prog_4_method_16_code (5 : Nat) (Option.some Jvm.ClassFile.FieldType.int)) ∈ zTb := zTb_in (List.mem_of_getElem? (i := 593) (by decide +kernel)) (by decide +kernel)
theorem kw509 : (Jvm.Cond.selects "AllHome$Orders" ({ cls := "AllHome$Orders", name := "early", desc := "()I" } : Jvm.MethodName) ({ cls := "AllHome$Orders", name := "early", desc := "()I" } : Jvm.MethodName)) ∈ zTb := zTb_in (List.mem_of_getElem? (i := 575) (by decide +kernel)) (by decide +kernel)
theorem kw507 : (Jvm.Cond.methodLink "AllHome" (150 : Nat) ({ cls := "AllHome$Orders", name := "early", desc := "()I" } : Jvm.MethodName)) ∈ zTb := zTb_in (List.mem_of_getElem? (i := 573) (by decide +kernel)) (by decide +kernel)
theorem kw508 : (Jvm.Cond.instanceMethod ({ cls := "AllHome$Orders", name := "early", desc := "()I" } : Jvm.MethodName)) ∈ zTb := zTb_in (List.mem_of_getElem? (i := 574) (by decide +kernel)) (by decide +kernel)
theorem kw510 : (Jvm.Cond.code ({ cls := "AllHome$Orders", name := "early", desc := "()I" } : Jvm.MethodName) prog_4_method_12_code (1 : Nat) (Option.some Jvm.ClassFile.FieldType.int)) ∈ zTb := zTb_in (List.mem_of_getElem? (i := 576) (by decide +kernel)) (by decide +kernel)
theorem kw77 : (Jvm.Cond.fieldLink "AllHome$Orders" (35 : Nat) "AllHome$Orders" "canSay" "[Z") ∈ zTb := zTb_in (List.mem_of_getElem? (i := 143) (by decide +kernel)) (by decide +kernel)
theorem kp18 : Cond.selects "AllHome$Orders" ⟨"AllHome$Orders", "spreadCanSay", "()Z"⟩ ⟨"AllHome$Orders", "spreadCanSay", "()Z"⟩ ∈ zTb := zTb_in (List.mem_of_getElem? (i := 18) (by decide +kernel)) (by decide +kernel)
theorem kw537 : (Jvm.Cond.methodLink "AllHome$Orders" (120 : Nat) ({ cls := "AllHome$Orders", name := "spreadCanSay", desc := "()Z" } : Jvm.MethodName)) ∈ zTb := zTb_in (List.mem_of_getElem? (i := 603) (by decide +kernel)) (by decide +kernel)
theorem kw539 : (Jvm.Cond.instanceMethod ({ cls := "AllHome$Orders", name := "spreadCanSay", desc := "()Z" } : Jvm.MethodName)) ∈ zTb := zTb_in (List.mem_of_getElem? (i := 605) (by decide +kernel)) (by decide +kernel)
theorem kw540 : (Jvm.Cond.code ({ cls := "AllHome$Orders", name := "spreadCanSay", desc := "()Z" } : Jvm.MethodName) prog_4_method_18_code (5 : Nat) (Option.some Jvm.ClassFile.FieldType.boolean)) ∈ zTb := zTb_in (List.mem_of_getElem? (i := 606) (by decide +kernel)) (by decide +kernel)
theorem kw535 : (Jvm.Cond.selects "AllHome$Orders" ({ cls := "AllHome$Orders", name := "stuckStates", desc := "()I" } : Jvm.MethodName) ({ cls := "AllHome$Orders", name := "stuckStates", desc := "()I" } : Jvm.MethodName)) ∈ zTb := zTb_in (List.mem_of_getElem? (i := 601) (by decide +kernel)) (by decide +kernel)
theorem kw533 : (Jvm.Cond.methodLink "AllHome" (162 : Nat) ({ cls := "AllHome$Orders", name := "stuckStates", desc := "()I" } : Jvm.MethodName)) ∈ zTb := zTb_in (List.mem_of_getElem? (i := 599) (by decide +kernel)) (by decide +kernel)
theorem kw534 : (Jvm.Cond.instanceMethod ({ cls := "AllHome$Orders", name := "stuckStates", desc := "()I" } : Jvm.MethodName)) ∈ zTb := zTb_in (List.mem_of_getElem? (i := 600) (by decide +kernel)) (by decide +kernel)
theorem kw536 : (Jvm.Cond.code ({ cls := "AllHome$Orders", name := "stuckStates", desc := "()I" } : Jvm.MethodName) prog_4_method_17_code (4 : Nat) (Option.some Jvm.ClassFile.FieldType.int)) ∈ zTb := zTb_in (List.mem_of_getElem? (i := 602) (by decide +kernel)) (by decide +kernel)
theorem kw547 : (Jvm.Cond.selects "AllHome$Orders" ({ cls := "AllHome$Orders", name := "unlikeWorks", desc := "()I" } : Jvm.MethodName) ({ cls := "AllHome$Orders", name := "unlikeWorks", desc := "()I" } : Jvm.MethodName)) ∈ zTb := zTb_in (List.mem_of_getElem? (i := 613) (by decide +kernel)) (by decide +kernel)
theorem kw545 : (Jvm.Cond.methodLink "AllHome" (165 : Nat) ({ cls := "AllHome$Orders", name := "unlikeWorks", desc := "()I" } : Jvm.MethodName)) ∈ zTb := zTb_in (List.mem_of_getElem? (i := 611) (by decide +kernel)) (by decide +kernel)
theorem kw546 : (Jvm.Cond.instanceMethod ({ cls := "AllHome$Orders", name := "unlikeWorks", desc := "()I" } : Jvm.MethodName)) ∈ zTb := zTb_in (List.mem_of_getElem? (i := 612) (by decide +kernel)) (by decide +kernel)
theorem kw548 : (Jvm.Cond.code ({ cls := "AllHome$Orders", name := "unlikeWorks", desc := "()I" } : Jvm.MethodName) prog_4_method_19_code (5 : Nat) (Option.some Jvm.ClassFile.FieldType.int)) ∈ zTb := zTb_in (List.mem_of_getElem? (i := 614) (by decide +kernel)) (by decide +kernel)
theorem kw118 : (Jvm.Cond.fieldLink "AllHome$Acts" (15 : Nat) "AllHome$Acts" "ran" "I") ∈ zTb := zTb_in (List.mem_of_getElem? (i := 184) (by decide +kernel)) (by decide +kernel)
theorem kw569 : (Jvm.Cond.fieldLink "AllHome$Acts" (44 : Nat) "AllHome$Acts" "BODIES" "[I") ∈ zTb := zTb_in (List.mem_of_getElem? (i := 635) (by decide +kernel)) (by decide +kernel)
theorem kw117 : (Jvm.Cond.fieldLink "AllHome$Acts" (11 : Nat) "AllHome$Acts" "traced" "[I") ∈ zTb := zTb_in (List.mem_of_getElem? (i := 183) (by decide +kernel)) (by decide +kernel)
theorem kw565 : (Jvm.Cond.methodLink "AllHome$Acts" (29 : Nat) ({ cls := "AllHome$Acts", name := "bodyOf", desc := "(II)I" } : Jvm.MethodName)) ∈ zTb := zTb_in (List.mem_of_getElem? (i := 631) (by decide +kernel)) (by decide +kernel)
theorem kw566 : (Jvm.Cond.static ({ cls := "AllHome$Acts", name := "bodyOf", desc := "(II)I" } : Jvm.MethodName)) ∈ zTb := zTb_in (List.mem_of_getElem? (i := 632) (by decide +kernel)) (by decide +kernel)
theorem kw5 : (Jvm.Cond.initialized "AllHome$Acts") ∈ zTb := zTb_in (List.mem_of_getElem? (i := 71) (by decide +kernel)) (by decide +kernel)
theorem kw567 : (Jvm.Cond.code ({ cls := "AllHome$Acts", name := "bodyOf", desc := "(II)I" } : Jvm.MethodName) prog_2_method_7_code (2 : Nat) (Option.some Jvm.ClassFile.FieldType.int)) ∈ zTb := zTb_in (List.mem_of_getElem? (i := 633) (by decide +kernel)) (by decide +kernel)
theorem kp20 : Cond.selects "AllHome$Acts" ⟨"AllHome$Acts", "begun", "(I)V"⟩ ⟨"AllHome$Acts", "begun", "(I)V"⟩ ∈ zTb := zTb_in (List.mem_of_getElem? (i := 20) (by decide +kernel)) (by decide +kernel)
theorem kw572 : (Jvm.Cond.methodLink "AllHome$Acts" (40 : Nat) ({ cls := "AllHome$Acts", name := "begun", desc := "(I)V" } : Jvm.MethodName)) ∈ zTb := zTb_in (List.mem_of_getElem? (i := 638) (by decide +kernel)) (by decide +kernel)
theorem kw574 : (Jvm.Cond.instanceMethod ({ cls := "AllHome$Acts", name := "begun", desc := "(I)V" } : Jvm.MethodName)) ∈ zTb := zTb_in (List.mem_of_getElem? (i := 640) (by decide +kernel)) (by decide +kernel)
theorem kw575 : (Jvm.Cond.code ({ cls := "AllHome$Acts", name := "begun", desc := "(I)V" } : Jvm.MethodName) prog_2_method_8_code (2 : Nat) (Option.none : Option Jvm.ClassFile.FieldType)) ∈ zTb := zTb_in (List.mem_of_getElem? (i := 641) (by decide +kernel)) (by decide +kernel)
theorem kw120 : (Jvm.Cond.fieldLink "AllHome$Acts" (22 : Nat) "AllHome$Acts" "number" "I") ∈ zTb := zTb_in (List.mem_of_getElem? (i := 186) (by decide +kernel)) (by decide +kernel)
theorem kw119 : (Jvm.Cond.fieldLink "AllHome$Acts" (19 : Nat) "AllHome$Acts" "kind" "I") ∈ zTb := zTb_in (List.mem_of_getElem? (i := 185) (by decide +kernel)) (by decide +kernel)
theorem kp19 : Cond.selects "AllHome$Acts" ⟨"AllHome$Acts", "perform", "(IIII)I"⟩ ⟨"AllHome$Acts", "perform", "(IIII)I"⟩ ∈ zTb := zTb_in (List.mem_of_getElem? (i := 19) (by decide +kernel)) (by decide +kernel)
theorem kw561 : (Jvm.Cond.methodLink "AllHome$Acts" (25 : Nat) ({ cls := "AllHome$Acts", name := "perform", desc := "(IIII)I" } : Jvm.MethodName)) ∈ zTb := zTb_in (List.mem_of_getElem? (i := 627) (by decide +kernel)) (by decide +kernel)
theorem kw563 : (Jvm.Cond.instanceMethod ({ cls := "AllHome$Acts", name := "perform", desc := "(IIII)I" } : Jvm.MethodName)) ∈ zTb := zTb_in (List.mem_of_getElem? (i := 629) (by decide +kernel)) (by decide +kernel)
theorem kw564 : (Jvm.Cond.code ({ cls := "AllHome$Acts", name := "perform", desc := "(IIII)I" } : Jvm.MethodName) prog_2_method_6_code (9 : Nat) (Option.some Jvm.ClassFile.FieldType.int)) ∈ zTb := zTb_in (List.mem_of_getElem? (i := 630) (by decide +kernel)) (by decide +kernel)
theorem kw187 : (Jvm.Cond.fieldLink "AllHome" (47 : Nat) "AllHome" "acts" "LAllHome$Acts;") ∈ zTb := zTb_in (List.mem_of_getElem? (i := 253) (by decide +kernel)) (by decide +kernel)
theorem kw555 : (Jvm.Cond.selects "AllHome$Acts" ({ cls := "AllHome$Acts", name := "clear", desc := "()V" } : Jvm.MethodName) ({ cls := "AllHome$Acts", name := "clear", desc := "()V" } : Jvm.MethodName)) ∈ zTb := zTb_in (List.mem_of_getElem? (i := 621) (by decide +kernel)) (by decide +kernel)
theorem kw553 : (Jvm.Cond.methodLink "AllHome" (175 : Nat) ({ cls := "AllHome$Acts", name := "clear", desc := "()V" } : Jvm.MethodName)) ∈ zTb := zTb_in (List.mem_of_getElem? (i := 619) (by decide +kernel)) (by decide +kernel)
theorem kw554 : (Jvm.Cond.instanceMethod ({ cls := "AllHome$Acts", name := "clear", desc := "()V" } : Jvm.MethodName)) ∈ zTb := zTb_in (List.mem_of_getElem? (i := 620) (by decide +kernel)) (by decide +kernel)
theorem kw556 : (Jvm.Cond.code ({ cls := "AllHome$Acts", name := "clear", desc := "()V" } : Jvm.MethodName) prog_2_method_2_code (1 : Nat) (Option.none : Option Jvm.ClassFile.FieldType)) ∈ zTb := zTb_in (List.mem_of_getElem? (i := 622) (by decide +kernel)) (by decide +kernel)
theorem kw559 : (Jvm.Cond.selects "AllHome$Acts" ({ cls := "AllHome$Acts", name := "begin", desc := "(IIII)I" } : Jvm.MethodName) ({ cls := "AllHome$Acts", name := "begin", desc := "(IIII)I" } : Jvm.MethodName)) ∈ zTb := zTb_in (List.mem_of_getElem? (i := 625) (by decide +kernel)) (by decide +kernel)
theorem kw557 : (Jvm.Cond.methodLink "AllHome" (178 : Nat) ({ cls := "AllHome$Acts", name := "begin", desc := "(IIII)I" } : Jvm.MethodName)) ∈ zTb := zTb_in (List.mem_of_getElem? (i := 623) (by decide +kernel)) (by decide +kernel)
theorem kw558 : (Jvm.Cond.instanceMethod ({ cls := "AllHome$Acts", name := "begin", desc := "(IIII)I" } : Jvm.MethodName)) ∈ zTb := zTb_in (List.mem_of_getElem? (i := 624) (by decide +kernel)) (by decide +kernel)
theorem kw560 : (Jvm.Cond.code ({ cls := "AllHome$Acts", name := "begin", desc := "(IIII)I" } : Jvm.MethodName) prog_2_method_5_code (5 : Nat) (Option.some Jvm.ClassFile.FieldType.int)) ∈ zTb := zTb_in (List.mem_of_getElem? (i := 626) (by decide +kernel)) (by decide +kernel)
theorem kw582 : (Jvm.Cond.selects "AllHome$Acts" ({ cls := "AllHome$Acts", name := "traced", desc := "(I)I" } : Jvm.MethodName) ({ cls := "AllHome$Acts", name := "traced", desc := "(I)I" } : Jvm.MethodName)) ∈ zTb := zTb_in (List.mem_of_getElem? (i := 648) (by decide +kernel)) (by decide +kernel)
theorem kw580 : (Jvm.Cond.methodLink "AllHome" (181 : Nat) ({ cls := "AllHome$Acts", name := "traced", desc := "(I)I" } : Jvm.MethodName)) ∈ zTb := zTb_in (List.mem_of_getElem? (i := 646) (by decide +kernel)) (by decide +kernel)
theorem kw581 : (Jvm.Cond.instanceMethod ({ cls := "AllHome$Acts", name := "traced", desc := "(I)I" } : Jvm.MethodName)) ∈ zTb := zTb_in (List.mem_of_getElem? (i := 647) (by decide +kernel)) (by decide +kernel)
theorem kw583 : (Jvm.Cond.code ({ cls := "AllHome$Acts", name := "traced", desc := "(I)I" } : Jvm.MethodName) prog_2_method_4_code (2 : Nat) (Option.some Jvm.ClassFile.FieldType.int)) ∈ zTb := zTb_in (List.mem_of_getElem? (i := 649) (by decide +kernel)) (by decide +kernel)
theorem kw590 : (Jvm.Cond.selects "AllHome$Shelf" ({ cls := "AllHome$Shelf", name := "holdWay", desc := "(I)V" } : Jvm.MethodName) ({ cls := "AllHome$Shelf", name := "holdWay", desc := "(I)V" } : Jvm.MethodName)) ∈ zTb := zTb_in (List.mem_of_getElem? (i := 656) (by decide +kernel)) (by decide +kernel)
theorem kw588 : (Jvm.Cond.methodLink "AllHome" (184 : Nat) ({ cls := "AllHome$Shelf", name := "holdWay", desc := "(I)V" } : Jvm.MethodName)) ∈ zTb := zTb_in (List.mem_of_getElem? (i := 654) (by decide +kernel)) (by decide +kernel)
theorem kw589 : (Jvm.Cond.instanceMethod ({ cls := "AllHome$Shelf", name := "holdWay", desc := "(I)V" } : Jvm.MethodName)) ∈ zTb := zTb_in (List.mem_of_getElem? (i := 655) (by decide +kernel)) (by decide +kernel)
theorem kw591 : (Jvm.Cond.code ({ cls := "AllHome$Shelf", name := "holdWay", desc := "(I)V" } : Jvm.MethodName) prog_7_method_2_code (2 : Nat) (Option.none : Option Jvm.ClassFile.FieldType)) ∈ zTb := zTb_in (List.mem_of_getElem? (i := 657) (by decide +kernel)) (by decide +kernel)
theorem kw600 : (Jvm.Cond.methodLink "AllHome$Shelf" (25 : Nat) ({ cls := "java/lang/Math", name := "min", desc := "(II)I" } : Jvm.MethodName)) ∈ zTb := zTb_in (List.mem_of_getElem? (i := 666) (by decide +kernel)) (by decide +kernel)
theorem kw601 : (Jvm.Cond.methodLink "AllHome$Shelf" (31 : Nat) ({ cls := "java/lang/Math", name := "max", desc := "(II)I" } : Jvm.MethodName)) ∈ zTb := zTb_in (List.mem_of_getElem? (i := 667) (by decide +kernel)) (by decide +kernel)
theorem kw602 : (Jvm.Cond.static ({ cls := "java/lang/Math", name := "max", desc := "(II)I" } : Jvm.MethodName)) ∈ zTb := zTb_in (List.mem_of_getElem? (i := 668) (by decide +kernel)) (by decide +kernel)
theorem kw603 : (Jvm.Cond.code ({ cls := "java/lang/Math", name := "max", desc := "(II)I" } : Jvm.MethodName) prog_10_method_65_code (2 : Nat) (Option.some Jvm.ClassFile.FieldType.int)) ∈ zTb := zTb_in (List.mem_of_getElem? (i := 669) (by decide +kernel)) (by decide +kernel)
theorem kw604 : (Jvm.Cond.methodLink "AllHome$Shelf" (34 : Nat) ({ cls := "java/util/Arrays", name := "fill", desc := "([JJ)V" } : Jvm.MethodName)) ∈ zTb := zTb_in (List.mem_of_getElem? (i := 670) (by decide +kernel)) (by decide +kernel)
theorem kw605 : (Jvm.Cond.static ({ cls := "java/util/Arrays", name := "fill", desc := "([JJ)V" } : Jvm.MethodName)) ∈ zTb := zTb_in (List.mem_of_getElem? (i := 671) (by decide +kernel)) (by decide +kernel)
theorem kw606 : (Jvm.Cond.code ({ cls := "java/util/Arrays", name := "fill", desc := "([JJ)V" } : Jvm.MethodName) prog_12_method_101_code (5 : Nat) (Option.none : Option Jvm.ClassFile.FieldType)) ∈ zTb := zTb_in (List.mem_of_getElem? (i := 672) (by decide +kernel)) (by decide +kernel)
theorem kw598 : (Jvm.Cond.selects "AllHome$Shelf" ({ cls := "AllHome$Shelf", name := "holdRow", desc := "(II)V" } : Jvm.MethodName) ({ cls := "AllHome$Shelf", name := "holdRow", desc := "(II)V" } : Jvm.MethodName)) ∈ zTb := zTb_in (List.mem_of_getElem? (i := 664) (by decide +kernel)) (by decide +kernel)
theorem kw596 : (Jvm.Cond.methodLink "AllHome" (187 : Nat) ({ cls := "AllHome$Shelf", name := "holdRow", desc := "(II)V" } : Jvm.MethodName)) ∈ zTb := zTb_in (List.mem_of_getElem? (i := 662) (by decide +kernel)) (by decide +kernel)
theorem kw597 : (Jvm.Cond.instanceMethod ({ cls := "AllHome$Shelf", name := "holdRow", desc := "(II)V" } : Jvm.MethodName)) ∈ zTb := zTb_in (List.mem_of_getElem? (i := 663) (by decide +kernel)) (by decide +kernel)
theorem kw599 : (Jvm.Cond.code ({ cls := "AllHome$Shelf", name := "holdRow", desc := "(II)V" } : Jvm.MethodName) prog_7_method_3_code (3 : Nat) (Option.none : Option Jvm.ClassFile.FieldType)) ∈ zTb := zTb_in (List.mem_of_getElem? (i := 665) (by decide +kernel)) (by decide +kernel)
theorem kw617 : (Jvm.Cond.selects "AllHome$Shelf" ({ cls := "AllHome$Shelf", name := "isRow", desc := "()Z" } : Jvm.MethodName) ({ cls := "AllHome$Shelf", name := "isRow", desc := "()Z" } : Jvm.MethodName)) ∈ zTb := zTb_in (List.mem_of_getElem? (i := 683) (by decide +kernel)) (by decide +kernel)
theorem kw615 : (Jvm.Cond.methodLink "AllHome" (201 : Nat) ({ cls := "AllHome$Shelf", name := "isRow", desc := "()Z" } : Jvm.MethodName)) ∈ zTb := zTb_in (List.mem_of_getElem? (i := 681) (by decide +kernel)) (by decide +kernel)
theorem kw616 : (Jvm.Cond.instanceMethod ({ cls := "AllHome$Shelf", name := "isRow", desc := "()Z" } : Jvm.MethodName)) ∈ zTb := zTb_in (List.mem_of_getElem? (i := 682) (by decide +kernel)) (by decide +kernel)
theorem kw618 : (Jvm.Cond.code ({ cls := "AllHome$Shelf", name := "isRow", desc := "()Z" } : Jvm.MethodName) prog_7_method_5_code (1 : Nat) (Option.some Jvm.ClassFile.FieldType.boolean)) ∈ zTb := zTb_in (List.mem_of_getElem? (i := 684) (by decide +kernel)) (by decide +kernel)
theorem kp22 : Cond.selects "AllHome$Shelf" ⟨"AllHome$Shelf", "lowestBits", "(J)J"⟩ ⟨"AllHome$Shelf", "lowestBits", "(J)J"⟩ ∈ zTb := zTb_in (List.mem_of_getElem? (i := 22) (by decide +kernel)) (by decide +kernel)
theorem kw623 : (Jvm.Cond.methodLink "AllHome$Shelf" (48 : Nat) ({ cls := "AllHome$Shelf", name := "lowestBits", desc := "(J)J" } : Jvm.MethodName)) ∈ zTb := zTb_in (List.mem_of_getElem? (i := 689) (by decide +kernel)) (by decide +kernel)
theorem kw625 : (Jvm.Cond.instanceMethod ({ cls := "AllHome$Shelf", name := "lowestBits", desc := "(J)J" } : Jvm.MethodName)) ∈ zTb := zTb_in (List.mem_of_getElem? (i := 691) (by decide +kernel)) (by decide +kernel)
theorem kw626 : (Jvm.Cond.code ({ cls := "AllHome$Shelf", name := "lowestBits", desc := "(J)J" } : Jvm.MethodName) prog_7_method_13_code (3 : Nat) (Option.some Jvm.ClassFile.FieldType.long)) ∈ zTb := zTb_in (List.mem_of_getElem? (i := 692) (by decide +kernel)) (by decide +kernel)
theorem kp21 : Cond.selects "AllHome" ⟨"AllHome", "wantPlace", "(II)I"⟩ ⟨"AllHome", "wantPlace", "(II)I"⟩ ∈ zTb := zTb_in (List.mem_of_getElem? (i := 21) (by decide +kernel)) (by decide +kernel)
theorem kw611 : (Jvm.Cond.methodLink "AllHome" (190 : Nat) ({ cls := "AllHome", name := "wantPlace", desc := "(II)I" } : Jvm.MethodName)) ∈ zTb := zTb_in (List.mem_of_getElem? (i := 677) (by decide +kernel)) (by decide +kernel)
theorem kw613 : (Jvm.Cond.instanceMethod ({ cls := "AllHome", name := "wantPlace", desc := "(II)I" } : Jvm.MethodName)) ∈ zTb := zTb_in (List.mem_of_getElem? (i := 679) (by decide +kernel)) (by decide +kernel)
theorem kw614 : (Jvm.Cond.code ({ cls := "AllHome", name := "wantPlace", desc := "(II)I" } : Jvm.MethodName) prog_1_method_35_code (3 : Nat) (Option.some Jvm.ClassFile.FieldType.int)) ∈ zTb := zTb_in (List.mem_of_getElem? (i := 680) (by decide +kernel)) (by decide +kernel)
theorem kw621 : (Jvm.Cond.selects "AllHome$Shelf" ({ cls := "AllHome$Shelf", name := "set", desc := "(IJ)V" } : Jvm.MethodName) ({ cls := "AllHome$Shelf", name := "set", desc := "(IJ)V" } : Jvm.MethodName)) ∈ zTb := zTb_in (List.mem_of_getElem? (i := 687) (by decide +kernel)) (by decide +kernel)
theorem kw619 : (Jvm.Cond.methodLink "AllHome" (193 : Nat) ({ cls := "AllHome$Shelf", name := "set", desc := "(IJ)V" } : Jvm.MethodName)) ∈ zTb := zTb_in (List.mem_of_getElem? (i := 685) (by decide +kernel)) (by decide +kernel)
theorem kw620 : (Jvm.Cond.instanceMethod ({ cls := "AllHome$Shelf", name := "set", desc := "(IJ)V" } : Jvm.MethodName)) ∈ zTb := zTb_in (List.mem_of_getElem? (i := 686) (by decide +kernel)) (by decide +kernel)
theorem kw622 : (Jvm.Cond.code ({ cls := "AllHome$Shelf", name := "set", desc := "(IJ)V" } : Jvm.MethodName) prog_7_method_12_code (4 : Nat) (Option.none : Option Jvm.ClassFile.FieldType)) ∈ zTb := zTb_in (List.mem_of_getElem? (i := 688) (by decide +kernel)) (by decide +kernel)
theorem kw631 : (Jvm.Cond.constantLong "AllHome" (199 : Nat) (-9223372036854775808 : Int64)) ∈ zTb := zTb_in (List.mem_of_getElem? (i := 697) (by decide +kernel)) (by decide +kernel)
theorem kw642 : (Jvm.Cond.selects "AllHome$Shelf" ({ cls := "AllHome$Shelf", name := "hasPlaces", desc := "(II)Z" } : Jvm.MethodName) ({ cls := "AllHome$Shelf", name := "hasPlaces", desc := "(II)Z" } : Jvm.MethodName)) ∈ zTb := zTb_in (List.mem_of_getElem? (i := 708) (by decide +kernel)) (by decide +kernel)
theorem kw648 : (Jvm.Cond.methodLink "AllHome$Shelf" (52 : Nat) ({ cls := "AllHome$Shelf", name := "hasPlaces", desc := "(II)Z" } : Jvm.MethodName)) ∈ zTb := zTb_in (List.mem_of_getElem? (i := 714) (by decide +kernel)) (by decide +kernel)
theorem kw641 : (Jvm.Cond.instanceMethod ({ cls := "AllHome$Shelf", name := "hasPlaces", desc := "(II)Z" } : Jvm.MethodName)) ∈ zTb := zTb_in (List.mem_of_getElem? (i := 707) (by decide +kernel)) (by decide +kernel)
theorem kw643 : (Jvm.Cond.code ({ cls := "AllHome$Shelf", name := "hasPlaces", desc := "(II)Z" } : Jvm.MethodName) prog_7_method_10_code (3 : Nat) (Option.some Jvm.ClassFile.FieldType.boolean)) ∈ zTb := zTb_in (List.mem_of_getElem? (i := 709) (by decide +kernel)) (by decide +kernel)
theorem kw649 : (Jvm.Cond.methodLink "AllHome$Shelf" (56 : Nat) ({ cls := "java/lang/System", name := "arraycopy", desc := "(Ljava/lang/Object;ILjava/lang/Object;II)V" } : Jvm.MethodName)) ∈ zTb := zTb_in (List.mem_of_getElem? (i := 715) (by decide +kernel)) (by decide +kernel)
theorem kw638 : (Jvm.Cond.selects "AllHome$Shelf" ({ cls := "AllHome$Shelf", name := "sort", desc := "()I" } : Jvm.MethodName) ({ cls := "AllHome$Shelf", name := "sort", desc := "()I" } : Jvm.MethodName)) ∈ zTb := zTb_in (List.mem_of_getElem? (i := 704) (by decide +kernel)) (by decide +kernel)
theorem kw636 : (Jvm.Cond.methodLink "AllHome" (204 : Nat) ({ cls := "AllHome$Shelf", name := "sort", desc := "()I" } : Jvm.MethodName)) ∈ zTb := zTb_in (List.mem_of_getElem? (i := 702) (by decide +kernel)) (by decide +kernel)
theorem kw637 : (Jvm.Cond.instanceMethod ({ cls := "AllHome$Shelf", name := "sort", desc := "()I" } : Jvm.MethodName)) ∈ zTb := zTb_in (List.mem_of_getElem? (i := 703) (by decide +kernel)) (by decide +kernel)
theorem kw639 : (Jvm.Cond.code ({ cls := "AllHome$Shelf", name := "sort", desc := "()I" } : Jvm.MethodName) prog_7_method_7_code (1 : Nat) (Option.some Jvm.ClassFile.FieldType.int)) ∈ zTb := zTb_in (List.mem_of_getElem? (i := 705) (by decide +kernel)) (by decide +kernel)
theorem kw640 : (Jvm.Cond.methodLink "AllHome" (207 : Nat) ({ cls := "AllHome$Shelf", name := "hasPlaces", desc := "(II)Z" } : Jvm.MethodName)) ∈ zTb := zTb_in (List.mem_of_getElem? (i := 706) (by decide +kernel)) (by decide +kernel)
theorem kw646 : (Jvm.Cond.selects "AllHome$Shelf" ({ cls := "AllHome$Shelf", name := "copyTo", desc := "(ILAllHome$Shelf;II)V" } : Jvm.MethodName) ({ cls := "AllHome$Shelf", name := "copyTo", desc := "(ILAllHome$Shelf;II)V" } : Jvm.MethodName)) ∈ zTb := zTb_in (List.mem_of_getElem? (i := 712) (by decide +kernel)) (by decide +kernel)
theorem kw644 : (Jvm.Cond.methodLink "AllHome" (211 : Nat) ({ cls := "AllHome$Shelf", name := "copyTo", desc := "(ILAllHome$Shelf;II)V" } : Jvm.MethodName)) ∈ zTb := zTb_in (List.mem_of_getElem? (i := 710) (by decide +kernel)) (by decide +kernel)
theorem kw645 : (Jvm.Cond.instanceMethod ({ cls := "AllHome$Shelf", name := "copyTo", desc := "(ILAllHome$Shelf;II)V" } : Jvm.MethodName)) ∈ zTb := zTb_in (List.mem_of_getElem? (i := 711) (by decide +kernel)) (by decide +kernel)
theorem kw647 : (Jvm.Cond.code ({ cls := "AllHome$Shelf", name := "copyTo", desc := "(ILAllHome$Shelf;II)V" } : Jvm.MethodName) prog_7_method_14_code (5 : Nat) (Option.none : Option Jvm.ClassFile.FieldType)) ∈ zTb := zTb_in (List.mem_of_getElem? (i := 713) (by decide +kernel)) (by decide +kernel)
theorem kw656 : (Jvm.Cond.selects "AllHome$Shelf" ({ cls := "AllHome$Shelf", name := "heldWay", desc := "()I" } : Jvm.MethodName) ({ cls := "AllHome$Shelf", name := "heldWay", desc := "()I" } : Jvm.MethodName)) ∈ zTb := zTb_in (List.mem_of_getElem? (i := 722) (by decide +kernel)) (by decide +kernel)
theorem kw654 : (Jvm.Cond.methodLink "AllHome" (215 : Nat) ({ cls := "AllHome$Shelf", name := "heldWay", desc := "()I" } : Jvm.MethodName)) ∈ zTb := zTb_in (List.mem_of_getElem? (i := 720) (by decide +kernel)) (by decide +kernel)
theorem kw655 : (Jvm.Cond.instanceMethod ({ cls := "AllHome$Shelf", name := "heldWay", desc := "()I" } : Jvm.MethodName)) ∈ zTb := zTb_in (List.mem_of_getElem? (i := 721) (by decide +kernel)) (by decide +kernel)
theorem kw657 : (Jvm.Cond.code ({ cls := "AllHome$Shelf", name := "heldWay", desc := "()I" } : Jvm.MethodName) prog_7_method_8_code (1 : Nat) (Option.some Jvm.ClassFile.FieldType.int)) ∈ zTb := zTb_in (List.mem_of_getElem? (i := 723) (by decide +kernel)) (by decide +kernel)
theorem kw658 : (Jvm.Cond.methodLink "AllHome" (218 : Nat) ({ cls := "AllHome", name := "isUnder", desc := "(II)Z" } : Jvm.MethodName)) ∈ zTb := zTb_in (List.mem_of_getElem? (i := 724) (by decide +kernel)) (by decide +kernel)
theorem kw665 : (Jvm.Cond.selects "AllHome$Acts" ({ cls := "AllHome$Acts", name := "ran", desc := "()I" } : Jvm.MethodName) ({ cls := "AllHome$Acts", name := "ran", desc := "()I" } : Jvm.MethodName)) ∈ zTb := zTb_in (List.mem_of_getElem? (i := 731) (by decide +kernel)) (by decide +kernel)
theorem kw663 : (Jvm.Cond.methodLink "AllHome" (221 : Nat) ({ cls := "AllHome$Acts", name := "ran", desc := "()I" } : Jvm.MethodName)) ∈ zTb := zTb_in (List.mem_of_getElem? (i := 729) (by decide +kernel)) (by decide +kernel)
theorem kw664 : (Jvm.Cond.instanceMethod ({ cls := "AllHome$Acts", name := "ran", desc := "()I" } : Jvm.MethodName)) ∈ zTb := zTb_in (List.mem_of_getElem? (i := 730) (by decide +kernel)) (by decide +kernel)
theorem kw666 : (Jvm.Cond.code ({ cls := "AllHome$Acts", name := "ran", desc := "()I" } : Jvm.MethodName) prog_2_method_3_code (1 : Nat) (Option.some Jvm.ClassFile.FieldType.int)) ∈ zTb := zTb_in (List.mem_of_getElem? (i := 732) (by decide +kernel)) (by decide +kernel)
theorem kw677 : (Jvm.Cond.fieldLink "AllHomeModel" (78 : Nat) "AllHomeModel" "huts" "I") ∈ zTb := zTb_in (List.mem_of_getElem? (i := 743) (by decide +kernel)) (by decide +kernel)
theorem kw679 : (Jvm.Cond.fieldLink "AllHomeModel" (82 : Nat) "AllHomeModel" "ways" "I") ∈ zTb := zTb_in (List.mem_of_getElem? (i := 745) (by decide +kernel)) (by decide +kernel)
theorem kw777 : (Jvm.Cond.constantLong "AllHomeModel" (85 : Nat) (4 : Int64)) ∈ zTb := zTb_in (List.mem_of_getElem? (i := 843) (by decide +kernel)) (by decide +kernel)
theorem kw778 : (Jvm.Cond.methodLink "AllHomeModel" (87 : Nat) ({ cls := "AllHomeModel", name := "within", desc := "(JJJ)Z" } : Jvm.MethodName)) ∈ zTb := zTb_in (List.mem_of_getElem? (i := 844) (by decide +kernel)) (by decide +kernel)
theorem kw779 : (Jvm.Cond.static ({ cls := "AllHomeModel", name := "within", desc := "(JJJ)Z" } : Jvm.MethodName)) ∈ zTb := zTb_in (List.mem_of_getElem? (i := 845) (by decide +kernel)) (by decide +kernel)
theorem kw8 : (Jvm.Cond.initialized "AllHomeModel") ∈ zTb := zTb_in (List.mem_of_getElem? (i := 74) (by decide +kernel)) (by decide +kernel)
theorem kw780 : (Jvm.Cond.code ({ cls := "AllHomeModel", name := "within", desc := "(JJJ)Z" } : Jvm.MethodName) prog_9_method_2_code (6 : Nat) (Option.some Jvm.ClassFile.FieldType.boolean)) ∈ zTb := zTb_in (List.mem_of_getElem? (i := 846) (by decide +kernel)) (by decide +kernel)
theorem kw674 : (Jvm.Cond.fieldLink "AllHomeModel" (91 : Nat) "AllHomeModel" "tapeMany" "I") ∈ zTb := zTb_in (List.mem_of_getElem? (i := 740) (by decide +kernel)) (by decide +kernel)
theorem kw673 : (Jvm.Cond.fieldLink "AllHomeModel" (9 : Nat) "AllHomeModel" "tape" "[I") ∈ zTb := zTb_in (List.mem_of_getElem? (i := 739) (by decide +kernel)) (by decide +kernel)
theorem kw794 : (Jvm.Cond.constantLong "AllHomeModel" (94 : Nat) (97 : Int64)) ∈ zTb := zTb_in (List.mem_of_getElem? (i := 860) (by decide +kernel)) (by decide +kernel)
theorem kw795 : (Jvm.Cond.constantLong "AllHomeModel" (96 : Nat) (102 : Int64)) ∈ zTb := zTb_in (List.mem_of_getElem? (i := 861) (by decide +kernel)) (by decide +kernel)
theorem kw789 : (Jvm.Cond.constantLong "AllHomeModel" (98 : Nat) (50 : Int64)) ∈ zTb := zTb_in (List.mem_of_getElem? (i := 855) (by decide +kernel)) (by decide +kernel)
theorem kw790 : (Jvm.Cond.constantLong "AllHomeModel" (100 : Nat) (57 : Int64)) ∈ zTb := zTb_in (List.mem_of_getElem? (i := 856) (by decide +kernel)) (by decide +kernel)
theorem kw791 : (Jvm.Cond.methodLink "AllHomeModel" (102 : Nat) ({ cls := "AllHomeModel", name := "isOther", desc := "(II)Z" } : Jvm.MethodName)) ∈ zTb := zTb_in (List.mem_of_getElem? (i := 857) (by decide +kernel)) (by decide +kernel)
theorem kw792 : (Jvm.Cond.static ({ cls := "AllHomeModel", name := "isOther", desc := "(II)Z" } : Jvm.MethodName)) ∈ zTb := zTb_in (List.mem_of_getElem? (i := 858) (by decide +kernel)) (by decide +kernel)
theorem kw793 : (Jvm.Cond.code ({ cls := "AllHomeModel", name := "isOther", desc := "(II)Z" } : Jvm.MethodName) prog_9_method_6_code (2 : Nat) (Option.some Jvm.ClassFile.FieldType.boolean)) ∈ zTb := zTb_in (List.mem_of_getElem? (i := 859) (by decide +kernel)) (by decide +kernel)
theorem kw692 : (Jvm.Cond.fieldLink "AllHomeModel" (106 : Nat) "AllHomeModel" "runs" "I") ∈ zTb := zTb_in (List.mem_of_getElem? (i := 758) (by decide +kernel)) (by decide +kernel)
theorem kp23 : Cond.selects "AllHomeModel" ⟨"AllHomeModel", "faultOf", "(I)I"⟩ ⟨"AllHomeModel", "faultOf", "(I)I"⟩ ∈ zTb := zTb_in (List.mem_of_getElem? (i := 23) (by decide +kernel)) (by decide +kernel)
theorem kw785 : (Jvm.Cond.methodLink "AllHomeModel" (109 : Nat) ({ cls := "AllHomeModel", name := "faultOf", desc := "(I)I" } : Jvm.MethodName)) ∈ zTb := zTb_in (List.mem_of_getElem? (i := 851) (by decide +kernel)) (by decide +kernel)
theorem kw787 : (Jvm.Cond.instanceMethod ({ cls := "AllHomeModel", name := "faultOf", desc := "(I)I" } : Jvm.MethodName)) ∈ zTb := zTb_in (List.mem_of_getElem? (i := 853) (by decide +kernel)) (by decide +kernel)
theorem kw788 : (Jvm.Cond.code ({ cls := "AllHomeModel", name := "faultOf", desc := "(I)I" } : Jvm.MethodName) prog_9_method_7_code (4 : Nat) (Option.some Jvm.ClassFile.FieldType.int)) ∈ zTb := zTb_in (List.mem_of_getElem? (i := 854) (by decide +kernel)) (by decide +kernel)
theorem kw676 : (Jvm.Cond.fieldLink "AllHomeModel" (16 : Nat) "AllHomeModel" "textMany" "[I") ∈ zTb := zTb_in (List.mem_of_getElem? (i := 742) (by decide +kernel)) (by decide +kernel)
theorem kw675 : (Jvm.Cond.fieldLink "AllHomeModel" (13 : Nat) "AllHomeModel" "text" "[I") ∈ zTb := zTb_in (List.mem_of_getElem? (i := 741) (by decide +kernel)) (by decide +kernel)
theorem kp24 : Cond.selects "AllHomeModel" ⟨"AllHomeModel", "isHut", "(I)Z"⟩ ⟨"AllHomeModel", "isHut", "(I)Z"⟩ ∈ zTb := zTb_in (List.mem_of_getElem? (i := 24) (by decide +kernel)) (by decide +kernel)
theorem kw800 : (Jvm.Cond.methodLink "AllHomeModel" (113 : Nat) ({ cls := "AllHomeModel", name := "isHut", desc := "(I)Z" } : Jvm.MethodName)) ∈ zTb := zTb_in (List.mem_of_getElem? (i := 866) (by decide +kernel)) (by decide +kernel)
theorem kw802 : (Jvm.Cond.instanceMethod ({ cls := "AllHomeModel", name := "isHut", desc := "(I)Z" } : Jvm.MethodName)) ∈ zTb := zTb_in (List.mem_of_getElem? (i := 868) (by decide +kernel)) (by decide +kernel)
theorem kw803 : (Jvm.Cond.code ({ cls := "AllHomeModel", name := "isHut", desc := "(I)Z" } : Jvm.MethodName) prog_9_method_3_code (2 : Nat) (Option.some Jvm.ClassFile.FieldType.boolean)) ∈ zTb := zTb_in (List.mem_of_getElem? (i := 869) (by decide +kernel)) (by decide +kernel)
theorem kw804 : (Jvm.Cond.constantLong "AllHomeModel" (117 : Nat) (-1 : Int64)) ∈ zTb := zTb_in (List.mem_of_getElem? (i := 870) (by decide +kernel)) (by decide +kernel)
theorem kp25 : Cond.selects "AllHomeModel" ⟨"AllHomeModel", "lines", "(I)I"⟩ ⟨"AllHomeModel", "lines", "(I)I"⟩ ∈ zTb := zTb_in (List.mem_of_getElem? (i := 25) (by decide +kernel)) (by decide +kernel)
theorem kw805 : (Jvm.Cond.methodLink "AllHomeModel" (119 : Nat) ({ cls := "AllHomeModel", name := "lines", desc := "(I)I" } : Jvm.MethodName)) ∈ zTb := zTb_in (List.mem_of_getElem? (i := 871) (by decide +kernel)) (by decide +kernel)
theorem kw807 : (Jvm.Cond.instanceMethod ({ cls := "AllHomeModel", name := "lines", desc := "(I)I" } : Jvm.MethodName)) ∈ zTb := zTb_in (List.mem_of_getElem? (i := 873) (by decide +kernel)) (by decide +kernel)
theorem kw808 : (Jvm.Cond.code ({ cls := "AllHomeModel", name := "lines", desc := "(I)I" } : Jvm.MethodName) prog_9_method_9_code (4 : Nat) (Option.some Jvm.ClassFile.FieldType.int)) ∈ zTb := zTb_in (List.mem_of_getElem? (i := 874) (by decide +kernel)) (by decide +kernel)
theorem kp26 : Cond.selects "AllHomeModel" ⟨"AllHomeModel", "inLine", "(III)I"⟩ ⟨"AllHomeModel", "inLine", "(III)I"⟩ ∈ zTb := zTb_in (List.mem_of_getElem? (i := 26) (by decide +kernel)) (by decide +kernel)
theorem kw809 : (Jvm.Cond.methodLink "AllHomeModel" (122 : Nat) ({ cls := "AllHomeModel", name := "inLine", desc := "(III)I" } : Jvm.MethodName)) ∈ zTb := zTb_in (List.mem_of_getElem? (i := 875) (by decide +kernel)) (by decide +kernel)
theorem kw811 : (Jvm.Cond.instanceMethod ({ cls := "AllHomeModel", name := "inLine", desc := "(III)I" } : Jvm.MethodName)) ∈ zTb := zTb_in (List.mem_of_getElem? (i := 877) (by decide +kernel)) (by decide +kernel)
theorem kw812 : (Jvm.Cond.code ({ cls := "AllHomeModel", name := "inLine", desc := "(III)I" } : Jvm.MethodName) prog_9_method_10_code (10 : Nat) (Option.some Jvm.ClassFile.FieldType.int)) ∈ zTb := zTb_in (List.mem_of_getElem? (i := 878) (by decide +kernel)) (by decide +kernel)
theorem kw821 : (Jvm.Cond.constantLong "AllHomeModel" (126 : Nat) (8 : Int64)) ∈ zTb := zTb_in (List.mem_of_getElem? (i := 887) (by decide +kernel)) (by decide +kernel)
theorem kw678 : (Jvm.Cond.fieldLink "AllHomeModel" (19 : Nat) "AllHomeModel" "kind" "[I") ∈ zTb := zTb_in (List.mem_of_getElem? (i := 744) (by decide +kernel)) (by decide +kernel)
theorem kp27 : Cond.selects "AllHomeModel" ⟨"AllHomeModel", "isWay", "(I)Z"⟩ ⟨"AllHomeModel", "isWay", "(I)Z"⟩ ∈ zTb := zTb_in (List.mem_of_getElem? (i := 27) (by decide +kernel)) (by decide +kernel)
theorem kw826 : (Jvm.Cond.methodLink "AllHomeModel" (128 : Nat) ({ cls := "AllHomeModel", name := "isWay", desc := "(I)Z" } : Jvm.MethodName)) ∈ zTb := zTb_in (List.mem_of_getElem? (i := 892) (by decide +kernel)) (by decide +kernel)
theorem kw828 : (Jvm.Cond.instanceMethod ({ cls := "AllHomeModel", name := "isWay", desc := "(I)Z" } : Jvm.MethodName)) ∈ zTb := zTb_in (List.mem_of_getElem? (i := 894) (by decide +kernel)) (by decide +kernel)
theorem kw829 : (Jvm.Cond.code ({ cls := "AllHomeModel", name := "isWay", desc := "(I)Z" } : Jvm.MethodName) prog_9_method_4_code (2 : Nat) (Option.some Jvm.ClassFile.FieldType.boolean)) ∈ zTb := zTb_in (List.mem_of_getElem? (i := 895) (by decide +kernel)) (by decide +kernel)
theorem kw881 : (Jvm.Cond.methodLink "AllHomeModel" (131 : Nat) ({ cls := "AllHomeModel", name := "above", desc := "(I)I" } : Jvm.MethodName)) ∈ zTb := zTb_in (List.mem_of_getElem? (i := 947) (by decide +kernel)) (by decide +kernel)
theorem kw882 : (Jvm.Cond.static ({ cls := "AllHomeModel", name := "above", desc := "(I)I" } : Jvm.MethodName)) ∈ zTb := zTb_in (List.mem_of_getElem? (i := 948) (by decide +kernel)) (by decide +kernel)
theorem kw883 : (Jvm.Cond.code ({ cls := "AllHomeModel", name := "above", desc := "(I)I" } : Jvm.MethodName) prog_9_method_16_code (1 : Nat) (Option.some Jvm.ClassFile.FieldType.int)) ∈ zTb := zTb_in (List.mem_of_getElem? (i := 949) (by decide +kernel)) (by decide +kernel)
theorem kw683 : (Jvm.Cond.fieldLink "AllHomeModel" (134 : Nat) "AllHomeModel" "by" "I") ∈ zTb := zTb_in (List.mem_of_getElem? (i := 749) (by decide +kernel)) (by decide +kernel)
theorem kw680 : (Jvm.Cond.fieldLink "AllHomeModel" (22 : Nat) "AllHomeModel" "now" "[I") ∈ zTb := zTb_in (List.mem_of_getElem? (i := 746) (by decide +kernel)) (by decide +kernel)
theorem kw681 : (Jvm.Cond.fieldLink "AllHomeModel" (137 : Nat) "AllHomeModel" "sentWords" "I") ∈ zTb := zTb_in (List.mem_of_getElem? (i := 747) (by decide +kernel)) (by decide +kernel)
theorem kw682 : (Jvm.Cond.fieldLink "AllHomeModel" (140 : Nat) "AllHomeModel" "sentNotes" "I") ∈ zTb := zTb_in (List.mem_of_getElem? (i := 748) (by decide +kernel)) (by decide +kernel)
theorem kw684 : (Jvm.Cond.fieldLink "AllHomeModel" (143 : Nat) "AllHomeModel" "isFull" "Z") ∈ zTb := zTb_in (List.mem_of_getElem? (i := 750) (by decide +kernel)) (by decide +kernel)
theorem kp38 : Cond.selects "AllHomeModel" ⟨"AllHomeModel", "putLast", "(IIII)V"⟩ ⟨"AllHomeModel", "putLast", "(IIII)V"⟩ ∈ zTb := zTb_in (List.mem_of_getElem? (i := 38) (by decide +kernel)) (by decide +kernel)
theorem kw884 : (Jvm.Cond.methodLink "AllHomeModel" (147 : Nat) ({ cls := "AllHomeModel", name := "putLast", desc := "(IIII)V" } : Jvm.MethodName)) ∈ zTb := zTb_in (List.mem_of_getElem? (i := 950) (by decide +kernel)) (by decide +kernel)
theorem kw886 : (Jvm.Cond.instanceMethod ({ cls := "AllHomeModel", name := "putLast", desc := "(IIII)V" } : Jvm.MethodName)) ∈ zTb := zTb_in (List.mem_of_getElem? (i := 952) (by decide +kernel)) (by decide +kernel)
theorem kw887 : (Jvm.Cond.code ({ cls := "AllHomeModel", name := "putLast", desc := "(IIII)V" } : Jvm.MethodName) prog_9_method_23_code (6 : Nat) (Option.none : Option Jvm.ClassFile.FieldType)) ∈ zTb := zTb_in (List.mem_of_getElem? (i := 953) (by decide +kernel)) (by decide +kernel)
theorem kp37 : Cond.selects "AllHomeModel" ⟨"AllHomeModel", "add", "(III)V"⟩ ⟨"AllHomeModel", "add", "(III)V"⟩ ∈ zTb := zTb_in (List.mem_of_getElem? (i := 37) (by decide +kernel)) (by decide +kernel)
theorem kw874 : (Jvm.Cond.methodLink "AllHomeModel" (151 : Nat) ({ cls := "AllHomeModel", name := "add", desc := "(III)V" } : Jvm.MethodName)) ∈ zTb := zTb_in (List.mem_of_getElem? (i := 940) (by decide +kernel)) (by decide +kernel)
theorem kw876 : (Jvm.Cond.instanceMethod ({ cls := "AllHomeModel", name := "add", desc := "(III)V" } : Jvm.MethodName)) ∈ zTb := zTb_in (List.mem_of_getElem? (i := 942) (by decide +kernel)) (by decide +kernel)
theorem kw877 : (Jvm.Cond.code ({ cls := "AllHomeModel", name := "add", desc := "(III)V" } : Jvm.MethodName) prog_9_method_19_code (4 : Nat) (Option.none : Option Jvm.ClassFile.FieldType)) ∈ zTb := zTb_in (List.mem_of_getElem? (i := 943) (by decide +kernel)) (by decide +kernel)
theorem kw878 : (Jvm.Cond.methodLink "AllHomeModel" (159 : Nat) ({ cls := "AllHomeModel", name := "isUnder", desc := "(II)Z" } : Jvm.MethodName)) ∈ zTb := zTb_in (List.mem_of_getElem? (i := 944) (by decide +kernel)) (by decide +kernel)
theorem kw879 : (Jvm.Cond.static ({ cls := "AllHomeModel", name := "isUnder", desc := "(II)Z" } : Jvm.MethodName)) ∈ zTb := zTb_in (List.mem_of_getElem? (i := 945) (by decide +kernel)) (by decide +kernel)
theorem kw880 : (Jvm.Cond.code ({ cls := "AllHomeModel", name := "isUnder", desc := "(II)Z" } : Jvm.MethodName) prog_9_method_15_code (3 : Nat) (Option.some Jvm.ClassFile.FieldType.boolean)) ∈ zTb := zTb_in (List.mem_of_getElem? (i := 946) (by decide +kernel)) (by decide +kernel)
theorem kp35 : Cond.selects "AllHomeModel" ⟨"AllHomeModel", "of", "(II)I"⟩ ⟨"AllHomeModel", "of", "(II)I"⟩ ∈ zTb := zTb_in (List.mem_of_getElem? (i := 35) (by decide +kernel)) (by decide +kernel)
theorem kw866 : (Jvm.Cond.methodLink "AllHomeModel" (155 : Nat) ({ cls := "AllHomeModel", name := "of", desc := "(II)I" } : Jvm.MethodName)) ∈ zTb := zTb_in (List.mem_of_getElem? (i := 932) (by decide +kernel)) (by decide +kernel)
theorem kw868 : (Jvm.Cond.instanceMethod ({ cls := "AllHomeModel", name := "of", desc := "(II)I" } : Jvm.MethodName)) ∈ zTb := zTb_in (List.mem_of_getElem? (i := 934) (by decide +kernel)) (by decide +kernel)
theorem kw869 : (Jvm.Cond.code ({ cls := "AllHomeModel", name := "of", desc := "(II)I" } : Jvm.MethodName) prog_9_method_18_code (3 : Nat) (Option.some Jvm.ClassFile.FieldType.int)) ∈ zTb := zTb_in (List.mem_of_getElem? (i := 935) (by decide +kernel)) (by decide +kernel)
theorem kp39 : Cond.selects "AllHomeModel" ⟨"AllHomeModel", "become", "(III)V"⟩ ⟨"AllHomeModel", "become", "(III)V"⟩ ∈ zTb := zTb_in (List.mem_of_getElem? (i := 39) (by decide +kernel)) (by decide +kernel)
theorem kw888 : (Jvm.Cond.methodLink "AllHomeModel" (166 : Nat) ({ cls := "AllHomeModel", name := "become", desc := "(III)V" } : Jvm.MethodName)) ∈ zTb := zTb_in (List.mem_of_getElem? (i := 954) (by decide +kernel)) (by decide +kernel)
theorem kw890 : (Jvm.Cond.instanceMethod ({ cls := "AllHomeModel", name := "become", desc := "(III)V" } : Jvm.MethodName)) ∈ zTb := zTb_in (List.mem_of_getElem? (i := 956) (by decide +kernel)) (by decide +kernel)
theorem kw891 : (Jvm.Cond.code ({ cls := "AllHomeModel", name := "become", desc := "(III)V" } : Jvm.MethodName) prog_9_method_20_code (4 : Nat) (Option.none : Option Jvm.ClassFile.FieldType)) ∈ zTb := zTb_in (List.mem_of_getElem? (i := 957) (by decide +kernel)) (by decide +kernel)
theorem kp40 : Cond.selects "AllHomeModel" ⟨"AllHomeModel", "sendNote", "(III)V"⟩ ⟨"AllHomeModel", "sendNote", "(III)V"⟩ ∈ zTb := zTb_in (List.mem_of_getElem? (i := 40) (by decide +kernel)) (by decide +kernel)
theorem kw892 : (Jvm.Cond.methodLink "AllHomeModel" (169 : Nat) ({ cls := "AllHomeModel", name := "sendNote", desc := "(III)V" } : Jvm.MethodName)) ∈ zTb := zTb_in (List.mem_of_getElem? (i := 958) (by decide +kernel)) (by decide +kernel)
theorem kw894 : (Jvm.Cond.instanceMethod ({ cls := "AllHomeModel", name := "sendNote", desc := "(III)V" } : Jvm.MethodName)) ∈ zTb := zTb_in (List.mem_of_getElem? (i := 960) (by decide +kernel)) (by decide +kernel)
theorem kw895 : (Jvm.Cond.code ({ cls := "AllHomeModel", name := "sendNote", desc := "(III)V" } : Jvm.MethodName) prog_9_method_25_code (4 : Nat) (Option.none : Option Jvm.ClassFile.FieldType)) ∈ zTb := zTb_in (List.mem_of_getElem? (i := 961) (by decide +kernel)) (by decide +kernel)
theorem kp36 : Cond.selects "AllHomeModel" ⟨"AllHomeModel", "sendWord", "(II)V"⟩ ⟨"AllHomeModel", "sendWord", "(II)V"⟩ ∈ zTb := zTb_in (List.mem_of_getElem? (i := 36) (by decide +kernel)) (by decide +kernel)
theorem kw870 : (Jvm.Cond.methodLink "AllHomeModel" (162 : Nat) ({ cls := "AllHomeModel", name := "sendWord", desc := "(II)V" } : Jvm.MethodName)) ∈ zTb := zTb_in (List.mem_of_getElem? (i := 936) (by decide +kernel)) (by decide +kernel)
theorem kw872 : (Jvm.Cond.instanceMethod ({ cls := "AllHomeModel", name := "sendWord", desc := "(II)V" } : Jvm.MethodName)) ∈ zTb := zTb_in (List.mem_of_getElem? (i := 938) (by decide +kernel)) (by decide +kernel)
theorem kw873 : (Jvm.Cond.code ({ cls := "AllHomeModel", name := "sendWord", desc := "(II)V" } : Jvm.MethodName) prog_9_method_26_code (4 : Nat) (Option.none : Option Jvm.ClassFile.FieldType)) ∈ zTb := zTb_in (List.mem_of_getElem? (i := 939) (by decide +kernel)) (by decide +kernel)
theorem kp42 : Cond.selects "AllHomeModel" ⟨"AllHomeModel", "words", "()I"⟩ ⟨"AllHomeModel", "words", "()I"⟩ ∈ zTb := zTb_in (List.mem_of_getElem? (i := 42) (by decide +kernel)) (by decide +kernel)
theorem kw900 : (Jvm.Cond.methodLink "AllHomeModel" (172 : Nat) ({ cls := "AllHomeModel", name := "words", desc := "()I" } : Jvm.MethodName)) ∈ zTb := zTb_in (List.mem_of_getElem? (i := 966) (by decide +kernel)) (by decide +kernel)
theorem kw902 : (Jvm.Cond.instanceMethod ({ cls := "AllHomeModel", name := "words", desc := "()I" } : Jvm.MethodName)) ∈ zTb := zTb_in (List.mem_of_getElem? (i := 968) (by decide +kernel)) (by decide +kernel)
theorem kw903 : (Jvm.Cond.code ({ cls := "AllHomeModel", name := "words", desc := "()I" } : Jvm.MethodName) prog_9_method_21_code (1 : Nat) (Option.some Jvm.ClassFile.FieldType.int)) ∈ zTb := zTb_in (List.mem_of_getElem? (i := 969) (by decide +kernel)) (by decide +kernel)
theorem kp43 : Cond.selects "AllHomeModel" ⟨"AllHomeModel", "takeOut", "(II)V"⟩ ⟨"AllHomeModel", "takeOut", "(II)V"⟩ ∈ zTb := zTb_in (List.mem_of_getElem? (i := 43) (by decide +kernel)) (by decide +kernel)
theorem kw904 : (Jvm.Cond.methodLink "AllHomeModel" (176 : Nat) ({ cls := "AllHomeModel", name := "takeOut", desc := "(II)V" } : Jvm.MethodName)) ∈ zTb := zTb_in (List.mem_of_getElem? (i := 970) (by decide +kernel)) (by decide +kernel)
theorem kw906 : (Jvm.Cond.instanceMethod ({ cls := "AllHomeModel", name := "takeOut", desc := "(II)V" } : Jvm.MethodName)) ∈ zTb := zTb_in (List.mem_of_getElem? (i := 972) (by decide +kernel)) (by decide +kernel)
theorem kw907 : (Jvm.Cond.code ({ cls := "AllHomeModel", name := "takeOut", desc := "(II)V" } : Jvm.MethodName) prog_9_method_24_code (5 : Nat) (Option.none : Option Jvm.ClassFile.FieldType)) ∈ zTb := zTb_in (List.mem_of_getElem? (i := 973) (by decide +kernel)) (by decide +kernel)
theorem kp45 : Cond.selects "AllHomeModel" ⟨"AllHomeModel", "notes", "()I"⟩ ⟨"AllHomeModel", "notes", "()I"⟩ ∈ zTb := zTb_in (List.mem_of_getElem? (i := 45) (by decide +kernel)) (by decide +kernel)
theorem kw912 : (Jvm.Cond.methodLink "AllHomeModel" (179 : Nat) ({ cls := "AllHomeModel", name := "notes", desc := "()I" } : Jvm.MethodName)) ∈ zTb := zTb_in (List.mem_of_getElem? (i := 978) (by decide +kernel)) (by decide +kernel)
theorem kw914 : (Jvm.Cond.instanceMethod ({ cls := "AllHomeModel", name := "notes", desc := "()I" } : Jvm.MethodName)) ∈ zTb := zTb_in (List.mem_of_getElem? (i := 980) (by decide +kernel)) (by decide +kernel)
theorem kw915 : (Jvm.Cond.code ({ cls := "AllHomeModel", name := "notes", desc := "()I" } : Jvm.MethodName) prog_9_method_22_code (1 : Nat) (Option.some Jvm.ClassFile.FieldType.int)) ∈ zTb := zTb_in (List.mem_of_getElem? (i := 981) (by decide +kernel)) (by decide +kernel)
theorem kp47 : Cond.selects "AllHomeModel" ⟨"AllHomeModel", "sumsAt", "(III)V"⟩ ⟨"AllHomeModel", "sumsAt", "(III)V"⟩ ∈ zTb := zTb_in (List.mem_of_getElem? (i := 47) (by decide +kernel)) (by decide +kernel)
theorem kw920 : (Jvm.Cond.methodLink "AllHomeModel" (185 : Nat) ({ cls := "AllHomeModel", name := "sumsAt", desc := "(III)V" } : Jvm.MethodName)) ∈ zTb := zTb_in (List.mem_of_getElem? (i := 986) (by decide +kernel)) (by decide +kernel)
theorem kw922 : (Jvm.Cond.instanceMethod ({ cls := "AllHomeModel", name := "sumsAt", desc := "(III)V" } : Jvm.MethodName)) ∈ zTb := zTb_in (List.mem_of_getElem? (i := 988) (by decide +kernel)) (by decide +kernel)
theorem kw923 : (Jvm.Cond.code ({ cls := "AllHomeModel", name := "sumsAt", desc := "(III)V" } : Jvm.MethodName) prog_9_method_31_code (6 : Nat) (Option.none : Option Jvm.ClassFile.FieldType)) ∈ zTb := zTb_in (List.mem_of_getElem? (i := 989) (by decide +kernel)) (by decide +kernel)
theorem kp46 : Cond.selects "AllHomeModel" ⟨"AllHomeModel", "stoneAt", "(III)V"⟩ ⟨"AllHomeModel", "stoneAt", "(III)V"⟩ ∈ zTb := zTb_in (List.mem_of_getElem? (i := 46) (by decide +kernel)) (by decide +kernel)
theorem kw916 : (Jvm.Cond.methodLink "AllHomeModel" (182 : Nat) ({ cls := "AllHomeModel", name := "stoneAt", desc := "(III)V" } : Jvm.MethodName)) ∈ zTb := zTb_in (List.mem_of_getElem? (i := 982) (by decide +kernel)) (by decide +kernel)
theorem kw918 : (Jvm.Cond.instanceMethod ({ cls := "AllHomeModel", name := "stoneAt", desc := "(III)V" } : Jvm.MethodName)) ∈ zTb := zTb_in (List.mem_of_getElem? (i := 984) (by decide +kernel)) (by decide +kernel)
theorem kw919 : (Jvm.Cond.code ({ cls := "AllHomeModel", name := "stoneAt", desc := "(III)V" } : Jvm.MethodName) prog_9_method_30_code (5 : Nat) (Option.none : Option Jvm.ClassFile.FieldType)) ∈ zTb := zTb_in (List.mem_of_getElem? (i := 985) (by decide +kernel)) (by decide +kernel)
theorem kp34 : Cond.selects "AllHomeModel" ⟨"AllHomeModel", "goOn", "(I)Z"⟩ ⟨"AllHomeModel", "goOn", "(I)Z"⟩ ∈ zTb := zTb_in (List.mem_of_getElem? (i := 34) (by decide +kernel)) (by decide +kernel)
theorem kw862 : (Jvm.Cond.methodLink "AllHomeModel" (188 : Nat) ({ cls := "AllHomeModel", name := "goOn", desc := "(I)Z" } : Jvm.MethodName)) ∈ zTb := zTb_in (List.mem_of_getElem? (i := 928) (by decide +kernel)) (by decide +kernel)
theorem kw864 : (Jvm.Cond.instanceMethod ({ cls := "AllHomeModel", name := "goOn", desc := "(I)Z" } : Jvm.MethodName)) ∈ zTb := zTb_in (List.mem_of_getElem? (i := 930) (by decide +kernel)) (by decide +kernel)
theorem kw865 : (Jvm.Cond.code ({ cls := "AllHomeModel", name := "goOn", desc := "(I)Z" } : Jvm.MethodName) prog_9_method_27_code (4 : Nat) (Option.some Jvm.ClassFile.FieldType.boolean)) ∈ zTb := zTb_in (List.mem_of_getElem? (i := 931) (by decide +kernel)) (by decide +kernel)
theorem kp49 : Cond.selects "AllHomeModel" ⟨"AllHomeModel", "behind", "()V"⟩ ⟨"AllHomeModel", "behind", "()V"⟩ ∈ zTb := zTb_in (List.mem_of_getElem? (i := 49) (by decide +kernel)) (by decide +kernel)
theorem kw928 : (Jvm.Cond.methodLink "AllHomeModel" (200 : Nat) ({ cls := "AllHomeModel", name := "behind", desc := "()V" } : Jvm.MethodName)) ∈ zTb := zTb_in (List.mem_of_getElem? (i := 994) (by decide +kernel)) (by decide +kernel)
theorem kw930 : (Jvm.Cond.instanceMethod ({ cls := "AllHomeModel", name := "behind", desc := "()V" } : Jvm.MethodName)) ∈ zTb := zTb_in (List.mem_of_getElem? (i := 996) (by decide +kernel)) (by decide +kernel)
theorem kw931 : (Jvm.Cond.code ({ cls := "AllHomeModel", name := "behind", desc := "()V" } : Jvm.MethodName) prog_9_method_33_code (2 : Nat) (Option.none : Option Jvm.ClassFile.FieldType)) ∈ zTb := zTb_in (List.mem_of_getElem? (i := 997) (by decide +kernel)) (by decide +kernel)
theorem kp41 : Cond.selects "AllHomeModel" ⟨"AllHomeModel", "comes", "(I)Z"⟩ ⟨"AllHomeModel", "comes", "(I)Z"⟩ ∈ zTb := zTb_in (List.mem_of_getElem? (i := 41) (by decide +kernel)) (by decide +kernel)
theorem kw896 : (Jvm.Cond.methodLink "AllHomeModel" (191 : Nat) ({ cls := "AllHomeModel", name := "comes", desc := "(I)Z" } : Jvm.MethodName)) ∈ zTb := zTb_in (List.mem_of_getElem? (i := 962) (by decide +kernel)) (by decide +kernel)
theorem kw898 : (Jvm.Cond.instanceMethod ({ cls := "AllHomeModel", name := "comes", desc := "(I)Z" } : Jvm.MethodName)) ∈ zTb := zTb_in (List.mem_of_getElem? (i := 964) (by decide +kernel)) (by decide +kernel)
theorem kw899 : (Jvm.Cond.code ({ cls := "AllHomeModel", name := "comes", desc := "(I)Z" } : Jvm.MethodName) prog_9_method_28_code (5 : Nat) (Option.some Jvm.ClassFile.FieldType.boolean)) ∈ zTb := zTb_in (List.mem_of_getElem? (i := 965) (by decide +kernel)) (by decide +kernel)
theorem kp44 : Cond.selects "AllHomeModel" ⟨"AllHomeModel", "noteComes", "(I)Z"⟩ ⟨"AllHomeModel", "noteComes", "(I)Z"⟩ ∈ zTb := zTb_in (List.mem_of_getElem? (i := 44) (by decide +kernel)) (by decide +kernel)
theorem kw908 : (Jvm.Cond.methodLink "AllHomeModel" (194 : Nat) ({ cls := "AllHomeModel", name := "noteComes", desc := "(I)Z" } : Jvm.MethodName)) ∈ zTb := zTb_in (List.mem_of_getElem? (i := 974) (by decide +kernel)) (by decide +kernel)
theorem kw910 : (Jvm.Cond.instanceMethod ({ cls := "AllHomeModel", name := "noteComes", desc := "(I)Z" } : Jvm.MethodName)) ∈ zTb := zTb_in (List.mem_of_getElem? (i := 976) (by decide +kernel)) (by decide +kernel)
theorem kw911 : (Jvm.Cond.code ({ cls := "AllHomeModel", name := "noteComes", desc := "(I)Z" } : Jvm.MethodName) prog_9_method_29_code (5 : Nat) (Option.some Jvm.ClassFile.FieldType.boolean)) ∈ zTb := zTb_in (List.mem_of_getElem? (i := 977) (by decide +kernel)) (by decide +kernel)
theorem kp48 : Cond.selects "AllHomeModel" ⟨"AllHomeModel", "asks", "(I)Z"⟩ ⟨"AllHomeModel", "asks", "(I)Z"⟩ ∈ zTb := zTb_in (List.mem_of_getElem? (i := 48) (by decide +kernel)) (by decide +kernel)
theorem kw924 : (Jvm.Cond.methodLink "AllHomeModel" (197 : Nat) ({ cls := "AllHomeModel", name := "asks", desc := "(I)Z" } : Jvm.MethodName)) ∈ zTb := zTb_in (List.mem_of_getElem? (i := 990) (by decide +kernel)) (by decide +kernel)
theorem kw926 : (Jvm.Cond.instanceMethod ({ cls := "AllHomeModel", name := "asks", desc := "(I)Z" } : Jvm.MethodName)) ∈ zTb := zTb_in (List.mem_of_getElem? (i := 992) (by decide +kernel)) (by decide +kernel)
theorem kw927 : (Jvm.Cond.code ({ cls := "AllHomeModel", name := "asks", desc := "(I)Z" } : Jvm.MethodName) prog_9_method_32_code (2 : Nat) (Option.some Jvm.ClassFile.FieldType.boolean)) ∈ zTb := zTb_in (List.mem_of_getElem? (i := 993) (by decide +kernel)) (by decide +kernel)
theorem kw688 : (Jvm.Cond.fieldLink "AllHomeModel" (34 : Nat) "AllHomeModel" "runWords" "[I") ∈ zTb := zTb_in (List.mem_of_getElem? (i := 754) (by decide +kernel)) (by decide +kernel)
theorem kw689 : (Jvm.Cond.fieldLink "AllHomeModel" (37 : Nat) "AllHomeModel" "runNotes" "[I") ∈ zTb := zTb_in (List.mem_of_getElem? (i := 755) (by decide +kernel)) (by decide +kernel)
theorem kw685 : (Jvm.Cond.fieldLink "AllHomeModel" (25 : Nat) "AllHomeModel" "kept" "[I") ∈ zTb := zTb_in (List.mem_of_getElem? (i := 751) (by decide +kernel)) (by decide +kernel)
theorem kw686 : (Jvm.Cond.fieldLink "AllHomeModel" (28 : Nat) "AllHomeModel" "runWay" "[I") ∈ zTb := zTb_in (List.mem_of_getElem? (i := 752) (by decide +kernel)) (by decide +kernel)
theorem kp28 : Cond.selects "AllHomeModel" ⟨"AllHomeModel", "begin", "(I)V"⟩ ⟨"AllHomeModel", "begin", "(I)V"⟩ ∈ zTb := zTb_in (List.mem_of_getElem? (i := 28) (by decide +kernel)) (by decide +kernel)
theorem kw834 : (Jvm.Cond.methodLink "AllHomeModel" (203 : Nat) ({ cls := "AllHomeModel", name := "begin", desc := "(I)V" } : Jvm.MethodName)) ∈ zTb := zTb_in (List.mem_of_getElem? (i := 900) (by decide +kernel)) (by decide +kernel)
theorem kw836 : (Jvm.Cond.instanceMethod ({ cls := "AllHomeModel", name := "begin", desc := "(I)V" } : Jvm.MethodName)) ∈ zTb := zTb_in (List.mem_of_getElem? (i := 902) (by decide +kernel)) (by decide +kernel)
theorem kw837 : (Jvm.Cond.code ({ cls := "AllHomeModel", name := "begin", desc := "(I)V" } : Jvm.MethodName) prog_9_method_17_code (3 : Nat) (Option.none : Option Jvm.ClassFile.FieldType)) ∈ zTb := zTb_in (List.mem_of_getElem? (i := 903) (by decide +kernel)) (by decide +kernel)
theorem kw690 : (Jvm.Cond.fieldLink "AllHomeModel" (40 : Nat) "AllHomeModel" "saidAt" "[I") ∈ zTb := zTb_in (List.mem_of_getElem? (i := 756) (by decide +kernel)) (by decide +kernel)
theorem kw691 : (Jvm.Cond.fieldLink "AllHomeModel" (43 : Nat) "AllHomeModel" "overAt" "[I") ∈ zTb := zTb_in (List.mem_of_getElem? (i := 757) (by decide +kernel)) (by decide +kernel)
theorem kp29 : Cond.selects "AllHomeModel" ⟨"AllHomeModel", "keepRun", "(I)V"⟩ ⟨"AllHomeModel", "keepRun", "(I)V"⟩ ∈ zTb := zTb_in (List.mem_of_getElem? (i := 29) (by decide +kernel)) (by decide +kernel)
theorem kw838 : (Jvm.Cond.methodLink "AllHomeModel" (207 : Nat) ({ cls := "AllHomeModel", name := "keepRun", desc := "(I)V" } : Jvm.MethodName)) ∈ zTb := zTb_in (List.mem_of_getElem? (i := 904) (by decide +kernel)) (by decide +kernel)
theorem kw840 : (Jvm.Cond.instanceMethod ({ cls := "AllHomeModel", name := "keepRun", desc := "(I)V" } : Jvm.MethodName)) ∈ zTb := zTb_in (List.mem_of_getElem? (i := 906) (by decide +kernel)) (by decide +kernel)
theorem kw841 : (Jvm.Cond.code ({ cls := "AllHomeModel", name := "keepRun", desc := "(I)V" } : Jvm.MethodName) prog_9_method_36_code (3 : Nat) (Option.none : Option Jvm.ClassFile.FieldType)) ∈ zTb := zTb_in (List.mem_of_getElem? (i := 907) (by decide +kernel)) (by decide +kernel)
theorem kp32 : Cond.selects "AllHomeModel" ⟨"AllHomeModel", "takeRun", "(I)V"⟩ ⟨"AllHomeModel", "takeRun", "(I)V"⟩ ∈ zTb := zTb_in (List.mem_of_getElem? (i := 32) (by decide +kernel)) (by decide +kernel)
theorem kw854 : (Jvm.Cond.methodLink "AllHomeModel" (210 : Nat) ({ cls := "AllHomeModel", name := "takeRun", desc := "(I)V" } : Jvm.MethodName)) ∈ zTb := zTb_in (List.mem_of_getElem? (i := 920) (by decide +kernel)) (by decide +kernel)
theorem kw856 : (Jvm.Cond.instanceMethod ({ cls := "AllHomeModel", name := "takeRun", desc := "(I)V" } : Jvm.MethodName)) ∈ zTb := zTb_in (List.mem_of_getElem? (i := 922) (by decide +kernel)) (by decide +kernel)
theorem kw857 : (Jvm.Cond.code ({ cls := "AllHomeModel", name := "takeRun", desc := "(I)V" } : Jvm.MethodName) prog_9_method_37_code (3 : Nat) (Option.none : Option Jvm.ClassFile.FieldType)) ∈ zTb := zTb_in (List.mem_of_getElem? (i := 923) (by decide +kernel)) (by decide +kernel)
theorem kp33 : Cond.selects "AllHomeModel" ⟨"AllHomeModel", "doStep", "(II)I"⟩ ⟨"AllHomeModel", "doStep", "(II)I"⟩ ∈ zTb := zTb_in (List.mem_of_getElem? (i := 33) (by decide +kernel)) (by decide +kernel)
theorem kw858 : (Jvm.Cond.methodLink "AllHomeModel" (213 : Nat) ({ cls := "AllHomeModel", name := "doStep", desc := "(II)I" } : Jvm.MethodName)) ∈ zTb := zTb_in (List.mem_of_getElem? (i := 924) (by decide +kernel)) (by decide +kernel)
theorem kw860 : (Jvm.Cond.instanceMethod ({ cls := "AllHomeModel", name := "doStep", desc := "(II)I" } : Jvm.MethodName)) ∈ zTb := zTb_in (List.mem_of_getElem? (i := 926) (by decide +kernel)) (by decide +kernel)
theorem kw861 : (Jvm.Cond.code ({ cls := "AllHomeModel", name := "doStep", desc := "(II)I" } : Jvm.MethodName) prog_9_method_34_code (4 : Nat) (Option.some Jvm.ClassFile.FieldType.int)) ∈ zTb := zTb_in (List.mem_of_getElem? (i := 927) (by decide +kernel)) (by decide +kernel)
theorem kw687 : (Jvm.Cond.fieldLink "AllHomeModel" (31 : Nat) "AllHomeModel" "runSteps" "[I") ∈ zTb := zTb_in (List.mem_of_getElem? (i := 753) (by decide +kernel)) (by decide +kernel)
theorem kp50 : Cond.selects "AllHomeModel" ⟨"AllHomeModel", "isOver", "()Z"⟩ ⟨"AllHomeModel", "isOver", "()Z"⟩ ∈ zTb := zTb_in (List.mem_of_getElem? (i := 50) (by decide +kernel)) (by decide +kernel)
theorem kw932 : (Jvm.Cond.methodLink "AllHomeModel" (216 : Nat) ({ cls := "AllHomeModel", name := "isOver", desc := "()Z" } : Jvm.MethodName)) ∈ zTb := zTb_in (List.mem_of_getElem? (i := 998) (by decide +kernel)) (by decide +kernel)
theorem kw934 : (Jvm.Cond.instanceMethod ({ cls := "AllHomeModel", name := "isOver", desc := "()Z" } : Jvm.MethodName)) ∈ zTb := zTb_in (List.mem_of_getElem? (i := 1000) (by decide +kernel)) (by decide +kernel)
theorem kw935 : (Jvm.Cond.code ({ cls := "AllHomeModel", name := "isOver", desc := "()Z" } : Jvm.MethodName) prog_9_method_35_code (3 : Nat) (Option.some Jvm.ClassFile.FieldType.boolean)) ∈ zTb := zTb_in (List.mem_of_getElem? (i := 1001) (by decide +kernel)) (by decide +kernel)
theorem kp30 : Cond.selects "AllHomeModel" ⟨"AllHomeModel", "isRun", "(I)Z"⟩ ⟨"AllHomeModel", "isRun", "(I)Z"⟩ ∈ zTb := zTb_in (List.mem_of_getElem? (i := 30) (by decide +kernel)) (by decide +kernel)
theorem kw846 : (Jvm.Cond.methodLink "AllHomeModel" (220 : Nat) ({ cls := "AllHomeModel", name := "isRun", desc := "(I)Z" } : Jvm.MethodName)) ∈ zTb := zTb_in (List.mem_of_getElem? (i := 912) (by decide +kernel)) (by decide +kernel)
theorem kw848 : (Jvm.Cond.instanceMethod ({ cls := "AllHomeModel", name := "isRun", desc := "(I)Z" } : Jvm.MethodName)) ∈ zTb := zTb_in (List.mem_of_getElem? (i := 914) (by decide +kernel)) (by decide +kernel)
theorem kw849 : (Jvm.Cond.code ({ cls := "AllHomeModel", name := "isRun", desc := "(I)Z" } : Jvm.MethodName) prog_9_method_39_code (2 : Nat) (Option.some Jvm.ClassFile.FieldType.boolean)) ∈ zTb := zTb_in (List.mem_of_getElem? (i := 915) (by decide +kernel)) (by decide +kernel)
theorem kp31 : Cond.selects "AllHomeModel" ⟨"AllHomeModel", "stepOf", "(III)I"⟩ ⟨"AllHomeModel", "stepOf", "(III)I"⟩ ∈ zTb := zTb_in (List.mem_of_getElem? (i := 31) (by decide +kernel)) (by decide +kernel)
theorem kw850 : (Jvm.Cond.methodLink "AllHomeModel" (223 : Nat) ({ cls := "AllHomeModel", name := "stepOf", desc := "(III)I" } : Jvm.MethodName)) ∈ zTb := zTb_in (List.mem_of_getElem? (i := 916) (by decide +kernel)) (by decide +kernel)
theorem kw852 : (Jvm.Cond.instanceMethod ({ cls := "AllHomeModel", name := "stepOf", desc := "(III)I" } : Jvm.MethodName)) ∈ zTb := zTb_in (List.mem_of_getElem? (i := 918) (by decide +kernel)) (by decide +kernel)
theorem kw853 : (Jvm.Cond.code ({ cls := "AllHomeModel", name := "stepOf", desc := "(III)I" } : Jvm.MethodName) prog_9_method_40_code (5 : Nat) (Option.some Jvm.ClassFile.FieldType.int)) ∈ zTb := zTb_in (List.mem_of_getElem? (i := 919) (by decide +kernel)) (by decide +kernel)
theorem kw943 : (Jvm.Cond.constantLong "AllHomeModel" (287 : Nat) (5 : Int64)) ∈ zTb := zTb_in (List.mem_of_getElem? (i := 1009) (by decide +kernel)) (by decide +kernel)
theorem kw940 : (Jvm.Cond.methodLink "AllHomeModel" (226 : Nat) ({ cls := "AllHomeModel", name := "isShelf", desc := "(I)Z" } : Jvm.MethodName)) ∈ zTb := zTb_in (List.mem_of_getElem? (i := 1006) (by decide +kernel)) (by decide +kernel)
theorem kw941 : (Jvm.Cond.static ({ cls := "AllHomeModel", name := "isShelf", desc := "(I)Z" } : Jvm.MethodName)) ∈ zTb := zTb_in (List.mem_of_getElem? (i := 1007) (by decide +kernel)) (by decide +kernel)
theorem kw942 : (Jvm.Cond.code ({ cls := "AllHomeModel", name := "isShelf", desc := "(I)Z" } : Jvm.MethodName) prog_9_method_68_code (1 : Nat) (Option.some Jvm.ClassFile.FieldType.boolean)) ∈ zTb := zTb_in (List.mem_of_getElem? (i := 1008) (by decide +kernel)) (by decide +kernel)
theorem kw944 : (Jvm.Cond.constantLong "AllHomeModel" (229 : Nat) (60 : Int64)) ∈ zTb := zTb_in (List.mem_of_getElem? (i := 1010) (by decide +kernel)) (by decide +kernel)
theorem kw702 : (Jvm.Cond.fieldLink "AllHomeModel" (65 : Nat) "AllHomeModel" "shelf" "[I") ∈ zTb := zTb_in (List.mem_of_getElem? (i := 768) (by decide +kernel)) (by decide +kernel)
theorem kw704 : (Jvm.Cond.fieldLink "AllHomeModel" (71 : Nat) "AllHomeModel" "items" "[J") ∈ zTb := zTb_in (List.mem_of_getElem? (i := 770) (by decide +kernel)) (by decide +kernel)
theorem kw703 : (Jvm.Cond.fieldLink "AllHomeModel" (68 : Nat) "AllHomeModel" "many" "[I") ∈ zTb := zTb_in (List.mem_of_getElem? (i := 769) (by decide +kernel)) (by decide +kernel)
theorem kw953 : (Jvm.Cond.constant "AllHomeModel" (231 : Nat) (-2000000000 : Int32)) ∈ zTb := zTb_in (List.mem_of_getElem? (i := 1019) (by decide +kernel)) (by decide +kernel)
theorem kw958 : (Jvm.Cond.constantLong "AllHomeModel" (232 : Nat) (2 : Int64)) ∈ zTb := zTb_in (List.mem_of_getElem? (i := 1024) (by decide +kernel)) (by decide +kernel)
theorem kw693 : (Jvm.Cond.fieldLink "AllHomeModel" (46 : Nat) "AllHomeModel" "found" "[I") ∈ zTb := zTb_in (List.mem_of_getElem? (i := 759) (by decide +kernel)) (by decide +kernel)
theorem kw698 : (Jvm.Cond.fieldLink "AllHomeModel" (234 : Nat) "AllHomeModel" "foundMany" "I") ∈ zTb := zTb_in (List.mem_of_getElem? (i := 764) (by decide +kernel)) (by decide +kernel)
theorem kw694 : (Jvm.Cond.fieldLink "AllHomeModel" (49 : Nat) "AllHomeModel" "ahead" "[I") ∈ zTb := zTb_in (List.mem_of_getElem? (i := 760) (by decide +kernel)) (by decide +kernel)
theorem kw695 : (Jvm.Cond.fieldLink "AllHomeModel" (52 : Nat) "AllHomeModel" "byStep" "[I") ∈ zTb := zTb_in (List.mem_of_getElem? (i := 761) (by decide +kernel)) (by decide +kernel)
theorem kp55 : Cond.selects "AllHomeModel" ⟨"AllHomeModel", "bringBack", "(I)V"⟩ ⟨"AllHomeModel", "bringBack", "(I)V"⟩ ∈ zTb := zTb_in (List.mem_of_getElem? (i := 55) (by decide +kernel)) (by decide +kernel)
theorem kw987 : (Jvm.Cond.methodLink "AllHomeModel" (237 : Nat) ({ cls := "AllHomeModel", name := "bringBack", desc := "(I)V" } : Jvm.MethodName)) ∈ zTb := zTb_in (List.mem_of_getElem? (i := 1053) (by decide +kernel)) (by decide +kernel)
theorem kw989 : (Jvm.Cond.instanceMethod ({ cls := "AllHomeModel", name := "bringBack", desc := "(I)V" } : Jvm.MethodName)) ∈ zTb := zTb_in (List.mem_of_getElem? (i := 1055) (by decide +kernel)) (by decide +kernel)
theorem kw990 : (Jvm.Cond.code ({ cls := "AllHomeModel", name := "bringBack", desc := "(I)V" } : Jvm.MethodName) prog_9_method_48_code (3 : Nat) (Option.none : Option Jvm.ClassFile.FieldType)) ∈ zTb := zTb_in (List.mem_of_getElem? (i := 1056) (by decide +kernel)) (by decide +kernel)
theorem kp56 : Cond.selects "AllHomeModel" ⟨"AllHomeModel", "findState", "()I"⟩ ⟨"AllHomeModel", "findState", "()I"⟩ ∈ zTb := zTb_in (List.mem_of_getElem? (i := 56) (by decide +kernel)) (by decide +kernel)
theorem kw991 : (Jvm.Cond.methodLink "AllHomeModel" (240 : Nat) ({ cls := "AllHomeModel", name := "findState", desc := "()I" } : Jvm.MethodName)) ∈ zTb := zTb_in (List.mem_of_getElem? (i := 1057) (by decide +kernel)) (by decide +kernel)
theorem kw993 : (Jvm.Cond.instanceMethod ({ cls := "AllHomeModel", name := "findState", desc := "()I" } : Jvm.MethodName)) ∈ zTb := zTb_in (List.mem_of_getElem? (i := 1059) (by decide +kernel)) (by decide +kernel)
theorem kw994 : (Jvm.Cond.code ({ cls := "AllHomeModel", name := "findState", desc := "()I" } : Jvm.MethodName) prog_9_method_49_code (4 : Nat) (Option.some Jvm.ClassFile.FieldType.int)) ∈ zTb := zTb_in (List.mem_of_getElem? (i := 1060) (by decide +kernel)) (by decide +kernel)
theorem kw697 : (Jvm.Cond.fieldLink "AllHomeModel" (59 : Nat) "AllHomeModel" "leads" "[Z") ∈ zTb := zTb_in (List.mem_of_getElem? (i := 763) (by decide +kernel)) (by decide +kernel)
theorem kp53 : Cond.selects "AllHomeModel" ⟨"AllHomeModel", "keepState", "(II)V"⟩ ⟨"AllHomeModel", "keepState", "(II)V"⟩ ∈ zTb := zTb_in (List.mem_of_getElem? (i := 53) (by decide +kernel)) (by decide +kernel)
theorem kw979 : (Jvm.Cond.methodLink "AllHomeModel" (243 : Nat) ({ cls := "AllHomeModel", name := "keepState", desc := "(II)V" } : Jvm.MethodName)) ∈ zTb := zTb_in (List.mem_of_getElem? (i := 1045) (by decide +kernel)) (by decide +kernel)
theorem kw981 : (Jvm.Cond.instanceMethod ({ cls := "AllHomeModel", name := "keepState", desc := "(II)V" } : Jvm.MethodName)) ∈ zTb := zTb_in (List.mem_of_getElem? (i := 1047) (by decide +kernel)) (by decide +kernel)
theorem kw982 : (Jvm.Cond.code ({ cls := "AllHomeModel", name := "keepState", desc := "(II)V" } : Jvm.MethodName) prog_9_method_50_code (4 : Nat) (Option.none : Option Jvm.ClassFile.FieldType)) ∈ zTb := zTb_in (List.mem_of_getElem? (i := 1048) (by decide +kernel)) (by decide +kernel)
theorem kp54 : Cond.selects "AllHomeModel" ⟨"AllHomeModel", "goFrom", "(I)V"⟩ ⟨"AllHomeModel", "goFrom", "(I)V"⟩ ∈ zTb := zTb_in (List.mem_of_getElem? (i := 54) (by decide +kernel)) (by decide +kernel)
theorem kw983 : (Jvm.Cond.methodLink "AllHomeModel" (246 : Nat) ({ cls := "AllHomeModel", name := "goFrom", desc := "(I)V" } : Jvm.MethodName)) ∈ zTb := zTb_in (List.mem_of_getElem? (i := 1049) (by decide +kernel)) (by decide +kernel)
theorem kw985 : (Jvm.Cond.instanceMethod ({ cls := "AllHomeModel", name := "goFrom", desc := "(I)V" } : Jvm.MethodName)) ∈ zTb := zTb_in (List.mem_of_getElem? (i := 1051) (by decide +kernel)) (by decide +kernel)
theorem kw986 : (Jvm.Cond.code ({ cls := "AllHomeModel", name := "goFrom", desc := "(I)V" } : Jvm.MethodName) prog_9_method_51_code (4 : Nat) (Option.none : Option Jvm.ClassFile.FieldType)) ∈ zTb := zTb_in (List.mem_of_getElem? (i := 1052) (by decide +kernel)) (by decide +kernel)
theorem kp52 : Cond.selects "AllHomeModel" ⟨"AllHomeModel", "findAll", "(I)I"⟩ ⟨"AllHomeModel", "findAll", "(I)I"⟩ ∈ zTb := zTb_in (List.mem_of_getElem? (i := 52) (by decide +kernel)) (by decide +kernel)
theorem kw975 : (Jvm.Cond.methodLink "AllHomeModel" (249 : Nat) ({ cls := "AllHomeModel", name := "findAll", desc := "(I)I" } : Jvm.MethodName)) ∈ zTb := zTb_in (List.mem_of_getElem? (i := 1041) (by decide +kernel)) (by decide +kernel)
theorem kw977 : (Jvm.Cond.instanceMethod ({ cls := "AllHomeModel", name := "findAll", desc := "(I)I" } : Jvm.MethodName)) ∈ zTb := zTb_in (List.mem_of_getElem? (i := 1043) (by decide +kernel)) (by decide +kernel)
theorem kw978 : (Jvm.Cond.code ({ cls := "AllHomeModel", name := "findAll", desc := "(I)I" } : Jvm.MethodName) prog_9_method_52_code (3 : Nat) (Option.some Jvm.ClassFile.FieldType.int)) ∈ zTb := zTb_in (List.mem_of_getElem? (i := 1044) (by decide +kernel)) (by decide +kernel)
theorem kp51 : Cond.selects "AllHomeModel" ⟨"AllHomeModel", "noOrders", "(I)I"⟩ ⟨"AllHomeModel", "noOrders", "(I)I"⟩ ∈ zTb := zTb_in (List.mem_of_getElem? (i := 51) (by decide +kernel)) (by decide +kernel)
theorem kw971 : (Jvm.Cond.methodLink "AllHomeModel" (252 : Nat) ({ cls := "AllHomeModel", name := "noOrders", desc := "(I)I" } : Jvm.MethodName)) ∈ zTb := zTb_in (List.mem_of_getElem? (i := 1037) (by decide +kernel)) (by decide +kernel)
theorem kw973 : (Jvm.Cond.instanceMethod ({ cls := "AllHomeModel", name := "noOrders", desc := "(I)I" } : Jvm.MethodName)) ∈ zTb := zTb_in (List.mem_of_getElem? (i := 1039) (by decide +kernel)) (by decide +kernel)
theorem kw974 : (Jvm.Cond.code ({ cls := "AllHomeModel", name := "noOrders", desc := "(I)I" } : Jvm.MethodName) prog_9_method_53_code (2 : Nat) (Option.some Jvm.ClassFile.FieldType.int)) ∈ zTb := zTb_in (List.mem_of_getElem? (i := 1040) (by decide +kernel)) (by decide +kernel)
theorem kp57 : Cond.selects "AllHomeModel" ⟨"AllHomeModel", "stepsTo", "(I)I"⟩ ⟨"AllHomeModel", "stepsTo", "(I)I"⟩ ∈ zTb := zTb_in (List.mem_of_getElem? (i := 57) (by decide +kernel)) (by decide +kernel)
theorem kw999 : (Jvm.Cond.methodLink "AllHomeModel" (255 : Nat) ({ cls := "AllHomeModel", name := "stepsTo", desc := "(I)I" } : Jvm.MethodName)) ∈ zTb := zTb_in (List.mem_of_getElem? (i := 1065) (by decide +kernel)) (by decide +kernel)
theorem kw1001 : (Jvm.Cond.instanceMethod ({ cls := "AllHomeModel", name := "stepsTo", desc := "(I)I" } : Jvm.MethodName)) ∈ zTb := zTb_in (List.mem_of_getElem? (i := 1067) (by decide +kernel)) (by decide +kernel)
theorem kw1002 : (Jvm.Cond.code ({ cls := "AllHomeModel", name := "stepsTo", desc := "(I)I" } : Jvm.MethodName) prog_9_method_55_code (4 : Nat) (Option.some Jvm.ClassFile.FieldType.int)) ∈ zTb := zTb_in (List.mem_of_getElem? (i := 1068) (by decide +kernel)) (by decide +kernel)
theorem kw696 : (Jvm.Cond.fieldLink "AllHomeModel" (55 : Nat) "AllHomeModel" "canSay" "[Z") ∈ zTb := zTb_in (List.mem_of_getElem? (i := 762) (by decide +kernel)) (by decide +kernel)
theorem kp59 : Cond.selects "AllHomeModel" ⟨"AllHomeModel", "worksAlike", "(II)Z"⟩ ⟨"AllHomeModel", "worksAlike", "(II)Z"⟩ ∈ zTb := zTb_in (List.mem_of_getElem? (i := 59) (by decide +kernel)) (by decide +kernel)
theorem kw1015 : (Jvm.Cond.methodLink "AllHomeModel" (258 : Nat) ({ cls := "AllHomeModel", name := "worksAlike", desc := "(II)Z" } : Jvm.MethodName)) ∈ zTb := zTb_in (List.mem_of_getElem? (i := 1081) (by decide +kernel)) (by decide +kernel)
theorem kw1017 : (Jvm.Cond.instanceMethod ({ cls := "AllHomeModel", name := "worksAlike", desc := "(II)Z" } : Jvm.MethodName)) ∈ zTb := zTb_in (List.mem_of_getElem? (i := 1083) (by decide +kernel)) (by decide +kernel)
theorem kw1018 : (Jvm.Cond.code ({ cls := "AllHomeModel", name := "worksAlike", desc := "(II)Z" } : Jvm.MethodName) prog_9_method_58_code (8 : Nat) (Option.some Jvm.ClassFile.FieldType.boolean)) ∈ zTb := zTb_in (List.mem_of_getElem? (i := 1084) (by decide +kernel)) (by decide +kernel)
theorem kp58 : Cond.selects "AllHomeModel" ⟨"AllHomeModel", "workMany", "()I"⟩ ⟨"AllHomeModel", "workMany", "()I"⟩ ∈ zTb := zTb_in (List.mem_of_getElem? (i := 58) (by decide +kernel)) (by decide +kernel)
theorem kw1011 : (Jvm.Cond.methodLink "AllHomeModel" (261 : Nat) ({ cls := "AllHomeModel", name := "workMany", desc := "()I" } : Jvm.MethodName)) ∈ zTb := zTb_in (List.mem_of_getElem? (i := 1077) (by decide +kernel)) (by decide +kernel)
theorem kw1013 : (Jvm.Cond.instanceMethod ({ cls := "AllHomeModel", name := "workMany", desc := "()I" } : Jvm.MethodName)) ∈ zTb := zTb_in (List.mem_of_getElem? (i := 1079) (by decide +kernel)) (by decide +kernel)
theorem kw1014 : (Jvm.Cond.code ({ cls := "AllHomeModel", name := "workMany", desc := "()I" } : Jvm.MethodName) prog_9_method_59_code (5 : Nat) (Option.some Jvm.ClassFile.FieldType.int)) ∈ zTb := zTb_in (List.mem_of_getElem? (i := 1080) (by decide +kernel)) (by decide +kernel)
theorem kw700 : (Jvm.Cond.fieldLink "AllHomeModel" (264 : Nat) "AllHomeModel" "ran" "I") ∈ zTb := zTb_in (List.mem_of_getElem? (i := 766) (by decide +kernel)) (by decide +kernel)
theorem kw699 : (Jvm.Cond.fieldLink "AllHomeModel" (62 : Nat) "AllHomeModel" "trace" "[I") ∈ zTb := zTb_in (List.mem_of_getElem? (i := 765) (by decide +kernel)) (by decide +kernel)
theorem kp61 : Cond.selects "AllHomeModel" ⟨"AllHomeModel", "ranBody", "(I)V"⟩ ⟨"AllHomeModel", "ranBody", "(I)V"⟩ ∈ zTb := zTb_in (List.mem_of_getElem? (i := 61) (by decide +kernel)) (by decide +kernel)
theorem kw1028 : (Jvm.Cond.methodLink "AllHomeModel" (267 : Nat) ({ cls := "AllHomeModel", name := "ranBody", desc := "(I)V" } : Jvm.MethodName)) ∈ zTb := zTb_in (List.mem_of_getElem? (i := 1094) (by decide +kernel)) (by decide +kernel)
theorem kw1030 : (Jvm.Cond.instanceMethod ({ cls := "AllHomeModel", name := "ranBody", desc := "(I)V" } : Jvm.MethodName)) ∈ zTb := zTb_in (List.mem_of_getElem? (i := 1096) (by decide +kernel)) (by decide +kernel)
theorem kw1031 : (Jvm.Cond.code ({ cls := "AllHomeModel", name := "ranBody", desc := "(I)V" } : Jvm.MethodName) prog_9_method_61_code (2 : Nat) (Option.none : Option Jvm.ClassFile.FieldType)) ∈ zTb := zTb_in (List.mem_of_getElem? (i := 1097) (by decide +kernel)) (by decide +kernel)
theorem kw701 : (Jvm.Cond.fieldLink "AllHomeModel" (270 : Nat) "AllHomeModel" "acting" "I") ∈ zTb := zTb_in (List.mem_of_getElem? (i := 767) (by decide +kernel)) (by decide +kernel)
theorem kp60 : Cond.selects "AllHomeModel" ⟨"AllHomeModel", "sends", "(II)I"⟩ ⟨"AllHomeModel", "sends", "(II)I"⟩ ∈ zTb := zTb_in (List.mem_of_getElem? (i := 60) (by decide +kernel)) (by decide +kernel)
theorem kw1024 : (Jvm.Cond.methodLink "AllHomeModel" (273 : Nat) ({ cls := "AllHomeModel", name := "sends", desc := "(II)I" } : Jvm.MethodName)) ∈ zTb := zTb_in (List.mem_of_getElem? (i := 1090) (by decide +kernel)) (by decide +kernel)
theorem kw1026 : (Jvm.Cond.instanceMethod ({ cls := "AllHomeModel", name := "sends", desc := "(II)I" } : Jvm.MethodName)) ∈ zTb := zTb_in (List.mem_of_getElem? (i := 1092) (by decide +kernel)) (by decide +kernel)
theorem kw1027 : (Jvm.Cond.code ({ cls := "AllHomeModel", name := "sends", desc := "(II)I" } : Jvm.MethodName) prog_9_method_62_code (3 : Nat) (Option.some Jvm.ClassFile.FieldType.int)) ∈ zTb := zTb_in (List.mem_of_getElem? (i := 1093) (by decide +kernel)) (by decide +kernel)
theorem kp62 : Cond.selects "AllHomeModel" ⟨"AllHomeModel", "asksOf", "(II)I"⟩ ⟨"AllHomeModel", "asksOf", "(II)I"⟩ ∈ zTb := zTb_in (List.mem_of_getElem? (i := 62) (by decide +kernel)) (by decide +kernel)
theorem kw1032 : (Jvm.Cond.methodLink "AllHomeModel" (276 : Nat) ({ cls := "AllHomeModel", name := "asksOf", desc := "(II)I" } : Jvm.MethodName)) ∈ zTb := zTb_in (List.mem_of_getElem? (i := 1098) (by decide +kernel)) (by decide +kernel)
theorem kw1034 : (Jvm.Cond.instanceMethod ({ cls := "AllHomeModel", name := "asksOf", desc := "(II)I" } : Jvm.MethodName)) ∈ zTb := zTb_in (List.mem_of_getElem? (i := 1100) (by decide +kernel)) (by decide +kernel)
theorem kw1035 : (Jvm.Cond.code ({ cls := "AllHomeModel", name := "asksOf", desc := "(II)I" } : Jvm.MethodName) prog_9_method_63_code (4 : Nat) (Option.some Jvm.ClassFile.FieldType.int)) ∈ zTb := zTb_in (List.mem_of_getElem? (i := 1101) (by decide +kernel)) (by decide +kernel)
theorem kp63 : Cond.selects "AllHomeModel" ⟨"AllHomeModel", "owes", "(II)I"⟩ ⟨"AllHomeModel", "owes", "(II)I"⟩ ∈ zTb := zTb_in (List.mem_of_getElem? (i := 63) (by decide +kernel)) (by decide +kernel)
theorem kw1036 : (Jvm.Cond.methodLink "AllHomeModel" (279 : Nat) ({ cls := "AllHomeModel", name := "owes", desc := "(II)I" } : Jvm.MethodName)) ∈ zTb := zTb_in (List.mem_of_getElem? (i := 1102) (by decide +kernel)) (by decide +kernel)
theorem kw1038 : (Jvm.Cond.instanceMethod ({ cls := "AllHomeModel", name := "owes", desc := "(II)I" } : Jvm.MethodName)) ∈ zTb := zTb_in (List.mem_of_getElem? (i := 1104) (by decide +kernel)) (by decide +kernel)
theorem kw1039 : (Jvm.Cond.code ({ cls := "AllHomeModel", name := "owes", desc := "(II)I" } : Jvm.MethodName) prog_9_method_64_code (4 : Nat) (Option.some Jvm.ClassFile.FieldType.int)) ∈ zTb := zTb_in (List.mem_of_getElem? (i := 1105) (by decide +kernel)) (by decide +kernel)
theorem kp64 : Cond.selects "AllHomeModel" ⟨"AllHomeModel", "tells", "(II)I"⟩ ⟨"AllHomeModel", "tells", "(II)I"⟩ ∈ zTb := zTb_in (List.mem_of_getElem? (i := 64) (by decide +kernel)) (by decide +kernel)
theorem kw1040 : (Jvm.Cond.methodLink "AllHomeModel" (282 : Nat) ({ cls := "AllHomeModel", name := "tells", desc := "(II)I" } : Jvm.MethodName)) ∈ zTb := zTb_in (List.mem_of_getElem? (i := 1106) (by decide +kernel)) (by decide +kernel)
theorem kw1042 : (Jvm.Cond.instanceMethod ({ cls := "AllHomeModel", name := "tells", desc := "(II)I" } : Jvm.MethodName)) ∈ zTb := zTb_in (List.mem_of_getElem? (i := 1108) (by decide +kernel)) (by decide +kernel)
theorem kw1043 : (Jvm.Cond.code ({ cls := "AllHomeModel", name := "tells", desc := "(II)I" } : Jvm.MethodName) prog_9_method_65_code (4 : Nat) (Option.some Jvm.ClassFile.FieldType.int)) ∈ zTb := zTb_in (List.mem_of_getElem? (i := 1109) (by decide +kernel)) (by decide +kernel)
theorem kw1023 : (Jvm.Cond.constantLong "AllHomeModel" (285 : Nat) (3 : Int64)) ∈ zTb := zTb_in (List.mem_of_getElem? (i := 1089) (by decide +kernel)) (by decide +kernel)
theorem kp65 : Cond.selects "AllHomeModel" ⟨"AllHomeModel", "refusal", "(II)I"⟩ ⟨"AllHomeModel", "refusal", "(II)I"⟩ ∈ zTb := zTb_in (List.mem_of_getElem? (i := 65) (by decide +kernel)) (by decide +kernel)
theorem kw1060 : (Jvm.Cond.methodLink "AllHomeModel" (289 : Nat) ({ cls := "AllHomeModel", name := "refusal", desc := "(II)I" } : Jvm.MethodName)) ∈ zTb := zTb_in (List.mem_of_getElem? (i := 1126) (by decide +kernel)) (by decide +kernel)
theorem kw1062 : (Jvm.Cond.instanceMethod ({ cls := "AllHomeModel", name := "refusal", desc := "(II)I" } : Jvm.MethodName)) ∈ zTb := zTb_in (List.mem_of_getElem? (i := 1128) (by decide +kernel)) (by decide +kernel)
theorem kw1063 : (Jvm.Cond.code ({ cls := "AllHomeModel", name := "refusal", desc := "(II)I" } : Jvm.MethodName) prog_9_method_71_code (3 : Nat) (Option.some Jvm.ClassFile.FieldType.int)) ∈ zTb := zTb_in (List.mem_of_getElem? (i := 1129) (by decide +kernel)) (by decide +kernel)
theorem kw1064 : (Jvm.Cond.methodLink "AllHomeModel" (292 : Nat) ({ cls := "AllHomeModel", name := "asSort", desc := "(IJ)J" } : Jvm.MethodName)) ∈ zTb := zTb_in (List.mem_of_getElem? (i := 1130) (by decide +kernel)) (by decide +kernel)
theorem kw1065 : (Jvm.Cond.static ({ cls := "AllHomeModel", name := "asSort", desc := "(IJ)J" } : Jvm.MethodName)) ∈ zTb := zTb_in (List.mem_of_getElem? (i := 1131) (by decide +kernel)) (by decide +kernel)
theorem kw1066 : (Jvm.Cond.code ({ cls := "AllHomeModel", name := "asSort", desc := "(IJ)J" } : Jvm.MethodName) prog_9_method_72_code (3 : Nat) (Option.some Jvm.ClassFile.FieldType.long)) ∈ zTb := zTb_in (List.mem_of_getElem? (i := 1132) (by decide +kernel)) (by decide +kernel)
theorem kw1071 : (Jvm.Cond.constantLong "AllHomeModel" (298 : Nat) (-9223372036854775808 : Int64)) ∈ zTb := zTb_in (List.mem_of_getElem? (i := 1137) (by decide +kernel)) (by decide +kernel)
theorem kw705 : (Jvm.Cond.fieldLink "AllHomeModel" (75 : Nat) "AllHomeModel" "carried" "[J") ∈ zTb := zTb_in (List.mem_of_getElem? (i := 771) (by decide +kernel)) (by decide +kernel)
theorem F_Home_59 : zFd "AllHome" 59 6 1 := ⟨by decide, "AllHome", nT6, 12, rfl, nI6, by decide, kw178⟩
theorem P_Home_59 : zFp "AllHome" 59 6 1 .int false := ⟨by decide, "AllHome", nT6, 12, nY6, rfl, nI6, by decide, kw178, nP6, nN6, by decide +kernel, rfl, rfl⟩
theorem F_Home_9 : zFd "AllHome" 9 6 0 := ⟨by decide, "AllHome", nT6, 12, rfl, nI6, by decide, kw177⟩
theorem F_Huts_23 : zFd "AllHome$Huts" 23 1 3 := ⟨by decide, "AllHome$Huts", nT1, 4, rfl, nI1, by decide, kw31⟩
theorem F_Huts_13 : zFd "AllHome$Huts" 13 1 0 := ⟨by decide, "AllHome$Huts", nT1, 4, rfl, nI1, by decide, kw28⟩
theorem F_Huts_16 : zFd "AllHome$Huts" 16 1 1 := ⟨by decide, "AllHome$Huts", nT1, 4, rfl, nI1, by decide, kw29⟩
theorem F_Huts_19 : zFd "AllHome$Huts" 19 1 2 := ⟨by decide, "AllHome$Huts", nT1, 4, rfl, nI1, by decide, kw30⟩
theorem P_Huts_23 : zFp "AllHome$Huts" 23 1 3 .int false := ⟨by decide, "AllHome$Huts", nT1, 4, nY1, rfl, nI1, by decide, kw31, nP1, nN1, by decide +kernel, rfl, rfl⟩
theorem C_Huts_31 : zCV "AllHome$Huts" 31 y_Huts_addWords prog_3_method_8_code 5 (some .int) 3 1 := ⟨kw230, kw232, kp0, kw2, kw233, ⟨by decide +kernel, by decide +kernel, by decide +kernel⟩, by decide, _, rfl, rfl⟩
theorem P_Orders_42 : zFp "AllHome$Orders" 42 2 13 .int false := ⟨by decide, "AllHome$Orders", nT2, 14, nY2, rfl, nI2, by decide, kw81, nP2, nN2, by decide +kernel, rfl, rfl⟩
theorem F_Home_63 : zFd "AllHome" 63 6 6 := ⟨by decide, "AllHome", nT6, 12, rfl, nI6, by decide, kw183⟩
theorem F_Home_16 : zFd "AllHome" 16 6 2 := ⟨by decide, "AllHome", nT6, 12, rfl, nI6, by decide, kw179⟩
theorem C_Home_66 : zCV "AllHome" 66 y_Huts_size prog_3_method_2_code 1 (some .int) 0 1 := ⟨kw222, kw223, kw224, kw2, kw225, ⟨by decide +kernel, by decide +kernel, by decide +kernel⟩, by decide, _, rfl, rfl⟩
theorem C_Home_70 : zCV "AllHome" 70 y_Huts_read prog_3_method_7_code 9 (some .int) 2 1 := ⟨kw226, kw227, kw228, kw2, kw229, ⟨by decide +kernel, by decide +kernel, by decide +kernel⟩, by decide, _, rfl, rfl⟩
theorem F_Home_37 : zFd "AllHome" 37 6 8 := ⟨by decide, "AllHome", nT6, 12, rfl, nI6, by decide, kw185⟩
theorem C_Home_74 : zCV "AllHome" 74 y_Orders_forget prog_4_method_2_code 1 none 0 2 := ⟨kw237, kw238, kw239, kw3, kw240, ⟨by decide +kernel, by decide +kernel, by decide +kernel⟩, by decide, _, rfl, rfl⟩
theorem F_Home_41 : zFd "AllHome" 41 6 9 := ⟨by decide, "AllHome", nT6, 12, rfl, nI6, by decide, kw186⟩
theorem C_Huts_27 : zCV "AllHome$Huts" 27 y_Huts_has prog_3_method_3_code 2 (some .boolean) 1 1 := ⟨kw253, kw246, kw247, kw2, kw248, ⟨by decide +kernel, by decide +kernel, by decide +kernel⟩, by decide, _, rfl, rfl⟩
theorem C_Home_77 : zCV "AllHome" 77 y_Huts_has prog_3_method_3_code 2 (some .boolean) 1 1 := ⟨kw245, kw246, kw247, kw2, kw248, ⟨by decide +kernel, by decide +kernel, by decide +kernel⟩, by decide, _, rfl, rfl⟩
theorem C_Home_81 : zCV "AllHome" 81 y_Huts_linesOf prog_3_method_4_code 2 (some .int) 1 1 := ⟨kw249, kw250, kw251, kw2, kw252, ⟨by decide +kernel, by decide +kernel, by decide +kernel⟩, by decide, _, rfl, rfl⟩
theorem C_Home_85 : zCV "AllHome" 85 y_Huts_wordsOf prog_3_method_5_code 3 (some .int) 2 1 := ⟨kw254, kw255, kw256, kw2, kw257, ⟨by decide +kernel, by decide +kernel, by decide +kernel⟩, by decide, _, rfl, rfl⟩
theorem C_Home_89 : zCV "AllHome" 89 y_Huts_goal prog_3_method_6_code 5 (some .int) 3 1 := ⟨kw262, kw263, kw264, kw2, kw265, ⟨by decide +kernel, by decide +kernel, by decide +kernel⟩, by decide, _, rfl, rfl⟩
theorem C_Home_93 : zCS "AllHome" 93 y_Home_isKind prog_1_method_32_code 1 (some .boolean) 1 := ⟨kw270, kw271, kw1, kw272, ⟨by decide +kernel, by decide +kernel, by decide +kernel⟩⟩
theorem F_Home_96 : zFd "AllHome" 96 6 4 := ⟨by decide, "AllHome", nT6, 12, rfl, nI6, by decide, kw181⟩
theorem F_Home_20 : zFd "AllHome" 20 6 3 := ⟨by decide, "AllHome", nT6, 12, rfl, nI6, by decide, kw180⟩
theorem P_Home_96 : zFp "AllHome" 96 6 4 .int false := ⟨by decide, "AllHome", nT6, 12, nY6, rfl, nI6, by decide, kw181, nP6, nN6, by decide +kernel, rfl, rfl⟩
theorem C_Home_99 : zCV "AllHome" 99 y_Home_isWay prog_1_method_29_code 2 (some .boolean) 1 6 := ⟨kw277, kw279, kp1, kw1, kw280, ⟨by decide +kernel, by decide +kernel, by decide +kernel⟩, by decide, _, rfl, rfl⟩
theorem C_Rules_19 : zCN "AllHome$Rules" 19 y_Home_isKind prog_1_method_32_code 1 (some .boolean) 1 := ⟨List.mem_of_getElem? (i := 3) rfl, kw271, kw1, kw272, ⟨by decide +kernel, by decide +kernel, by decide +kernel⟩⟩
theorem P_Rules_23 : zFp "AllHome$Rules" 23 3 1 .int false := ⟨by decide, "AllHome$Rules", nT3, 3, nY3, rfl, nI3, by decide, kw58, nP3, nN3, by decide +kernel, rfl, rfl⟩
theorem F_Rules_23 : zFd "AllHome$Rules" 23 3 1 := ⟨by decide, "AllHome$Rules", nT3, 3, rfl, nI3, by decide, kw58⟩
theorem P_Rules_15 : zFp "AllHome$Rules" 15 3 2 .int false := ⟨by decide, "AllHome$Rules", nT3, 3, nY3, rfl, nI3, by decide, kw59, nP3, nN3, by decide +kernel, rfl, rfl⟩
theorem C_Rules_30 : zCS "AllHome$Rules" 30 y_Fill_I prog_12_method_103_code 4 none 2 := ⟨kw296, kw297, kw10, kw298, ⟨by decide +kernel, by decide +kernel, by decide +kernel⟩⟩
theorem F_Rules_15 : zFd "AllHome$Rules" 15 3 2 := ⟨by decide, "AllHome$Rules", nT3, 3, rfl, nI3, by decide, kw59⟩
theorem F_Run_20 : zFd "AllHome$Run" 20 4 0 := ⟨by decide, "AllHome$Run", nT4, 6, rfl, nI4, by decide, kw139⟩
theorem F_Run_9 : zFd "AllHome$Run" 9 4 1 := ⟨by decide, "AllHome$Run", nT4, 6, rfl, nI4, by decide, kw140⟩
theorem C_Run_24 : zCV "AllHome$Run" 24 y_Rules_begin prog_5_method_3_code 4 none 2 3 := ⟨kw289, kw290, kw291, kw4, kw292, ⟨by decide +kernel, by decide +kernel, by decide +kernel⟩, by decide, _, rfl, rfl⟩
theorem P_Run_28 : zFp "AllHome$Run" 28 4 2 .int false := ⟨by decide, "AllHome$Run", nT4, 6, nY4, rfl, nI4, by decide, kw141, nP4, nN4, by decide +kernel, rfl, rfl⟩
theorem P_Run_32 : zFp "AllHome$Run" 32 4 3 .int false := ⟨by decide, "AllHome$Run", nT4, 6, nY4, rfl, nI4, by decide, kw142, nP4, nN4, by decide +kernel, rfl, rfl⟩
theorem P_Run_35 : zFp "AllHome$Run" 35 4 4 .int false := ⟨by decide, "AllHome$Run", nT4, 6, nY4, rfl, nI4, by decide, kw143, nP4, nN4, by decide +kernel, rfl, rfl⟩
theorem P_Run_38 : zFp "AllHome$Run" 38 4 5 .int false := ⟨by decide, "AllHome$Run", nT4, 6, nY4, rfl, nI4, by decide, kw144, nP4, nN4, by decide +kernel, rfl, rfl⟩
theorem F_Home_25 : zFd "AllHome" 25 6 5 := ⟨by decide, "AllHome", nT6, 12, rfl, nI6, by decide, kw182⟩
theorem C_Home_102 : zCV "AllHome" 102 y_Run_begin prog_6_method_2_code 3 none 2 4 := ⟨kw285, kw286, kw287, kw6, kw288, ⟨by decide +kernel, by decide +kernel, by decide +kernel⟩, by decide, _, rfl, rfl⟩
theorem P_Home_63 : zFp "AllHome" 63 6 6 .int false := ⟨by decide, "AllHome", nT6, 12, nY6, rfl, nI6, by decide, kw183, nP6, nN6, by decide +kernel, rfl, rfl⟩
theorem C_Rules_81 : zCS "AllHome$Rules" 81 y_Rules_partUnits prog_5_method_7_code 3 (some .int) 2 := ⟨kw329, kw330, kw4, kw331, ⟨by decide +kernel, by decide +kernel, by decide +kernel⟩⟩
theorem F_Rules_9 : zFd "AllHome$Rules" 9 3 0 := ⟨by decide, "AllHome$Rules", nT3, 3, rfl, nI3, by decide, kw57⟩
theorem C_Rules_60 : zCV "AllHome$Rules" 60 y_Huts_has prog_3_method_3_code 2 (some .boolean) 1 1 := ⟨kw322, kw246, kw247, kw2, kw248, ⟨by decide +kernel, by decide +kernel, by decide +kernel⟩, by decide, _, rfl, rfl⟩
theorem C_Rules_65 : zCV "AllHome$Rules" 65 y_Huts_wordsOf prog_3_method_5_code 3 (some .int) 2 1 := ⟨kw323, kw255, kw256, kw2, kw257, ⟨by decide +kernel, by decide +kernel, by decide +kernel⟩, by decide, _, rfl, rfl⟩
theorem C_Rules_77 : zCS "AllHome$Rules" 77 y_Rules_sendNote prog_5_method_8_code 5 (some .int) 4 := ⟨kw332, kw333, kw4, kw334, ⟨by decide +kernel, by decide +kernel, by decide +kernel⟩⟩
theorem C_Rules_69 : zCV "AllHome$Rules" 69 y_Huts_goal prog_3_method_6_code 5 (some .int) 3 1 := ⟨kw324, kw263, kw264, kw2, kw265, ⟨by decide +kernel, by decide +kernel, by decide +kernel⟩, by decide, _, rfl, rfl⟩
theorem C_Rules_73 : zCV "AllHome$Rules" 73 y_Rules_send prog_5_method_6_code 6 (some .int) 3 3 := ⟨kw325, kw327, kp4, kw4, kw328, ⟨by decide +kernel, by decide +kernel, by decide +kernel⟩, by decide, _, rfl, rfl⟩
theorem C_Rules_94 : zCS "AllHome$Rules" 94 y_Rules_closeGap prog_5_method_14_code 4 none 3 := ⟨kw345, kw346, kw4, kw347, ⟨by decide +kernel, by decide +kernel, by decide +kernel⟩⟩
theorem C_Rules_84 : zCS "AllHome$Rules" 84 y_Rules_isOnTheWay prog_5_method_9_code 3 (some .boolean) 3 := ⟨kw339, kw340, kw4, kw341, ⟨by decide +kernel, by decide +kernel, by decide +kernel⟩⟩
theorem C_Rules_88 : zCS "AllHome$Rules" 88 y_Rules_takeAwayWord prog_5_method_13_code 2 none 2 := ⟨kw342, kw343, kw4, kw344, ⟨by decide +kernel, by decide +kernel, by decide +kernel⟩⟩
theorem C_Rules_91 : zCS "AllHome$Rules" 91 y_Rules_joinTree prog_5_method_11_code 3 (some .int) 3 := ⟨kw348, kw349, kw4, kw350, ⟨by decide +kernel, by decide +kernel, by decide +kernel⟩⟩
theorem C_Rules_104 : zCV "AllHome$Rules" 104 y_Huts_size prog_3_method_2_code 1 (some .int) 0 1 := ⟨kw362, kw223, kw224, kw2, kw225, ⟨by decide +kernel, by decide +kernel, by decide +kernel⟩, by decide, _, rfl, rfl⟩
theorem C_Rules_98 : zCS "AllHome$Rules" 98 y_Rules_takeStone prog_5_method_16_code 5 (some .int) 4 := ⟨kw355, kw356, kw4, kw357, ⟨by decide +kernel, by decide +kernel, by decide +kernel⟩⟩
theorem C_Rules_101 : zCV "AllHome$Rules" 101 y_Rules_takeSums prog_5_method_17_code 6 (some .int) 4 3 := ⟨kw358, kw360, kp7, kw4, kw361, ⟨by decide +kernel, by decide +kernel, by decide +kernel⟩, by decide, _, rfl, rfl⟩
theorem C_Rules_108 : zCN "AllHome$Rules" 108 y_Home_isUnder prog_1_method_33_code 4 (some .boolean) 2 := ⟨List.mem_of_getElem? (i := 5) rfl, kw368, kw1, kw369, ⟨by decide +kernel, by decide +kernel, by decide +kernel⟩⟩
theorem C_Rules_36 : zCV "AllHome$Rules" 36 y_Rules_goOn prog_5_method_5_code 5 (some .int) 2 3 := ⟨kw318, kw320, kp3, kw4, kw321, ⟨by decide +kernel, by decide +kernel, by decide +kernel⟩, by decide, _, rfl, rfl⟩
theorem C_Rules_56 : zCV "AllHome$Rules" 56 y_Rules_seesAllHome prog_5_method_20_code 4 (some .boolean) 1 3 := ⟨kw379, kw381, kp10, kw4, kw382, ⟨by decide +kernel, by decide +kernel, by decide +kernel⟩, by decide, _, rfl, rfl⟩
theorem C_Rules_52 : zCV "AllHome$Rules" 52 y_Rules_leaveTree prog_5_method_19_code 5 (some .int) 1 3 := ⟨kw375, kw377, kp9, kw4, kw378, ⟨by decide +kernel, by decide +kernel, by decide +kernel⟩, by decide, _, rfl, rfl⟩
theorem C_Rules_40 : zCV "AllHome$Rules" 40 y_Rules_comeWord prog_5_method_10_code 6 (some .int) 2 3 := ⟨kw335, kw337, kp5, kw4, kw338, ⟨by decide +kernel, by decide +kernel, by decide +kernel⟩, by decide, _, rfl, rfl⟩
theorem C_Rules_43 : zCV "AllHome$Rules" 43 y_Rules_comeNote prog_5_method_15_code 6 (some .int) 2 3 := ⟨kw351, kw353, kp6, kw4, kw354, ⟨by decide +kernel, by decide +kernel, by decide +kernel⟩, by decide, _, rfl, rfl⟩
theorem C_Rules_46 : zCV "AllHome$Rules" 46 y_Rules_ask prog_5_method_18_code 3 (some .int) 2 3 := ⟨kw363, kw365, kp8, kw4, kw366, ⟨by decide +kernel, by decide +kernel, by decide +kernel⟩, by decide, _, rfl, rfl⟩
theorem C_Rules_49 : zCS "AllHome$Rules" 49 y_Rules_lose prog_5_method_12_code 2 (some .int) 2 := ⟨kw372, kw373, kw4, kw374, ⟨by decide +kernel, by decide +kernel, by decide +kernel⟩⟩
theorem C_Run_52 : zCV "AllHome$Run" 52 y_Rules_apply prog_5_method_4_code 5 (some .int) 3 3 := ⟨kw314, kw315, kw316, kw4, kw317, ⟨by decide +kernel, by decide +kernel, by decide +kernel⟩, by decide, _, rfl, rfl⟩
theorem F_Run_32 : zFd "AllHome$Run" 32 4 3 := ⟨by decide, "AllHome$Run", nT4, 6, rfl, nI4, by decide, kw142⟩
theorem C_Run_56 : zCN "AllHome$Run" 56 y_Home_isOver prog_1_method_36_code 2 (some .boolean) 1 := ⟨List.mem_of_getElem? (i := 6) rfl, kw384, kw1, kw385, ⟨by decide +kernel, by decide +kernel, by decide +kernel⟩⟩
theorem F_Run_38 : zFd "AllHome$Run" 38 4 5 := ⟨by decide, "AllHome$Run", nT4, 6, rfl, nI4, by decide, kw144⟩
theorem F_Run_35 : zFd "AllHome$Run" 35 4 4 := ⟨by decide, "AllHome$Run", nT4, 6, rfl, nI4, by decide, kw143⟩
theorem C_Home_106 : zCV "AllHome" 106 y_Home_isRun prog_1_method_30_code 2 (some .boolean) 1 6 := ⟨kw303, kw305, kp2, kw1, kw306, ⟨by decide +kernel, by decide +kernel, by decide +kernel⟩, by decide, _, rfl, rfl⟩
theorem F_Home_29 : zFd "AllHome" 29 6 7 := ⟨by decide, "AllHome", nT6, 12, rfl, nI6, by decide, kw184⟩
theorem C_Home_109 : zCV "AllHome" 109 y_Run_advance prog_6_method_5_code 5 (some .int) 3 4 := ⟨kw307, kw308, kw309, kw6, kw310, ⟨by decide +kernel, by decide +kernel, by decide +kernel⟩, by decide, _, rfl, rfl⟩
theorem F_Shelf_19 : zFd "AllHome$Shelf" 19 5 3 := ⟨by decide, "AllHome$Shelf", nT5, 4, rfl, nI5, by decide, kw166⟩
theorem F_Shelf_15 : zFd "AllHome$Shelf" 15 5 2 := ⟨by decide, "AllHome$Shelf", nT5, 4, rfl, nI5, by decide, kw165⟩
theorem F_Shelf_22 : zFd "AllHome$Shelf" 22 5 1 := ⟨by decide, "AllHome$Shelf", nT5, 4, rfl, nI5, by decide, kw164⟩
theorem C_Shelf_40 : zCV "AllHome$Shelf" 40 y_Shelf_hasPlace prog_7_method_9_code 2 (some .boolean) 1 5 := ⟨kw409, kw402, kw403, kw7, kw404, ⟨by decide +kernel, by decide +kernel, by decide +kernel⟩, by decide, _, rfl, rfl⟩
theorem F_Shelf_11 : zFd "AllHome$Shelf" 11 5 0 := ⟨by decide, "AllHome$Shelf", nT5, 4, rfl, nI5, by decide, kw163⟩
theorem C_Home_113 : zCS "AllHome" 113 y_Home_isShelf prog_1_method_31_code 1 (some .boolean) 1 := ⟨kw390, kw391, kw1, kw392, ⟨by decide +kernel, by decide +kernel, by decide +kernel⟩⟩
theorem F_Home_53 : zFd "AllHome" 53 6 11 := ⟨by decide, "AllHome", nT6, 12, rfl, nI6, by decide, kw188⟩
theorem C_Home_116 : zCV "AllHome" 116 y_Shelf_isEmpty prog_7_method_4_code 1 (some .boolean) 0 5 := ⟨kw393, kw394, kw395, kw7, kw396, ⟨by decide +kernel, by decide +kernel, by decide +kernel⟩, by decide, _, rfl, rfl⟩
theorem C_Home_120 : zCV "AllHome" 120 y_Shelf_isRowOf prog_7_method_6_code 2 (some .boolean) 1 5 := ⟨kw397, kw398, kw399, kw7, kw400, ⟨by decide +kernel, by decide +kernel, by decide +kernel⟩, by decide, _, rfl, rfl⟩
theorem C_Home_123 : zCV "AllHome" 123 y_Shelf_hasPlace prog_7_method_9_code 2 (some .boolean) 1 5 := ⟨kw401, kw402, kw403, kw7, kw404, ⟨by decide +kernel, by decide +kernel, by decide +kernel⟩, by decide, _, rfl, rfl⟩
theorem C_Home_126 : zCV "AllHome" 126 y_Shelf_at prog_7_method_11_code 2 (some .long) 1 5 := ⟨kw405, kw406, kw407, kw7, kw408, ⟨by decide +kernel, by decide +kernel, by decide +kernel⟩, by decide, _, rfl, rfl⟩
theorem F_Run_28 : zFd "AllHome$Run" 28 4 2 := ⟨by decide, "AllHome$Run", nT4, 6, rfl, nI4, by decide, kw141⟩
theorem C_Run_60 : zCV "AllHome$Run" 60 y_Run_hutsAwake prog_6_method_7_code 3 (some .int) 0 4 := ⟨kw419, kw421, kp11, kw6, kw422, ⟨by decide +kernel, by decide +kernel, by decide +kernel⟩, by decide, _, rfl, rfl⟩
theorem C_Home_130 : zCV "AllHome" 130 y_Run_tell prog_6_method_6_code 2 (some .int) 1 4 := ⟨kw415, kw416, kw417, kw6, kw418, ⟨by decide +kernel, by decide +kernel, by decide +kernel⟩, by decide, _, rfl, rfl⟩
theorem C_Run_41 : zCV "AllHome$Run" 41 y_Rules_family prog_5_method_2_code 1 (some .int) 0 3 := ⟨kw436, kw437, kw438, kw4, kw439, ⟨by decide +kernel, by decide +kernel, by decide +kernel⟩, by decide, _, rfl, rfl⟩
theorem C_Home_143 : zCV "AllHome" 143 y_Run_cell prog_6_method_4_code 2 (some .int) 1 4 := ⟨kw440, kw441, kw442, kw6, kw443, ⟨by decide +kernel, by decide +kernel, by decide +kernel⟩, by decide, _, rfl, rfl⟩
theorem C_Home_140 : zCV "AllHome" 140 y_Run_family prog_6_method_3_code 1 (some .int) 0 4 := ⟨kw432, kw433, kw434, kw6, kw435, ⟨by decide +kernel, by decide +kernel, by decide +kernel⟩, by decide, _, rfl, rfl⟩
theorem F_Orders_63 : zFd "AllHome$Orders" 63 2 11 := ⟨by decide, "AllHome$Orders", nT2, 14, rfl, nI2, by decide, kw79⟩
theorem F_Orders_39 : zFd "AllHome$Orders" 39 2 10 := ⟨by decide, "AllHome$Orders", nT2, 14, rfl, nI2, by decide, kw78⟩
theorem F_Orders_13 : zFd "AllHome$Orders" 13 2 2 := ⟨by decide, "AllHome$Orders", nT2, 14, rfl, nI2, by decide, kw70⟩
theorem F_Orders_16 : zFd "AllHome$Orders" 16 2 3 := ⟨by decide, "AllHome$Orders", nT2, 14, rfl, nI2, by decide, kw71⟩
theorem C_Orders_100 : zCS "AllHome$Orders" 100 y_Orders_printOf prog_4_method_10_code 3 (some .int) 1 := ⟨kw476, kw477, kw3, kw478, ⟨by decide +kernel, by decide +kernel, by decide +kernel⟩⟩
theorem F_Orders_20 : zFd "AllHome$Orders" 20 2 4 := ⟨by decide, "AllHome$Orders", nT2, 14, rfl, nI2, by decide, kw72⟩
theorem F_Orders_23 : zFd "AllHome$Orders" 23 2 5 := ⟨by decide, "AllHome$Orders", nT2, 14, rfl, nI2, by decide, kw73⟩
theorem F_Orders_26 : zFd "AllHome$Orders" 26 2 6 := ⟨by decide, "AllHome$Orders", nT2, 14, rfl, nI2, by decide, kw74⟩
theorem F_Orders_32 : zFd "AllHome$Orders" 32 2 8 := ⟨by decide, "AllHome$Orders", nT2, 14, rfl, nI2, by decide, kw76⟩
theorem P_Orders_63 : zFp "AllHome$Orders" 63 2 11 .int false := ⟨by decide, "AllHome$Orders", nT2, 14, nY2, rfl, nI2, by decide, kw79, nP2, nN2, by decide +kernel, rfl, rfl⟩
theorem P_Orders_59 : zFp "AllHome$Orders" 59 2 12 .boolean false := ⟨by decide, "AllHome$Orders", nT2, 14, nY2, rfl, nI2, by decide, kw80, nP2, nN2, by decide +kernel, rfl, rfl⟩
theorem F_Orders_46 : zFd "AllHome$Orders" 46 2 0 := ⟨by decide, "AllHome$Orders", nT2, 14, rfl, nI2, by decide, kw68⟩
theorem C_Orders_66 : zCV "AllHome$Orders" 66 y_Huts_size prog_3_method_2_code 1 (some .int) 0 1 := ⟨kw469, kw223, kw224, kw2, kw225, ⟨by decide +kernel, by decide +kernel, by decide +kernel⟩, by decide, _, rfl, rfl⟩
theorem C_Orders_104 : zCS "AllHome$Orders" 104 y_Orders_alike prog_4_method_11_code 4 (some .boolean) 3 := ⟨kw492, kw493, kw3, kw494, ⟨by decide +kernel, by decide +kernel, by decide +kernel⟩⟩
theorem F_Orders_55 : zFd "AllHome$Orders" 55 2 1 := ⟨by decide, "AllHome$Orders", nT2, 14, rfl, nI2, by decide, kw69⟩
theorem C_Orders_93 : zCV "AllHome$Orders" 93 y_Rules_apply prog_5_method_4_code 5 (some .int) 3 3 := ⟨kw487, kw315, kw316, kw4, kw317, ⟨by decide +kernel, by decide +kernel, by decide +kernel⟩, by decide, _, rfl, rfl⟩
theorem C_Orders_97 : zCV "AllHome$Orders" 97 y_Orders_findSpare prog_4_method_8_code 3 (some .int) 0 2 := ⟨kw488, kw490, kp16, kw3, kw491, ⟨by decide +kernel, by decide +kernel, by decide +kernel⟩, by decide, _, rfl, rfl⟩
theorem F_Orders_29 : zFd "AllHome$Orders" 29 2 7 := ⟨by decide, "AllHome$Orders", nT2, 14, rfl, nI2, by decide, kw75⟩
theorem C_Orders_75 : zCV "AllHome$Orders" 75 y_Orders_addSpare prog_4_method_9_code 3 (some .int) 2 2 := ⟨kw471, kw473, kp13, kw3, kw474, ⟨by decide +kernel, by decide +kernel, by decide +kernel⟩, by decide, _, rfl, rfl⟩
theorem F_Orders_42 : zFd "AllHome$Orders" 42 2 13 := ⟨by decide, "AllHome$Orders", nT2, 14, rfl, nI2, by decide, kw81⟩
theorem C_Orders_71 : zCV "AllHome$Orders" 71 y_Rules_begin prog_5_method_3_code 4 none 2 3 := ⟨kw470, kw290, kw291, kw4, kw292, ⟨by decide +kernel, by decide +kernel, by decide +kernel⟩, by decide, _, rfl, rfl⟩
theorem C_Orders_79 : zCV "AllHome$Orders" 79 y_Orders_numbersOf prog_4_method_6_code 3 (some .int) 2 2 := ⟨kw479, kw481, kp14, kw3, kw482, ⟨by decide +kernel, by decide +kernel, by decide +kernel⟩, by decide, _, rfl, rfl⟩
theorem F_Orders_59 : zFd "AllHome$Orders" 59 2 12 := ⟨by decide, "AllHome$Orders", nT2, 14, rfl, nI2, by decide, kw80⟩
theorem C_Orders_83 : zCV "AllHome$Orders" 83 y_Orders_tryStep prog_4_method_7_code 5 none 3 2 := ⟨kw483, kw485, kp15, kw3, kw486, ⟨by decide +kernel, by decide +kernel, by decide +kernel⟩, by decide, _, rfl, rfl⟩
theorem C_Home_168 : zCV "AllHome" 168 y_Orders_explore prog_4_method_5_code 7 none 1 2 := ⟨kw465, kw466, kw467, kw3, kw468, ⟨by decide +kernel, by decide +kernel, by decide +kernel⟩, by decide, _, rfl, rfl⟩
theorem C_Home_172 : zCV "AllHome" 172 y_Orders_isBig prog_4_method_3_code 1 (some .boolean) 0 2 := ⟨kw495, kw496, kw497, kw3, kw498, ⟨by decide +kernel, by decide +kernel, by decide +kernel⟩, by decide, _, rfl, rfl⟩
theorem C_Home_146 : zCV "AllHome" 146 y_Home_goThrough prog_1_method_34_code 2 (some .int) 1 6 := ⟨kw461, kw463, kp12, kw1, kw464, ⟨by decide +kernel, by decide +kernel, by decide +kernel⟩, by decide, _, rfl, rfl⟩
theorem C_Home_149 : zCV "AllHome" 149 y_Orders_size prog_4_method_4_code 1 (some .int) 0 2 := ⟨kw499, kw500, kw501, kw3, kw502, ⟨by decide +kernel, by decide +kernel, by decide +kernel⟩, by decide, _, rfl, rfl⟩
theorem C_Orders_112 : zCN "AllHome$Orders" 112 y_Home_isOver prog_1_method_36_code 2 (some .boolean) 1 := ⟨List.mem_of_getElem? (i := 7) rfl, kw384, kw1, kw385, ⟨by decide +kernel, by decide +kernel, by decide +kernel⟩⟩
theorem C_Orders_108 : zCV "AllHome$Orders" 108 y_Orders_firstSaying prog_4_method_14_code 3 (some .int) 1 2 := ⟨kw511, kw513, kp17, kw3, kw514, ⟨by decide +kernel, by decide +kernel, by decide +kernel⟩, by decide, _, rfl, rfl⟩
theorem C_Orders_116 : zCV "AllHome$Orders" 116 y_Orders_stepsTo prog_4_method_15_code 2 (some .int) 1 2 := ⟨kw528, kw521, kw522, kw3, kw523, ⟨by decide +kernel, by decide +kernel, by decide +kernel⟩, by decide, _, rfl, rfl⟩
theorem C_Home_153 : zCV "AllHome" 153 y_Orders_soon prog_4_method_13_code 1 (some .int) 0 2 := ⟨kw516, kw517, kw518, kw3, kw519, ⟨by decide +kernel, by decide +kernel, by decide +kernel⟩, by decide, _, rfl, rfl⟩
theorem C_Home_156 : zCV "AllHome" 156 y_Orders_stepsTo prog_4_method_15_code 2 (some .int) 1 2 := ⟨kw520, kw521, kw522, kw3, kw523, ⟨by decide +kernel, by decide +kernel, by decide +kernel⟩, by decide, _, rfl, rfl⟩
theorem C_Home_159 : zCV "AllHome" 159 y_Orders_stepOnTheWayTo prog_4_method_16_code 5 (some .int) 2 2 := ⟨kw524, kw525, kw526, kw3, kw527, ⟨by decide +kernel, by decide +kernel, by decide +kernel⟩, by decide, _, rfl, rfl⟩
theorem C_Home_150 : zCV "AllHome" 150 y_Orders_early prog_4_method_12_code 1 (some .int) 0 2 := ⟨kw507, kw508, kw509, kw3, kw510, ⟨by decide +kernel, by decide +kernel, by decide +kernel⟩, by decide, _, rfl, rfl⟩
theorem F_Orders_35 : zFd "AllHome$Orders" 35 2 9 := ⟨by decide, "AllHome$Orders", nT2, 14, rfl, nI2, by decide, kw77⟩
theorem C_Orders_120 : zCV "AllHome$Orders" 120 y_Orders_spreadCanSay prog_4_method_18_code 5 (some .boolean) 0 2 := ⟨kw537, kw539, kp18, kw3, kw540, ⟨by decide +kernel, by decide +kernel, by decide +kernel⟩, by decide, _, rfl, rfl⟩
theorem C_Home_162 : zCV "AllHome" 162 y_Orders_stuckStates prog_4_method_17_code 4 (some .int) 0 2 := ⟨kw533, kw534, kw535, kw3, kw536, ⟨by decide +kernel, by decide +kernel, by decide +kernel⟩, by decide, _, rfl, rfl⟩
theorem C_Home_165 : zCV "AllHome" 165 y_Orders_unlikeWorks prog_4_method_19_code 5 (some .int) 0 2 := ⟨kw545, kw546, kw547, kw3, kw548, ⟨by decide +kernel, by decide +kernel, by decide +kernel⟩, by decide, _, rfl, rfl⟩
theorem P_Acts_15 : zFp "AllHome$Acts" 15 0 1 .int false := ⟨by decide, "AllHome$Acts", nT0, 4, nY0, rfl, nI0, by decide, kw118, nP0, nN0, by decide +kernel, rfl, rfl⟩
theorem C_Acts_33 : zCN "AllHome$Acts" 33 y_Home_isKind prog_1_method_32_code 1 (some .boolean) 1 := ⟨List.mem_of_getElem? (i := 8) rfl, kw271, kw1, kw272, ⟨by decide +kernel, by decide +kernel, by decide +kernel⟩⟩
theorem F_Acts_15 : zFd "AllHome$Acts" 15 0 1 := ⟨by decide, "AllHome$Acts", nT0, 4, rfl, nI0, by decide, kw118⟩
theorem F_Acts_11 : zFd "AllHome$Acts" 11 0 0 := ⟨by decide, "AllHome$Acts", nT0, 4, rfl, nI0, by decide, kw117⟩
theorem C_Acts_29 : zCS "AllHome$Acts" 29 y_Acts_bodyOf prog_2_method_7_code 2 (some .int) 2 := ⟨kw565, kw566, kw5, kw567, ⟨by decide +kernel, by decide +kernel, by decide +kernel⟩⟩
theorem C_Acts_40 : zCV "AllHome$Acts" 40 y_Acts_begun prog_2_method_8_code 2 none 1 0 := ⟨kw572, kw574, kp20, kw5, kw575, ⟨by decide +kernel, by decide +kernel, by decide +kernel⟩, by decide, _, rfl, rfl⟩
theorem F_Acts_22 : zFd "AllHome$Acts" 22 0 3 := ⟨by decide, "AllHome$Acts", nT0, 4, rfl, nI0, by decide, kw120⟩
theorem F_Acts_19 : zFd "AllHome$Acts" 19 0 2 := ⟨by decide, "AllHome$Acts", nT0, 4, rfl, nI0, by decide, kw119⟩
theorem C_Acts_25 : zCV "AllHome$Acts" 25 y_Acts_perform prog_2_method_6_code 9 (some .int) 4 0 := ⟨kw561, kw563, kp19, kw5, kw564, ⟨by decide +kernel, by decide +kernel, by decide +kernel⟩, by decide, _, rfl, rfl⟩
theorem P_Acts_19 : zFp "AllHome$Acts" 19 0 2 .int false := ⟨by decide, "AllHome$Acts", nT0, 4, nY0, rfl, nI0, by decide, kw119, nP0, nN0, by decide +kernel, rfl, rfl⟩
theorem P_Acts_22 : zFp "AllHome$Acts" 22 0 3 .int false := ⟨by decide, "AllHome$Acts", nT0, 4, nY0, rfl, nI0, by decide, kw120, nP0, nN0, by decide +kernel, rfl, rfl⟩
theorem F_Home_47 : zFd "AllHome" 47 6 10 := ⟨by decide, "AllHome", nT6, 12, rfl, nI6, by decide, kw187⟩
theorem C_Home_175 : zCV "AllHome" 175 y_Acts_clear prog_2_method_2_code 1 none 0 0 := ⟨kw553, kw554, kw555, kw5, kw556, ⟨by decide +kernel, by decide +kernel, by decide +kernel⟩, by decide, _, rfl, rfl⟩
theorem C_Home_178 : zCV "AllHome" 178 y_Acts_begin prog_2_method_5_code 5 (some .int) 4 0 := ⟨kw557, kw558, kw559, kw5, kw560, ⟨by decide +kernel, by decide +kernel, by decide +kernel⟩, by decide, _, rfl, rfl⟩
theorem C_Home_181 : zCV "AllHome" 181 y_Acts_traced prog_2_method_4_code 2 (some .int) 1 0 := ⟨kw580, kw581, kw582, kw5, kw583, ⟨by decide +kernel, by decide +kernel, by decide +kernel⟩, by decide, _, rfl, rfl⟩
theorem P_Shelf_19 : zFp "AllHome$Shelf" 19 5 3 .int false := ⟨by decide, "AllHome$Shelf", nT5, 4, nY5, rfl, nI5, by decide, kw166, nP5, nN5, by decide +kernel, rfl, rfl⟩
theorem P_Shelf_15 : zFp "AllHome$Shelf" 15 5 2 .int false := ⟨by decide, "AllHome$Shelf", nT5, 4, nY5, rfl, nI5, by decide, kw165, nP5, nN5, by decide +kernel, rfl, rfl⟩
theorem P_Shelf_22 : zFp "AllHome$Shelf" 22 5 1 .int false := ⟨by decide, "AllHome$Shelf", nT5, 4, nY5, rfl, nI5, by decide, kw164, nP5, nN5, by decide +kernel, rfl, rfl⟩
theorem C_Home_184 : zCV "AllHome" 184 y_Shelf_holdWay prog_7_method_2_code 2 none 1 5 := ⟨kw588, kw589, kw590, kw7, kw591, ⟨by decide +kernel, by decide +kernel, by decide +kernel⟩, by decide, _, rfl, rfl⟩
theorem C_Shelf_34 : zCS "AllHome$Shelf" 34 y_Fill_J prog_12_method_101_code 5 none 2 := ⟨kw604, kw605, kw10, kw606, ⟨by decide +kernel, by decide +kernel, by decide +kernel⟩⟩
theorem C_Home_187 : zCV "AllHome" 187 y_Shelf_holdRow prog_7_method_3_code 3 none 2 5 := ⟨kw596, kw597, kw598, kw7, kw599, ⟨by decide +kernel, by decide +kernel, by decide +kernel⟩, by decide, _, rfl, rfl⟩
theorem C_Home_201 : zCV "AllHome" 201 y_Shelf_isRow prog_7_method_5_code 1 (some .boolean) 0 5 := ⟨kw615, kw616, kw617, kw7, kw618, ⟨by decide +kernel, by decide +kernel, by decide +kernel⟩, by decide, _, rfl, rfl⟩
theorem C_Shelf_48 : zCV "AllHome$Shelf" 48 y_Shelf_lowestBits prog_7_method_13_code 3 (some .long) 1 5 := ⟨kw623, kw625, kp22, kw7, kw626, ⟨by decide +kernel, by decide +kernel, by decide +kernel⟩, by decide, _, rfl, rfl⟩
theorem C_Home_190 : zCV "AllHome" 190 y_Home_wantPlace prog_1_method_35_code 3 (some .int) 2 6 := ⟨kw611, kw613, kp21, kw1, kw614, ⟨by decide +kernel, by decide +kernel, by decide +kernel⟩, by decide, _, rfl, rfl⟩
theorem C_Home_193 : zCV "AllHome" 193 y_Shelf_set prog_7_method_12_code 4 none 2 5 := ⟨kw619, kw620, kw621, kw7, kw622, ⟨by decide +kernel, by decide +kernel, by decide +kernel⟩, by decide, _, rfl, rfl⟩
theorem C_Shelf_52 : zCV "AllHome$Shelf" 52 y_Shelf_hasPlaces prog_7_method_10_code 3 (some .boolean) 2 5 := ⟨kw648, kw641, kw642, kw7, kw643, ⟨by decide +kernel, by decide +kernel, by decide +kernel⟩, by decide, _, rfl, rfl⟩
theorem C_Home_204 : zCV "AllHome" 204 y_Shelf_sort prog_7_method_7_code 1 (some .int) 0 5 := ⟨kw636, kw637, kw638, kw7, kw639, ⟨by decide +kernel, by decide +kernel, by decide +kernel⟩, by decide, _, rfl, rfl⟩
theorem C_Home_207 : zCV "AllHome" 207 y_Shelf_hasPlaces prog_7_method_10_code 3 (some .boolean) 2 5 := ⟨kw640, kw641, kw642, kw7, kw643, ⟨by decide +kernel, by decide +kernel, by decide +kernel⟩, by decide, _, rfl, rfl⟩
theorem C_Home_211 : zCV "AllHome" 211 y_Shelf_copyTo prog_7_method_14_code 5 none 4 5 := ⟨kw644, kw645, kw646, kw7, kw647, ⟨by decide +kernel, by decide +kernel, by decide +kernel⟩, by decide, _, rfl, rfl⟩
theorem C_Home_215 : zCV "AllHome" 215 y_Shelf_heldWay prog_7_method_8_code 1 (some .int) 0 5 := ⟨kw654, kw655, kw656, kw7, kw657, ⟨by decide +kernel, by decide +kernel, by decide +kernel⟩, by decide, _, rfl, rfl⟩
theorem C_Home_218 : zCS "AllHome" 218 y_Home_isUnder prog_1_method_33_code 4 (some .boolean) 2 := ⟨kw658, kw368, kw1, kw369, ⟨by decide +kernel, by decide +kernel, by decide +kernel⟩⟩
theorem C_Home_221 : zCV "AllHome" 221 y_Acts_ran prog_2_method_3_code 1 (some .int) 0 0 := ⟨kw663, kw664, kw665, kw5, kw666, ⟨by decide +kernel, by decide +kernel, by decide +kernel⟩, by decide, _, rfl, rfl⟩
theorem F_Model_78 : zFd "AllHomeModel" 78 7 4 := ⟨by decide, "AllHomeModel", nT7, 33, rfl, nI7, by decide, kw677⟩
theorem F_Model_82 : zFd "AllHomeModel" 82 7 6 := ⟨by decide, "AllHomeModel", nT7, 33, rfl, nI7, by decide, kw679⟩
theorem C_Model_87 : zCS "AllHomeModel" 87 y_Model_within prog_9_method_2_code 6 (some .boolean) 3 := ⟨kw778, kw779, kw8, kw780, ⟨by decide +kernel, by decide +kernel, by decide +kernel⟩⟩
theorem F_Model_91 : zFd "AllHomeModel" 91 7 1 := ⟨by decide, "AllHomeModel", nT7, 33, rfl, nI7, by decide, kw674⟩
theorem F_Model_9 : zFd "AllHomeModel" 9 7 0 := ⟨by decide, "AllHomeModel", nT7, 33, rfl, nI7, by decide, kw673⟩
theorem P_Model_91 : zFp "AllHomeModel" 91 7 1 .int false := ⟨by decide, "AllHomeModel", nT7, 33, nY7, rfl, nI7, by decide, kw674, nP7, nN7, by decide +kernel, rfl, rfl⟩
theorem C_Model_102 : zCS "AllHomeModel" 102 y_Model_isOther prog_9_method_6_code 2 (some .boolean) 2 := ⟨kw791, kw792, kw8, kw793, ⟨by decide +kernel, by decide +kernel, by decide +kernel⟩⟩
theorem F_Model_106 : zFd "AllHomeModel" 106 7 19 := ⟨by decide, "AllHomeModel", nT7, 33, rfl, nI7, by decide, kw692⟩
theorem C_Model_109 : zCV "AllHomeModel" 109 y_Model_faultOf prog_9_method_7_code 4 (some .int) 1 7 := ⟨kw785, kw787, kp23, kw8, kw788, ⟨by decide +kernel, by decide +kernel, by decide +kernel⟩, by decide, _, rfl, rfl⟩
theorem F_Model_16 : zFd "AllHomeModel" 16 7 3 := ⟨by decide, "AllHomeModel", nT7, 33, rfl, nI7, by decide, kw676⟩
theorem P_Model_78 : zFp "AllHomeModel" 78 7 4 .int false := ⟨by decide, "AllHomeModel", nT7, 33, nY7, rfl, nI7, by decide, kw677, nP7, nN7, by decide +kernel, rfl, rfl⟩
theorem F_Model_13 : zFd "AllHomeModel" 13 7 2 := ⟨by decide, "AllHomeModel", nT7, 33, rfl, nI7, by decide, kw675⟩
theorem C_Model_113 : zCV "AllHomeModel" 113 y_Model_isHut prog_9_method_3_code 2 (some .boolean) 1 7 := ⟨kw800, kw802, kp24, kw8, kw803, ⟨by decide +kernel, by decide +kernel, by decide +kernel⟩, by decide, _, rfl, rfl⟩
theorem C_Model_119 : zCV "AllHomeModel" 119 y_Model_lines prog_9_method_9_code 4 (some .int) 1 7 := ⟨kw805, kw807, kp25, kw8, kw808, ⟨by decide +kernel, by decide +kernel, by decide +kernel⟩, by decide, _, rfl, rfl⟩
theorem C_Model_122 : zCV "AllHomeModel" 122 y_Model_inLine prog_9_method_10_code 10 (some .int) 3 7 := ⟨kw809, kw811, kp26, kw8, kw812, ⟨by decide +kernel, by decide +kernel, by decide +kernel⟩, by decide, _, rfl, rfl⟩
theorem F_Model_19 : zFd "AllHomeModel" 19 7 5 := ⟨by decide, "AllHomeModel", nT7, 33, rfl, nI7, by decide, kw678⟩
theorem P_Model_82 : zFp "AllHomeModel" 82 7 6 .int false := ⟨by decide, "AllHomeModel", nT7, 33, nY7, rfl, nI7, by decide, kw679, nP7, nN7, by decide +kernel, rfl, rfl⟩
theorem C_Model_128 : zCV "AllHomeModel" 128 y_Model_isWay prog_9_method_4_code 2 (some .boolean) 1 7 := ⟨kw826, kw828, kp27, kw8, kw829, ⟨by decide +kernel, by decide +kernel, by decide +kernel⟩, by decide, _, rfl, rfl⟩
theorem C_Model_131 : zCS "AllHomeModel" 131 y_Model_above prog_9_method_16_code 1 (some .int) 1 := ⟨kw881, kw882, kw8, kw883, ⟨by decide +kernel, by decide +kernel, by decide +kernel⟩⟩
theorem P_Model_134 : zFp "AllHomeModel" 134 7 10 .int false := ⟨by decide, "AllHomeModel", nT7, 33, nY7, rfl, nI7, by decide, kw683, nP7, nN7, by decide +kernel, rfl, rfl⟩
theorem F_Model_22 : zFd "AllHomeModel" 22 7 7 := ⟨by decide, "AllHomeModel", nT7, 33, rfl, nI7, by decide, kw680⟩
theorem P_Model_137 : zFp "AllHomeModel" 137 7 8 .int false := ⟨by decide, "AllHomeModel", nT7, 33, nY7, rfl, nI7, by decide, kw681, nP7, nN7, by decide +kernel, rfl, rfl⟩
theorem P_Model_140 : zFp "AllHomeModel" 140 7 9 .int false := ⟨by decide, "AllHomeModel", nT7, 33, nY7, rfl, nI7, by decide, kw682, nP7, nN7, by decide +kernel, rfl, rfl⟩
theorem P_Model_143 : zFp "AllHomeModel" 143 7 11 .boolean false := ⟨by decide, "AllHomeModel", nT7, 33, nY7, rfl, nI7, by decide, kw684, nP7, nN7, by decide +kernel, rfl, rfl⟩
theorem C_Model_147 : zCV "AllHomeModel" 147 y_Model_putLast prog_9_method_23_code 6 none 4 7 := ⟨kw884, kw886, kp38, kw8, kw887, ⟨by decide +kernel, by decide +kernel, by decide +kernel⟩, by decide, _, rfl, rfl⟩
theorem F_Model_140 : zFd "AllHomeModel" 140 7 9 := ⟨by decide, "AllHomeModel", nT7, 33, rfl, nI7, by decide, kw682⟩
theorem C_Model_151 : zCV "AllHomeModel" 151 y_Model_add prog_9_method_19_code 4 none 3 7 := ⟨kw874, kw876, kp37, kw8, kw877, ⟨by decide +kernel, by decide +kernel, by decide +kernel⟩, by decide, _, rfl, rfl⟩
theorem F_Model_137 : zFd "AllHomeModel" 137 7 8 := ⟨by decide, "AllHomeModel", nT7, 33, rfl, nI7, by decide, kw681⟩
theorem F_Model_134 : zFd "AllHomeModel" 134 7 10 := ⟨by decide, "AllHomeModel", nT7, 33, rfl, nI7, by decide, kw683⟩
theorem C_Model_159 : zCS "AllHomeModel" 159 y_Model_isUnder prog_9_method_15_code 3 (some .boolean) 2 := ⟨kw878, kw879, kw8, kw880, ⟨by decide +kernel, by decide +kernel, by decide +kernel⟩⟩
theorem C_Model_155 : zCV "AllHomeModel" 155 y_Model_of prog_9_method_18_code 3 (some .int) 2 7 := ⟨kw866, kw868, kp35, kw8, kw869, ⟨by decide +kernel, by decide +kernel, by decide +kernel⟩, by decide, _, rfl, rfl⟩
theorem C_Model_166 : zCV "AllHomeModel" 166 y_Model_become prog_9_method_20_code 4 none 3 7 := ⟨kw888, kw890, kp39, kw8, kw891, ⟨by decide +kernel, by decide +kernel, by decide +kernel⟩, by decide, _, rfl, rfl⟩
theorem C_Model_169 : zCV "AllHomeModel" 169 y_Model_sendNote prog_9_method_25_code 4 none 3 7 := ⟨kw892, kw894, kp40, kw8, kw895, ⟨by decide +kernel, by decide +kernel, by decide +kernel⟩, by decide, _, rfl, rfl⟩
theorem C_Model_162 : zCV "AllHomeModel" 162 y_Model_sendWord prog_9_method_26_code 4 none 2 7 := ⟨kw870, kw872, kp36, kw8, kw873, ⟨by decide +kernel, by decide +kernel, by decide +kernel⟩, by decide, _, rfl, rfl⟩
theorem C_Model_172 : zCV "AllHomeModel" 172 y_Model_words prog_9_method_21_code 1 (some .int) 0 7 := ⟨kw900, kw902, kp42, kw8, kw903, ⟨by decide +kernel, by decide +kernel, by decide +kernel⟩, by decide, _, rfl, rfl⟩
theorem C_Model_176 : zCV "AllHomeModel" 176 y_Model_takeOut prog_9_method_24_code 5 none 2 7 := ⟨kw904, kw906, kp43, kw8, kw907, ⟨by decide +kernel, by decide +kernel, by decide +kernel⟩, by decide, _, rfl, rfl⟩
theorem C_Model_179 : zCV "AllHomeModel" 179 y_Model_notes prog_9_method_22_code 1 (some .int) 0 7 := ⟨kw912, kw914, kp45, kw8, kw915, ⟨by decide +kernel, by decide +kernel, by decide +kernel⟩, by decide, _, rfl, rfl⟩
theorem C_Model_185 : zCV "AllHomeModel" 185 y_Model_sumsAt prog_9_method_31_code 6 none 3 7 := ⟨kw920, kw922, kp47, kw8, kw923, ⟨by decide +kernel, by decide +kernel, by decide +kernel⟩, by decide, _, rfl, rfl⟩
theorem C_Model_182 : zCV "AllHomeModel" 182 y_Model_stoneAt prog_9_method_30_code 5 none 3 7 := ⟨kw916, kw918, kp46, kw8, kw919, ⟨by decide +kernel, by decide +kernel, by decide +kernel⟩, by decide, _, rfl, rfl⟩
theorem C_Model_188 : zCV "AllHomeModel" 188 y_Model_goOn prog_9_method_27_code 4 (some .boolean) 1 7 := ⟨kw862, kw864, kp34, kw8, kw865, ⟨by decide +kernel, by decide +kernel, by decide +kernel⟩, by decide, _, rfl, rfl⟩
theorem C_Model_200 : zCV "AllHomeModel" 200 y_Model_behind prog_9_method_33_code 2 none 0 7 := ⟨kw928, kw930, kp49, kw8, kw931, ⟨by decide +kernel, by decide +kernel, by decide +kernel⟩, by decide, _, rfl, rfl⟩
theorem F_Model_143 : zFd "AllHomeModel" 143 7 11 := ⟨by decide, "AllHomeModel", nT7, 33, rfl, nI7, by decide, kw684⟩
theorem C_Model_191 : zCV "AllHomeModel" 191 y_Model_comes prog_9_method_28_code 5 (some .boolean) 1 7 := ⟨kw896, kw898, kp41, kw8, kw899, ⟨by decide +kernel, by decide +kernel, by decide +kernel⟩, by decide, _, rfl, rfl⟩
theorem C_Model_194 : zCV "AllHomeModel" 194 y_Model_noteComes prog_9_method_29_code 5 (some .boolean) 1 7 := ⟨kw908, kw910, kp44, kw8, kw911, ⟨by decide +kernel, by decide +kernel, by decide +kernel⟩, by decide, _, rfl, rfl⟩
theorem C_Model_197 : zCV "AllHomeModel" 197 y_Model_asks prog_9_method_32_code 2 (some .boolean) 1 7 := ⟨kw924, kw926, kp48, kw8, kw927, ⟨by decide +kernel, by decide +kernel, by decide +kernel⟩, by decide, _, rfl, rfl⟩
theorem F_Model_34 : zFd "AllHomeModel" 34 7 15 := ⟨by decide, "AllHomeModel", nT7, 33, rfl, nI7, by decide, kw688⟩
theorem F_Model_37 : zFd "AllHomeModel" 37 7 16 := ⟨by decide, "AllHomeModel", nT7, 33, rfl, nI7, by decide, kw689⟩
theorem F_Model_25 : zFd "AllHomeModel" 25 7 12 := ⟨by decide, "AllHomeModel", nT7, 33, rfl, nI7, by decide, kw685⟩
theorem F_Model_28 : zFd "AllHomeModel" 28 7 13 := ⟨by decide, "AllHomeModel", nT7, 33, rfl, nI7, by decide, kw686⟩
theorem C_Model_203 : zCV "AllHomeModel" 203 y_Model_begin prog_9_method_17_code 3 none 1 7 := ⟨kw834, kw836, kp28, kw8, kw837, ⟨by decide +kernel, by decide +kernel, by decide +kernel⟩, by decide, _, rfl, rfl⟩
theorem F_Model_40 : zFd "AllHomeModel" 40 7 17 := ⟨by decide, "AllHomeModel", nT7, 33, rfl, nI7, by decide, kw690⟩
theorem F_Model_43 : zFd "AllHomeModel" 43 7 18 := ⟨by decide, "AllHomeModel", nT7, 33, rfl, nI7, by decide, kw691⟩
theorem C_Model_207 : zCV "AllHomeModel" 207 y_Model_keepRun prog_9_method_36_code 3 none 1 7 := ⟨kw838, kw840, kp29, kw8, kw841, ⟨by decide +kernel, by decide +kernel, by decide +kernel⟩, by decide, _, rfl, rfl⟩
theorem P_Model_106 : zFp "AllHomeModel" 106 7 19 .int false := ⟨by decide, "AllHomeModel", nT7, 33, nY7, rfl, nI7, by decide, kw692, nP7, nN7, by decide +kernel, rfl, rfl⟩
theorem C_Model_210 : zCV "AllHomeModel" 210 y_Model_takeRun prog_9_method_37_code 3 none 1 7 := ⟨kw854, kw856, kp32, kw8, kw857, ⟨by decide +kernel, by decide +kernel, by decide +kernel⟩, by decide, _, rfl, rfl⟩
theorem C_Model_213 : zCV "AllHomeModel" 213 y_Model_doStep prog_9_method_34_code 4 (some .int) 2 7 := ⟨kw858, kw860, kp33, kw8, kw861, ⟨by decide +kernel, by decide +kernel, by decide +kernel⟩, by decide, _, rfl, rfl⟩
theorem F_Model_31 : zFd "AllHomeModel" 31 7 14 := ⟨by decide, "AllHomeModel", nT7, 33, rfl, nI7, by decide, kw687⟩
theorem C_Model_216 : zCV "AllHomeModel" 216 y_Model_isOver prog_9_method_35_code 3 (some .boolean) 0 7 := ⟨kw932, kw934, kp50, kw8, kw935, ⟨by decide +kernel, by decide +kernel, by decide +kernel⟩, by decide, _, rfl, rfl⟩
theorem C_Model_220 : zCV "AllHomeModel" 220 y_Model_isRun prog_9_method_39_code 2 (some .boolean) 1 7 := ⟨kw846, kw848, kp30, kw8, kw849, ⟨by decide +kernel, by decide +kernel, by decide +kernel⟩, by decide, _, rfl, rfl⟩
theorem C_Model_223 : zCV "AllHomeModel" 223 y_Model_stepOf prog_9_method_40_code 5 (some .int) 3 7 := ⟨kw850, kw852, kp31, kw8, kw853, ⟨by decide +kernel, by decide +kernel, by decide +kernel⟩, by decide, _, rfl, rfl⟩
theorem C_Model_226 : zCS "AllHomeModel" 226 y_Model_isShelf prog_9_method_68_code 1 (some .boolean) 1 := ⟨kw940, kw941, kw8, kw942, ⟨by decide +kernel, by decide +kernel, by decide +kernel⟩⟩
theorem F_Model_65 : zFd "AllHomeModel" 65 7 29 := ⟨by decide, "AllHomeModel", nT7, 33, rfl, nI7, by decide, kw702⟩
theorem F_Model_71 : zFd "AllHomeModel" 71 7 31 := ⟨by decide, "AllHomeModel", nT7, 33, rfl, nI7, by decide, kw704⟩
theorem F_Model_68 : zFd "AllHomeModel" 68 7 30 := ⟨by decide, "AllHomeModel", nT7, 33, rfl, nI7, by decide, kw703⟩
theorem F_Model_46 : zFd "AllHomeModel" 46 7 20 := ⟨by decide, "AllHomeModel", nT7, 33, rfl, nI7, by decide, kw693⟩
theorem F_Model_234 : zFd "AllHomeModel" 234 7 25 := ⟨by decide, "AllHomeModel", nT7, 33, rfl, nI7, by decide, kw698⟩
theorem F_Model_49 : zFd "AllHomeModel" 49 7 21 := ⟨by decide, "AllHomeModel", nT7, 33, rfl, nI7, by decide, kw694⟩
theorem F_Model_52 : zFd "AllHomeModel" 52 7 22 := ⟨by decide, "AllHomeModel", nT7, 33, rfl, nI7, by decide, kw695⟩
theorem P_Model_234 : zFp "AllHomeModel" 234 7 25 .int false := ⟨by decide, "AllHomeModel", nT7, 33, nY7, rfl, nI7, by decide, kw698, nP7, nN7, by decide +kernel, rfl, rfl⟩
theorem C_Model_237 : zCV "AllHomeModel" 237 y_Model_bringBack prog_9_method_48_code 3 none 1 7 := ⟨kw987, kw989, kp55, kw8, kw990, ⟨by decide +kernel, by decide +kernel, by decide +kernel⟩, by decide, _, rfl, rfl⟩
theorem C_Model_240 : zCV "AllHomeModel" 240 y_Model_findState prog_9_method_49_code 4 (some .int) 0 7 := ⟨kw991, kw993, kp56, kw8, kw994, ⟨by decide +kernel, by decide +kernel, by decide +kernel⟩, by decide, _, rfl, rfl⟩
theorem F_Model_59 : zFd "AllHomeModel" 59 7 24 := ⟨by decide, "AllHomeModel", nT7, 33, rfl, nI7, by decide, kw697⟩
theorem C_Model_243 : zCV "AllHomeModel" 243 y_Model_keepState prog_9_method_50_code 4 none 2 7 := ⟨kw979, kw981, kp53, kw8, kw982, ⟨by decide +kernel, by decide +kernel, by decide +kernel⟩, by decide, _, rfl, rfl⟩
theorem C_Model_246 : zCV "AllHomeModel" 246 y_Model_goFrom prog_9_method_51_code 4 none 1 7 := ⟨kw983, kw985, kp54, kw8, kw986, ⟨by decide +kernel, by decide +kernel, by decide +kernel⟩, by decide, _, rfl, rfl⟩
theorem C_Model_249 : zCV "AllHomeModel" 249 y_Model_findAll prog_9_method_52_code 3 (some .int) 1 7 := ⟨kw975, kw977, kp52, kw8, kw978, ⟨by decide +kernel, by decide +kernel, by decide +kernel⟩, by decide, _, rfl, rfl⟩
theorem C_Model_252 : zCV "AllHomeModel" 252 y_Model_noOrders prog_9_method_53_code 2 (some .int) 1 7 := ⟨kw971, kw973, kp51, kw8, kw974, ⟨by decide +kernel, by decide +kernel, by decide +kernel⟩, by decide, _, rfl, rfl⟩
theorem C_Model_255 : zCV "AllHomeModel" 255 y_Model_stepsTo prog_9_method_55_code 4 (some .int) 1 7 := ⟨kw999, kw1001, kp57, kw8, kw1002, ⟨by decide +kernel, by decide +kernel, by decide +kernel⟩, by decide, _, rfl, rfl⟩
theorem F_Model_55 : zFd "AllHomeModel" 55 7 23 := ⟨by decide, "AllHomeModel", nT7, 33, rfl, nI7, by decide, kw696⟩
theorem C_Model_258 : zCV "AllHomeModel" 258 y_Model_worksAlike prog_9_method_58_code 8 (some .boolean) 2 7 := ⟨kw1015, kw1017, kp59, kw8, kw1018, ⟨by decide +kernel, by decide +kernel, by decide +kernel⟩, by decide, _, rfl, rfl⟩
theorem C_Model_261 : zCV "AllHomeModel" 261 y_Model_workMany prog_9_method_59_code 5 (some .int) 0 7 := ⟨kw1011, kw1013, kp58, kw8, kw1014, ⟨by decide +kernel, by decide +kernel, by decide +kernel⟩, by decide, _, rfl, rfl⟩
theorem F_Model_264 : zFd "AllHomeModel" 264 7 27 := ⟨by decide, "AllHomeModel", nT7, 33, rfl, nI7, by decide, kw700⟩
theorem P_Model_264 : zFp "AllHomeModel" 264 7 27 .int false := ⟨by decide, "AllHomeModel", nT7, 33, nY7, rfl, nI7, by decide, kw700, nP7, nN7, by decide +kernel, rfl, rfl⟩
theorem F_Model_62 : zFd "AllHomeModel" 62 7 26 := ⟨by decide, "AllHomeModel", nT7, 33, rfl, nI7, by decide, kw699⟩
theorem C_Model_267 : zCV "AllHomeModel" 267 y_Model_ranBody prog_9_method_61_code 2 none 1 7 := ⟨kw1028, kw1030, kp61, kw8, kw1031, ⟨by decide +kernel, by decide +kernel, by decide +kernel⟩, by decide, _, rfl, rfl⟩
theorem F_Model_270 : zFd "AllHomeModel" 270 7 28 := ⟨by decide, "AllHomeModel", nT7, 33, rfl, nI7, by decide, kw701⟩
theorem C_Model_273 : zCV "AllHomeModel" 273 y_Model_sends prog_9_method_62_code 3 (some .int) 2 7 := ⟨kw1024, kw1026, kp60, kw8, kw1027, ⟨by decide +kernel, by decide +kernel, by decide +kernel⟩, by decide, _, rfl, rfl⟩
theorem C_Model_276 : zCV "AllHomeModel" 276 y_Model_asksOf prog_9_method_63_code 4 (some .int) 2 7 := ⟨kw1032, kw1034, kp62, kw8, kw1035, ⟨by decide +kernel, by decide +kernel, by decide +kernel⟩, by decide, _, rfl, rfl⟩
theorem C_Model_279 : zCV "AllHomeModel" 279 y_Model_owes prog_9_method_64_code 4 (some .int) 2 7 := ⟨kw1036, kw1038, kp63, kw8, kw1039, ⟨by decide +kernel, by decide +kernel, by decide +kernel⟩, by decide, _, rfl, rfl⟩
theorem C_Model_282 : zCV "AllHomeModel" 282 y_Model_tells prog_9_method_65_code 4 (some .int) 2 7 := ⟨kw1040, kw1042, kp64, kw8, kw1043, ⟨by decide +kernel, by decide +kernel, by decide +kernel⟩, by decide, _, rfl, rfl⟩
theorem P_Model_270 : zFp "AllHomeModel" 270 7 28 .int false := ⟨by decide, "AllHomeModel", nT7, 33, nY7, rfl, nI7, by decide, kw701, nP7, nN7, by decide +kernel, rfl, rfl⟩
theorem C_Model_289 : zCV "AllHomeModel" 289 y_Model_refusal prog_9_method_71_code 3 (some .int) 2 7 := ⟨kw1060, kw1062, kp65, kw8, kw1063, ⟨by decide +kernel, by decide +kernel, by decide +kernel⟩, by decide, _, rfl, rfl⟩
theorem C_Model_292 : zCS "AllHomeModel" 292 y_Model_asSort prog_9_method_72_code 3 (some .long) 2 := ⟨kw1064, kw1065, kw8, kw1066, ⟨by decide +kernel, by decide +kernel, by decide +kernel⟩⟩
theorem F_Model_75 : zFd "AllHomeModel" 75 7 32 := ⟨by decide, "AllHomeModel", nT7, 33, rfl, nI7, by decide, kw705⟩
