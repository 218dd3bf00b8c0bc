/-! names of the methods, words of the tables, facts on fields and calls: by program -/
def y_Huts_init : MethodName := ⟨"AllHome$Huts", "<init>", "()V"⟩
def y_Rules_init : MethodName := ⟨"AllHome$Rules", "<init>", "(LAllHome$Huts;)V"⟩
def y_Orders_init : MethodName := ⟨"AllHome$Orders", "<init>", "(LAllHome$Huts;)V"⟩
def y_Acts_init : MethodName := ⟨"AllHome$Acts", "<init>", "()V"⟩
def y_Run_init : MethodName := ⟨"AllHome$Run", "<init>", "(LAllHome$Huts;)V"⟩
def y_Shelf_init : MethodName := ⟨"AllHome$Shelf", "<init>", "()V"⟩
def y_Home_init : MethodName := ⟨"AllHome", "<init>", "()V"⟩
def y_Home_feed : MethodName := ⟨"AllHome", "feed", "(II)I"⟩
def y_Huts_size : MethodName := ⟨"AllHome$Huts", "size", "()I"⟩
def y_Huts_addWords : MethodName := ⟨"AllHome$Huts", "addWords", "(III)I"⟩
def y_Huts_read : MethodName := ⟨"AllHome$Huts", "read", "([II)I"⟩
def y_Orders_forget : MethodName := ⟨"AllHome$Orders", "forget", "()V"⟩
def y_Home_hut : MethodName := ⟨"AllHome", "hut", "()I"⟩
def y_Huts_has : MethodName := ⟨"AllHome$Huts", "has", "(I)Z"⟩
def y_Huts_linesOf : MethodName := ⟨"AllHome$Huts", "linesOf", "(I)I"⟩
def y_Huts_wordsOf : MethodName := ⟨"AllHome$Huts", "wordsOf", "(II)I"⟩
def y_Home_line : MethodName := ⟨"AllHome", "line", "(II)I"⟩
def y_Huts_goal : MethodName := ⟨"AllHome$Huts", "goal", "(III)I"⟩
def y_Home_goesTo : MethodName := ⟨"AllHome", "goesTo", "(III)I"⟩
def y_Home_isKind : MethodName := ⟨"AllHome", "isKind", "(I)Z"⟩
def y_Home_way : MethodName := ⟨"AllHome", "way", "(I)I"⟩
def y_Home_isWay : MethodName := ⟨"AllHome", "isWay", "(I)Z"⟩
def y_Home_kindOf : MethodName := ⟨"AllHome", "kindOf", "(I)I"⟩
def y_Fill_I : MethodName := ⟨"java/util/Arrays", "fill", "([II)V"⟩
def y_Rules_begin : MethodName := ⟨"AllHome$Rules", "begin", "([II)V"⟩
def y_Run_begin : MethodName := ⟨"AllHome$Run", "begin", "(II)V"⟩
def y_Home_run : MethodName := ⟨"AllHome", "run", "(I)I"⟩
def y_Home_isRun : MethodName := ⟨"AllHome", "isRun", "(I)Z"⟩
def y_Rules_partUnits : MethodName := ⟨"AllHome$Rules", "partUnits", "([II)I"⟩
def y_Rules_send : MethodName := ⟨"AllHome$Rules", "send", "([III)I"⟩
def y_Rules_sendNote : MethodName := ⟨"AllHome$Rules", "sendNote", "([IIII)I"⟩
def y_Rules_goOn : MethodName := ⟨"AllHome$Rules", "goOn", "([II)I"⟩
def y_Rules_closeGap : MethodName := ⟨"AllHome$Rules", "closeGap", "([III)V"⟩
def y_Rules_takeAwayWord : MethodName := ⟨"AllHome$Rules", "takeAwayWord", "([II)V"⟩
def y_Rules_joinTree : MethodName := ⟨"AllHome$Rules", "joinTree", "([III)I"⟩
def y_Rules_comeWord : MethodName := ⟨"AllHome$Rules", "comeWord", "([II)I"⟩
def y_Rules_takeStone : MethodName := ⟨"AllHome$Rules", "takeStone", "([IIII)I"⟩
def y_Rules_takeSums : MethodName := ⟨"AllHome$Rules", "takeSums", "([IIII)I"⟩
def y_Rules_comeNote : MethodName := ⟨"AllHome$Rules", "comeNote", "([II)I"⟩
def y_Home_isUnder : MethodName := ⟨"AllHome", "isUnder", "(II)Z"⟩
def y_Rules_ask : MethodName := ⟨"AllHome$Rules", "ask", "([II)I"⟩
def y_Rules_lose : MethodName := ⟨"AllHome$Rules", "lose", "([II)I"⟩
def y_Rules_leaveTree : MethodName := ⟨"AllHome$Rules", "leaveTree", "([I)I"⟩
def y_Rules_seesAllHome : MethodName := ⟨"AllHome$Rules", "seesAllHome", "([I)Z"⟩
def y_Rules_apply : MethodName := ⟨"AllHome$Rules", "apply", "([III)I"⟩
def y_Home_isOver : MethodName := ⟨"AllHome", "isOver", "([I)Z"⟩
def y_Run_advance : MethodName := ⟨"AllHome$Run", "advance", "([III)I"⟩
def y_Home_step : MethodName := ⟨"AllHome", "step", "(III)I"⟩
def y_Home_isShelf : MethodName := ⟨"AllHome", "isShelf", "(I)Z"⟩
def y_Shelf_isEmpty : MethodName := ⟨"AllHome$Shelf", "isEmpty", "()Z"⟩
def y_Shelf_isRowOf : MethodName := ⟨"AllHome$Shelf", "isRowOf", "(I)Z"⟩
def y_Shelf_hasPlace : MethodName := ⟨"AllHome$Shelf", "hasPlace", "(I)Z"⟩
def y_Shelf_at : MethodName := ⟨"AllHome$Shelf", "at", "(I)J"⟩
def y_Home_steps : MethodName := ⟨"AllHome", "steps", "(IIII)I"⟩
def y_Run_hutsAwake : MethodName := ⟨"AllHome$Run", "hutsAwake", "()I"⟩
def y_Run_tell : MethodName := ⟨"AllHome$Run", "tell", "(I)I"⟩
def y_Home_ofRun : MethodName := ⟨"AllHome", "ofRun", "(II)I"⟩
def y_Rules_family : MethodName := ⟨"AllHome$Rules", "family", "()I"⟩
def y_Run_family : MethodName := ⟨"AllHome$Run", "family", "()I"⟩
def y_Run_cell : MethodName := ⟨"AllHome$Run", "cell", "(I)I"⟩
def y_Home_ofHut : MethodName := ⟨"AllHome", "ofHut", "(III)I"⟩
def y_Home_word : MethodName := ⟨"AllHome", "word", "(III)I"⟩
def y_Home_note : MethodName := ⟨"AllHome", "note", "(III)I"⟩
def y_Home_total : MethodName := ⟨"AllHome", "total", "(I)I"⟩
def y_Orders_printOf : MethodName := ⟨"AllHome$Orders", "printOf", "([I)I"⟩
def y_Orders_addSpare : MethodName := ⟨"AllHome$Orders", "addSpare", "(II)I"⟩
def y_Orders_numbersOf : MethodName := ⟨"AllHome$Orders", "numbersOf", "([II)I"⟩
def y_Orders_alike : MethodName := ⟨"AllHome$Orders", "alike", "([I[II)Z"⟩
def y_Orders_findSpare : MethodName := ⟨"AllHome$Orders", "findSpare", "()I"⟩
def y_Orders_tryStep : MethodName := ⟨"AllHome$Orders", "tryStep", "(III)V"⟩
def y_Orders_explore : MethodName := ⟨"AllHome$Orders", "explore", "(I)V"⟩
def y_Orders_isBig : MethodName := ⟨"AllHome$Orders", "isBig", "()Z"⟩
def y_Home_goThrough : MethodName := ⟨"AllHome", "goThrough", "(I)I"⟩
def y_Orders_size : MethodName := ⟨"AllHome$Orders", "size", "()I"⟩
def y_Home_states : MethodName := ⟨"AllHome", "states", "(I)I"⟩
def y_Orders_firstSaying : MethodName := ⟨"AllHome$Orders", "firstSaying", "(Z)I"⟩
def y_Orders_early : MethodName := ⟨"AllHome$Orders", "early", "()I"⟩
def y_Orders_soon : MethodName := ⟨"AllHome$Orders", "soon", "()I"⟩
def y_Orders_stepsTo : MethodName := ⟨"AllHome$Orders", "stepsTo", "(I)I"⟩
def y_Orders_stepOnTheWayTo : MethodName := ⟨"AllHome$Orders", "stepOnTheWayTo", "(II)I"⟩
def y_Home_least : MethodName := ⟨"AllHome", "least", "(III)I"⟩
def y_Orders_spreadCanSay : MethodName := ⟨"AllHome$Orders", "spreadCanSay", "()Z"⟩
def y_Orders_stuckStates : MethodName := ⟨"AllHome$Orders", "stuckStates", "()I"⟩
def y_Home_stuck : MethodName := ⟨"AllHome", "stuck", "(I)I"⟩
def y_Orders_unlikeWorks : MethodName := ⟨"AllHome$Orders", "unlikeWorks", "()I"⟩
def y_Home_work : MethodName := ⟨"AllHome", "work", "(II)I"⟩
def y_Acts_clear : MethodName := ⟨"AllHome$Acts", "clear", "()V"⟩
def y_Acts_bodyOf : MethodName := ⟨"AllHome$Acts", "bodyOf", "(II)I"⟩
def y_Acts_begun : MethodName := ⟨"AllHome$Acts", "begun", "(I)V"⟩
def y_Acts_perform : MethodName := ⟨"AllHome$Acts", "perform", "(IIII)I"⟩
def y_Acts_begin : MethodName := ⟨"AllHome$Acts", "begin", "(IIII)I"⟩
def y_Home_act : MethodName := ⟨"AllHome", "act", "(III)I"⟩
def y_Acts_traced : MethodName := ⟨"AllHome$Acts", "traced", "(I)I"⟩
def y_Home_trace : MethodName := ⟨"AllHome", "trace", "(I)I"⟩
def y_Shelf_holdWay : MethodName := ⟨"AllHome$Shelf", "holdWay", "(I)V"⟩
def y_Home_keep : MethodName := ⟨"AllHome", "keep", "(II)I"⟩
def y_Fill_J : MethodName := ⟨"java/util/Arrays", "fill", "([JJ)V"⟩
def y_Shelf_holdRow : MethodName := ⟨"AllHome$Shelf", "holdRow", "(II)V"⟩
def y_Home_row : MethodName := ⟨"AllHome", "row", "(III)I"⟩
def y_Shelf_isRow : MethodName := ⟨"AllHome$Shelf", "isRow", "()Z"⟩
def y_Home_wantPlace : MethodName := ⟨"AllHome", "wantPlace", "(II)I"⟩
def y_Shelf_lowestBits : MethodName := ⟨"AllHome$Shelf", "lowestBits", "(J)J"⟩
def y_Shelf_set : MethodName := ⟨"AllHome$Shelf", "set", "(IJ)V"⟩
def y_Home_put : MethodName := ⟨"AllHome", "put", "(IIJ)I"⟩
def y_Home_element : MethodName := ⟨"AllHome", "element", "(II)J"⟩
def y_Shelf_sort : MethodName := ⟨"AllHome$Shelf", "sort", "()I"⟩
def y_Shelf_hasPlaces : MethodName := ⟨"AllHome$Shelf", "hasPlaces", "(II)Z"⟩
def y_Shelf_copyTo : MethodName := ⟨"AllHome$Shelf", "copyTo", "(ILAllHome$Shelf;II)V"⟩
def y_Home_shift : MethodName := ⟨"AllHome", "shift", "(IIIII)I"⟩
def y_Shelf_heldWay : MethodName := ⟨"AllHome$Shelf", "heldWay", "()I"⟩
def y_Home_taken : MethodName := ⟨"AllHome", "taken", "(II)I"⟩
def y_Acts_ran : MethodName := ⟨"AllHome$Acts", "ran", "()I"⟩
def y_Home_count : MethodName := ⟨"AllHome", "count", "(I)I"⟩
def y_Model_init : MethodName := ⟨"AllHomeModel", "<init>", "()V"⟩
def y_Model_within : MethodName := ⟨"AllHomeModel", "within", "(JJJ)Z"⟩
def y_Model_isHut : MethodName := ⟨"AllHomeModel", "isHut", "(I)Z"⟩
def y_Model_isWay : MethodName := ⟨"AllHomeModel", "isWay", "(I)Z"⟩
def y_Model_feed : MethodName := ⟨"AllHomeModel", "feed", "(II)I"⟩
def y_Model_isOther : MethodName := ⟨"AllHomeModel", "isOther", "(II)Z"⟩
def y_Model_faultOf : MethodName := ⟨"AllHomeModel", "faultOf", "(I)I"⟩
def y_Model_hut : MethodName := ⟨"AllHomeModel", "hut", "()I"⟩
def y_Model_lines : MethodName := ⟨"AllHomeModel", "lines", "(I)I"⟩
def y_Model_inLine : MethodName := ⟨"AllHomeModel", "inLine", "(III)I"⟩
def y_Model_line : MethodName := ⟨"AllHomeModel", "line", "(II)I"⟩
def y_Model_goesTo : MethodName := ⟨"AllHomeModel", "goesTo", "(III)I"⟩
def y_Model_way : MethodName := ⟨"AllHomeModel", "way", "(I)I"⟩
def y_Model_kindOf : MethodName := ⟨"AllHomeModel", "kindOf", "(I)I"⟩
def y_Model_above : MethodName := ⟨"AllHomeModel", "above", "(I)I"⟩
def y_Model_isUnder : MethodName := ⟨"AllHomeModel", "isUnder", "(II)Z"⟩
def y_Model_begin : MethodName := ⟨"AllHomeModel", "begin", "(I)V"⟩
def y_Model_of : MethodName := ⟨"AllHomeModel", "of", "(II)I"⟩
def y_Model_add : MethodName := ⟨"AllHomeModel", "add", "(III)V"⟩
def y_Model_become : MethodName := ⟨"AllHomeModel", "become", "(III)V"⟩
def y_Model_words : MethodName := ⟨"AllHomeModel", "words", "()I"⟩
def y_Model_notes : MethodName := ⟨"AllHomeModel", "notes", "()I"⟩
def y_Model_putLast : MethodName := ⟨"AllHomeModel", "putLast", "(IIII)V"⟩
def y_Model_takeOut : MethodName := ⟨"AllHomeModel", "takeOut", "(II)V"⟩
def y_Model_sendNote : MethodName := ⟨"AllHomeModel", "sendNote", "(III)V"⟩
def y_Model_sendWord : MethodName := ⟨"AllHomeModel", "sendWord", "(II)V"⟩
def y_Model_goOn : MethodName := ⟨"AllHomeModel", "goOn", "(I)Z"⟩
def y_Model_comes : MethodName := ⟨"AllHomeModel", "comes", "(I)Z"⟩
def y_Model_stoneAt : MethodName := ⟨"AllHomeModel", "stoneAt", "(III)V"⟩
def y_Model_sumsAt : MethodName := ⟨"AllHomeModel", "sumsAt", "(III)V"⟩
def y_Model_noteComes : MethodName := ⟨"AllHomeModel", "noteComes", "(I)Z"⟩
def y_Model_asks : MethodName := ⟨"AllHomeModel", "asks", "(I)Z"⟩
def y_Model_behind : MethodName := ⟨"AllHomeModel", "behind", "()V"⟩
def y_Model_doStep : MethodName := ⟨"AllHomeModel", "doStep", "(II)I"⟩
def y_Model_isOver : MethodName := ⟨"AllHomeModel", "isOver", "()Z"⟩
def y_Model_keepRun : MethodName := ⟨"AllHomeModel", "keepRun", "(I)V"⟩
def y_Model_takeRun : MethodName := ⟨"AllHomeModel", "takeRun", "(I)V"⟩
def y_Model_run : MethodName := ⟨"AllHomeModel", "run", "(I)I"⟩
def y_Model_isRun : MethodName := ⟨"AllHomeModel", "isRun", "(I)Z"⟩
def y_Model_stepOf : MethodName := ⟨"AllHomeModel", "stepOf", "(III)I"⟩
def y_Model_step : MethodName := ⟨"AllHomeModel", "step", "(III)I"⟩
def y_Model_isShelf : MethodName := ⟨"AllHomeModel", "isShelf", "(I)Z"⟩
def y_Model_steps : MethodName := ⟨"AllHomeModel", "steps", "(IIII)I"⟩
def y_Model_ofRun : MethodName := ⟨"AllHomeModel", "ofRun", "(II)I"⟩
def y_Model_ofHut : MethodName := ⟨"AllHomeModel", "ofHut", "(III)I"⟩
def y_Model_word : MethodName := ⟨"AllHomeModel", "word", "(III)I"⟩
def y_Model_note : MethodName := ⟨"AllHomeModel", "note", "(III)I"⟩
def y_Model_total : MethodName := ⟨"AllHomeModel", "total", "(I)I"⟩
def y_Model_bringBack : MethodName := ⟨"AllHomeModel", "bringBack", "(I)V"⟩
def y_Model_findState : MethodName := ⟨"AllHomeModel", "findState", "()I"⟩
def y_Model_keepState : MethodName := ⟨"AllHomeModel", "keepState", "(II)V"⟩
def y_Model_goFrom : MethodName := ⟨"AllHomeModel", "goFrom", "(I)V"⟩
def y_Model_findAll : MethodName := ⟨"AllHomeModel", "findAll", "(I)I"⟩
def y_Model_noOrders : MethodName := ⟨"AllHomeModel", "noOrders", "(I)I"⟩
def y_Model_states : MethodName := ⟨"AllHomeModel", "states", "(I)I"⟩
def y_Model_stepsTo : MethodName := ⟨"AllHomeModel", "stepsTo", "(I)I"⟩
def y_Model_least : MethodName := ⟨"AllHomeModel", "least", "(III)I"⟩
def y_Model_stuck : MethodName := ⟨"AllHomeModel", "stuck", "(I)I"⟩
def y_Model_worksAlike : MethodName := ⟨"AllHomeModel", "worksAlike", "(II)Z"⟩
def y_Model_workMany : MethodName := ⟨"AllHomeModel", "workMany", "()I"⟩
def y_Model_work : MethodName := ⟨"AllHomeModel", "work", "(II)I"⟩
def y_Model_ranBody : MethodName := ⟨"AllHomeModel", "ranBody", "(I)V"⟩
def y_Model_sends : MethodName := ⟨"AllHomeModel", "sends", "(II)I"⟩
def y_Model_asksOf : MethodName := ⟨"AllHomeModel", "asksOf", "(II)I"⟩
def y_Model_owes : MethodName := ⟨"AllHomeModel", "owes", "(II)I"⟩
def y_Model_tells : MethodName := ⟨"AllHomeModel", "tells", "(II)I"⟩
def y_Model_act : MethodName := ⟨"AllHomeModel", "act", "(III)I"⟩
def y_Model_trace : MethodName := ⟨"AllHomeModel", "trace", "(I)I"⟩
def y_Model_keep : MethodName := ⟨"AllHomeModel", "keep", "(II)I"⟩
def y_Model_row : MethodName := ⟨"AllHomeModel", "row", "(III)I"⟩
def y_Model_refusal : MethodName := ⟨"AllHomeModel", "refusal", "(II)I"⟩
def y_Model_asSort : MethodName := ⟨"AllHomeModel", "asSort", "(IJ)J"⟩
def y_Model_put : MethodName := ⟨"AllHomeModel", "put", "(IIJ)I"⟩
def y_Model_element : MethodName := ⟨"AllHomeModel", "element", "(II)J"⟩
def y_Model_shift : MethodName := ⟨"AllHomeModel", "shift", "(IIIII)I"⟩
def y_Model_taken : MethodName := ⟨"AllHomeModel", "taken", "(II)I"⟩
def y_Model_count : MethodName := ⟨"AllHomeModel", "count", "(I)I"⟩
theorem kw178 : (Jvm.Cond.fieldLink "AllHome" (59 : Nat) "AllHome" "tapeLength" "I") ∈ zTb := zTb_in (List.mem_of_getElem? (i := 244) (by decide +kernel)) (by decide +kernel)
theorem kw177 : (Jvm.Cond.fieldLink "AllHome" (9 : Nat) "AllHome" "tape" "[I") ∈ zTb := zTb_in (List.mem_of_getElem? (i := 243) (by decide +kernel)) (by decide +kernel)
theorem kw31 : (Jvm.Cond.fieldLink "AllHome$Huts" (23 : Nat) "AllHome$Huts" "size" "I") ∈ zTb := zTb_in (List.mem_of_getElem? (i := 97) (by decide +kernel)) (by decide +kernel)
theorem kw234 : (Jvm.Cond.methodLink "AllHome$Huts" (35 : Nat) ({ cls := "java/lang/Math", name := "min", desc := "(II)I" } : Jvm.MethodName)) ∈ zTb := zTb_in (List.mem_of_getElem? (i := 300) (by decide +kernel)) (by decide +kernel)
theorem kw235 : (Jvm.Cond.static ({ cls := "java/lang/Math", name := "min", desc := "(II)I" } : Jvm.MethodName)) ∈ zTb := zTb_in (List.mem_of_getElem? (i := 301) (by decide +kernel)) (by decide +kernel)
theorem kw9 : (Jvm.Cond.initialized "java/lang/Math") ∈ zTb := zTb_in (List.mem_of_getElem? (i := 75) (by decide +kernel)) (by decide +kernel)
theorem kw236 : (Jvm.Cond.code ({ cls := "java/lang/Math", name := "min", desc := "(II)I" } : Jvm.MethodName) prog_10_method_69_code (2 : Nat) (Option.some Jvm.ClassFile.FieldType.int)) ∈ zTb := zTb_in (List.mem_of_getElem? (i := 302) (by decide +kernel)) (by decide +kernel)
theorem kw28 : (Jvm.Cond.fieldLink "AllHome$Huts" (13 : Nat) "AllHome$Huts" "goals" "[[I") ∈ zTb := zTb_in (List.mem_of_getElem? (i := 94) (by decide +kernel)) (by decide +kernel)
theorem kw29 : (Jvm.Cond.fieldLink "AllHome$Huts" (16 : Nat) "AllHome$Huts" "starts" "[[I") ∈ zTb := zTb_in (List.mem_of_getElem? (i := 95) (by decide +kernel)) (by decide +kernel)
theorem kw30 : (Jvm.Cond.fieldLink "AllHome$Huts" (19 : Nat) "AllHome$Huts" "lines" "[I") ∈ zTb := zTb_in (List.mem_of_getElem? (i := 96) (by decide +kernel)) (by decide +kernel)
theorem kp0 : Cond.selects "AllHome$Huts" ⟨"AllHome$Huts", "addWords", "(III)I"⟩ ⟨"AllHome$Huts", "addWords", "(III)I"⟩ ∈ zTb := zTb_in (List.mem_of_getElem? (i := 0) (by decide +kernel)) (by decide +kernel)
theorem kw230 : (Jvm.Cond.methodLink "AllHome$Huts" (31 : Nat) ({ cls := "AllHome$Huts", name := "addWords", desc := "(III)I" } : Jvm.MethodName)) ∈ zTb := zTb_in (List.mem_of_getElem? (i := 296) (by decide +kernel)) (by decide +kernel)
theorem kw232 : (Jvm.Cond.instanceMethod ({ cls := "AllHome$Huts", name := "addWords", desc := "(III)I" } : Jvm.MethodName)) ∈ zTb := zTb_in (List.mem_of_getElem? (i := 298) (by decide +kernel)) (by decide +kernel)
theorem kw2 : (Jvm.Cond.initialized "AllHome$Huts") ∈ zTb := zTb_in (List.mem_of_getElem? (i := 68) (by decide +kernel)) (by decide +kernel)
theorem kw233 : (Jvm.Cond.code ({ cls := "AllHome$Huts", name := "addWords", desc := "(III)I" } : Jvm.MethodName) prog_3_method_8_code (5 : Nat) (Option.some Jvm.ClassFile.FieldType.int)) ∈ zTb := zTb_in (List.mem_of_getElem? (i := 299) (by decide +kernel)) (by decide +kernel)
theorem kw81 : (Jvm.Cond.fieldLink "AllHome$Orders" (42 : Nat) "AllHome$Orders" "explored" "I") ∈ zTb := zTb_in (List.mem_of_getElem? (i := 147) (by decide +kernel)) (by decide +kernel)
theorem kw183 : (Jvm.Cond.fieldLink "AllHome" (63 : Nat) "AllHome" "runsBegun" "I") ∈ zTb := zTb_in (List.mem_of_getElem? (i := 249) (by decide +kernel)) (by decide +kernel)
theorem kw179 : (Jvm.Cond.fieldLink "AllHome" (16 : Nat) "AllHome" "huts" "LAllHome$Huts;") ∈ zTb := zTb_in (List.mem_of_getElem? (i := 245) (by decide +kernel)) (by decide +kernel)
theorem kw224 : (Jvm.Cond.selects "AllHome$Huts" ({ cls := "AllHome$Huts", name := "size", desc := "()I" } : Jvm.MethodName) ({ cls := "AllHome$Huts", name := "size", desc := "()I" } : Jvm.MethodName)) ∈ zTb := zTb_in (List.mem_of_getElem? (i := 290) (by decide +kernel)) (by decide +kernel)
theorem kw222 : (Jvm.Cond.methodLink "AllHome" (66 : Nat) ({ cls := "AllHome$Huts", name := "size", desc := "()I" } : Jvm.MethodName)) ∈ zTb := zTb_in (List.mem_of_getElem? (i := 288) (by decide +kernel)) (by decide +kernel)
theorem kw223 : (Jvm.Cond.instanceMethod ({ cls := "AllHome$Huts", name := "size", desc := "()I" } : Jvm.MethodName)) ∈ zTb := zTb_in (List.mem_of_getElem? (i := 289) (by decide +kernel)) (by decide +kernel)
theorem kw225 : (Jvm.Cond.code ({ cls := "AllHome$Huts", name := "size", desc := "()I" } : Jvm.MethodName) prog_3_method_2_code (1 : Nat) (Option.some Jvm.ClassFile.FieldType.int)) ∈ zTb := zTb_in (List.mem_of_getElem? (i := 291) (by decide +kernel)) (by decide +kernel)
theorem kw228 : (Jvm.Cond.selects "AllHome$Huts" ({ cls := "AllHome$Huts", name := "read", desc := "([II)I" } : Jvm.MethodName) ({ cls := "AllHome$Huts", name := "read", desc := "([II)I" } : Jvm.MethodName)) ∈ zTb := zTb_in (List.mem_of_getElem? (i := 294) (by decide +kernel)) (by decide +kernel)
theorem kw226 : (Jvm.Cond.methodLink "AllHome" (70 : Nat) ({ cls := "AllHome$Huts", name := "read", desc := "([II)I" } : Jvm.MethodName)) ∈ zTb := zTb_in (List.mem_of_getElem? (i := 292) (by decide +kernel)) (by decide +kernel)
theorem kw227 : (Jvm.Cond.instanceMethod ({ cls := "AllHome$Huts", name := "read", desc := "([II)I" } : Jvm.MethodName)) ∈ zTb := zTb_in (List.mem_of_getElem? (i := 293) (by decide +kernel)) (by decide +kernel)
theorem kw229 : (Jvm.Cond.code ({ cls := "AllHome$Huts", name := "read", desc := "([II)I" } : Jvm.MethodName) prog_3_method_7_code (9 : Nat) (Option.some Jvm.ClassFile.FieldType.int)) ∈ zTb := zTb_in (List.mem_of_getElem? (i := 295) (by decide +kernel)) (by decide +kernel)
theorem kw185 : (Jvm.Cond.fieldLink "AllHome" (37 : Nat) "AllHome" "orders" "LAllHome$Orders;") ∈ zTb := zTb_in (List.mem_of_getElem? (i := 251) (by decide +kernel)) (by decide +kernel)
theorem kw239 : (Jvm.Cond.selects "AllHome$Orders" ({ cls := "AllHome$Orders", name := "forget", desc := "()V" } : Jvm.MethodName) ({ cls := "AllHome$Orders", name := "forget", desc := "()V" } : Jvm.MethodName)) ∈ zTb := zTb_in (List.mem_of_getElem? (i := 305) (by decide +kernel)) (by decide +kernel)
theorem kw237 : (Jvm.Cond.methodLink "AllHome" (74 : Nat) ({ cls := "AllHome$Orders", name := "forget", desc := "()V" } : Jvm.MethodName)) ∈ zTb := zTb_in (List.mem_of_getElem? (i := 303) (by decide +kernel)) (by decide +kernel)
theorem kw238 : (Jvm.Cond.instanceMethod ({ cls := "AllHome$Orders", name := "forget", desc := "()V" } : Jvm.MethodName)) ∈ zTb := zTb_in (List.mem_of_getElem? (i := 304) (by decide +kernel)) (by decide +kernel)
theorem kw3 : (Jvm.Cond.initialized "AllHome$Orders") ∈ zTb := zTb_in (List.mem_of_getElem? (i := 69) (by decide +kernel)) (by decide +kernel)
theorem kw240 : (Jvm.Cond.code ({ cls := "AllHome$Orders", name := "forget", desc := "()V" } : Jvm.MethodName) prog_4_method_2_code (1 : Nat) (Option.none : Option Jvm.ClassFile.FieldType)) ∈ zTb := zTb_in (List.mem_of_getElem? (i := 306) (by decide +kernel)) (by decide +kernel)
theorem kw186 : (Jvm.Cond.fieldLink "AllHome" (41 : Nat) "AllHome" "plainOrders" "LAllHome$Orders;") ∈ zTb := zTb_in (List.mem_of_getElem? (i := 252) (by decide +kernel)) (by decide +kernel)
theorem kw247 : (Jvm.Cond.selects "AllHome$Huts" ({ cls := "AllHome$Huts", name := "has", desc := "(I)Z" } : Jvm.MethodName) ({ cls := "AllHome$Huts", name := "has", desc := "(I)Z" } : Jvm.MethodName)) ∈ zTb := zTb_in (List.mem_of_getElem? (i := 313) (by decide +kernel)) (by decide +kernel)
theorem kw253 : (Jvm.Cond.methodLink "AllHome$Huts" (27 : Nat) ({ cls := "AllHome$Huts", name := "has", desc := "(I)Z" } : Jvm.MethodName)) ∈ zTb := zTb_in (List.mem_of_getElem? (i := 319) (by decide +kernel)) (by decide +kernel)
theorem kw246 : (Jvm.Cond.instanceMethod ({ cls := "AllHome$Huts", name := "has", desc := "(I)Z" } : Jvm.MethodName)) ∈ zTb := zTb_in (List.mem_of_getElem? (i := 312) (by decide +kernel)) (by decide +kernel)
theorem kw248 : (Jvm.Cond.code ({ cls := "AllHome$Huts", name := "has", desc := "(I)Z" } : Jvm.MethodName) prog_3_method_3_code (2 : Nat) (Option.some Jvm.ClassFile.FieldType.boolean)) ∈ zTb := zTb_in (List.mem_of_getElem? (i := 314) (by decide +kernel)) (by decide +kernel)
theorem kw245 : (Jvm.Cond.methodLink "AllHome" (77 : Nat) ({ cls := "AllHome$Huts", name := "has", desc := "(I)Z" } : Jvm.MethodName)) ∈ zTb := zTb_in (List.mem_of_getElem? (i := 311) (by decide +kernel)) (by decide +kernel)
theorem kw251 : (Jvm.Cond.selects "AllHome$Huts" ({ cls := "AllHome$Huts", name := "linesOf", desc := "(I)I" } : Jvm.MethodName) ({ cls := "AllHome$Huts", name := "linesOf", desc := "(I)I" } : Jvm.MethodName)) ∈ zTb := zTb_in (List.mem_of_getElem? (i := 317) (by decide +kernel)) (by decide +kernel)
theorem kw249 : (Jvm.Cond.methodLink "AllHome" (81 : Nat) ({ cls := "AllHome$Huts", name := "linesOf", desc := "(I)I" } : Jvm.MethodName)) ∈ zTb := zTb_in (List.mem_of_getElem? (i := 315) (by decide +kernel)) (by decide +kernel)
theorem kw250 : (Jvm.Cond.instanceMethod ({ cls := "AllHome$Huts", name := "linesOf", desc := "(I)I" } : Jvm.MethodName)) ∈ zTb := zTb_in (List.mem_of_getElem? (i := 316) (by decide +kernel)) (by decide +kernel)
theorem kw252 : (Jvm.Cond.code ({ cls := "AllHome$Huts", name := "linesOf", desc := "(I)I" } : Jvm.MethodName) prog_3_method_4_code (2 : Nat) (Option.some Jvm.ClassFile.FieldType.int)) ∈ zTb := zTb_in (List.mem_of_getElem? (i := 318) (by decide +kernel)) (by decide +kernel)
theorem kw256 : (Jvm.Cond.selects "AllHome$Huts" ({ cls := "AllHome$Huts", name := "wordsOf", desc := "(II)I" } : Jvm.MethodName) ({ cls := "AllHome$Huts", name := "wordsOf", desc := "(II)I" } : Jvm.MethodName)) ∈ zTb := zTb_in (List.mem_of_getElem? (i := 322) (by decide +kernel)) (by decide +kernel)
theorem kw254 : (Jvm.Cond.methodLink "AllHome" (85 : Nat) ({ cls := "AllHome$Huts", name := "wordsOf", desc := "(II)I" } : Jvm.MethodName)) ∈ zTb := zTb_in (List.mem_of_getElem? (i := 320) (by decide +kernel)) (by decide +kernel)
theorem kw255 : (Jvm.Cond.instanceMethod ({ cls := "AllHome$Huts", name := "wordsOf", desc := "(II)I" } : Jvm.MethodName)) ∈ zTb := zTb_in (List.mem_of_getElem? (i := 321) (by decide +kernel)) (by decide +kernel)
theorem kw257 : (Jvm.Cond.code ({ cls := "AllHome$Huts", name := "wordsOf", desc := "(II)I" } : Jvm.MethodName) prog_3_method_5_code (3 : Nat) (Option.some Jvm.ClassFile.FieldType.int)) ∈ zTb := zTb_in (List.mem_of_getElem? (i := 323) (by decide +kernel)) (by decide +kernel)
theorem kw264 : (Jvm.Cond.selects "AllHome$Huts" ({ cls := "AllHome$Huts", name := "goal", desc := "(III)I" } : Jvm.MethodName) ({ cls := "AllHome$Huts", name := "goal", desc := "(III)I" } : Jvm.MethodName)) ∈ zTb := zTb_in (List.mem_of_getElem? (i := 330) (by decide +kernel)) (by decide +kernel)
theorem kw262 : (Jvm.Cond.methodLink "AllHome" (89 : Nat) ({ cls := "AllHome$Huts", name := "goal", desc := "(III)I" } : Jvm.MethodName)) ∈ zTb := zTb_in (List.mem_of_getElem? (i := 328) (by decide +kernel)) (by decide +kernel)
theorem kw263 : (Jvm.Cond.instanceMethod ({ cls := "AllHome$Huts", name := "goal", desc := "(III)I" } : Jvm.MethodName)) ∈ zTb := zTb_in (List.mem_of_getElem? (i := 329) (by decide +kernel)) (by decide +kernel)
theorem kw265 : (Jvm.Cond.code ({ cls := "AllHome$Huts", name := "goal", desc := "(III)I" } : Jvm.MethodName) prog_3_method_6_code (5 : Nat) (Option.some Jvm.ClassFile.FieldType.int)) ∈ zTb := zTb_in (List.mem_of_getElem? (i := 331) (by decide +kernel)) (by decide +kernel)
theorem kw270 : (Jvm.Cond.methodLink "AllHome" (93 : Nat) ({ cls := "AllHome", name := "isKind", desc := "(I)Z" } : Jvm.MethodName)) ∈ zTb := zTb_in (List.mem_of_getElem? (i := 336) (by decide +kernel)) (by decide +kernel)
theorem kw271 : (Jvm.Cond.static ({ cls := "AllHome", name := "isKind", desc := "(I)Z" } : Jvm.MethodName)) ∈ zTb := zTb_in (List.mem_of_getElem? (i := 337) (by decide +kernel)) (by decide +kernel)
theorem kw1 : (Jvm.Cond.initialized "AllHome") ∈ zTb := zTb_in (List.mem_of_getElem? (i := 67) (by decide +kernel)) (by decide +kernel)
theorem kw272 : (Jvm.Cond.code ({ cls := "AllHome", name := "isKind", desc := "(I)Z" } : Jvm.MethodName) prog_1_method_32_code (1 : Nat) (Option.some Jvm.ClassFile.FieldType.boolean)) ∈ zTb := zTb_in (List.mem_of_getElem? (i := 338) (by decide +kernel)) (by decide +kernel)
theorem kw181 : (Jvm.Cond.fieldLink "AllHome" (96 : Nat) "AllHome" "ways" "I") ∈ zTb := zTb_in (List.mem_of_getElem? (i := 247) (by decide +kernel)) (by decide +kernel)
theorem kw180 : (Jvm.Cond.fieldLink "AllHome" (20 : Nat) "AllHome" "kinds" "[I") ∈ zTb := zTb_in (List.mem_of_getElem? (i := 246) (by decide +kernel)) (by decide +kernel)
theorem kp1 : Cond.selects "AllHome" ⟨"AllHome", "isWay", "(I)Z"⟩ ⟨"AllHome", "isWay", "(I)Z"⟩ ∈ zTb := zTb_in (List.mem_of_getElem? (i := 1) (by decide +kernel)) (by decide +kernel)
theorem kw277 : (Jvm.Cond.methodLink "AllHome" (99 : Nat) ({ cls := "AllHome", name := "isWay", desc := "(I)Z" } : Jvm.MethodName)) ∈ zTb := zTb_in (List.mem_of_getElem? (i := 343) (by decide +kernel)) (by decide +kernel)
theorem kw279 : (Jvm.Cond.instanceMethod ({ cls := "AllHome", name := "isWay", desc := "(I)Z" } : Jvm.MethodName)) ∈ zTb := zTb_in (List.mem_of_getElem? (i := 345) (by decide +kernel)) (by decide +kernel)
theorem kw280 : (Jvm.Cond.code ({ cls := "AllHome", name := "isWay", desc := "(I)Z" } : Jvm.MethodName) prog_1_method_29_code (2 : Nat) (Option.some Jvm.ClassFile.FieldType.boolean)) ∈ zTb := zTb_in (List.mem_of_getElem? (i := 346) (by decide +kernel)) (by decide +kernel)
theorem kw58 : (Jvm.Cond.fieldLink "AllHome$Rules" (23 : Nat) "AllHome$Rules" "kind" "I") ∈ zTb := zTb_in (List.mem_of_getElem? (i := 124) (by decide +kernel)) (by decide +kernel)
theorem kw59 : (Jvm.Cond.fieldLink "AllHome$Rules" (15 : Nat) "AllHome$Rules" "family" "I") ∈ zTb := zTb_in (List.mem_of_getElem? (i := 125) (by decide +kernel)) (by decide +kernel)
theorem kw296 : (Jvm.Cond.methodLink "AllHome$Rules" (30 : Nat) ({ cls := "java/util/Arrays", name := "fill", desc := "([II)V" } : Jvm.MethodName)) ∈ zTb := zTb_in (List.mem_of_getElem? (i := 362) (by decide +kernel)) (by decide +kernel)
theorem kw297 : (Jvm.Cond.static ({ cls := "java/util/Arrays", name := "fill", desc := "([II)V" } : Jvm.MethodName)) ∈ zTb := zTb_in (List.mem_of_getElem? (i := 363) (by decide +kernel)) (by decide +kernel)
theorem kw10 : (Jvm.Cond.initialized "java/util/Arrays") ∈ zTb := zTb_in (List.mem_of_getElem? (i := 76) (by decide +kernel)) (by decide +kernel)
theorem kw298 : (Jvm.Cond.code ({ cls := "java/util/Arrays", name := "fill", desc := "([II)V" } : Jvm.MethodName) prog_12_method_103_code (4 : Nat) (Option.none : Option Jvm.ClassFile.FieldType)) ∈ zTb := zTb_in (List.mem_of_getElem? (i := 364) (by decide +kernel)) (by decide +kernel)
theorem kw139 : (Jvm.Cond.fieldLink "AllHome$Run" (20 : Nat) "AllHome$Run" "rules" "LAllHome$Rules;") ∈ zTb := zTb_in (List.mem_of_getElem? (i := 205) (by decide +kernel)) (by decide +kernel)
theorem kw140 : (Jvm.Cond.fieldLink "AllHome$Run" (9 : Nat) "AllHome$Run" "cells" "[I") ∈ zTb := zTb_in (List.mem_of_getElem? (i := 206) (by decide +kernel)) (by decide +kernel)
theorem kw291 : (Jvm.Cond.selects "AllHome$Rules" ({ cls := "AllHome$Rules", name := "begin", desc := "([II)V" } : Jvm.MethodName) ({ cls := "AllHome$Rules", name := "begin", desc := "([II)V" } : Jvm.MethodName)) ∈ zTb := zTb_in (List.mem_of_getElem? (i := 357) (by decide +kernel)) (by decide +kernel)
theorem kw289 : (Jvm.Cond.methodLink "AllHome$Run" (24 : Nat) ({ cls := "AllHome$Rules", name := "begin", desc := "([II)V" } : Jvm.MethodName)) ∈ zTb := zTb_in (List.mem_of_getElem? (i := 355) (by decide +kernel)) (by decide +kernel)
theorem kw290 : (Jvm.Cond.instanceMethod ({ cls := "AllHome$Rules", name := "begin", desc := "([II)V" } : Jvm.MethodName)) ∈ zTb := zTb_in (List.mem_of_getElem? (i := 356) (by decide +kernel)) (by decide +kernel)
theorem kw4 : (Jvm.Cond.initialized "AllHome$Rules") ∈ zTb := zTb_in (List.mem_of_getElem? (i := 70) (by decide +kernel)) (by decide +kernel)
theorem kw292 : (Jvm.Cond.code ({ cls := "AllHome$Rules", name := "begin", desc := "([II)V" } : Jvm.MethodName) prog_5_method_3_code (4 : Nat) (Option.none : Option Jvm.ClassFile.FieldType)) ∈ zTb := zTb_in (List.mem_of_getElem? (i := 358) (by decide +kernel)) (by decide +kernel)
theorem kw141 : (Jvm.Cond.fieldLink "AllHome$Run" (28 : Nat) "AllHome$Run" "way" "I") ∈ zTb := zTb_in (List.mem_of_getElem? (i := 207) (by decide +kernel)) (by decide +kernel)
theorem kw142 : (Jvm.Cond.fieldLink "AllHome$Run" (32 : Nat) "AllHome$Run" "done" "I") ∈ zTb := zTb_in (List.mem_of_getElem? (i := 208) (by decide +kernel)) (by decide +kernel)
theorem kw143 : (Jvm.Cond.fieldLink "AllHome$Run" (35 : Nat) "AllHome$Run" "saidAt" "I") ∈ zTb := zTb_in (List.mem_of_getElem? (i := 209) (by decide +kernel)) (by decide +kernel)
theorem kw144 : (Jvm.Cond.fieldLink "AllHome$Run" (38 : Nat) "AllHome$Run" "overAt" "I") ∈ zTb := zTb_in (List.mem_of_getElem? (i := 210) (by decide +kernel)) (by decide +kernel)
theorem kw182 : (Jvm.Cond.fieldLink "AllHome" (25 : Nat) "AllHome" "runs" "[LAllHome$Run;") ∈ zTb := zTb_in (List.mem_of_getElem? (i := 248) (by decide +kernel)) (by decide +kernel)
theorem kw287 : (Jvm.Cond.selects "AllHome$Run" ({ cls := "AllHome$Run", name := "begin", desc := "(II)V" } : Jvm.MethodName) ({ cls := "AllHome$Run", name := "begin", desc := "(II)V" } : Jvm.MethodName)) ∈ zTb := zTb_in (List.mem_of_getElem? (i := 353) (by decide +kernel)) (by decide +kernel)
theorem kw285 : (Jvm.Cond.methodLink "AllHome" (102 : Nat) ({ cls := "AllHome$Run", name := "begin", desc := "(II)V" } : Jvm.MethodName)) ∈ zTb := zTb_in (List.mem_of_getElem? (i := 351) (by decide +kernel)) (by decide +kernel)
theorem kw286 : (Jvm.Cond.instanceMethod ({ cls := "AllHome$Run", name := "begin", desc := "(II)V" } : Jvm.MethodName)) ∈ zTb := zTb_in (List.mem_of_getElem? (i := 352) (by decide +kernel)) (by decide +kernel)
theorem kw6 : (Jvm.Cond.initialized "AllHome$Run") ∈ zTb := zTb_in (List.mem_of_getElem? (i := 72) (by decide +kernel)) (by decide +kernel)
theorem kw288 : (Jvm.Cond.code ({ cls := "AllHome$Run", name := "begin", desc := "(II)V" } : Jvm.MethodName) prog_6_method_2_code (3 : Nat) (Option.none : Option Jvm.ClassFile.FieldType)) ∈ zTb := zTb_in (List.mem_of_getElem? (i := 354) (by decide +kernel)) (by decide +kernel)
theorem kw329 : (Jvm.Cond.methodLink "AllHome$Rules" (81 : Nat) ({ cls := "AllHome$Rules", name := "partUnits", desc := "([II)I" } : Jvm.MethodName)) ∈ zTb := zTb_in (List.mem_of_getElem? (i := 395) (by decide +kernel)) (by decide +kernel)
theorem kw330 : (Jvm.Cond.static ({ cls := "AllHome$Rules", name := "partUnits", desc := "([II)I" } : Jvm.MethodName)) ∈ zTb := zTb_in (List.mem_of_getElem? (i := 396) (by decide +kernel)) (by decide +kernel)
theorem kw331 : (Jvm.Cond.code ({ cls := "AllHome$Rules", name := "partUnits", desc := "([II)I" } : Jvm.MethodName) prog_5_method_7_code (3 : Nat) (Option.some Jvm.ClassFile.FieldType.int)) ∈ zTb := zTb_in (List.mem_of_getElem? (i := 397) (by decide +kernel)) (by decide +kernel)
theorem kw57 : (Jvm.Cond.fieldLink "AllHome$Rules" (9 : Nat) "AllHome$Rules" "huts" "LAllHome$Huts;") ∈ zTb := zTb_in (List.mem_of_getElem? (i := 123) (by decide +kernel)) (by decide +kernel)
theorem kw322 : (Jvm.Cond.methodLink "AllHome$Rules" (60 : Nat) ({ cls := "AllHome$Huts", name := "has", desc := "(I)Z" } : Jvm.MethodName)) ∈ zTb := zTb_in (List.mem_of_getElem? (i := 388) (by decide +kernel)) (by decide +kernel)
theorem kw323 : (Jvm.Cond.methodLink "AllHome$Rules" (65 : Nat) ({ cls := "AllHome$Huts", name := "wordsOf", desc := "(II)I" } : Jvm.MethodName)) ∈ zTb := zTb_in (List.mem_of_getElem? (i := 389) (by decide +kernel)) (by decide +kernel)
theorem kw332 : (Jvm.Cond.methodLink "AllHome$Rules" (77 : Nat) ({ cls := "AllHome$Rules", name := "sendNote", desc := "([IIII)I" } : Jvm.MethodName)) ∈ zTb := zTb_in (List.mem_of_getElem? (i := 398) (by decide +kernel)) (by decide +kernel)
theorem kw333 : (Jvm.Cond.static ({ cls := "AllHome$Rules", name := "sendNote", desc := "([IIII)I" } : Jvm.MethodName)) ∈ zTb := zTb_in (List.mem_of_getElem? (i := 399) (by decide +kernel)) (by decide +kernel)
theorem kw334 : (Jvm.Cond.code ({ cls := "AllHome$Rules", name := "sendNote", desc := "([IIII)I" } : Jvm.MethodName) prog_5_method_8_code (5 : Nat) (Option.some Jvm.ClassFile.FieldType.int)) ∈ zTb := zTb_in (List.mem_of_getElem? (i := 400) (by decide +kernel)) (by decide +kernel)
theorem kw324 : (Jvm.Cond.methodLink "AllHome$Rules" (69 : Nat) ({ cls := "AllHome$Huts", name := "goal", desc := "(III)I" } : Jvm.MethodName)) ∈ zTb := zTb_in (List.mem_of_getElem? (i := 390) (by decide +kernel)) (by decide +kernel)
theorem kp4 : Cond.selects "AllHome$Rules" ⟨"AllHome$Rules", "send", "([III)I"⟩ ⟨"AllHome$Rules", "send", "([III)I"⟩ ∈ zTb := zTb_in (List.mem_of_getElem? (i := 4) (by decide +kernel)) (by decide +kernel)
theorem kw325 : (Jvm.Cond.methodLink "AllHome$Rules" (73 : Nat) ({ cls := "AllHome$Rules", name := "send", desc := "([III)I" } : Jvm.MethodName)) ∈ zTb := zTb_in (List.mem_of_getElem? (i := 391) (by decide +kernel)) (by decide +kernel)
theorem kw327 : (Jvm.Cond.instanceMethod ({ cls := "AllHome$Rules", name := "send", desc := "([III)I" } : Jvm.MethodName)) ∈ zTb := zTb_in (List.mem_of_getElem? (i := 393) (by decide +kernel)) (by decide +kernel)
theorem kw328 : (Jvm.Cond.code ({ cls := "AllHome$Rules", name := "send", desc := "([III)I" } : Jvm.MethodName) prog_5_method_6_code (6 : Nat) (Option.some Jvm.ClassFile.FieldType.int)) ∈ zTb := zTb_in (List.mem_of_getElem? (i := 394) (by decide +kernel)) (by decide +kernel)
theorem kw342 : (Jvm.Cond.methodLink "AllHome$Rules" (90 : Nat) ({ cls := "AllHome$Rules", name := "closeGap", desc := "([III)V" } : Jvm.MethodName)) ∈ zTb := zTb_in (List.mem_of_getElem? (i := 408) (by decide +kernel)) (by decide +kernel)
theorem kw343 : (Jvm.Cond.static ({ cls := "AllHome$Rules", name := "closeGap", desc := "([III)V" } : Jvm.MethodName)) ∈ zTb := zTb_in (List.mem_of_getElem? (i := 409) (by decide +kernel)) (by decide +kernel)
theorem kw344 : (Jvm.Cond.code ({ cls := "AllHome$Rules", name := "closeGap", desc := "([III)V" } : Jvm.MethodName) prog_5_method_13_code (4 : Nat) (Option.none : Option Jvm.ClassFile.FieldType)) ∈ zTb := zTb_in (List.mem_of_getElem? (i := 410) (by decide +kernel)) (by decide +kernel)
theorem kw339 : (Jvm.Cond.methodLink "AllHome$Rules" (84 : Nat) ({ cls := "AllHome$Rules", name := "takeAwayWord", desc := "([II)V" } : Jvm.MethodName)) ∈ zTb := zTb_in (List.mem_of_getElem? (i := 405) (by decide +kernel)) (by decide +kernel)
theorem kw340 : (Jvm.Cond.static ({ cls := "AllHome$Rules", name := "takeAwayWord", desc := "([II)V" } : Jvm.MethodName)) ∈ zTb := zTb_in (List.mem_of_getElem? (i := 406) (by decide +kernel)) (by decide +kernel)
theorem kw341 : (Jvm.Cond.code ({ cls := "AllHome$Rules", name := "takeAwayWord", desc := "([II)V" } : Jvm.MethodName) prog_5_method_12_code (2 : Nat) (Option.none : Option Jvm.ClassFile.FieldType)) ∈ zTb := zTb_in (List.mem_of_getElem? (i := 407) (by decide +kernel)) (by decide +kernel)
theorem kw345 : (Jvm.Cond.methodLink "AllHome$Rules" (87 : Nat) ({ cls := "AllHome$Rules", name := "joinTree", desc := "([III)I" } : Jvm.MethodName)) ∈ zTb := zTb_in (List.mem_of_getElem? (i := 411) (by decide +kernel)) (by decide +kernel)
theorem kw346 : (Jvm.Cond.static ({ cls := "AllHome$Rules", name := "joinTree", desc := "([III)I" } : Jvm.MethodName)) ∈ zTb := zTb_in (List.mem_of_getElem? (i := 412) (by decide +kernel)) (by decide +kernel)
theorem kw347 : (Jvm.Cond.code ({ cls := "AllHome$Rules", name := "joinTree", desc := "([III)I" } : Jvm.MethodName) prog_5_method_10_code (3 : Nat) (Option.some Jvm.ClassFile.FieldType.int)) ∈ zTb := zTb_in (List.mem_of_getElem? (i := 413) (by decide +kernel)) (by decide +kernel)
theorem kw359 : (Jvm.Cond.methodLink "AllHome$Rules" (100 : Nat) ({ cls := "AllHome$Huts", name := "size", desc := "()I" } : Jvm.MethodName)) ∈ zTb := zTb_in (List.mem_of_getElem? (i := 425) (by decide +kernel)) (by decide +kernel)
theorem kw352 : (Jvm.Cond.methodLink "AllHome$Rules" (94 : Nat) ({ cls := "AllHome$Rules", name := "takeStone", desc := "([IIII)I" } : Jvm.MethodName)) ∈ zTb := zTb_in (List.mem_of_getElem? (i := 418) (by decide +kernel)) (by decide +kernel)
theorem kw353 : (Jvm.Cond.static ({ cls := "AllHome$Rules", name := "takeStone", desc := "([IIII)I" } : Jvm.MethodName)) ∈ zTb := zTb_in (List.mem_of_getElem? (i := 419) (by decide +kernel)) (by decide +kernel)
theorem kw354 : (Jvm.Cond.code ({ cls := "AllHome$Rules", name := "takeStone", desc := "([IIII)I" } : Jvm.MethodName) prog_5_method_15_code (5 : Nat) (Option.some Jvm.ClassFile.FieldType.int)) ∈ zTb := zTb_in (List.mem_of_getElem? (i := 420) (by decide +kernel)) (by decide +kernel)
theorem kp7 : Cond.selects "AllHome$Rules" ⟨"AllHome$Rules", "takeSums", "([IIII)I"⟩ ⟨"AllHome$Rules", "takeSums", "([IIII)I"⟩ ∈ zTb := zTb_in (List.mem_of_getElem? (i := 7) (by decide +kernel)) (by decide +kernel)
theorem kw355 : (Jvm.Cond.methodLink "AllHome$Rules" (97 : Nat) ({ cls := "AllHome$Rules", name := "takeSums", desc := "([IIII)I" } : Jvm.MethodName)) ∈ zTb := zTb_in (List.mem_of_getElem? (i := 421) (by decide +kernel)) (by decide +kernel)
theorem kw357 : (Jvm.Cond.instanceMethod ({ cls := "AllHome$Rules", name := "takeSums", desc := "([IIII)I" } : Jvm.MethodName)) ∈ zTb := zTb_in (List.mem_of_getElem? (i := 423) (by decide +kernel)) (by decide +kernel)
theorem kw358 : (Jvm.Cond.code ({ cls := "AllHome$Rules", name := "takeSums", desc := "([IIII)I" } : Jvm.MethodName) prog_5_method_16_code (6 : Nat) (Option.some Jvm.ClassFile.FieldType.int)) ∈ zTb := zTb_in (List.mem_of_getElem? (i := 424) (by decide +kernel)) (by decide +kernel)
theorem kw367 : (Jvm.Cond.fieldLink "AllHome" (224 : Nat) "AllHome" "ABOVE" "[I") ∈ zTb := zTb_in (List.mem_of_getElem? (i := 433) (by decide +kernel)) (by decide +kernel)
theorem kw365 : (Jvm.Cond.static ({ cls := "AllHome", name := "isUnder", desc := "(II)Z" } : Jvm.MethodName)) ∈ zTb := zTb_in (List.mem_of_getElem? (i := 431) (by decide +kernel)) (by decide +kernel)
theorem kw366 : (Jvm.Cond.code ({ cls := "AllHome", name := "isUnder", desc := "(II)Z" } : Jvm.MethodName) prog_1_method_33_code (4 : Nat) (Option.some Jvm.ClassFile.FieldType.boolean)) ∈ zTb := zTb_in (List.mem_of_getElem? (i := 432) (by decide +kernel)) (by decide +kernel)
theorem kp3 : Cond.selects "AllHome$Rules" ⟨"AllHome$Rules", "goOn", "([II)I"⟩ ⟨"AllHome$Rules", "goOn", "([II)I"⟩ ∈ zTb := zTb_in (List.mem_of_getElem? (i := 3) (by decide +kernel)) (by decide +kernel)
theorem kw318 : (Jvm.Cond.methodLink "AllHome$Rules" (36 : Nat) ({ cls := "AllHome$Rules", name := "goOn", desc := "([II)I" } : Jvm.MethodName)) ∈ zTb := zTb_in (List.mem_of_getElem? (i := 384) (by decide +kernel)) (by decide +kernel)
theorem kw320 : (Jvm.Cond.instanceMethod ({ cls := "AllHome$Rules", name := "goOn", desc := "([II)I" } : Jvm.MethodName)) ∈ zTb := zTb_in (List.mem_of_getElem? (i := 386) (by decide +kernel)) (by decide +kernel)
theorem kw321 : (Jvm.Cond.code ({ cls := "AllHome$Rules", name := "goOn", desc := "([II)I" } : Jvm.MethodName) prog_5_method_5_code (5 : Nat) (Option.some Jvm.ClassFile.FieldType.int)) ∈ zTb := zTb_in (List.mem_of_getElem? (i := 387) (by decide +kernel)) (by decide +kernel)
theorem kp10 : Cond.selects "AllHome$Rules" ⟨"AllHome$Rules", "seesAllHome", "([I)Z"⟩ ⟨"AllHome$Rules", "seesAllHome", "([I)Z"⟩ ∈ zTb := zTb_in (List.mem_of_getElem? (i := 10) (by decide +kernel)) (by decide +kernel)
theorem kw376 : (Jvm.Cond.methodLink "AllHome$Rules" (56 : Nat) ({ cls := "AllHome$Rules", name := "seesAllHome", desc := "([I)Z" } : Jvm.MethodName)) ∈ zTb := zTb_in (List.mem_of_getElem? (i := 442) (by decide +kernel)) (by decide +kernel)
theorem kw378 : (Jvm.Cond.instanceMethod ({ cls := "AllHome$Rules", name := "seesAllHome", desc := "([I)Z" } : Jvm.MethodName)) ∈ zTb := zTb_in (List.mem_of_getElem? (i := 444) (by decide +kernel)) (by decide +kernel)
theorem kw379 : (Jvm.Cond.code ({ cls := "AllHome$Rules", name := "seesAllHome", desc := "([I)Z" } : Jvm.MethodName) prog_5_method_19_code (4 : Nat) (Option.some Jvm.ClassFile.FieldType.boolean)) ∈ zTb := zTb_in (List.mem_of_getElem? (i := 445) (by decide +kernel)) (by decide +kernel)
theorem kp9 : Cond.selects "AllHome$Rules" ⟨"AllHome$Rules", "leaveTree", "([I)I"⟩ ⟨"AllHome$Rules", "leaveTree", "([I)I"⟩ ∈ zTb := zTb_in (List.mem_of_getElem? (i := 9) (by decide +kernel)) (by decide +kernel)
theorem kw372 : (Jvm.Cond.methodLink "AllHome$Rules" (52 : Nat) ({ cls := "AllHome$Rules", name := "leaveTree", desc := "([I)I" } : Jvm.MethodName)) ∈ zTb := zTb_in (List.mem_of_getElem? (i := 438) (by decide +kernel)) (by decide +kernel)
theorem kw374 : (Jvm.Cond.instanceMethod ({ cls := "AllHome$Rules", name := "leaveTree", desc := "([I)I" } : Jvm.MethodName)) ∈ zTb := zTb_in (List.mem_of_getElem? (i := 440) (by decide +kernel)) (by decide +kernel)
theorem kw375 : (Jvm.Cond.code ({ cls := "AllHome$Rules", name := "leaveTree", desc := "([I)I" } : Jvm.MethodName) prog_5_method_18_code (5 : Nat) (Option.some Jvm.ClassFile.FieldType.int)) ∈ zTb := zTb_in (List.mem_of_getElem? (i := 441) (by decide +kernel)) (by decide +kernel)
theorem kp5 : Cond.selects "AllHome$Rules" ⟨"AllHome$Rules", "comeWord", "([II)I"⟩ ⟨"AllHome$Rules", "comeWord", "([II)I"⟩ ∈ zTb := zTb_in (List.mem_of_getElem? (i := 5) (by decide +kernel)) (by decide +kernel)
theorem kw335 : (Jvm.Cond.methodLink "AllHome$Rules" (40 : Nat) ({ cls := "AllHome$Rules", name := "comeWord", desc := "([II)I" } : Jvm.MethodName)) ∈ zTb := zTb_in (List.mem_of_getElem? (i := 401) (by decide +kernel)) (by decide +kernel)
theorem kw337 : (Jvm.Cond.instanceMethod ({ cls := "AllHome$Rules", name := "comeWord", desc := "([II)I" } : Jvm.MethodName)) ∈ zTb := zTb_in (List.mem_of_getElem? (i := 403) (by decide +kernel)) (by decide +kernel)
theorem kw338 : (Jvm.Cond.code ({ cls := "AllHome$Rules", name := "comeWord", desc := "([II)I" } : Jvm.MethodName) prog_5_method_9_code (6 : Nat) (Option.some Jvm.ClassFile.FieldType.int)) ∈ zTb := zTb_in (List.mem_of_getElem? (i := 404) (by decide +kernel)) (by decide +kernel)
theorem kp6 : Cond.selects "AllHome$Rules" ⟨"AllHome$Rules", "comeNote", "([II)I"⟩ ⟨"AllHome$Rules", "comeNote", "([II)I"⟩ ∈ zTb := zTb_in (List.mem_of_getElem? (i := 6) (by decide +kernel)) (by decide +kernel)
theorem kw348 : (Jvm.Cond.methodLink "AllHome$Rules" (43 : Nat) ({ cls := "AllHome$Rules", name := "comeNote", desc := "([II)I" } : Jvm.MethodName)) ∈ zTb := zTb_in (List.mem_of_getElem? (i := 414) (by decide +kernel)) (by decide +kernel)
theorem kw350 : (Jvm.Cond.instanceMethod ({ cls := "AllHome$Rules", name := "comeNote", desc := "([II)I" } : Jvm.MethodName)) ∈ zTb := zTb_in (List.mem_of_getElem? (i := 416) (by decide +kernel)) (by decide +kernel)
theorem kw351 : (Jvm.Cond.code ({ cls := "AllHome$Rules", name := "comeNote", desc := "([II)I" } : Jvm.MethodName) prog_5_method_14_code (6 : Nat) (Option.some Jvm.ClassFile.FieldType.int)) ∈ zTb := zTb_in (List.mem_of_getElem? (i := 417) (by decide +kernel)) (by decide +kernel)
theorem kp8 : Cond.selects "AllHome$Rules" ⟨"AllHome$Rules", "ask", "([II)I"⟩ ⟨"AllHome$Rules", "ask", "([II)I"⟩ ∈ zTb := zTb_in (List.mem_of_getElem? (i := 8) (by decide +kernel)) (by decide +kernel)
theorem kw360 : (Jvm.Cond.methodLink "AllHome$Rules" (46 : Nat) ({ cls := "AllHome$Rules", name := "ask", desc := "([II)I" } : Jvm.MethodName)) ∈ zTb := zTb_in (List.mem_of_getElem? (i := 426) (by decide +kernel)) (by decide +kernel)
theorem kw362 : (Jvm.Cond.instanceMethod ({ cls := "AllHome$Rules", name := "ask", desc := "([II)I" } : Jvm.MethodName)) ∈ zTb := zTb_in (List.mem_of_getElem? (i := 428) (by decide +kernel)) (by decide +kernel)
theorem kw363 : (Jvm.Cond.code ({ cls := "AllHome$Rules", name := "ask", desc := "([II)I" } : Jvm.MethodName) prog_5_method_17_code (3 : Nat) (Option.some Jvm.ClassFile.FieldType.int)) ∈ zTb := zTb_in (List.mem_of_getElem? (i := 429) (by decide +kernel)) (by decide +kernel)
theorem kw369 : (Jvm.Cond.methodLink "AllHome$Rules" (49 : Nat) ({ cls := "AllHome$Rules", name := "lose", desc := "([II)I" } : Jvm.MethodName)) ∈ zTb := zTb_in (List.mem_of_getElem? (i := 435) (by decide +kernel)) (by decide +kernel)
theorem kw370 : (Jvm.Cond.static ({ cls := "AllHome$Rules", name := "lose", desc := "([II)I" } : Jvm.MethodName)) ∈ zTb := zTb_in (List.mem_of_getElem? (i := 436) (by decide +kernel)) (by decide +kernel)
theorem kw371 : (Jvm.Cond.code ({ cls := "AllHome$Rules", name := "lose", desc := "([II)I" } : Jvm.MethodName) prog_5_method_11_code (2 : Nat) (Option.some Jvm.ClassFile.FieldType.int)) ∈ zTb := zTb_in (List.mem_of_getElem? (i := 437) (by decide +kernel)) (by decide +kernel)
theorem kw311 : (Jvm.Cond.methodLink "AllHome$Run" (46 : Nat) ({ cls := "java/lang/System", name := "arraycopy", desc := "(Ljava/lang/Object;ILjava/lang/Object;II)V" } : Jvm.MethodName)) ∈ zTb := zTb_in (List.mem_of_getElem? (i := 377) (by decide +kernel)) (by decide +kernel)
theorem kw313 : (Jvm.Cond.native ({ cls := "java/lang/System", name := "arraycopy", desc := "(Ljava/lang/Object;ILjava/lang/Object;II)V" } : Jvm.MethodName)) ∈ zTb := zTb_in (List.mem_of_getElem? (i := 379) (by decide +kernel)) (by decide +kernel)
theorem kw312 : (Jvm.Cond.static ({ cls := "java/lang/System", name := "arraycopy", desc := "(Ljava/lang/Object;ILjava/lang/Object;II)V" } : Jvm.MethodName)) ∈ zTb := zTb_in (List.mem_of_getElem? (i := 378) (by decide +kernel)) (by decide +kernel)
theorem kw11 : (Jvm.Cond.initialized "java/lang/System") ∈ zTb := zTb_in (List.mem_of_getElem? (i := 77) (by decide +kernel)) (by decide +kernel)
theorem kw316 : (Jvm.Cond.selects "AllHome$Rules" ({ cls := "AllHome$Rules", name := "apply", desc := "([III)I" } : Jvm.MethodName) ({ cls := "AllHome$Rules", name := "apply", desc := "([III)I" } : Jvm.MethodName)) ∈ zTb := zTb_in (List.mem_of_getElem? (i := 382) (by decide +kernel)) (by decide +kernel)
theorem kw314 : (Jvm.Cond.methodLink "AllHome$Run" (52 : Nat) ({ cls := "AllHome$Rules", name := "apply", desc := "([III)I" } : Jvm.MethodName)) ∈ zTb := zTb_in (List.mem_of_getElem? (i := 380) (by decide +kernel)) (by decide +kernel)
theorem kw315 : (Jvm.Cond.instanceMethod ({ cls := "AllHome$Rules", name := "apply", desc := "([III)I" } : Jvm.MethodName)) ∈ zTb := zTb_in (List.mem_of_getElem? (i := 381) (by decide +kernel)) (by decide +kernel)
theorem kw317 : (Jvm.Cond.code ({ cls := "AllHome$Rules", name := "apply", desc := "([III)I" } : Jvm.MethodName) prog_5_method_4_code (5 : Nat) (Option.some Jvm.ClassFile.FieldType.int)) ∈ zTb := zTb_in (List.mem_of_getElem? (i := 383) (by decide +kernel)) (by decide +kernel)
theorem kw381 : (Jvm.Cond.static ({ cls := "AllHome", name := "isOver", desc := "([I)Z" } : Jvm.MethodName)) ∈ zTb := zTb_in (List.mem_of_getElem? (i := 447) (by decide +kernel)) (by decide +kernel)
theorem kw382 : (Jvm.Cond.code ({ cls := "AllHome", name := "isOver", desc := "([I)Z" } : Jvm.MethodName) prog_1_method_36_code (2 : Nat) (Option.some Jvm.ClassFile.FieldType.boolean)) ∈ zTb := zTb_in (List.mem_of_getElem? (i := 448) (by decide +kernel)) (by decide +kernel)
theorem kp2 : Cond.selects "AllHome" ⟨"AllHome", "isRun", "(I)Z"⟩ ⟨"AllHome", "isRun", "(I)Z"⟩ ∈ zTb := zTb_in (List.mem_of_getElem? (i := 2) (by decide +kernel)) (by decide +kernel)
theorem kw303 : (Jvm.Cond.methodLink "AllHome" (106 : Nat) ({ cls := "AllHome", name := "isRun", desc := "(I)Z" } : Jvm.MethodName)) ∈ zTb := zTb_in (List.mem_of_getElem? (i := 369) (by decide +kernel)) (by decide +kernel)
theorem kw305 : (Jvm.Cond.instanceMethod ({ cls := "AllHome", name := "isRun", desc := "(I)Z" } : Jvm.MethodName)) ∈ zTb := zTb_in (List.mem_of_getElem? (i := 371) (by decide +kernel)) (by decide +kernel)
theorem kw306 : (Jvm.Cond.code ({ cls := "AllHome", name := "isRun", desc := "(I)Z" } : Jvm.MethodName) prog_1_method_30_code (2 : Nat) (Option.some Jvm.ClassFile.FieldType.boolean)) ∈ zTb := zTb_in (List.mem_of_getElem? (i := 372) (by decide +kernel)) (by decide +kernel)
theorem kw184 : (Jvm.Cond.fieldLink "AllHome" (29 : Nat) "AllHome" "spare" "[I") ∈ zTb := zTb_in (List.mem_of_getElem? (i := 250) (by decide +kernel)) (by decide +kernel)
theorem kw309 : (Jvm.Cond.selects "AllHome$Run" ({ cls := "AllHome$Run", name := "advance", desc := "([III)I" } : Jvm.MethodName) ({ cls := "AllHome$Run", name := "advance", desc := "([III)I" } : Jvm.MethodName)) ∈ zTb := zTb_in (List.mem_of_getElem? (i := 375) (by decide +kernel)) (by decide +kernel)
theorem kw307 : (Jvm.Cond.methodLink "AllHome" (109 : Nat) ({ cls := "AllHome$Run", name := "advance", desc := "([III)I" } : Jvm.MethodName)) ∈ zTb := zTb_in (List.mem_of_getElem? (i := 373) (by decide +kernel)) (by decide +kernel)
theorem kw308 : (Jvm.Cond.instanceMethod ({ cls := "AllHome$Run", name := "advance", desc := "([III)I" } : Jvm.MethodName)) ∈ zTb := zTb_in (List.mem_of_getElem? (i := 374) (by decide +kernel)) (by decide +kernel)
theorem kw310 : (Jvm.Cond.code ({ cls := "AllHome$Run", name := "advance", desc := "([III)I" } : Jvm.MethodName) prog_6_method_5_code (5 : Nat) (Option.some Jvm.ClassFile.FieldType.int)) ∈ zTb := zTb_in (List.mem_of_getElem? (i := 376) (by decide +kernel)) (by decide +kernel)
theorem kw166 : (Jvm.Cond.fieldLink "AllHome$Shelf" (19 : Nat) "AllHome$Shelf" "way" "I") ∈ zTb := zTb_in (List.mem_of_getElem? (i := 232) (by decide +kernel)) (by decide +kernel)
theorem kw165 : (Jvm.Cond.fieldLink "AllHome$Shelf" (15 : Nat) "AllHome$Shelf" "sort" "I") ∈ zTb := zTb_in (List.mem_of_getElem? (i := 231) (by decide +kernel)) (by decide +kernel)
theorem kw164 : (Jvm.Cond.fieldLink "AllHome$Shelf" (22 : Nat) "AllHome$Shelf" "length" "I") ∈ zTb := zTb_in (List.mem_of_getElem? (i := 230) (by decide +kernel)) (by decide +kernel)
theorem kw400 : (Jvm.Cond.selects "AllHome$Shelf" ({ cls := "AllHome$Shelf", name := "hasPlace", desc := "(I)Z" } : Jvm.MethodName) ({ cls := "AllHome$Shelf", name := "hasPlace", desc := "(I)Z" } : Jvm.MethodName)) ∈ zTb := zTb_in (List.mem_of_getElem? (i := 466) (by decide +kernel)) (by decide +kernel)
theorem kw406 : (Jvm.Cond.methodLink "AllHome$Shelf" (40 : Nat) ({ cls := "AllHome$Shelf", name := "hasPlace", desc := "(I)Z" } : Jvm.MethodName)) ∈ zTb := zTb_in (List.mem_of_getElem? (i := 472) (by decide +kernel)) (by decide +kernel)
theorem kw399 : (Jvm.Cond.instanceMethod ({ cls := "AllHome$Shelf", name := "hasPlace", desc := "(I)Z" } : Jvm.MethodName)) ∈ zTb := zTb_in (List.mem_of_getElem? (i := 465) (by decide +kernel)) (by decide +kernel)
theorem kw7 : (Jvm.Cond.initialized "AllHome$Shelf") ∈ zTb := zTb_in (List.mem_of_getElem? (i := 73) (by decide +kernel)) (by decide +kernel)
theorem kw401 : (Jvm.Cond.code ({ cls := "AllHome$Shelf", name := "hasPlace", desc := "(I)Z" } : Jvm.MethodName) prog_7_method_9_code (2 : Nat) (Option.some Jvm.ClassFile.FieldType.boolean)) ∈ zTb := zTb_in (List.mem_of_getElem? (i := 467) (by decide +kernel)) (by decide +kernel)
theorem kw407 : (Jvm.Cond.constantLong "AllHome$Shelf" (46 : Nat) (-9223372036854775808 : Int64)) ∈ zTb := zTb_in (List.mem_of_getElem? (i := 473) (by decide +kernel)) (by decide +kernel)
theorem kw163 : (Jvm.Cond.fieldLink "AllHome$Shelf" (11 : Nat) "AllHome$Shelf" "elements" "[J") ∈ zTb := zTb_in (List.mem_of_getElem? (i := 229) (by decide +kernel)) (by decide +kernel)
theorem kw387 : (Jvm.Cond.methodLink "AllHome" (113 : Nat) ({ cls := "AllHome", name := "isShelf", desc := "(I)Z" } : Jvm.MethodName)) ∈ zTb := zTb_in (List.mem_of_getElem? (i := 453) (by decide +kernel)) (by decide +kernel)
theorem kw388 : (Jvm.Cond.static ({ cls := "AllHome", name := "isShelf", desc := "(I)Z" } : Jvm.MethodName)) ∈ zTb := zTb_in (List.mem_of_getElem? (i := 454) (by decide +kernel)) (by decide +kernel)
theorem kw389 : (Jvm.Cond.code ({ cls := "AllHome", name := "isShelf", desc := "(I)Z" } : Jvm.MethodName) prog_1_method_31_code (1 : Nat) (Option.some Jvm.ClassFile.FieldType.boolean)) ∈ zTb := zTb_in (List.mem_of_getElem? (i := 455) (by decide +kernel)) (by decide +kernel)
theorem kw188 : (Jvm.Cond.fieldLink "AllHome" (53 : Nat) "AllHome" "shelves" "[LAllHome$Shelf;") ∈ zTb := zTb_in (List.mem_of_getElem? (i := 254) (by decide +kernel)) (by decide +kernel)
theorem kw392 : (Jvm.Cond.selects "AllHome$Shelf" ({ cls := "AllHome$Shelf", name := "isEmpty", desc := "()Z" } : Jvm.MethodName) ({ cls := "AllHome$Shelf", name := "isEmpty", desc := "()Z" } : Jvm.MethodName)) ∈ zTb := zTb_in (List.mem_of_getElem? (i := 458) (by decide +kernel)) (by decide +kernel)
theorem kw390 : (Jvm.Cond.methodLink "AllHome" (116 : Nat) ({ cls := "AllHome$Shelf", name := "isEmpty", desc := "()Z" } : Jvm.MethodName)) ∈ zTb := zTb_in (List.mem_of_getElem? (i := 456) (by decide +kernel)) (by decide +kernel)
theorem kw391 : (Jvm.Cond.instanceMethod ({ cls := "AllHome$Shelf", name := "isEmpty", desc := "()Z" } : Jvm.MethodName)) ∈ zTb := zTb_in (List.mem_of_getElem? (i := 457) (by decide +kernel)) (by decide +kernel)
theorem kw393 : (Jvm.Cond.code ({ cls := "AllHome$Shelf", name := "isEmpty", desc := "()Z" } : Jvm.MethodName) prog_7_method_4_code (1 : Nat) (Option.some Jvm.ClassFile.FieldType.boolean)) ∈ zTb := zTb_in (List.mem_of_getElem? (i := 459) (by decide +kernel)) (by decide +kernel)
theorem kw396 : (Jvm.Cond.selects "AllHome$Shelf" ({ cls := "AllHome$Shelf", name := "isRowOf", desc := "(I)Z" } : Jvm.MethodName) ({ cls := "AllHome$Shelf", name := "isRowOf", desc := "(I)Z" } : Jvm.MethodName)) ∈ zTb := zTb_in (List.mem_of_getElem? (i := 462) (by decide +kernel)) (by decide +kernel)
theorem kw394 : (Jvm.Cond.methodLink "AllHome" (120 : Nat) ({ cls := "AllHome$Shelf", name := "isRowOf", desc := "(I)Z" } : Jvm.MethodName)) ∈ zTb := zTb_in (List.mem_of_getElem? (i := 460) (by decide +kernel)) (by decide +kernel)
theorem kw395 : (Jvm.Cond.instanceMethod ({ cls := "AllHome$Shelf", name := "isRowOf", desc := "(I)Z" } : Jvm.MethodName)) ∈ zTb := zTb_in (List.mem_of_getElem? (i := 461) (by decide +kernel)) (by decide +kernel)
theorem kw397 : (Jvm.Cond.code ({ cls := "AllHome$Shelf", name := "isRowOf", desc := "(I)Z" } : Jvm.MethodName) prog_7_method_6_code (2 : Nat) (Option.some Jvm.ClassFile.FieldType.boolean)) ∈ zTb := zTb_in (List.mem_of_getElem? (i := 463) (by decide +kernel)) (by decide +kernel)
theorem kw398 : (Jvm.Cond.methodLink "AllHome" (123 : Nat) ({ cls := "AllHome$Shelf", name := "hasPlace", desc := "(I)Z" } : Jvm.MethodName)) ∈ zTb := zTb_in (List.mem_of_getElem? (i := 464) (by decide +kernel)) (by decide +kernel)
theorem kw404 : (Jvm.Cond.selects "AllHome$Shelf" ({ cls := "AllHome$Shelf", name := "at", desc := "(I)J" } : Jvm.MethodName) ({ cls := "AllHome$Shelf", name := "at", desc := "(I)J" } : Jvm.MethodName)) ∈ zTb := zTb_in (List.mem_of_getElem? (i := 470) (by decide +kernel)) (by decide +kernel)
theorem kw402 : (Jvm.Cond.methodLink "AllHome" (126 : Nat) ({ cls := "AllHome$Shelf", name := "at", desc := "(I)J" } : Jvm.MethodName)) ∈ zTb := zTb_in (List.mem_of_getElem? (i := 468) (by decide +kernel)) (by decide +kernel)
theorem kw403 : (Jvm.Cond.instanceMethod ({ cls := "AllHome$Shelf", name := "at", desc := "(I)J" } : Jvm.MethodName)) ∈ zTb := zTb_in (List.mem_of_getElem? (i := 469) (by decide +kernel)) (by decide +kernel)
theorem kw405 : (Jvm.Cond.code ({ cls := "AllHome$Shelf", name := "at", desc := "(I)J" } : Jvm.MethodName) prog_7_method_11_code (2 : Nat) (Option.some Jvm.ClassFile.FieldType.long)) ∈ zTb := zTb_in (List.mem_of_getElem? (i := 471) (by decide +kernel)) (by decide +kernel)
theorem kp11 : Cond.selects "AllHome$Run" ⟨"AllHome$Run", "hutsAwake", "()I"⟩ ⟨"AllHome$Run", "hutsAwake", "()I"⟩ ∈ zTb := zTb_in (List.mem_of_getElem? (i := 11) (by decide +kernel)) (by decide +kernel)
theorem kw416 : (Jvm.Cond.methodLink "AllHome$Run" (60 : Nat) ({ cls := "AllHome$Run", name := "hutsAwake", desc := "()I" } : Jvm.MethodName)) ∈ zTb := zTb_in (List.mem_of_getElem? (i := 482) (by decide +kernel)) (by decide +kernel)
theorem kw418 : (Jvm.Cond.instanceMethod ({ cls := "AllHome$Run", name := "hutsAwake", desc := "()I" } : Jvm.MethodName)) ∈ zTb := zTb_in (List.mem_of_getElem? (i := 484) (by decide +kernel)) (by decide +kernel)
theorem kw419 : (Jvm.Cond.code ({ cls := "AllHome$Run", name := "hutsAwake", desc := "()I" } : Jvm.MethodName) prog_6_method_7_code (3 : Nat) (Option.some Jvm.ClassFile.FieldType.int)) ∈ zTb := zTb_in (List.mem_of_getElem? (i := 485) (by decide +kernel)) (by decide +kernel)
theorem kw414 : (Jvm.Cond.selects "AllHome$Run" ({ cls := "AllHome$Run", name := "tell", desc := "(I)I" } : Jvm.MethodName) ({ cls := "AllHome$Run", name := "tell", desc := "(I)I" } : Jvm.MethodName)) ∈ zTb := zTb_in (List.mem_of_getElem? (i := 480) (by decide +kernel)) (by decide +kernel)
theorem kw412 : (Jvm.Cond.methodLink "AllHome" (130 : Nat) ({ cls := "AllHome$Run", name := "tell", desc := "(I)I" } : Jvm.MethodName)) ∈ zTb := zTb_in (List.mem_of_getElem? (i := 478) (by decide +kernel)) (by decide +kernel)
theorem kw413 : (Jvm.Cond.instanceMethod ({ cls := "AllHome$Run", name := "tell", desc := "(I)I" } : Jvm.MethodName)) ∈ zTb := zTb_in (List.mem_of_getElem? (i := 479) (by decide +kernel)) (by decide +kernel)
theorem kw415 : (Jvm.Cond.code ({ cls := "AllHome$Run", name := "tell", desc := "(I)I" } : Jvm.MethodName) prog_6_method_6_code (2 : Nat) (Option.some Jvm.ClassFile.FieldType.int)) ∈ zTb := zTb_in (List.mem_of_getElem? (i := 481) (by decide +kernel)) (by decide +kernel)
theorem kw435 : (Jvm.Cond.selects "AllHome$Rules" ({ cls := "AllHome$Rules", name := "family", desc := "()I" } : Jvm.MethodName) ({ cls := "AllHome$Rules", name := "family", desc := "()I" } : Jvm.MethodName)) ∈ zTb := zTb_in (List.mem_of_getElem? (i := 501) (by decide +kernel)) (by decide +kernel)
theorem kw433 : (Jvm.Cond.methodLink "AllHome$Run" (41 : Nat) ({ cls := "AllHome$Rules", name := "family", desc := "()I" } : Jvm.MethodName)) ∈ zTb := zTb_in (List.mem_of_getElem? (i := 499) (by decide +kernel)) (by decide +kernel)
theorem kw434 : (Jvm.Cond.instanceMethod ({ cls := "AllHome$Rules", name := "family", desc := "()I" } : Jvm.MethodName)) ∈ zTb := zTb_in (List.mem_of_getElem? (i := 500) (by decide +kernel)) (by decide +kernel)
theorem kw436 : (Jvm.Cond.code ({ cls := "AllHome$Rules", name := "family", desc := "()I" } : Jvm.MethodName) prog_5_method_2_code (1 : Nat) (Option.some Jvm.ClassFile.FieldType.int)) ∈ zTb := zTb_in (List.mem_of_getElem? (i := 502) (by decide +kernel)) (by decide +kernel)
theorem kw441 : (Jvm.Cond.constant "AllHome$Run" (45 : Nat) (-2000000000 : Int32)) ∈ zTb := zTb_in (List.mem_of_getElem? (i := 507) (by decide +kernel)) (by decide +kernel)
theorem kw426 : (Jvm.Cond.constant "AllHome" (136 : Nat) (-2000000000 : Int32)) ∈ zTb := zTb_in (List.mem_of_getElem? (i := 492) (by decide +kernel)) (by decide +kernel)
theorem kw424 : (Jvm.Cond.fieldLink "AllHome" (133 : Nat) "AllHome" "HUT_CELLS" "[I") ∈ zTb := zTb_in (List.mem_of_getElem? (i := 490) (by decide +kernel)) (by decide +kernel)
theorem kw427 : (Jvm.Cond.fieldLink "AllHome" (137 : Nat) "AllHome" "HUT_FAMILY" "[I") ∈ zTb := zTb_in (List.mem_of_getElem? (i := 493) (by decide +kernel)) (by decide +kernel)
theorem kw439 : (Jvm.Cond.selects "AllHome$Run" ({ cls := "AllHome$Run", name := "cell", desc := "(I)I" } : Jvm.MethodName) ({ cls := "AllHome$Run", name := "cell", desc := "(I)I" } : Jvm.MethodName)) ∈ zTb := zTb_in (List.mem_of_getElem? (i := 505) (by decide +kernel)) (by decide +kernel)
theorem kw437 : (Jvm.Cond.methodLink "AllHome" (143 : Nat) ({ cls := "AllHome$Run", name := "cell", desc := "(I)I" } : Jvm.MethodName)) ∈ zTb := zTb_in (List.mem_of_getElem? (i := 503) (by decide +kernel)) (by decide +kernel)
theorem kw438 : (Jvm.Cond.instanceMethod ({ cls := "AllHome$Run", name := "cell", desc := "(I)I" } : Jvm.MethodName)) ∈ zTb := zTb_in (List.mem_of_getElem? (i := 504) (by decide +kernel)) (by decide +kernel)
theorem kw440 : (Jvm.Cond.code ({ cls := "AllHome$Run", name := "cell", desc := "(I)I" } : Jvm.MethodName) prog_6_method_4_code (2 : Nat) (Option.some Jvm.ClassFile.FieldType.int)) ∈ zTb := zTb_in (List.mem_of_getElem? (i := 506) (by decide +kernel)) (by decide +kernel)
theorem kw431 : (Jvm.Cond.selects "AllHome$Run" ({ cls := "AllHome$Run", name := "family", desc := "()I" } : Jvm.MethodName) ({ cls := "AllHome$Run", name := "family", desc := "()I" } : Jvm.MethodName)) ∈ zTb := zTb_in (List.mem_of_getElem? (i := 497) (by decide +kernel)) (by decide +kernel)
theorem kw429 : (Jvm.Cond.methodLink "AllHome" (140 : Nat) ({ cls := "AllHome$Run", name := "family", desc := "()I" } : Jvm.MethodName)) ∈ zTb := zTb_in (List.mem_of_getElem? (i := 495) (by decide +kernel)) (by decide +kernel)
theorem kw430 : (Jvm.Cond.instanceMethod ({ cls := "AllHome$Run", name := "family", desc := "()I" } : Jvm.MethodName)) ∈ zTb := zTb_in (List.mem_of_getElem? (i := 496) (by decide +kernel)) (by decide +kernel)
theorem kw432 : (Jvm.Cond.code ({ cls := "AllHome$Run", name := "family", desc := "()I" } : Jvm.MethodName) prog_6_method_3_code (1 : Nat) (Option.some Jvm.ClassFile.FieldType.int)) ∈ zTb := zTb_in (List.mem_of_getElem? (i := 498) (by decide +kernel)) (by decide +kernel)
theorem kw79 : (Jvm.Cond.fieldLink "AllHome$Orders" (63 : Nat) "AllHome$Orders" "size" "I") ∈ zTb := zTb_in (List.mem_of_getElem? (i := 145) (by decide +kernel)) (by decide +kernel)
theorem kw78 : (Jvm.Cond.fieldLink "AllHome$Orders" (39 : Nat) "AllHome$Orders" "spare" "[I") ∈ zTb := zTb_in (List.mem_of_getElem? (i := 144) (by decide +kernel)) (by decide +kernel)
theorem kw70 : (Jvm.Cond.fieldLink "AllHome$Orders" (13 : Nat) "AllHome$Orders" "found" "[[I") ∈ zTb := zTb_in (List.mem_of_getElem? (i := 136) (by decide +kernel)) (by decide +kernel)
theorem kw472 : (Jvm.Cond.methodLink "AllHome$Orders" (87 : Nat) ({ cls := "java/lang/System", name := "arraycopy", desc := "(Ljava/lang/Object;ILjava/lang/Object;II)V" } : Jvm.MethodName)) ∈ zTb := zTb_in (List.mem_of_getElem? (i := 538) (by decide +kernel)) (by decide +kernel)
theorem kw71 : (Jvm.Cond.fieldLink "AllHome$Orders" (16 : Nat) "AllHome$Orders" "prints" "[I") ∈ zTb := zTb_in (List.mem_of_getElem? (i := 137) (by decide +kernel)) (by decide +kernel)
theorem kw473 : (Jvm.Cond.methodLink "AllHome$Orders" (100 : Nat) ({ cls := "AllHome$Orders", name := "printOf", desc := "([I)I" } : Jvm.MethodName)) ∈ zTb := zTb_in (List.mem_of_getElem? (i := 539) (by decide +kernel)) (by decide +kernel)
theorem kw474 : (Jvm.Cond.static ({ cls := "AllHome$Orders", name := "printOf", desc := "([I)I" } : Jvm.MethodName)) ∈ zTb := zTb_in (List.mem_of_getElem? (i := 540) (by decide +kernel)) (by decide +kernel)
theorem kw475 : (Jvm.Cond.code ({ cls := "AllHome$Orders", name := "printOf", desc := "([I)I" } : Jvm.MethodName) prog_4_method_10_code (3 : Nat) (Option.some Jvm.ClassFile.FieldType.int)) ∈ zTb := zTb_in (List.mem_of_getElem? (i := 541) (by decide +kernel)) (by decide +kernel)
theorem kw72 : (Jvm.Cond.fieldLink "AllHome$Orders" (20 : Nat) "AllHome$Orders" "ahead" "[I") ∈ zTb := zTb_in (List.mem_of_getElem? (i := 138) (by decide +kernel)) (by decide +kernel)
theorem kw73 : (Jvm.Cond.fieldLink "AllHome$Orders" (23 : Nat) "AllHome$Orders" "stepHere" "[I") ∈ zTb := zTb_in (List.mem_of_getElem? (i := 139) (by decide +kernel)) (by decide +kernel)
theorem kw74 : (Jvm.Cond.fieldLink "AllHome$Orders" (26 : Nat) "AllHome$Orders" "depth" "[I") ∈ zTb := zTb_in (List.mem_of_getElem? (i := 140) (by decide +kernel)) (by decide +kernel)
theorem kw76 : (Jvm.Cond.fieldLink "AllHome$Orders" (32 : Nat) "AllHome$Orders" "nexts" "[I") ∈ zTb := zTb_in (List.mem_of_getElem? (i := 142) (by decide +kernel)) (by decide +kernel)
theorem kw80 : (Jvm.Cond.fieldLink "AllHome$Orders" (59 : Nat) "AllHome$Orders" "big" "Z") ∈ zTb := zTb_in (List.mem_of_getElem? (i := 146) (by decide +kernel)) (by decide +kernel)
theorem kw68 : (Jvm.Cond.fieldLink "AllHome$Orders" (46 : Nat) "AllHome$Orders" "huts" "LAllHome$Huts;") ∈ zTb := zTb_in (List.mem_of_getElem? (i := 134) (by decide +kernel)) (by decide +kernel)
theorem kw466 : (Jvm.Cond.methodLink "AllHome$Orders" (66 : Nat) ({ cls := "AllHome$Huts", name := "size", desc := "()I" } : Jvm.MethodName)) ∈ zTb := zTb_in (List.mem_of_getElem? (i := 532) (by decide +kernel)) (by decide +kernel)
theorem kw489 : (Jvm.Cond.methodLink "AllHome$Orders" (104 : Nat) ({ cls := "AllHome$Orders", name := "alike", desc := "([I[II)Z" } : Jvm.MethodName)) ∈ zTb := zTb_in (List.mem_of_getElem? (i := 555) (by decide +kernel)) (by decide +kernel)
theorem kw490 : (Jvm.Cond.static ({ cls := "AllHome$Orders", name := "alike", desc := "([I[II)Z" } : Jvm.MethodName)) ∈ zTb := zTb_in (List.mem_of_getElem? (i := 556) (by decide +kernel)) (by decide +kernel)
theorem kw491 : (Jvm.Cond.code ({ cls := "AllHome$Orders", name := "alike", desc := "([I[II)Z" } : Jvm.MethodName) prog_4_method_11_code (4 : Nat) (Option.some Jvm.ClassFile.FieldType.boolean)) ∈ zTb := zTb_in (List.mem_of_getElem? (i := 557) (by decide +kernel)) (by decide +kernel)
theorem kw69 : (Jvm.Cond.fieldLink "AllHome$Orders" (55 : Nat) "AllHome$Orders" "rules" "LAllHome$Rules;") ∈ zTb := zTb_in (List.mem_of_getElem? (i := 135) (by decide +kernel)) (by decide +kernel)
theorem kw484 : (Jvm.Cond.methodLink "AllHome$Orders" (93 : Nat) ({ cls := "AllHome$Rules", name := "apply", desc := "([III)I" } : Jvm.MethodName)) ∈ zTb := zTb_in (List.mem_of_getElem? (i := 550) (by decide +kernel)) (by decide +kernel)
theorem kp16 : Cond.selects "AllHome$Orders" ⟨"AllHome$Orders", "findSpare", "()I"⟩ ⟨"AllHome$Orders", "findSpare", "()I"⟩ ∈ zTb := zTb_in (List.mem_of_getElem? (i := 16) (by decide +kernel)) (by decide +kernel)
theorem kw485 : (Jvm.Cond.methodLink "AllHome$Orders" (97 : Nat) ({ cls := "AllHome$Orders", name := "findSpare", desc := "()I" } : Jvm.MethodName)) ∈ zTb := zTb_in (List.mem_of_getElem? (i := 551) (by decide +kernel)) (by decide +kernel)
theorem kw487 : (Jvm.Cond.instanceMethod ({ cls := "AllHome$Orders", name := "findSpare", desc := "()I" } : Jvm.MethodName)) ∈ zTb := zTb_in (List.mem_of_getElem? (i := 553) (by decide +kernel)) (by decide +kernel)
theorem kw488 : (Jvm.Cond.code ({ cls := "AllHome$Orders", name := "findSpare", desc := "()I" } : Jvm.MethodName) prog_4_method_8_code (3 : Nat) (Option.some Jvm.ClassFile.FieldType.int)) ∈ zTb := zTb_in (List.mem_of_getElem? (i := 554) (by decide +kernel)) (by decide +kernel)
theorem kw75 : (Jvm.Cond.fieldLink "AllHome$Orders" (29 : Nat) "AllHome$Orders" "next" "[[I") ∈ zTb := zTb_in (List.mem_of_getElem? (i := 141) (by decide +kernel)) (by decide +kernel)
theorem kp13 : Cond.selects "AllHome$Orders" ⟨"AllHome$Orders", "addSpare", "(II)I"⟩ ⟨"AllHome$Orders", "addSpare", "(II)I"⟩ ∈ zTb := zTb_in (List.mem_of_getElem? (i := 13) (by decide +kernel)) (by decide +kernel)
theorem kw468 : (Jvm.Cond.methodLink "AllHome$Orders" (75 : Nat) ({ cls := "AllHome$Orders", name := "addSpare", desc := "(II)I" } : Jvm.MethodName)) ∈ zTb := zTb_in (List.mem_of_getElem? (i := 534) (by decide +kernel)) (by decide +kernel)
theorem kw470 : (Jvm.Cond.instanceMethod ({ cls := "AllHome$Orders", name := "addSpare", desc := "(II)I" } : Jvm.MethodName)) ∈ zTb := zTb_in (List.mem_of_getElem? (i := 536) (by decide +kernel)) (by decide +kernel)
theorem kw471 : (Jvm.Cond.code ({ cls := "AllHome$Orders", name := "addSpare", desc := "(II)I" } : Jvm.MethodName) prog_4_method_9_code (3 : Nat) (Option.some Jvm.ClassFile.FieldType.int)) ∈ zTb := zTb_in (List.mem_of_getElem? (i := 537) (by decide +kernel)) (by decide +kernel)
theorem kw467 : (Jvm.Cond.methodLink "AllHome$Orders" (71 : Nat) ({ cls := "AllHome$Rules", name := "begin", desc := "([II)V" } : Jvm.MethodName)) ∈ zTb := zTb_in (List.mem_of_getElem? (i := 533) (by decide +kernel)) (by decide +kernel)
theorem kp14 : Cond.selects "AllHome$Orders" ⟨"AllHome$Orders", "numbersOf", "([II)I"⟩ ⟨"AllHome$Orders", "numbersOf", "([II)I"⟩ ∈ zTb := zTb_in (List.mem_of_getElem? (i := 14) (by decide +kernel)) (by decide +kernel)
theorem kw476 : (Jvm.Cond.methodLink "AllHome$Orders" (79 : Nat) ({ cls := "AllHome$Orders", name := "numbersOf", desc := "([II)I" } : Jvm.MethodName)) ∈ zTb := zTb_in (List.mem_of_getElem? (i := 542) (by decide +kernel)) (by decide +kernel)
theorem kw478 : (Jvm.Cond.instanceMethod ({ cls := "AllHome$Orders", name := "numbersOf", desc := "([II)I" } : Jvm.MethodName)) ∈ zTb := zTb_in (List.mem_of_getElem? (i := 544) (by decide +kernel)) (by decide +kernel)
theorem kw479 : (Jvm.Cond.code ({ cls := "AllHome$Orders", name := "numbersOf", desc := "([II)I" } : Jvm.MethodName) prog_4_method_6_code (3 : Nat) (Option.some Jvm.ClassFile.FieldType.int)) ∈ zTb := zTb_in (List.mem_of_getElem? (i := 545) (by decide +kernel)) (by decide +kernel)
theorem kp15 : Cond.selects "AllHome$Orders" ⟨"AllHome$Orders", "tryStep", "(III)V"⟩ ⟨"AllHome$Orders", "tryStep", "(III)V"⟩ ∈ zTb := zTb_in (List.mem_of_getElem? (i := 15) (by decide +kernel)) (by decide +kernel)
theorem kw480 : (Jvm.Cond.methodLink "AllHome$Orders" (83 : Nat) ({ cls := "AllHome$Orders", name := "tryStep", desc := "(III)V" } : Jvm.MethodName)) ∈ zTb := zTb_in (List.mem_of_getElem? (i := 546) (by decide +kernel)) (by decide +kernel)
theorem kw482 : (Jvm.Cond.instanceMethod ({ cls := "AllHome$Orders", name := "tryStep", desc := "(III)V" } : Jvm.MethodName)) ∈ zTb := zTb_in (List.mem_of_getElem? (i := 548) (by decide +kernel)) (by decide +kernel)
theorem kw483 : (Jvm.Cond.code ({ cls := "AllHome$Orders", name := "tryStep", desc := "(III)V" } : Jvm.MethodName) prog_4_method_7_code (5 : Nat) (Option.none : Option Jvm.ClassFile.FieldType)) ∈ zTb := zTb_in (List.mem_of_getElem? (i := 549) (by decide +kernel)) (by decide +kernel)
theorem kw464 : (Jvm.Cond.selects "AllHome$Orders" ({ cls := "AllHome$Orders", name := "explore", desc := "(I)V" } : Jvm.MethodName) ({ cls := "AllHome$Orders", name := "explore", desc := "(I)V" } : Jvm.MethodName)) ∈ zTb := zTb_in (List.mem_of_getElem? (i := 530) (by decide +kernel)) (by decide +kernel)
theorem kw462 : (Jvm.Cond.methodLink "AllHome" (168 : Nat) ({ cls := "AllHome$Orders", name := "explore", desc := "(I)V" } : Jvm.MethodName)) ∈ zTb := zTb_in (List.mem_of_getElem? (i := 528) (by decide +kernel)) (by decide +kernel)
theorem kw463 : (Jvm.Cond.instanceMethod ({ cls := "AllHome$Orders", name := "explore", desc := "(I)V" } : Jvm.MethodName)) ∈ zTb := zTb_in (List.mem_of_getElem? (i := 529) (by decide +kernel)) (by decide +kernel)
theorem kw465 : (Jvm.Cond.code ({ cls := "AllHome$Orders", name := "explore", desc := "(I)V" } : Jvm.MethodName) prog_4_method_5_code (7 : Nat) (Option.none : Option Jvm.ClassFile.FieldType)) ∈ zTb := zTb_in (List.mem_of_getElem? (i := 531) (by decide +kernel)) (by decide +kernel)
theorem kw494 : (Jvm.Cond.selects "AllHome$Orders" ({ cls := "AllHome$Orders", name := "isBig", desc := "()Z" } : Jvm.MethodName) ({ cls := "AllHome$Orders", name := "isBig", desc := "()Z" } : Jvm.MethodName)) ∈ zTb := zTb_in (List.mem_of_getElem? (i := 560) (by decide +kernel)) (by decide +kernel)
theorem kw492 : (Jvm.Cond.methodLink "AllHome" (172 : Nat) ({ cls := "AllHome$Orders", name := "isBig", desc := "()Z" } : Jvm.MethodName)) ∈ zTb := zTb_in (List.mem_of_getElem? (i := 558) (by decide +kernel)) (by decide +kernel)
theorem kw493 : (Jvm.Cond.instanceMethod ({ cls := "AllHome$Orders", name := "isBig", desc := "()Z" } : Jvm.MethodName)) ∈ zTb := zTb_in (List.mem_of_getElem? (i := 559) (by decide +kernel)) (by decide +kernel)
theorem kw495 : (Jvm.Cond.code ({ cls := "AllHome$Orders", name := "isBig", desc := "()Z" } : Jvm.MethodName) prog_4_method_3_code (1 : Nat) (Option.some Jvm.ClassFile.FieldType.boolean)) ∈ zTb := zTb_in (List.mem_of_getElem? (i := 561) (by decide +kernel)) (by decide +kernel)
theorem kp12 : Cond.selects "AllHome" ⟨"AllHome", "goThrough", "(I)I"⟩ ⟨"AllHome", "goThrough", "(I)I"⟩ ∈ zTb := zTb_in (List.mem_of_getElem? (i := 12) (by decide +kernel)) (by decide +kernel)
theorem kw458 : (Jvm.Cond.methodLink "AllHome" (146 : Nat) ({ cls := "AllHome", name := "goThrough", desc := "(I)I" } : Jvm.MethodName)) ∈ zTb := zTb_in (List.mem_of_getElem? (i := 524) (by decide +kernel)) (by decide +kernel)
theorem kw460 : (Jvm.Cond.instanceMethod ({ cls := "AllHome", name := "goThrough", desc := "(I)I" } : Jvm.MethodName)) ∈ zTb := zTb_in (List.mem_of_getElem? (i := 526) (by decide +kernel)) (by decide +kernel)
theorem kw461 : (Jvm.Cond.code ({ cls := "AllHome", name := "goThrough", desc := "(I)I" } : Jvm.MethodName) prog_1_method_34_code (2 : Nat) (Option.some Jvm.ClassFile.FieldType.int)) ∈ zTb := zTb_in (List.mem_of_getElem? (i := 527) (by decide +kernel)) (by decide +kernel)
theorem kw498 : (Jvm.Cond.selects "AllHome$Orders" ({ cls := "AllHome$Orders", name := "size", desc := "()I" } : Jvm.MethodName) ({ cls := "AllHome$Orders", name := "size", desc := "()I" } : Jvm.MethodName)) ∈ zTb := zTb_in (List.mem_of_getElem? (i := 564) (by decide +kernel)) (by decide +kernel)
theorem kw496 : (Jvm.Cond.methodLink "AllHome" (149 : Nat) ({ cls := "AllHome$Orders", name := "size", desc := "()I" } : Jvm.MethodName)) ∈ zTb := zTb_in (List.mem_of_getElem? (i := 562) (by decide +kernel)) (by decide +kernel)
theorem kw497 : (Jvm.Cond.instanceMethod ({ cls := "AllHome$Orders", name := "size", desc := "()I" } : Jvm.MethodName)) ∈ zTb := zTb_in (List.mem_of_getElem? (i := 563) (by decide +kernel)) (by decide +kernel)
theorem kw499 : (Jvm.Cond.code ({ cls := "AllHome$Orders", name := "size", desc := "()I" } : Jvm.MethodName) prog_4_method_4_code (1 : Nat) (Option.some Jvm.ClassFile.FieldType.int)) ∈ zTb := zTb_in (List.mem_of_getElem? (i := 565) (by decide +kernel)) (by decide +kernel)
theorem kp17 : Cond.selects "AllHome$Orders" ⟨"AllHome$Orders", "firstSaying", "(Z)I"⟩ ⟨"AllHome$Orders", "firstSaying", "(Z)I"⟩ ∈ zTb := zTb_in (List.mem_of_getElem? (i := 17) (by decide +kernel)) (by decide +kernel)
theorem kw508 : (Jvm.Cond.methodLink "AllHome$Orders" (108 : Nat) ({ cls := "AllHome$Orders", name := "firstSaying", desc := "(Z)I" } : Jvm.MethodName)) ∈ zTb := zTb_in (List.mem_of_getElem? (i := 574) (by decide +kernel)) (by decide +kernel)
theorem kw510 : (Jvm.Cond.instanceMethod ({ cls := "AllHome$Orders", name := "firstSaying", desc := "(Z)I" } : Jvm.MethodName)) ∈ zTb := zTb_in (List.mem_of_getElem? (i := 576) (by decide +kernel)) (by decide +kernel)
theorem kw511 : (Jvm.Cond.code ({ cls := "AllHome$Orders", name := "firstSaying", desc := "(Z)I" } : Jvm.MethodName) prog_4_method_14_code (3 : Nat) (Option.some Jvm.ClassFile.FieldType.int)) ∈ zTb := zTb_in (List.mem_of_getElem? (i := 577) (by decide +kernel)) (by decide +kernel)
theorem kw519 : (Jvm.Cond.selects "AllHome$Orders" ({ cls := "AllHome$Orders", name := "stepsTo", desc := "(I)I" } : Jvm.MethodName) ({ cls := "AllHome$Orders", name := "stepsTo", desc := "(I)I" } : Jvm.MethodName)) ∈ zTb := zTb_in (List.mem_of_getElem? (i := 585) (by decide +kernel)) (by decide +kernel)
theorem kw525 : (Jvm.Cond.methodLink "AllHome$Orders" (116 : Nat) ({ cls := "AllHome$Orders", name := "stepsTo", desc := "(I)I" } : Jvm.MethodName)) ∈ zTb := zTb_in (List.mem_of_getElem? (i := 591) (by decide +kernel)) (by decide +kernel)
theorem kw518 : (Jvm.Cond.instanceMethod ({ cls := "AllHome$Orders", name := "stepsTo", desc := "(I)I" } : Jvm.MethodName)) ∈ zTb := zTb_in (List.mem_of_getElem? (i := 584) (by decide +kernel)) (by decide +kernel)
theorem kw520 : (Jvm.Cond.code ({ cls := "AllHome$Orders", name := "stepsTo", desc := "(I)I" } : Jvm.MethodName) prog_4_method_15_code (2 : Nat) (Option.some Jvm.ClassFile.FieldType.int)) ∈ zTb := zTb_in (List.mem_of_getElem? (i := 586) (by decide +kernel)) (by decide +kernel)
theorem kw515 : (Jvm.Cond.selects "AllHome$Orders" ({ cls := "AllHome$Orders", name := "soon", desc := "()I" } : Jvm.MethodName) ({ cls := "AllHome$Orders", name := "soon", desc := "()I" } : Jvm.MethodName)) ∈ zTb := zTb_in (List.mem_of_getElem? (i := 581) (by decide +kernel)) (by decide +kernel)
theorem kw513 : (Jvm.Cond.methodLink "AllHome" (153 : Nat) ({ cls := "AllHome$Orders", name := "soon", desc := "()I" } : Jvm.MethodName)) ∈ zTb := zTb_in (List.mem_of_getElem? (i := 579) (by decide +kernel)) (by decide +kernel)
theorem kw514 : (Jvm.Cond.instanceMethod ({ cls := "AllHome$Orders", name := "soon", desc := "()I" } : Jvm.MethodName)) ∈ zTb := zTb_in (List.mem_of_getElem? (i := 580) (by decide +kernel)) (by decide +kernel)
theorem kw516 : (Jvm.Cond.code ({ cls := "AllHome$Orders", name := "soon", desc := "()I" } : Jvm.MethodName) prog_4_method_13_code (1 : Nat) (Option.some Jvm.ClassFile.FieldType.int)) ∈ zTb := zTb_in (List.mem_of_getElem? (i := 582) (by decide +kernel)) (by decide +kernel)
theorem kw517 : (Jvm.Cond.methodLink "AllHome" (156 : Nat) ({ cls := "AllHome$Orders", name := "stepsTo", desc := "(I)I" } : Jvm.MethodName)) ∈ zTb := zTb_in (List.mem_of_getElem? (i := 583) (by decide +kernel)) (by decide +kernel)
theorem kw523 : (Jvm.Cond.selects "AllHome$Orders" ({ cls := "AllHome$Orders", name := "stepOnTheWayTo", desc := "(II)I" } : Jvm.MethodName) ({ cls := "AllHome$Orders", name := "stepOnTheWayTo", desc := "(II)I" } : Jvm.MethodName)) ∈ zTb := zTb_in (List.mem_of_getElem? (i := 589) (by decide +kernel)) (by decide +kernel)
theorem kw521 : (Jvm.Cond.methodLink "AllHome" (159 : Nat) ({ cls := "AllHome$Orders", name := "stepOnTheWayTo", desc := "(II)I" } : Jvm.MethodName)) ∈ zTb := zTb_in (List.mem_of_getElem? (i := 587) (by decide +kernel)) (by decide +kernel)
theorem kw522 : (Jvm.Cond.instanceMethod ({ cls := "AllHome$Orders", name := "stepOnTheWayTo", desc := "(II)I" } : Jvm.MethodName)) ∈ zTb := zTb_in (List.mem_of_getElem? (i := 588) (by decide +kernel)) (by decide +kernel)
theorem kw524 : (Jvm.Cond.code ({ cls := "AllHome$Orders", name := "stepOnTheWayTo", desc := "(II)I" } : Jvm.MethodName) prog_4_method_16_code (5 : Nat) (Option.some Jvm.ClassFile.FieldType.int)) ∈ zTb := zTb_in (List.mem_of_getElem? (i := 590) (by decide +kernel)) (by decide +kernel)
theorem kw506 : (Jvm.Cond.selects "AllHome$Orders" ({ cls := "AllHome$Orders", name := "early", desc := "()I" } : Jvm.MethodName) ({ cls := "AllHome$Orders", name := "early", desc := "()I" } : Jvm.MethodName)) ∈ zTb := zTb_in (List.mem_of_getElem? (i := 572) (by decide +kernel)) (by decide +kernel)
theorem kw504 : (Jvm.Cond.methodLink "AllHome" (150 : Nat) ({ cls := "AllHome$Orders", name := "early", desc := "()I" } : Jvm.MethodName)) ∈ zTb := zTb_in (List.mem_of_getElem? (i := 570) (by decide +kernel)) (by decide +kernel)
theorem kw505 : (Jvm.Cond.instanceMethod ({ cls := "AllHome$Orders", name := "early", desc := "()I" } : Jvm.MethodName)) ∈ zTb := zTb_in (List.mem_of_getElem? (i := 571) (by decide +kernel)) (by decide +kernel)
theorem kw507 : (Jvm.Cond.code ({ cls := "AllHome$Orders", name := "early", desc := "()I" } : Jvm.MethodName) prog_4_method_12_code (1 : Nat) (Option.some Jvm.ClassFile.FieldType.int)) ∈ zTb := zTb_in (List.mem_of_getElem? (i := 573) (by decide +kernel)) (by decide +kernel)
theorem kw77 : (Jvm.Cond.fieldLink "AllHome$Orders" (35 : Nat) "AllHome$Orders" "canSay" "[Z") ∈ zTb := zTb_in (List.mem_of_getElem? (i := 143) (by decide +kernel)) (by decide +kernel)
theorem kp18 : Cond.selects "AllHome$Orders" ⟨"AllHome$Orders", "spreadCanSay", "()Z"⟩ ⟨"AllHome$Orders", "spreadCanSay", "()Z"⟩ ∈ zTb := zTb_in (List.mem_of_getElem? (i := 18) (by decide +kernel)) (by decide +kernel)
theorem kw534 : (Jvm.Cond.methodLink "AllHome$Orders" (120 : Nat) ({ cls := "AllHome$Orders", name := "spreadCanSay", desc := "()Z" } : Jvm.MethodName)) ∈ zTb := zTb_in (List.mem_of_getElem? (i := 600) (by decide +kernel)) (by decide +kernel)
theorem kw536 : (Jvm.Cond.instanceMethod ({ cls := "AllHome$Orders", name := "spreadCanSay", desc := "()Z" } : Jvm.MethodName)) ∈ zTb := zTb_in (List.mem_of_getElem? (i := 602) (by decide +kernel)) (by decide +kernel)
theorem kw537 : (Jvm.Cond.code ({ cls := "AllHome$Orders", name := "spreadCanSay", desc := "()Z" } : Jvm.MethodName) prog_4_method_18_code (4 : Nat) (Option.some Jvm.ClassFile.FieldType.boolean)) ∈ zTb := zTb_in (List.mem_of_getElem? (i := 603) (by decide +kernel)) (by decide +kernel)
theorem kw532 : (Jvm.Cond.selects "AllHome$Orders" ({ cls := "AllHome$Orders", name := "stuckStates", desc := "()I" } : Jvm.MethodName) ({ cls := "AllHome$Orders", name := "stuckStates", desc := "()I" } : Jvm.MethodName)) ∈ zTb := zTb_in (List.mem_of_getElem? (i := 598) (by decide +kernel)) (by decide +kernel)
theorem kw530 : (Jvm.Cond.methodLink "AllHome" (162 : Nat) ({ cls := "AllHome$Orders", name := "stuckStates", desc := "()I" } : Jvm.MethodName)) ∈ zTb := zTb_in (List.mem_of_getElem? (i := 596) (by decide +kernel)) (by decide +kernel)
theorem kw531 : (Jvm.Cond.instanceMethod ({ cls := "AllHome$Orders", name := "stuckStates", desc := "()I" } : Jvm.MethodName)) ∈ zTb := zTb_in (List.mem_of_getElem? (i := 597) (by decide +kernel)) (by decide +kernel)
theorem kw533 : (Jvm.Cond.code ({ cls := "AllHome$Orders", name := "stuckStates", desc := "()I" } : Jvm.MethodName) prog_4_method_17_code (4 : Nat) (Option.some Jvm.ClassFile.FieldType.int)) ∈ zTb := zTb_in (List.mem_of_getElem? (i := 599) (by decide +kernel)) (by decide +kernel)
theorem kw544 : (Jvm.Cond.selects "AllHome$Orders" ({ cls := "AllHome$Orders", name := "unlikeWorks", desc := "()I" } : Jvm.MethodName) ({ cls := "AllHome$Orders", name := "unlikeWorks", desc := "()I" } : Jvm.MethodName)) ∈ zTb := zTb_in (List.mem_of_getElem? (i := 610) (by decide +kernel)) (by decide +kernel)
theorem kw542 : (Jvm.Cond.methodLink "AllHome" (165 : Nat) ({ cls := "AllHome$Orders", name := "unlikeWorks", desc := "()I" } : Jvm.MethodName)) ∈ zTb := zTb_in (List.mem_of_getElem? (i := 608) (by decide +kernel)) (by decide +kernel)
theorem kw543 : (Jvm.Cond.instanceMethod ({ cls := "AllHome$Orders", name := "unlikeWorks", desc := "()I" } : Jvm.MethodName)) ∈ zTb := zTb_in (List.mem_of_getElem? (i := 609) (by decide +kernel)) (by decide +kernel)
theorem kw545 : (Jvm.Cond.code ({ cls := "AllHome$Orders", name := "unlikeWorks", desc := "()I" } : Jvm.MethodName) prog_4_method_19_code (5 : Nat) (Option.some Jvm.ClassFile.FieldType.int)) ∈ zTb := zTb_in (List.mem_of_getElem? (i := 611) (by decide +kernel)) (by decide +kernel)
theorem kw118 : (Jvm.Cond.fieldLink "AllHome$Acts" (15 : Nat) "AllHome$Acts" "ran" "I") ∈ zTb := zTb_in (List.mem_of_getElem? (i := 184) (by decide +kernel)) (by decide +kernel)
theorem kw566 : (Jvm.Cond.fieldLink "AllHome$Acts" (44 : Nat) "AllHome$Acts" "BODIES" "[I") ∈ zTb := zTb_in (List.mem_of_getElem? (i := 632) (by decide +kernel)) (by decide +kernel)
theorem kw117 : (Jvm.Cond.fieldLink "AllHome$Acts" (11 : Nat) "AllHome$Acts" "traced" "[I") ∈ zTb := zTb_in (List.mem_of_getElem? (i := 183) (by decide +kernel)) (by decide +kernel)
theorem kw562 : (Jvm.Cond.methodLink "AllHome$Acts" (29 : Nat) ({ cls := "AllHome$Acts", name := "bodyOf", desc := "(II)I" } : Jvm.MethodName)) ∈ zTb := zTb_in (List.mem_of_getElem? (i := 628) (by decide +kernel)) (by decide +kernel)
theorem kw563 : (Jvm.Cond.static ({ cls := "AllHome$Acts", name := "bodyOf", desc := "(II)I" } : Jvm.MethodName)) ∈ zTb := zTb_in (List.mem_of_getElem? (i := 629) (by decide +kernel)) (by decide +kernel)
theorem kw5 : (Jvm.Cond.initialized "AllHome$Acts") ∈ zTb := zTb_in (List.mem_of_getElem? (i := 71) (by decide +kernel)) (by decide +kernel)
theorem kw564 : (Jvm.Cond.code ({ cls := "AllHome$Acts", name := "bodyOf", desc := "(II)I" } : Jvm.MethodName) prog_2_method_7_code (2 : Nat) (Option.some Jvm.ClassFile.FieldType.int)) ∈ zTb := zTb_in (List.mem_of_getElem? (i := 630) (by decide +kernel)) (by decide +kernel)
theorem kp20 : Cond.selects "AllHome$Acts" ⟨"AllHome$Acts", "begun", "(I)V"⟩ ⟨"AllHome$Acts", "begun", "(I)V"⟩ ∈ zTb := zTb_in (List.mem_of_getElem? (i := 20) (by decide +kernel)) (by decide +kernel)
theorem kw569 : (Jvm.Cond.methodLink "AllHome$Acts" (40 : Nat) ({ cls := "AllHome$Acts", name := "begun", desc := "(I)V" } : Jvm.MethodName)) ∈ zTb := zTb_in (List.mem_of_getElem? (i := 635) (by decide +kernel)) (by decide +kernel)
theorem kw571 : (Jvm.Cond.instanceMethod ({ cls := "AllHome$Acts", name := "begun", desc := "(I)V" } : Jvm.MethodName)) ∈ zTb := zTb_in (List.mem_of_getElem? (i := 637) (by decide +kernel)) (by decide +kernel)
theorem kw572 : (Jvm.Cond.code ({ cls := "AllHome$Acts", name := "begun", desc := "(I)V" } : Jvm.MethodName) prog_2_method_8_code (2 : Nat) (Option.none : Option Jvm.ClassFile.FieldType)) ∈ zTb := zTb_in (List.mem_of_getElem? (i := 638) (by decide +kernel)) (by decide +kernel)
theorem kw120 : (Jvm.Cond.fieldLink "AllHome$Acts" (22 : Nat) "AllHome$Acts" "number" "I") ∈ zTb := zTb_in (List.mem_of_getElem? (i := 186) (by decide +kernel)) (by decide +kernel)
theorem kw119 : (Jvm.Cond.fieldLink "AllHome$Acts" (19 : Nat) "AllHome$Acts" "kind" "I") ∈ zTb := zTb_in (List.mem_of_getElem? (i := 185) (by decide +kernel)) (by decide +kernel)
theorem kp19 : Cond.selects "AllHome$Acts" ⟨"AllHome$Acts", "perform", "(IIII)I"⟩ ⟨"AllHome$Acts", "perform", "(IIII)I"⟩ ∈ zTb := zTb_in (List.mem_of_getElem? (i := 19) (by decide +kernel)) (by decide +kernel)
theorem kw558 : (Jvm.Cond.methodLink "AllHome$Acts" (25 : Nat) ({ cls := "AllHome$Acts", name := "perform", desc := "(IIII)I" } : Jvm.MethodName)) ∈ zTb := zTb_in (List.mem_of_getElem? (i := 624) (by decide +kernel)) (by decide +kernel)
theorem kw560 : (Jvm.Cond.instanceMethod ({ cls := "AllHome$Acts", name := "perform", desc := "(IIII)I" } : Jvm.MethodName)) ∈ zTb := zTb_in (List.mem_of_getElem? (i := 626) (by decide +kernel)) (by decide +kernel)
theorem kw561 : (Jvm.Cond.code ({ cls := "AllHome$Acts", name := "perform", desc := "(IIII)I" } : Jvm.MethodName) prog_2_method_6_code (9 : Nat) (Option.some Jvm.ClassFile.FieldType.int)) ∈ zTb := zTb_in (List.mem_of_getElem? (i := 627) (by decide +kernel)) (by decide +kernel)
theorem kw187 : (Jvm.Cond.fieldLink "AllHome" (47 : Nat) "AllHome" "acts" "LAllHome$Acts;") ∈ zTb := zTb_in (List.mem_of_getElem? (i := 253) (by decide +kernel)) (by decide +kernel)
theorem kw552 : (Jvm.Cond.selects "AllHome$Acts" ({ cls := "AllHome$Acts", name := "clear", desc := "()V" } : Jvm.MethodName) ({ cls := "AllHome$Acts", name := "clear", desc := "()V" } : Jvm.MethodName)) ∈ zTb := zTb_in (List.mem_of_getElem? (i := 618) (by decide +kernel)) (by decide +kernel)
theorem kw550 : (Jvm.Cond.methodLink "AllHome" (175 : Nat) ({ cls := "AllHome$Acts", name := "clear", desc := "()V" } : Jvm.MethodName)) ∈ zTb := zTb_in (List.mem_of_getElem? (i := 616) (by decide +kernel)) (by decide +kernel)
theorem kw551 : (Jvm.Cond.instanceMethod ({ cls := "AllHome$Acts", name := "clear", desc := "()V" } : Jvm.MethodName)) ∈ zTb := zTb_in (List.mem_of_getElem? (i := 617) (by decide +kernel)) (by decide +kernel)
theorem kw553 : (Jvm.Cond.code ({ cls := "AllHome$Acts", name := "clear", desc := "()V" } : Jvm.MethodName) prog_2_method_2_code (1 : Nat) (Option.none : Option Jvm.ClassFile.FieldType)) ∈ zTb := zTb_in (List.mem_of_getElem? (i := 619) (by decide +kernel)) (by decide +kernel)
theorem kw556 : (Jvm.Cond.selects "AllHome$Acts" ({ cls := "AllHome$Acts", name := "begin", desc := "(IIII)I" } : Jvm.MethodName) ({ cls := "AllHome$Acts", name := "begin", desc := "(IIII)I" } : Jvm.MethodName)) ∈ zTb := zTb_in (List.mem_of_getElem? (i := 622) (by decide +kernel)) (by decide +kernel)
theorem kw554 : (Jvm.Cond.methodLink "AllHome" (178 : Nat) ({ cls := "AllHome$Acts", name := "begin", desc := "(IIII)I" } : Jvm.MethodName)) ∈ zTb := zTb_in (List.mem_of_getElem? (i := 620) (by decide +kernel)) (by decide +kernel)
theorem kw555 : (Jvm.Cond.instanceMethod ({ cls := "AllHome$Acts", name := "begin", desc := "(IIII)I" } : Jvm.MethodName)) ∈ zTb := zTb_in (List.mem_of_getElem? (i := 621) (by decide +kernel)) (by decide +kernel)
theorem kw557 : (Jvm.Cond.code ({ cls := "AllHome$Acts", name := "begin", desc := "(IIII)I" } : Jvm.MethodName) prog_2_method_5_code (5 : Nat) (Option.some Jvm.ClassFile.FieldType.int)) ∈ zTb := zTb_in (List.mem_of_getElem? (i := 623) (by decide +kernel)) (by decide +kernel)
theorem kw579 : (Jvm.Cond.selects "AllHome$Acts" ({ cls := "AllHome$Acts", name := "traced", desc := "(I)I" } : Jvm.MethodName) ({ cls := "AllHome$Acts", name := "traced", desc := "(I)I" } : Jvm.MethodName)) ∈ zTb := zTb_in (List.mem_of_getElem? (i := 645) (by decide +kernel)) (by decide +kernel)
theorem kw577 : (Jvm.Cond.methodLink "AllHome" (181 : Nat) ({ cls := "AllHome$Acts", name := "traced", desc := "(I)I" } : Jvm.MethodName)) ∈ zTb := zTb_in (List.mem_of_getElem? (i := 643) (by decide +kernel)) (by decide +kernel)
theorem kw578 : (Jvm.Cond.instanceMethod ({ cls := "AllHome$Acts", name := "traced", desc := "(I)I" } : Jvm.MethodName)) ∈ zTb := zTb_in (List.mem_of_getElem? (i := 644) (by decide +kernel)) (by decide +kernel)
theorem kw580 : (Jvm.Cond.code ({ cls := "AllHome$Acts", name := "traced", desc := "(I)I" } : Jvm.MethodName) prog_2_method_4_code (2 : Nat) (Option.some Jvm.ClassFile.FieldType.int)) ∈ zTb := zTb_in (List.mem_of_getElem? (i := 646) (by decide +kernel)) (by decide +kernel)
theorem kw587 : (Jvm.Cond.selects "AllHome$Shelf" ({ cls := "AllHome$Shelf", name := "holdWay", desc := "(I)V" } : Jvm.MethodName) ({ cls := "AllHome$Shelf", name := "holdWay", desc := "(I)V" } : Jvm.MethodName)) ∈ zTb := zTb_in (List.mem_of_getElem? (i := 653) (by decide +kernel)) (by decide +kernel)
theorem kw585 : (Jvm.Cond.methodLink "AllHome" (184 : Nat) ({ cls := "AllHome$Shelf", name := "holdWay", desc := "(I)V" } : Jvm.MethodName)) ∈ zTb := zTb_in (List.mem_of_getElem? (i := 651) (by decide +kernel)) (by decide +kernel)
theorem kw586 : (Jvm.Cond.instanceMethod ({ cls := "AllHome$Shelf", name := "holdWay", desc := "(I)V" } : Jvm.MethodName)) ∈ zTb := zTb_in (List.mem_of_getElem? (i := 652) (by decide +kernel)) (by decide +kernel)
theorem kw588 : (Jvm.Cond.code ({ cls := "AllHome$Shelf", name := "holdWay", desc := "(I)V" } : Jvm.MethodName) prog_7_method_2_code (2 : Nat) (Option.none : Option Jvm.ClassFile.FieldType)) ∈ zTb := zTb_in (List.mem_of_getElem? (i := 654) (by decide +kernel)) (by decide +kernel)
theorem kw597 : (Jvm.Cond.methodLink "AllHome$Shelf" (25 : Nat) ({ cls := "java/lang/Math", name := "min", desc := "(II)I" } : Jvm.MethodName)) ∈ zTb := zTb_in (List.mem_of_getElem? (i := 663) (by decide +kernel)) (by decide +kernel)
theorem kw598 : (Jvm.Cond.methodLink "AllHome$Shelf" (31 : Nat) ({ cls := "java/lang/Math", name := "max", desc := "(II)I" } : Jvm.MethodName)) ∈ zTb := zTb_in (List.mem_of_getElem? (i := 664) (by decide +kernel)) (by decide +kernel)
theorem kw599 : (Jvm.Cond.static ({ cls := "java/lang/Math", name := "max", desc := "(II)I" } : Jvm.MethodName)) ∈ zTb := zTb_in (List.mem_of_getElem? (i := 665) (by decide +kernel)) (by decide +kernel)
theorem kw600 : (Jvm.Cond.code ({ cls := "java/lang/Math", name := "max", desc := "(II)I" } : Jvm.MethodName) prog_10_method_65_code (2 : Nat) (Option.some Jvm.ClassFile.FieldType.int)) ∈ zTb := zTb_in (List.mem_of_getElem? (i := 666) (by decide +kernel)) (by decide +kernel)
theorem kw601 : (Jvm.Cond.methodLink "AllHome$Shelf" (34 : Nat) ({ cls := "java/util/Arrays", name := "fill", desc := "([JJ)V" } : Jvm.MethodName)) ∈ zTb := zTb_in (List.mem_of_getElem? (i := 667) (by decide +kernel)) (by decide +kernel)
theorem kw602 : (Jvm.Cond.static ({ cls := "java/util/Arrays", name := "fill", desc := "([JJ)V" } : Jvm.MethodName)) ∈ zTb := zTb_in (List.mem_of_getElem? (i := 668) (by decide +kernel)) (by decide +kernel)
theorem kw603 : (Jvm.Cond.code ({ cls := "java/util/Arrays", name := "fill", desc := "([JJ)V" } : Jvm.MethodName) prog_12_method_101_code (5 : Nat) (Option.none : Option Jvm.ClassFile.FieldType)) ∈ zTb := zTb_in (List.mem_of_getElem? (i := 669) (by decide +kernel)) (by decide +kernel)
theorem kw595 : (Jvm.Cond.selects "AllHome$Shelf" ({ cls := "AllHome$Shelf", name := "holdRow", desc := "(II)V" } : Jvm.MethodName) ({ cls := "AllHome$Shelf", name := "holdRow", desc := "(II)V" } : Jvm.MethodName)) ∈ zTb := zTb_in (List.mem_of_getElem? (i := 661) (by decide +kernel)) (by decide +kernel)
theorem kw593 : (Jvm.Cond.methodLink "AllHome" (187 : Nat) ({ cls := "AllHome$Shelf", name := "holdRow", desc := "(II)V" } : Jvm.MethodName)) ∈ zTb := zTb_in (List.mem_of_getElem? (i := 659) (by decide +kernel)) (by decide +kernel)
theorem kw594 : (Jvm.Cond.instanceMethod ({ cls := "AllHome$Shelf", name := "holdRow", desc := "(II)V" } : Jvm.MethodName)) ∈ zTb := zTb_in (List.mem_of_getElem? (i := 660) (by decide +kernel)) (by decide +kernel)
theorem kw596 : (Jvm.Cond.code ({ cls := "AllHome$Shelf", name := "holdRow", desc := "(II)V" } : Jvm.MethodName) prog_7_method_3_code (3 : Nat) (Option.none : Option Jvm.ClassFile.FieldType)) ∈ zTb := zTb_in (List.mem_of_getElem? (i := 662) (by decide +kernel)) (by decide +kernel)
theorem kw614 : (Jvm.Cond.selects "AllHome$Shelf" ({ cls := "AllHome$Shelf", name := "isRow", desc := "()Z" } : Jvm.MethodName) ({ cls := "AllHome$Shelf", name := "isRow", desc := "()Z" } : Jvm.MethodName)) ∈ zTb := zTb_in (List.mem_of_getElem? (i := 680) (by decide +kernel)) (by decide +kernel)
theorem kw612 : (Jvm.Cond.methodLink "AllHome" (201 : Nat) ({ cls := "AllHome$Shelf", name := "isRow", desc := "()Z" } : Jvm.MethodName)) ∈ zTb := zTb_in (List.mem_of_getElem? (i := 678) (by decide +kernel)) (by decide +kernel)
theorem kw613 : (Jvm.Cond.instanceMethod ({ cls := "AllHome$Shelf", name := "isRow", desc := "()Z" } : Jvm.MethodName)) ∈ zTb := zTb_in (List.mem_of_getElem? (i := 679) (by decide +kernel)) (by decide +kernel)
theorem kw615 : (Jvm.Cond.code ({ cls := "AllHome$Shelf", name := "isRow", desc := "()Z" } : Jvm.MethodName) prog_7_method_5_code (1 : Nat) (Option.some Jvm.ClassFile.FieldType.boolean)) ∈ zTb := zTb_in (List.mem_of_getElem? (i := 681) (by decide +kernel)) (by decide +kernel)
theorem kp22 : Cond.selects "AllHome$Shelf" ⟨"AllHome$Shelf", "lowestBits", "(J)J"⟩ ⟨"AllHome$Shelf", "lowestBits", "(J)J"⟩ ∈ zTb := zTb_in (List.mem_of_getElem? (i := 22) (by decide +kernel)) (by decide +kernel)
theorem kw620 : (Jvm.Cond.methodLink "AllHome$Shelf" (48 : Nat) ({ cls := "AllHome$Shelf", name := "lowestBits", desc := "(J)J" } : Jvm.MethodName)) ∈ zTb := zTb_in (List.mem_of_getElem? (i := 686) (by decide +kernel)) (by decide +kernel)
theorem kw622 : (Jvm.Cond.instanceMethod ({ cls := "AllHome$Shelf", name := "lowestBits", desc := "(J)J" } : Jvm.MethodName)) ∈ zTb := zTb_in (List.mem_of_getElem? (i := 688) (by decide +kernel)) (by decide +kernel)
theorem kw623 : (Jvm.Cond.code ({ cls := "AllHome$Shelf", name := "lowestBits", desc := "(J)J" } : Jvm.MethodName) prog_7_method_13_code (3 : Nat) (Option.some Jvm.ClassFile.FieldType.long)) ∈ zTb := zTb_in (List.mem_of_getElem? (i := 689) (by decide +kernel)) (by decide +kernel)
theorem kp21 : Cond.selects "AllHome" ⟨"AllHome", "wantPlace", "(II)I"⟩ ⟨"AllHome", "wantPlace", "(II)I"⟩ ∈ zTb := zTb_in (List.mem_of_getElem? (i := 21) (by decide +kernel)) (by decide +kernel)
theorem kw608 : (Jvm.Cond.methodLink "AllHome" (190 : Nat) ({ cls := "AllHome", name := "wantPlace", desc := "(II)I" } : Jvm.MethodName)) ∈ zTb := zTb_in (List.mem_of_getElem? (i := 674) (by decide +kernel)) (by decide +kernel)
theorem kw610 : (Jvm.Cond.instanceMethod ({ cls := "AllHome", name := "wantPlace", desc := "(II)I" } : Jvm.MethodName)) ∈ zTb := zTb_in (List.mem_of_getElem? (i := 676) (by decide +kernel)) (by decide +kernel)
theorem kw611 : (Jvm.Cond.code ({ cls := "AllHome", name := "wantPlace", desc := "(II)I" } : Jvm.MethodName) prog_1_method_35_code (3 : Nat) (Option.some Jvm.ClassFile.FieldType.int)) ∈ zTb := zTb_in (List.mem_of_getElem? (i := 677) (by decide +kernel)) (by decide +kernel)
theorem kw618 : (Jvm.Cond.selects "AllHome$Shelf" ({ cls := "AllHome$Shelf", name := "set", desc := "(IJ)V" } : Jvm.MethodName) ({ cls := "AllHome$Shelf", name := "set", desc := "(IJ)V" } : Jvm.MethodName)) ∈ zTb := zTb_in (List.mem_of_getElem? (i := 684) (by decide +kernel)) (by decide +kernel)
theorem kw616 : (Jvm.Cond.methodLink "AllHome" (193 : Nat) ({ cls := "AllHome$Shelf", name := "set", desc := "(IJ)V" } : Jvm.MethodName)) ∈ zTb := zTb_in (List.mem_of_getElem? (i := 682) (by decide +kernel)) (by decide +kernel)
theorem kw617 : (Jvm.Cond.instanceMethod ({ cls := "AllHome$Shelf", name := "set", desc := "(IJ)V" } : Jvm.MethodName)) ∈ zTb := zTb_in (List.mem_of_getElem? (i := 683) (by decide +kernel)) (by decide +kernel)
theorem kw619 : (Jvm.Cond.code ({ cls := "AllHome$Shelf", name := "set", desc := "(IJ)V" } : Jvm.MethodName) prog_7_method_12_code (4 : Nat) (Option.none : Option Jvm.ClassFile.FieldType)) ∈ zTb := zTb_in (List.mem_of_getElem? (i := 685) (by decide +kernel)) (by decide +kernel)
theorem kw628 : (Jvm.Cond.constantLong "AllHome" (199 : Nat) (-9223372036854775808 : Int64)) ∈ zTb := zTb_in (List.mem_of_getElem? (i := 694) (by decide +kernel)) (by decide +kernel)
theorem kw639 : (Jvm.Cond.selects "AllHome$Shelf" ({ cls := "AllHome$Shelf", name := "hasPlaces", desc := "(II)Z" } : Jvm.MethodName) ({ cls := "AllHome$Shelf", name := "hasPlaces", desc := "(II)Z" } : Jvm.MethodName)) ∈ zTb := zTb_in (List.mem_of_getElem? (i := 705) (by decide +kernel)) (by decide +kernel)
theorem kw645 : (Jvm.Cond.methodLink "AllHome$Shelf" (52 : Nat) ({ cls := "AllHome$Shelf", name := "hasPlaces", desc := "(II)Z" } : Jvm.MethodName)) ∈ zTb := zTb_in (List.mem_of_getElem? (i := 711) (by decide +kernel)) (by decide +kernel)
theorem kw638 : (Jvm.Cond.instanceMethod ({ cls := "AllHome$Shelf", name := "hasPlaces", desc := "(II)Z" } : Jvm.MethodName)) ∈ zTb := zTb_in (List.mem_of_getElem? (i := 704) (by decide +kernel)) (by decide +kernel)
theorem kw640 : (Jvm.Cond.code ({ cls := "AllHome$Shelf", name := "hasPlaces", desc := "(II)Z" } : Jvm.MethodName) prog_7_method_10_code (3 : Nat) (Option.some Jvm.ClassFile.FieldType.boolean)) ∈ zTb := zTb_in (List.mem_of_getElem? (i := 706) (by decide +kernel)) (by decide +kernel)
theorem kw646 : (Jvm.Cond.methodLink "AllHome$Shelf" (56 : Nat) ({ cls := "java/lang/System", name := "arraycopy", desc := "(Ljava/lang/Object;ILjava/lang/Object;II)V" } : Jvm.MethodName)) ∈ zTb := zTb_in (List.mem_of_getElem? (i := 712) (by decide +kernel)) (by decide +kernel)
theorem kw635 : (Jvm.Cond.selects "AllHome$Shelf" ({ cls := "AllHome$Shelf", name := "sort", desc := "()I" } : Jvm.MethodName) ({ cls := "AllHome$Shelf", name := "sort", desc := "()I" } : Jvm.MethodName)) ∈ zTb := zTb_in (List.mem_of_getElem? (i := 701) (by decide +kernel)) (by decide +kernel)
theorem kw633 : (Jvm.Cond.methodLink "AllHome" (204 : Nat) ({ cls := "AllHome$Shelf", name := "sort", desc := "()I" } : Jvm.MethodName)) ∈ zTb := zTb_in (List.mem_of_getElem? (i := 699) (by decide +kernel)) (by decide +kernel)
theorem kw634 : (Jvm.Cond.instanceMethod ({ cls := "AllHome$Shelf", name := "sort", desc := "()I" } : Jvm.MethodName)) ∈ zTb := zTb_in (List.mem_of_getElem? (i := 700) (by decide +kernel)) (by decide +kernel)
theorem kw636 : (Jvm.Cond.code ({ cls := "AllHome$Shelf", name := "sort", desc := "()I" } : Jvm.MethodName) prog_7_method_7_code (1 : Nat) (Option.some Jvm.ClassFile.FieldType.int)) ∈ zTb := zTb_in (List.mem_of_getElem? (i := 702) (by decide +kernel)) (by decide +kernel)
theorem kw637 : (Jvm.Cond.methodLink "AllHome" (207 : Nat) ({ cls := "AllHome$Shelf", name := "hasPlaces", desc := "(II)Z" } : Jvm.MethodName)) ∈ zTb := zTb_in (List.mem_of_getElem? (i := 703) (by decide +kernel)) (by decide +kernel)
theorem kw643 : (Jvm.Cond.selects "AllHome$Shelf" ({ cls := "AllHome$Shelf", name := "copyTo", desc := "(ILAllHome$Shelf;II)V" } : Jvm.MethodName) ({ cls := "AllHome$Shelf", name := "copyTo", desc := "(ILAllHome$Shelf;II)V" } : Jvm.MethodName)) ∈ zTb := zTb_in (List.mem_of_getElem? (i := 709) (by decide +kernel)) (by decide +kernel)
theorem kw641 : (Jvm.Cond.methodLink "AllHome" (211 : Nat) ({ cls := "AllHome$Shelf", name := "copyTo", desc := "(ILAllHome$Shelf;II)V" } : Jvm.MethodName)) ∈ zTb := zTb_in (List.mem_of_getElem? (i := 707) (by decide +kernel)) (by decide +kernel)
theorem kw642 : (Jvm.Cond.instanceMethod ({ cls := "AllHome$Shelf", name := "copyTo", desc := "(ILAllHome$Shelf;II)V" } : Jvm.MethodName)) ∈ zTb := zTb_in (List.mem_of_getElem? (i := 708) (by decide +kernel)) (by decide +kernel)
theorem kw644 : (Jvm.Cond.code ({ cls := "AllHome$Shelf", name := "copyTo", desc := "(ILAllHome$Shelf;II)V" } : Jvm.MethodName) prog_7_method_14_code (5 : Nat) (Option.none : Option Jvm.ClassFile.FieldType)) ∈ zTb := zTb_in (List.mem_of_getElem? (i := 710) (by decide +kernel)) (by decide +kernel)
theorem kw653 : (Jvm.Cond.selects "AllHome$Shelf" ({ cls := "AllHome$Shelf", name := "heldWay", desc := "()I" } : Jvm.MethodName) ({ cls := "AllHome$Shelf", name := "heldWay", desc := "()I" } : Jvm.MethodName)) ∈ zTb := zTb_in (List.mem_of_getElem? (i := 719) (by decide +kernel)) (by decide +kernel)
theorem kw651 : (Jvm.Cond.methodLink "AllHome" (215 : Nat) ({ cls := "AllHome$Shelf", name := "heldWay", desc := "()I" } : Jvm.MethodName)) ∈ zTb := zTb_in (List.mem_of_getElem? (i := 717) (by decide +kernel)) (by decide +kernel)
theorem kw652 : (Jvm.Cond.instanceMethod ({ cls := "AllHome$Shelf", name := "heldWay", desc := "()I" } : Jvm.MethodName)) ∈ zTb := zTb_in (List.mem_of_getElem? (i := 718) (by decide +kernel)) (by decide +kernel)
theorem kw654 : (Jvm.Cond.code ({ cls := "AllHome$Shelf", name := "heldWay", desc := "()I" } : Jvm.MethodName) prog_7_method_8_code (1 : Nat) (Option.some Jvm.ClassFile.FieldType.int)) ∈ zTb := zTb_in (List.mem_of_getElem? (i := 720) (by decide +kernel)) (by decide +kernel)
theorem kw655 : (Jvm.Cond.methodLink "AllHome" (218 : Nat) ({ cls := "AllHome", name := "isUnder", desc := "(II)Z" } : Jvm.MethodName)) ∈ zTb := zTb_in (List.mem_of_getElem? (i := 721) (by decide +kernel)) (by decide +kernel)
theorem kw662 : (Jvm.Cond.selects "AllHome$Acts" ({ cls := "AllHome$Acts", name := "ran", desc := "()I" } : Jvm.MethodName) ({ cls := "AllHome$Acts", name := "ran", desc := "()I" } : Jvm.MethodName)) ∈ zTb := zTb_in (List.mem_of_getElem? (i := 728) (by decide +kernel)) (by decide +kernel)
theorem kw660 : (Jvm.Cond.methodLink "AllHome" (221 : Nat) ({ cls := "AllHome$Acts", name := "ran", desc := "()I" } : Jvm.MethodName)) ∈ zTb := zTb_in (List.mem_of_getElem? (i := 726) (by decide +kernel)) (by decide +kernel)
theorem kw661 : (Jvm.Cond.instanceMethod ({ cls := "AllHome$Acts", name := "ran", desc := "()I" } : Jvm.MethodName)) ∈ zTb := zTb_in (List.mem_of_getElem? (i := 727) (by decide +kernel)) (by decide +kernel)
theorem kw663 : (Jvm.Cond.code ({ cls := "AllHome$Acts", name := "ran", desc := "()I" } : Jvm.MethodName) prog_2_method_3_code (1 : Nat) (Option.some Jvm.ClassFile.FieldType.int)) ∈ zTb := zTb_in (List.mem_of_getElem? (i := 729) (by decide +kernel)) (by decide +kernel)
theorem kw674 : (Jvm.Cond.fieldLink "AllHomeModel" (78 : Nat) "AllHomeModel" "huts" "I") ∈ zTb := zTb_in (List.mem_of_getElem? (i := 740) (by decide +kernel)) (by decide +kernel)
theorem kw676 : (Jvm.Cond.fieldLink "AllHomeModel" (82 : Nat) "AllHomeModel" "ways" "I") ∈ zTb := zTb_in (List.mem_of_getElem? (i := 742) (by decide +kernel)) (by decide +kernel)
theorem kw774 : (Jvm.Cond.constantLong "AllHomeModel" (85 : Nat) (4 : Int64)) ∈ zTb := zTb_in (List.mem_of_getElem? (i := 840) (by decide +kernel)) (by decide +kernel)
theorem kw775 : (Jvm.Cond.methodLink "AllHomeModel" (87 : Nat) ({ cls := "AllHomeModel", name := "within", desc := "(JJJ)Z" } : Jvm.MethodName)) ∈ zTb := zTb_in (List.mem_of_getElem? (i := 841) (by decide +kernel)) (by decide +kernel)
theorem kw776 : (Jvm.Cond.static ({ cls := "AllHomeModel", name := "within", desc := "(JJJ)Z" } : Jvm.MethodName)) ∈ zTb := zTb_in (List.mem_of_getElem? (i := 842) (by decide +kernel)) (by decide +kernel)
theorem kw8 : (Jvm.Cond.initialized "AllHomeModel") ∈ zTb := zTb_in (List.mem_of_getElem? (i := 74) (by decide +kernel)) (by decide +kernel)
theorem kw777 : (Jvm.Cond.code ({ cls := "AllHomeModel", name := "within", desc := "(JJJ)Z" } : Jvm.MethodName) prog_9_method_2_code (6 : Nat) (Option.some Jvm.ClassFile.FieldType.boolean)) ∈ zTb := zTb_in (List.mem_of_getElem? (i := 843) (by decide +kernel)) (by decide +kernel)
theorem kw671 : (Jvm.Cond.fieldLink "AllHomeModel" (91 : Nat) "AllHomeModel" "tapeMany" "I") ∈ zTb := zTb_in (List.mem_of_getElem? (i := 737) (by decide +kernel)) (by decide +kernel)
theorem kw670 : (Jvm.Cond.fieldLink "AllHomeModel" (9 : Nat) "AllHomeModel" "tape" "[I") ∈ zTb := zTb_in (List.mem_of_getElem? (i := 736) (by decide +kernel)) (by decide +kernel)
theorem kw791 : (Jvm.Cond.constantLong "AllHomeModel" (94 : Nat) (97 : Int64)) ∈ zTb := zTb_in (List.mem_of_getElem? (i := 857) (by decide +kernel)) (by decide +kernel)
theorem kw792 : (Jvm.Cond.constantLong "AllHomeModel" (96 : Nat) (102 : Int64)) ∈ zTb := zTb_in (List.mem_of_getElem? (i := 858) (by decide +kernel)) (by decide +kernel)
theorem kw786 : (Jvm.Cond.constantLong "AllHomeModel" (98 : Nat) (50 : Int64)) ∈ zTb := zTb_in (List.mem_of_getElem? (i := 852) (by decide +kernel)) (by decide +kernel)
theorem kw787 : (Jvm.Cond.constantLong "AllHomeModel" (100 : Nat) (57 : Int64)) ∈ zTb := zTb_in (List.mem_of_getElem? (i := 853) (by decide +kernel)) (by decide +kernel)
theorem kw788 : (Jvm.Cond.methodLink "AllHomeModel" (102 : Nat) ({ cls := "AllHomeModel", name := "isOther", desc := "(II)Z" } : Jvm.MethodName)) ∈ zTb := zTb_in (List.mem_of_getElem? (i := 854) (by decide +kernel)) (by decide +kernel)
theorem kw789 : (Jvm.Cond.static ({ cls := "AllHomeModel", name := "isOther", desc := "(II)Z" } : Jvm.MethodName)) ∈ zTb := zTb_in (List.mem_of_getElem? (i := 855) (by decide +kernel)) (by decide +kernel)
theorem kw790 : (Jvm.Cond.code ({ cls := "AllHomeModel", name := "isOther", desc := "(II)Z" } : Jvm.MethodName) prog_9_method_6_code (2 : Nat) (Option.some Jvm.ClassFile.FieldType.boolean)) ∈ zTb := zTb_in (List.mem_of_getElem? (i := 856) (by decide +kernel)) (by decide +kernel)
theorem kw689 : (Jvm.Cond.fieldLink "AllHomeModel" (106 : Nat) "AllHomeModel" "runs" "I") ∈ zTb := zTb_in (List.mem_of_getElem? (i := 755) (by decide +kernel)) (by decide +kernel)
theorem kp23 : Cond.selects "AllHomeModel" ⟨"AllHomeModel", "faultOf", "(I)I"⟩ ⟨"AllHomeModel", "faultOf", "(I)I"⟩ ∈ zTb := zTb_in (List.mem_of_getElem? (i := 23) (by decide +kernel)) (by decide +kernel)
theorem kw782 : (Jvm.Cond.methodLink "AllHomeModel" (109 : Nat) ({ cls := "AllHomeModel", name := "faultOf", desc := "(I)I" } : Jvm.MethodName)) ∈ zTb := zTb_in (List.mem_of_getElem? (i := 848) (by decide +kernel)) (by decide +kernel)
theorem kw784 : (Jvm.Cond.instanceMethod ({ cls := "AllHomeModel", name := "faultOf", desc := "(I)I" } : Jvm.MethodName)) ∈ zTb := zTb_in (List.mem_of_getElem? (i := 850) (by decide +kernel)) (by decide +kernel)
theorem kw785 : (Jvm.Cond.code ({ cls := "AllHomeModel", name := "faultOf", desc := "(I)I" } : Jvm.MethodName) prog_9_method_7_code (4 : Nat) (Option.some Jvm.ClassFile.FieldType.int)) ∈ zTb := zTb_in (List.mem_of_getElem? (i := 851) (by decide +kernel)) (by decide +kernel)
theorem kw673 : (Jvm.Cond.fieldLink "AllHomeModel" (16 : Nat) "AllHomeModel" "textMany" "[I") ∈ zTb := zTb_in (List.mem_of_getElem? (i := 739) (by decide +kernel)) (by decide +kernel)
theorem kw672 : (Jvm.Cond.fieldLink "AllHomeModel" (13 : Nat) "AllHomeModel" "text" "[I") ∈ zTb := zTb_in (List.mem_of_getElem? (i := 738) (by decide +kernel)) (by decide +kernel)
theorem kp24 : Cond.selects "AllHomeModel" ⟨"AllHomeModel", "isHut", "(I)Z"⟩ ⟨"AllHomeModel", "isHut", "(I)Z"⟩ ∈ zTb := zTb_in (List.mem_of_getElem? (i := 24) (by decide +kernel)) (by decide +kernel)
theorem kw797 : (Jvm.Cond.methodLink "AllHomeModel" (113 : Nat) ({ cls := "AllHomeModel", name := "isHut", desc := "(I)Z" } : Jvm.MethodName)) ∈ zTb := zTb_in (List.mem_of_getElem? (i := 863) (by decide +kernel)) (by decide +kernel)
theorem kw799 : (Jvm.Cond.instanceMethod ({ cls := "AllHomeModel", name := "isHut", desc := "(I)Z" } : Jvm.MethodName)) ∈ zTb := zTb_in (List.mem_of_getElem? (i := 865) (by decide +kernel)) (by decide +kernel)
theorem kw800 : (Jvm.Cond.code ({ cls := "AllHomeModel", name := "isHut", desc := "(I)Z" } : Jvm.MethodName) prog_9_method_3_code (2 : Nat) (Option.some Jvm.ClassFile.FieldType.boolean)) ∈ zTb := zTb_in (List.mem_of_getElem? (i := 866) (by decide +kernel)) (by decide +kernel)
theorem kw801 : (Jvm.Cond.constantLong "AllHomeModel" (117 : Nat) (-1 : Int64)) ∈ zTb := zTb_in (List.mem_of_getElem? (i := 867) (by decide +kernel)) (by decide +kernel)
theorem kp25 : Cond.selects "AllHomeModel" ⟨"AllHomeModel", "lines", "(I)I"⟩ ⟨"AllHomeModel", "lines", "(I)I"⟩ ∈ zTb := zTb_in (List.mem_of_getElem? (i := 25) (by decide +kernel)) (by decide +kernel)
theorem kw802 : (Jvm.Cond.methodLink "AllHomeModel" (119 : Nat) ({ cls := "AllHomeModel", name := "lines", desc := "(I)I" } : Jvm.MethodName)) ∈ zTb := zTb_in (List.mem_of_getElem? (i := 868) (by decide +kernel)) (by decide +kernel)
theorem kw804 : (Jvm.Cond.instanceMethod ({ cls := "AllHomeModel", name := "lines", desc := "(I)I" } : Jvm.MethodName)) ∈ zTb := zTb_in (List.mem_of_getElem? (i := 870) (by decide +kernel)) (by decide +kernel)
theorem kw805 : (Jvm.Cond.code ({ cls := "AllHomeModel", name := "lines", desc := "(I)I" } : Jvm.MethodName) prog_9_method_9_code (4 : Nat) (Option.some Jvm.ClassFile.FieldType.int)) ∈ zTb := zTb_in (List.mem_of_getElem? (i := 871) (by decide +kernel)) (by decide +kernel)
theorem kp26 : Cond.selects "AllHomeModel" ⟨"AllHomeModel", "inLine", "(III)I"⟩ ⟨"AllHomeModel", "inLine", "(III)I"⟩ ∈ zTb := zTb_in (List.mem_of_getElem? (i := 26) (by decide +kernel)) (by decide +kernel)
theorem kw806 : (Jvm.Cond.methodLink "AllHomeModel" (122 : Nat) ({ cls := "AllHomeModel", name := "inLine", desc := "(III)I" } : Jvm.MethodName)) ∈ zTb := zTb_in (List.mem_of_getElem? (i := 872) (by decide +kernel)) (by decide +kernel)
theorem kw808 : (Jvm.Cond.instanceMethod ({ cls := "AllHomeModel", name := "inLine", desc := "(III)I" } : Jvm.MethodName)) ∈ zTb := zTb_in (List.mem_of_getElem? (i := 874) (by decide +kernel)) (by decide +kernel)
theorem kw809 : (Jvm.Cond.code ({ cls := "AllHomeModel", name := "inLine", desc := "(III)I" } : Jvm.MethodName) prog_9_method_10_code (10 : Nat) (Option.some Jvm.ClassFile.FieldType.int)) ∈ zTb := zTb_in (List.mem_of_getElem? (i := 875) (by decide +kernel)) (by decide +kernel)
theorem kw818 : (Jvm.Cond.constantLong "AllHomeModel" (126 : Nat) (8 : Int64)) ∈ zTb := zTb_in (List.mem_of_getElem? (i := 884) (by decide +kernel)) (by decide +kernel)
theorem kw675 : (Jvm.Cond.fieldLink "AllHomeModel" (19 : Nat) "AllHomeModel" "kind" "[I") ∈ zTb := zTb_in (List.mem_of_getElem? (i := 741) (by decide +kernel)) (by decide +kernel)
theorem kp27 : Cond.selects "AllHomeModel" ⟨"AllHomeModel", "isWay", "(I)Z"⟩ ⟨"AllHomeModel", "isWay", "(I)Z"⟩ ∈ zTb := zTb_in (List.mem_of_getElem? (i := 27) (by decide +kernel)) (by decide +kernel)
theorem kw823 : (Jvm.Cond.methodLink "AllHomeModel" (128 : Nat) ({ cls := "AllHomeModel", name := "isWay", desc := "(I)Z" } : Jvm.MethodName)) ∈ zTb := zTb_in (List.mem_of_getElem? (i := 889) (by decide +kernel)) (by decide +kernel)
theorem kw825 : (Jvm.Cond.instanceMethod ({ cls := "AllHomeModel", name := "isWay", desc := "(I)Z" } : Jvm.MethodName)) ∈ zTb := zTb_in (List.mem_of_getElem? (i := 891) (by decide +kernel)) (by decide +kernel)
theorem kw826 : (Jvm.Cond.code ({ cls := "AllHomeModel", name := "isWay", desc := "(I)Z" } : Jvm.MethodName) prog_9_method_4_code (2 : Nat) (Option.some Jvm.ClassFile.FieldType.boolean)) ∈ zTb := zTb_in (List.mem_of_getElem? (i := 892) (by decide +kernel)) (by decide +kernel)
theorem kw878 : (Jvm.Cond.methodLink "AllHomeModel" (131 : Nat) ({ cls := "AllHomeModel", name := "above", desc := "(I)I" } : Jvm.MethodName)) ∈ zTb := zTb_in (List.mem_of_getElem? (i := 944) (by decide +kernel)) (by decide +kernel)
theorem kw879 : (Jvm.Cond.static ({ cls := "AllHomeModel", name := "above", desc := "(I)I" } : Jvm.MethodName)) ∈ zTb := zTb_in (List.mem_of_getElem? (i := 945) (by decide +kernel)) (by decide +kernel)
theorem kw880 : (Jvm.Cond.code ({ cls := "AllHomeModel", name := "above", desc := "(I)I" } : Jvm.MethodName) prog_9_method_16_code (1 : Nat) (Option.some Jvm.ClassFile.FieldType.int)) ∈ zTb := zTb_in (List.mem_of_getElem? (i := 946) (by decide +kernel)) (by decide +kernel)
theorem kw680 : (Jvm.Cond.fieldLink "AllHomeModel" (134 : Nat) "AllHomeModel" "by" "I") ∈ zTb := zTb_in (List.mem_of_getElem? (i := 746) (by decide +kernel)) (by decide +kernel)
theorem kw677 : (Jvm.Cond.fieldLink "AllHomeModel" (22 : Nat) "AllHomeModel" "now" "[I") ∈ zTb := zTb_in (List.mem_of_getElem? (i := 743) (by decide +kernel)) (by decide +kernel)
theorem kw678 : (Jvm.Cond.fieldLink "AllHomeModel" (137 : Nat) "AllHomeModel" "sentWords" "I") ∈ zTb := zTb_in (List.mem_of_getElem? (i := 744) (by decide +kernel)) (by decide +kernel)
theorem kw679 : (Jvm.Cond.fieldLink "AllHomeModel" (140 : Nat) "AllHomeModel" "sentNotes" "I") ∈ zTb := zTb_in (List.mem_of_getElem? (i := 745) (by decide +kernel)) (by decide +kernel)
theorem kw681 : (Jvm.Cond.fieldLink "AllHomeModel" (143 : Nat) "AllHomeModel" "isFull" "Z") ∈ zTb := zTb_in (List.mem_of_getElem? (i := 747) (by decide +kernel)) (by decide +kernel)
theorem kp38 : Cond.selects "AllHomeModel" ⟨"AllHomeModel", "putLast", "(IIII)V"⟩ ⟨"AllHomeModel", "putLast", "(IIII)V"⟩ ∈ zTb := zTb_in (List.mem_of_getElem? (i := 38) (by decide +kernel)) (by decide +kernel)
theorem kw881 : (Jvm.Cond.methodLink "AllHomeModel" (147 : Nat) ({ cls := "AllHomeModel", name := "putLast", desc := "(IIII)V" } : Jvm.MethodName)) ∈ zTb := zTb_in (List.mem_of_getElem? (i := 947) (by decide +kernel)) (by decide +kernel)
theorem kw883 : (Jvm.Cond.instanceMethod ({ cls := "AllHomeModel", name := "putLast", desc := "(IIII)V" } : Jvm.MethodName)) ∈ zTb := zTb_in (List.mem_of_getElem? (i := 949) (by decide +kernel)) (by decide +kernel)
theorem kw884 : (Jvm.Cond.code ({ cls := "AllHomeModel", name := "putLast", desc := "(IIII)V" } : Jvm.MethodName) prog_9_method_23_code (6 : Nat) (Option.none : Option Jvm.ClassFile.FieldType)) ∈ zTb := zTb_in (List.mem_of_getElem? (i := 950) (by decide +kernel)) (by decide +kernel)
theorem kp37 : Cond.selects "AllHomeModel" ⟨"AllHomeModel", "add", "(III)V"⟩ ⟨"AllHomeModel", "add", "(III)V"⟩ ∈ zTb := zTb_in (List.mem_of_getElem? (i := 37) (by decide +kernel)) (by decide +kernel)
theorem kw871 : (Jvm.Cond.methodLink "AllHomeModel" (151 : Nat) ({ cls := "AllHomeModel", name := "add", desc := "(III)V" } : Jvm.MethodName)) ∈ zTb := zTb_in (List.mem_of_getElem? (i := 937) (by decide +kernel)) (by decide +kernel)
theorem kw873 : (Jvm.Cond.instanceMethod ({ cls := "AllHomeModel", name := "add", desc := "(III)V" } : Jvm.MethodName)) ∈ zTb := zTb_in (List.mem_of_getElem? (i := 939) (by decide +kernel)) (by decide +kernel)
theorem kw874 : (Jvm.Cond.code ({ cls := "AllHomeModel", name := "add", desc := "(III)V" } : Jvm.MethodName) prog_9_method_19_code (4 : Nat) (Option.none : Option Jvm.ClassFile.FieldType)) ∈ zTb := zTb_in (List.mem_of_getElem? (i := 940) (by decide +kernel)) (by decide +kernel)
theorem kw875 : (Jvm.Cond.methodLink "AllHomeModel" (159 : Nat) ({ cls := "AllHomeModel", name := "isUnder", desc := "(II)Z" } : Jvm.MethodName)) ∈ zTb := zTb_in (List.mem_of_getElem? (i := 941) (by decide +kernel)) (by decide +kernel)
theorem kw876 : (Jvm.Cond.static ({ cls := "AllHomeModel", name := "isUnder", desc := "(II)Z" } : Jvm.MethodName)) ∈ zTb := zTb_in (List.mem_of_getElem? (i := 942) (by decide +kernel)) (by decide +kernel)
theorem kw877 : (Jvm.Cond.code ({ cls := "AllHomeModel", name := "isUnder", desc := "(II)Z" } : Jvm.MethodName) prog_9_method_15_code (3 : Nat) (Option.some Jvm.ClassFile.FieldType.boolean)) ∈ zTb := zTb_in (List.mem_of_getElem? (i := 943) (by decide +kernel)) (by decide +kernel)
theorem kp35 : Cond.selects "AllHomeModel" ⟨"AllHomeModel", "of", "(II)I"⟩ ⟨"AllHomeModel", "of", "(II)I"⟩ ∈ zTb := zTb_in (List.mem_of_getElem? (i := 35) (by decide +kernel)) (by decide +kernel)
theorem kw863 : (Jvm.Cond.methodLink "AllHomeModel" (155 : Nat) ({ cls := "AllHomeModel", name := "of", desc := "(II)I" } : Jvm.MethodName)) ∈ zTb := zTb_in (List.mem_of_getElem? (i := 929) (by decide +kernel)) (by decide +kernel)
theorem kw865 : (Jvm.Cond.instanceMethod ({ cls := "AllHomeModel", name := "of", desc := "(II)I" } : Jvm.MethodName)) ∈ zTb := zTb_in (List.mem_of_getElem? (i := 931) (by decide +kernel)) (by decide +kernel)
theorem kw866 : (Jvm.Cond.code ({ cls := "AllHomeModel", name := "of", desc := "(II)I" } : Jvm.MethodName) prog_9_method_18_code (3 : Nat) (Option.some Jvm.ClassFile.FieldType.int)) ∈ zTb := zTb_in (List.mem_of_getElem? (i := 932) (by decide +kernel)) (by decide +kernel)
theorem kp39 : Cond.selects "AllHomeModel" ⟨"AllHomeModel", "become", "(III)V"⟩ ⟨"AllHomeModel", "become", "(III)V"⟩ ∈ zTb := zTb_in (List.mem_of_getElem? (i := 39) (by decide +kernel)) (by decide +kernel)
theorem kw885 : (Jvm.Cond.methodLink "AllHomeModel" (166 : Nat) ({ cls := "AllHomeModel", name := "become", desc := "(III)V" } : Jvm.MethodName)) ∈ zTb := zTb_in (List.mem_of_getElem? (i := 951) (by decide +kernel)) (by decide +kernel)
theorem kw887 : (Jvm.Cond.instanceMethod ({ cls := "AllHomeModel", name := "become", desc := "(III)V" } : Jvm.MethodName)) ∈ zTb := zTb_in (List.mem_of_getElem? (i := 953) (by decide +kernel)) (by decide +kernel)
theorem kw888 : (Jvm.Cond.code ({ cls := "AllHomeModel", name := "become", desc := "(III)V" } : Jvm.MethodName) prog_9_method_20_code (4 : Nat) (Option.none : Option Jvm.ClassFile.FieldType)) ∈ zTb := zTb_in (List.mem_of_getElem? (i := 954) (by decide +kernel)) (by decide +kernel)
theorem kp40 : Cond.selects "AllHomeModel" ⟨"AllHomeModel", "sendNote", "(III)V"⟩ ⟨"AllHomeModel", "sendNote", "(III)V"⟩ ∈ zTb := zTb_in (List.mem_of_getElem? (i := 40) (by decide +kernel)) (by decide +kernel)
theorem kw889 : (Jvm.Cond.methodLink "AllHomeModel" (169 : Nat) ({ cls := "AllHomeModel", name := "sendNote", desc := "(III)V" } : Jvm.MethodName)) ∈ zTb := zTb_in (List.mem_of_getElem? (i := 955) (by decide +kernel)) (by decide +kernel)
theorem kw891 : (Jvm.Cond.instanceMethod ({ cls := "AllHomeModel", name := "sendNote", desc := "(III)V" } : Jvm.MethodName)) ∈ zTb := zTb_in (List.mem_of_getElem? (i := 957) (by decide +kernel)) (by decide +kernel)
theorem kw892 : (Jvm.Cond.code ({ cls := "AllHomeModel", name := "sendNote", desc := "(III)V" } : Jvm.MethodName) prog_9_method_25_code (4 : Nat) (Option.none : Option Jvm.ClassFile.FieldType)) ∈ zTb := zTb_in (List.mem_of_getElem? (i := 958) (by decide +kernel)) (by decide +kernel)
theorem kp36 : Cond.selects "AllHomeModel" ⟨"AllHomeModel", "sendWord", "(II)V"⟩ ⟨"AllHomeModel", "sendWord", "(II)V"⟩ ∈ zTb := zTb_in (List.mem_of_getElem? (i := 36) (by decide +kernel)) (by decide +kernel)
theorem kw867 : (Jvm.Cond.methodLink "AllHomeModel" (162 : Nat) ({ cls := "AllHomeModel", name := "sendWord", desc := "(II)V" } : Jvm.MethodName)) ∈ zTb := zTb_in (List.mem_of_getElem? (i := 933) (by decide +kernel)) (by decide +kernel)
theorem kw869 : (Jvm.Cond.instanceMethod ({ cls := "AllHomeModel", name := "sendWord", desc := "(II)V" } : Jvm.MethodName)) ∈ zTb := zTb_in (List.mem_of_getElem? (i := 935) (by decide +kernel)) (by decide +kernel)
theorem kw870 : (Jvm.Cond.code ({ cls := "AllHomeModel", name := "sendWord", desc := "(II)V" } : Jvm.MethodName) prog_9_method_26_code (4 : Nat) (Option.none : Option Jvm.ClassFile.FieldType)) ∈ zTb := zTb_in (List.mem_of_getElem? (i := 936) (by decide +kernel)) (by decide +kernel)
theorem kp42 : Cond.selects "AllHomeModel" ⟨"AllHomeModel", "words", "()I"⟩ ⟨"AllHomeModel", "words", "()I"⟩ ∈ zTb := zTb_in (List.mem_of_getElem? (i := 42) (by decide +kernel)) (by decide +kernel)
theorem kw897 : (Jvm.Cond.methodLink "AllHomeModel" (172 : Nat) ({ cls := "AllHomeModel", name := "words", desc := "()I" } : Jvm.MethodName)) ∈ zTb := zTb_in (List.mem_of_getElem? (i := 963) (by decide +kernel)) (by decide +kernel)
theorem kw899 : (Jvm.Cond.instanceMethod ({ cls := "AllHomeModel", name := "words", desc := "()I" } : Jvm.MethodName)) ∈ zTb := zTb_in (List.mem_of_getElem? (i := 965) (by decide +kernel)) (by decide +kernel)
theorem kw900 : (Jvm.Cond.code ({ cls := "AllHomeModel", name := "words", desc := "()I" } : Jvm.MethodName) prog_9_method_21_code (1 : Nat) (Option.some Jvm.ClassFile.FieldType.int)) ∈ zTb := zTb_in (List.mem_of_getElem? (i := 966) (by decide +kernel)) (by decide +kernel)
theorem kp43 : Cond.selects "AllHomeModel" ⟨"AllHomeModel", "takeOut", "(II)V"⟩ ⟨"AllHomeModel", "takeOut", "(II)V"⟩ ∈ zTb := zTb_in (List.mem_of_getElem? (i := 43) (by decide +kernel)) (by decide +kernel)
theorem kw901 : (Jvm.Cond.methodLink "AllHomeModel" (176 : Nat) ({ cls := "AllHomeModel", name := "takeOut", desc := "(II)V" } : Jvm.MethodName)) ∈ zTb := zTb_in (List.mem_of_getElem? (i := 967) (by decide +kernel)) (by decide +kernel)
theorem kw903 : (Jvm.Cond.instanceMethod ({ cls := "AllHomeModel", name := "takeOut", desc := "(II)V" } : Jvm.MethodName)) ∈ zTb := zTb_in (List.mem_of_getElem? (i := 969) (by decide +kernel)) (by decide +kernel)
theorem kw904 : (Jvm.Cond.code ({ cls := "AllHomeModel", name := "takeOut", desc := "(II)V" } : Jvm.MethodName) prog_9_method_24_code (5 : Nat) (Option.none : Option Jvm.ClassFile.FieldType)) ∈ zTb := zTb_in (List.mem_of_getElem? (i := 970) (by decide +kernel)) (by decide +kernel)
theorem kp45 : Cond.selects "AllHomeModel" ⟨"AllHomeModel", "notes", "()I"⟩ ⟨"AllHomeModel", "notes", "()I"⟩ ∈ zTb := zTb_in (List.mem_of_getElem? (i := 45) (by decide +kernel)) (by decide +kernel)
theorem kw909 : (Jvm.Cond.methodLink "AllHomeModel" (179 : Nat) ({ cls := "AllHomeModel", name := "notes", desc := "()I" } : Jvm.MethodName)) ∈ zTb := zTb_in (List.mem_of_getElem? (i := 975) (by decide +kernel)) (by decide +kernel)
theorem kw911 : (Jvm.Cond.instanceMethod ({ cls := "AllHomeModel", name := "notes", desc := "()I" } : Jvm.MethodName)) ∈ zTb := zTb_in (List.mem_of_getElem? (i := 977) (by decide +kernel)) (by decide +kernel)
theorem kw912 : (Jvm.Cond.code ({ cls := "AllHomeModel", name := "notes", desc := "()I" } : Jvm.MethodName) prog_9_method_22_code (1 : Nat) (Option.some Jvm.ClassFile.FieldType.int)) ∈ zTb := zTb_in (List.mem_of_getElem? (i := 978) (by decide +kernel)) (by decide +kernel)
theorem kp47 : Cond.selects "AllHomeModel" ⟨"AllHomeModel", "sumsAt", "(III)V"⟩ ⟨"AllHomeModel", "sumsAt", "(III)V"⟩ ∈ zTb := zTb_in (List.mem_of_getElem? (i := 47) (by decide +kernel)) (by decide +kernel)
theorem kw917 : (Jvm.Cond.methodLink "AllHomeModel" (185 : Nat) ({ cls := "AllHomeModel", name := "sumsAt", desc := "(III)V" } : Jvm.MethodName)) ∈ zTb := zTb_in (List.mem_of_getElem? (i := 983) (by decide +kernel)) (by decide +kernel)
theorem kw919 : (Jvm.Cond.instanceMethod ({ cls := "AllHomeModel", name := "sumsAt", desc := "(III)V" } : Jvm.MethodName)) ∈ zTb := zTb_in (List.mem_of_getElem? (i := 985) (by decide +kernel)) (by decide +kernel)
theorem kw920 : (Jvm.Cond.code ({ cls := "AllHomeModel", name := "sumsAt", desc := "(III)V" } : Jvm.MethodName) prog_9_method_31_code (6 : Nat) (Option.none : Option Jvm.ClassFile.FieldType)) ∈ zTb := zTb_in (List.mem_of_getElem? (i := 986) (by decide +kernel)) (by decide +kernel)
theorem kp46 : Cond.selects "AllHomeModel" ⟨"AllHomeModel", "stoneAt", "(III)V"⟩ ⟨"AllHomeModel", "stoneAt", "(III)V"⟩ ∈ zTb := zTb_in (List.mem_of_getElem? (i := 46) (by decide +kernel)) (by decide +kernel)
theorem kw913 : (Jvm.Cond.methodLink "AllHomeModel" (182 : Nat) ({ cls := "AllHomeModel", name := "stoneAt", desc := "(III)V" } : Jvm.MethodName)) ∈ zTb := zTb_in (List.mem_of_getElem? (i := 979) (by decide +kernel)) (by decide +kernel)
theorem kw915 : (Jvm.Cond.instanceMethod ({ cls := "AllHomeModel", name := "stoneAt", desc := "(III)V" } : Jvm.MethodName)) ∈ zTb := zTb_in (List.mem_of_getElem? (i := 981) (by decide +kernel)) (by decide +kernel)
theorem kw916 : (Jvm.Cond.code ({ cls := "AllHomeModel", name := "stoneAt", desc := "(III)V" } : Jvm.MethodName) prog_9_method_30_code (5 : Nat) (Option.none : Option Jvm.ClassFile.FieldType)) ∈ zTb := zTb_in (List.mem_of_getElem? (i := 982) (by decide +kernel)) (by decide +kernel)
theorem kp34 : Cond.selects "AllHomeModel" ⟨"AllHomeModel", "goOn", "(I)Z"⟩ ⟨"AllHomeModel", "goOn", "(I)Z"⟩ ∈ zTb := zTb_in (List.mem_of_getElem? (i := 34) (by decide +kernel)) (by decide +kernel)
theorem kw859 : (Jvm.Cond.methodLink "AllHomeModel" (188 : Nat) ({ cls := "AllHomeModel", name := "goOn", desc := "(I)Z" } : Jvm.MethodName)) ∈ zTb := zTb_in (List.mem_of_getElem? (i := 925) (by decide +kernel)) (by decide +kernel)
theorem kw861 : (Jvm.Cond.instanceMethod ({ cls := "AllHomeModel", name := "goOn", desc := "(I)Z" } : Jvm.MethodName)) ∈ zTb := zTb_in (List.mem_of_getElem? (i := 927) (by decide +kernel)) (by decide +kernel)
theorem kw862 : (Jvm.Cond.code ({ cls := "AllHomeModel", name := "goOn", desc := "(I)Z" } : Jvm.MethodName) prog_9_method_27_code (4 : Nat) (Option.some Jvm.ClassFile.FieldType.boolean)) ∈ zTb := zTb_in (List.mem_of_getElem? (i := 928) (by decide +kernel)) (by decide +kernel)
theorem kp49 : Cond.selects "AllHomeModel" ⟨"AllHomeModel", "behind", "()V"⟩ ⟨"AllHomeModel", "behind", "()V"⟩ ∈ zTb := zTb_in (List.mem_of_getElem? (i := 49) (by decide +kernel)) (by decide +kernel)
theorem kw925 : (Jvm.Cond.methodLink "AllHomeModel" (200 : Nat) ({ cls := "AllHomeModel", name := "behind", desc := "()V" } : Jvm.MethodName)) ∈ zTb := zTb_in (List.mem_of_getElem? (i := 991) (by decide +kernel)) (by decide +kernel)
theorem kw927 : (Jvm.Cond.instanceMethod ({ cls := "AllHomeModel", name := "behind", desc := "()V" } : Jvm.MethodName)) ∈ zTb := zTb_in (List.mem_of_getElem? (i := 993) (by decide +kernel)) (by decide +kernel)
theorem kw928 : (Jvm.Cond.code ({ cls := "AllHomeModel", name := "behind", desc := "()V" } : Jvm.MethodName) prog_9_method_33_code (2 : Nat) (Option.none : Option Jvm.ClassFile.FieldType)) ∈ zTb := zTb_in (List.mem_of_getElem? (i := 994) (by decide +kernel)) (by decide +kernel)
theorem kp41 : Cond.selects "AllHomeModel" ⟨"AllHomeModel", "comes", "(I)Z"⟩ ⟨"AllHomeModel", "comes", "(I)Z"⟩ ∈ zTb := zTb_in (List.mem_of_getElem? (i := 41) (by decide +kernel)) (by decide +kernel)
theorem kw893 : (Jvm.Cond.methodLink "AllHomeModel" (191 : Nat) ({ cls := "AllHomeModel", name := "comes", desc := "(I)Z" } : Jvm.MethodName)) ∈ zTb := zTb_in (List.mem_of_getElem? (i := 959) (by decide +kernel)) (by decide +kernel)
theorem kw895 : (Jvm.Cond.instanceMethod ({ cls := "AllHomeModel", name := "comes", desc := "(I)Z" } : Jvm.MethodName)) ∈ zTb := zTb_in (List.mem_of_getElem? (i := 961) (by decide +kernel)) (by decide +kernel)
theorem kw896 : (Jvm.Cond.code ({ cls := "AllHomeModel", name := "comes", desc := "(I)Z" } : Jvm.MethodName) prog_9_method_28_code (5 : Nat) (Option.some Jvm.ClassFile.FieldType.boolean)) ∈ zTb := zTb_in (List.mem_of_getElem? (i := 962) (by decide +kernel)) (by decide +kernel)
theorem kp44 : Cond.selects "AllHomeModel" ⟨"AllHomeModel", "noteComes", "(I)Z"⟩ ⟨"AllHomeModel", "noteComes", "(I)Z"⟩ ∈ zTb := zTb_in (List.mem_of_getElem? (i := 44) (by decide +kernel)) (by decide +kernel)
theorem kw905 : (Jvm.Cond.methodLink "AllHomeModel" (194 : Nat) ({ cls := "AllHomeModel", name := "noteComes", desc := "(I)Z" } : Jvm.MethodName)) ∈ zTb := zTb_in (List.mem_of_getElem? (i := 971) (by decide +kernel)) (by decide +kernel)
theorem kw907 : (Jvm.Cond.instanceMethod ({ cls := "AllHomeModel", name := "noteComes", desc := "(I)Z" } : Jvm.MethodName)) ∈ zTb := zTb_in (List.mem_of_getElem? (i := 973) (by decide +kernel)) (by decide +kernel)
theorem kw908 : (Jvm.Cond.code ({ cls := "AllHomeModel", name := "noteComes", desc := "(I)Z" } : Jvm.MethodName) prog_9_method_29_code (5 : Nat) (Option.some Jvm.ClassFile.FieldType.boolean)) ∈ zTb := zTb_in (List.mem_of_getElem? (i := 974) (by decide +kernel)) (by decide +kernel)
theorem kp48 : Cond.selects "AllHomeModel" ⟨"AllHomeModel", "asks", "(I)Z"⟩ ⟨"AllHomeModel", "asks", "(I)Z"⟩ ∈ zTb := zTb_in (List.mem_of_getElem? (i := 48) (by decide +kernel)) (by decide +kernel)
theorem kw921 : (Jvm.Cond.methodLink "AllHomeModel" (197 : Nat) ({ cls := "AllHomeModel", name := "asks", desc := "(I)Z" } : Jvm.MethodName)) ∈ zTb := zTb_in (List.mem_of_getElem? (i := 987) (by decide +kernel)) (by decide +kernel)
theorem kw923 : (Jvm.Cond.instanceMethod ({ cls := "AllHomeModel", name := "asks", desc := "(I)Z" } : Jvm.MethodName)) ∈ zTb := zTb_in (List.mem_of_getElem? (i := 989) (by decide +kernel)) (by decide +kernel)
theorem kw924 : (Jvm.Cond.code ({ cls := "AllHomeModel", name := "asks", desc := "(I)Z" } : Jvm.MethodName) prog_9_method_32_code (2 : Nat) (Option.some Jvm.ClassFile.FieldType.boolean)) ∈ zTb := zTb_in (List.mem_of_getElem? (i := 990) (by decide +kernel)) (by decide +kernel)
theorem kw685 : (Jvm.Cond.fieldLink "AllHomeModel" (34 : Nat) "AllHomeModel" "runWords" "[I") ∈ zTb := zTb_in (List.mem_of_getElem? (i := 751) (by decide +kernel)) (by decide +kernel)
theorem kw686 : (Jvm.Cond.fieldLink "AllHomeModel" (37 : Nat) "AllHomeModel" "runNotes" "[I") ∈ zTb := zTb_in (List.mem_of_getElem? (i := 752) (by decide +kernel)) (by decide +kernel)
theorem kw682 : (Jvm.Cond.fieldLink "AllHomeModel" (25 : Nat) "AllHomeModel" "kept" "[I") ∈ zTb := zTb_in (List.mem_of_getElem? (i := 748) (by decide +kernel)) (by decide +kernel)
theorem kw683 : (Jvm.Cond.fieldLink "AllHomeModel" (28 : Nat) "AllHomeModel" "runWay" "[I") ∈ zTb := zTb_in (List.mem_of_getElem? (i := 749) (by decide +kernel)) (by decide +kernel)
theorem kp28 : Cond.selects "AllHomeModel" ⟨"AllHomeModel", "begin", "(I)V"⟩ ⟨"AllHomeModel", "begin", "(I)V"⟩ ∈ zTb := zTb_in (List.mem_of_getElem? (i := 28) (by decide +kernel)) (by decide +kernel)
theorem kw831 : (Jvm.Cond.methodLink "AllHomeModel" (203 : Nat) ({ cls := "AllHomeModel", name := "begin", desc := "(I)V" } : Jvm.MethodName)) ∈ zTb := zTb_in (List.mem_of_getElem? (i := 897) (by decide +kernel)) (by decide +kernel)
theorem kw833 : (Jvm.Cond.instanceMethod ({ cls := "AllHomeModel", name := "begin", desc := "(I)V" } : Jvm.MethodName)) ∈ zTb := zTb_in (List.mem_of_getElem? (i := 899) (by decide +kernel)) (by decide +kernel)
theorem kw834 : (Jvm.Cond.code ({ cls := "AllHomeModel", name := "begin", desc := "(I)V" } : Jvm.MethodName) prog_9_method_17_code (3 : Nat) (Option.none : Option Jvm.ClassFile.FieldType)) ∈ zTb := zTb_in (List.mem_of_getElem? (i := 900) (by decide +kernel)) (by decide +kernel)
theorem kw687 : (Jvm.Cond.fieldLink "AllHomeModel" (40 : Nat) "AllHomeModel" "saidAt" "[I") ∈ zTb := zTb_in (List.mem_of_getElem? (i := 753) (by decide +kernel)) (by decide +kernel)
theorem kw688 : (Jvm.Cond.fieldLink "AllHomeModel" (43 : Nat) "AllHomeModel" "overAt" "[I") ∈ zTb := zTb_in (List.mem_of_getElem? (i := 754) (by decide +kernel)) (by decide +kernel)
theorem kp29 : Cond.selects "AllHomeModel" ⟨"AllHomeModel", "keepRun", "(I)V"⟩ ⟨"AllHomeModel", "keepRun", "(I)V"⟩ ∈ zTb := zTb_in (List.mem_of_getElem? (i := 29) (by decide +kernel)) (by decide +kernel)
theorem kw835 : (Jvm.Cond.methodLink "AllHomeModel" (207 : Nat) ({ cls := "AllHomeModel", name := "keepRun", desc := "(I)V" } : Jvm.MethodName)) ∈ zTb := zTb_in (List.mem_of_getElem? (i := 901) (by decide +kernel)) (by decide +kernel)
theorem kw837 : (Jvm.Cond.instanceMethod ({ cls := "AllHomeModel", name := "keepRun", desc := "(I)V" } : Jvm.MethodName)) ∈ zTb := zTb_in (List.mem_of_getElem? (i := 903) (by decide +kernel)) (by decide +kernel)
theorem kw838 : (Jvm.Cond.code ({ cls := "AllHomeModel", name := "keepRun", desc := "(I)V" } : Jvm.MethodName) prog_9_method_36_code (3 : Nat) (Option.none : Option Jvm.ClassFile.FieldType)) ∈ zTb := zTb_in (List.mem_of_getElem? (i := 904) (by decide +kernel)) (by decide +kernel)
theorem kp32 : Cond.selects "AllHomeModel" ⟨"AllHomeModel", "takeRun", "(I)V"⟩ ⟨"AllHomeModel", "takeRun", "(I)V"⟩ ∈ zTb := zTb_in (List.mem_of_getElem? (i := 32) (by decide +kernel)) (by decide +kernel)
theorem kw851 : (Jvm.Cond.methodLink "AllHomeModel" (210 : Nat) ({ cls := "AllHomeModel", name := "takeRun", desc := "(I)V" } : Jvm.MethodName)) ∈ zTb := zTb_in (List.mem_of_getElem? (i := 917) (by decide +kernel)) (by decide +kernel)
theorem kw853 : (Jvm.Cond.instanceMethod ({ cls := "AllHomeModel", name := "takeRun", desc := "(I)V" } : Jvm.MethodName)) ∈ zTb := zTb_in (List.mem_of_getElem? (i := 919) (by decide +kernel)) (by decide +kernel)
theorem kw854 : (Jvm.Cond.code ({ cls := "AllHomeModel", name := "takeRun", desc := "(I)V" } : Jvm.MethodName) prog_9_method_37_code (3 : Nat) (Option.none : Option Jvm.ClassFile.FieldType)) ∈ zTb := zTb_in (List.mem_of_getElem? (i := 920) (by decide +kernel)) (by decide +kernel)
theorem kp33 : Cond.selects "AllHomeModel" ⟨"AllHomeModel", "doStep", "(II)I"⟩ ⟨"AllHomeModel", "doStep", "(II)I"⟩ ∈ zTb := zTb_in (List.mem_of_getElem? (i := 33) (by decide +kernel)) (by decide +kernel)
theorem kw855 : (Jvm.Cond.methodLink "AllHomeModel" (213 : Nat) ({ cls := "AllHomeModel", name := "doStep", desc := "(II)I" } : Jvm.MethodName)) ∈ zTb := zTb_in (List.mem_of_getElem? (i := 921) (by decide +kernel)) (by decide +kernel)
theorem kw857 : (Jvm.Cond.instanceMethod ({ cls := "AllHomeModel", name := "doStep", desc := "(II)I" } : Jvm.MethodName)) ∈ zTb := zTb_in (List.mem_of_getElem? (i := 923) (by decide +kernel)) (by decide +kernel)
theorem kw858 : (Jvm.Cond.code ({ cls := "AllHomeModel", name := "doStep", desc := "(II)I" } : Jvm.MethodName) prog_9_method_34_code (4 : Nat) (Option.some Jvm.ClassFile.FieldType.int)) ∈ zTb := zTb_in (List.mem_of_getElem? (i := 924) (by decide +kernel)) (by decide +kernel)
theorem kw684 : (Jvm.Cond.fieldLink "AllHomeModel" (31 : Nat) "AllHomeModel" "runSteps" "[I") ∈ zTb := zTb_in (List.mem_of_getElem? (i := 750) (by decide +kernel)) (by decide +kernel)
theorem kp50 : Cond.selects "AllHomeModel" ⟨"AllHomeModel", "isOver", "()Z"⟩ ⟨"AllHomeModel", "isOver", "()Z"⟩ ∈ zTb := zTb_in (List.mem_of_getElem? (i := 50) (by decide +kernel)) (by decide +kernel)
theorem kw929 : (Jvm.Cond.methodLink "AllHomeModel" (216 : Nat) ({ cls := "AllHomeModel", name := "isOver", desc := "()Z" } : Jvm.MethodName)) ∈ zTb := zTb_in (List.mem_of_getElem? (i := 995) (by decide +kernel)) (by decide +kernel)
theorem kw931 : (Jvm.Cond.instanceMethod ({ cls := "AllHomeModel", name := "isOver", desc := "()Z" } : Jvm.MethodName)) ∈ zTb := zTb_in (List.mem_of_getElem? (i := 997) (by decide +kernel)) (by decide +kernel)
theorem kw932 : (Jvm.Cond.code ({ cls := "AllHomeModel", name := "isOver", desc := "()Z" } : Jvm.MethodName) prog_9_method_35_code (3 : Nat) (Option.some Jvm.ClassFile.FieldType.boolean)) ∈ zTb := zTb_in (List.mem_of_getElem? (i := 998) (by decide +kernel)) (by decide +kernel)
theorem kp30 : Cond.selects "AllHomeModel" ⟨"AllHomeModel", "isRun", "(I)Z"⟩ ⟨"AllHomeModel", "isRun", "(I)Z"⟩ ∈ zTb := zTb_in (List.mem_of_getElem? (i := 30) (by decide +kernel)) (by decide +kernel)
theorem kw843 : (Jvm.Cond.methodLink "AllHomeModel" (220 : Nat) ({ cls := "AllHomeModel", name := "isRun", desc := "(I)Z" } : Jvm.MethodName)) ∈ zTb := zTb_in (List.mem_of_getElem? (i := 909) (by decide +kernel)) (by decide +kernel)
theorem kw845 : (Jvm.Cond.instanceMethod ({ cls := "AllHomeModel", name := "isRun", desc := "(I)Z" } : Jvm.MethodName)) ∈ zTb := zTb_in (List.mem_of_getElem? (i := 911) (by decide +kernel)) (by decide +kernel)
theorem kw846 : (Jvm.Cond.code ({ cls := "AllHomeModel", name := "isRun", desc := "(I)Z" } : Jvm.MethodName) prog_9_method_39_code (2 : Nat) (Option.some Jvm.ClassFile.FieldType.boolean)) ∈ zTb := zTb_in (List.mem_of_getElem? (i := 912) (by decide +kernel)) (by decide +kernel)
theorem kp31 : Cond.selects "AllHomeModel" ⟨"AllHomeModel", "stepOf", "(III)I"⟩ ⟨"AllHomeModel", "stepOf", "(III)I"⟩ ∈ zTb := zTb_in (List.mem_of_getElem? (i := 31) (by decide +kernel)) (by decide +kernel)
theorem kw847 : (Jvm.Cond.methodLink "AllHomeModel" (223 : Nat) ({ cls := "AllHomeModel", name := "stepOf", desc := "(III)I" } : Jvm.MethodName)) ∈ zTb := zTb_in (List.mem_of_getElem? (i := 913) (by decide +kernel)) (by decide +kernel)
theorem kw849 : (Jvm.Cond.instanceMethod ({ cls := "AllHomeModel", name := "stepOf", desc := "(III)I" } : Jvm.MethodName)) ∈ zTb := zTb_in (List.mem_of_getElem? (i := 915) (by decide +kernel)) (by decide +kernel)
theorem kw850 : (Jvm.Cond.code ({ cls := "AllHomeModel", name := "stepOf", desc := "(III)I" } : Jvm.MethodName) prog_9_method_40_code (5 : Nat) (Option.some Jvm.ClassFile.FieldType.int)) ∈ zTb := zTb_in (List.mem_of_getElem? (i := 916) (by decide +kernel)) (by decide +kernel)
theorem kw940 : (Jvm.Cond.constantLong "AllHomeModel" (287 : Nat) (5 : Int64)) ∈ zTb := zTb_in (List.mem_of_getElem? (i := 1006) (by decide +kernel)) (by decide +kernel)
theorem kw937 : (Jvm.Cond.methodLink "AllHomeModel" (226 : Nat) ({ cls := "AllHomeModel", name := "isShelf", desc := "(I)Z" } : Jvm.MethodName)) ∈ zTb := zTb_in (List.mem_of_getElem? (i := 1003) (by decide +kernel)) (by decide +kernel)
theorem kw938 : (Jvm.Cond.static ({ cls := "AllHomeModel", name := "isShelf", desc := "(I)Z" } : Jvm.MethodName)) ∈ zTb := zTb_in (List.mem_of_getElem? (i := 1004) (by decide +kernel)) (by decide +kernel)
theorem kw939 : (Jvm.Cond.code ({ cls := "AllHomeModel", name := "isShelf", desc := "(I)Z" } : Jvm.MethodName) prog_9_method_68_code (1 : Nat) (Option.some Jvm.ClassFile.FieldType.boolean)) ∈ zTb := zTb_in (List.mem_of_getElem? (i := 1005) (by decide +kernel)) (by decide +kernel)
theorem kw941 : (Jvm.Cond.constantLong "AllHomeModel" (229 : Nat) (60 : Int64)) ∈ zTb := zTb_in (List.mem_of_getElem? (i := 1007) (by decide +kernel)) (by decide +kernel)
theorem kw699 : (Jvm.Cond.fieldLink "AllHomeModel" (65 : Nat) "AllHomeModel" "shelf" "[I") ∈ zTb := zTb_in (List.mem_of_getElem? (i := 765) (by decide +kernel)) (by decide +kernel)
theorem kw701 : (Jvm.Cond.fieldLink "AllHomeModel" (71 : Nat) "AllHomeModel" "items" "[J") ∈ zTb := zTb_in (List.mem_of_getElem? (i := 767) (by decide +kernel)) (by decide +kernel)
theorem kw700 : (Jvm.Cond.fieldLink "AllHomeModel" (68 : Nat) "AllHomeModel" "many" "[I") ∈ zTb := zTb_in (List.mem_of_getElem? (i := 766) (by decide +kernel)) (by decide +kernel)
theorem kw950 : (Jvm.Cond.constant "AllHomeModel" (231 : Nat) (-2000000000 : Int32)) ∈ zTb := zTb_in (List.mem_of_getElem? (i := 1016) (by decide +kernel)) (by decide +kernel)
theorem kw955 : (Jvm.Cond.constantLong "AllHomeModel" (232 : Nat) (2 : Int64)) ∈ zTb := zTb_in (List.mem_of_getElem? (i := 1021) (by decide +kernel)) (by decide +kernel)
theorem kw690 : (Jvm.Cond.fieldLink "AllHomeModel" (46 : Nat) "AllHomeModel" "found" "[I") ∈ zTb := zTb_in (List.mem_of_getElem? (i := 756) (by decide +kernel)) (by decide +kernel)
theorem kw695 : (Jvm.Cond.fieldLink "AllHomeModel" (234 : Nat) "AllHomeModel" "foundMany" "I") ∈ zTb := zTb_in (List.mem_of_getElem? (i := 761) (by decide +kernel)) (by decide +kernel)
theorem kw691 : (Jvm.Cond.fieldLink "AllHomeModel" (49 : Nat) "AllHomeModel" "ahead" "[I") ∈ zTb := zTb_in (List.mem_of_getElem? (i := 757) (by decide +kernel)) (by decide +kernel)
theorem kw692 : (Jvm.Cond.fieldLink "AllHomeModel" (52 : Nat) "AllHomeModel" "byStep" "[I") ∈ zTb := zTb_in (List.mem_of_getElem? (i := 758) (by decide +kernel)) (by decide +kernel)
theorem kp55 : Cond.selects "AllHomeModel" ⟨"AllHomeModel", "bringBack", "(I)V"⟩ ⟨"AllHomeModel", "bringBack", "(I)V"⟩ ∈ zTb := zTb_in (List.mem_of_getElem? (i := 55) (by decide +kernel)) (by decide +kernel)
theorem kw984 : (Jvm.Cond.methodLink "AllHomeModel" (237 : Nat) ({ cls := "AllHomeModel", name := "bringBack", desc := "(I)V" } : Jvm.MethodName)) ∈ zTb := zTb_in (List.mem_of_getElem? (i := 1050) (by decide +kernel)) (by decide +kernel)
theorem kw986 : (Jvm.Cond.instanceMethod ({ cls := "AllHomeModel", name := "bringBack", desc := "(I)V" } : Jvm.MethodName)) ∈ zTb := zTb_in (List.mem_of_getElem? (i := 1052) (by decide +kernel)) (by decide +kernel)
theorem kw987 : (Jvm.Cond.code ({ cls := "AllHomeModel", name := "bringBack", desc := "(I)V" } : Jvm.MethodName) prog_9_method_48_code (3 : Nat) (Option.none : Option Jvm.ClassFile.FieldType)) ∈ zTb := zTb_in (List.mem_of_getElem? (i := 1053) (by decide +kernel)) (by decide +kernel)
theorem kp56 : Cond.selects "AllHomeModel" ⟨"AllHomeModel", "findState", "()I"⟩ ⟨"AllHomeModel", "findState", "()I"⟩ ∈ zTb := zTb_in (List.mem_of_getElem? (i := 56) (by decide +kernel)) (by decide +kernel)
theorem kw988 : (Jvm.Cond.methodLink "AllHomeModel" (240 : Nat) ({ cls := "AllHomeModel", name := "findState", desc := "()I" } : Jvm.MethodName)) ∈ zTb := zTb_in (List.mem_of_getElem? (i := 1054) (by decide +kernel)) (by decide +kernel)
theorem kw990 : (Jvm.Cond.instanceMethod ({ cls := "AllHomeModel", name := "findState", desc := "()I" } : Jvm.MethodName)) ∈ zTb := zTb_in (List.mem_of_getElem? (i := 1056) (by decide +kernel)) (by decide +kernel)
theorem kw991 : (Jvm.Cond.code ({ cls := "AllHomeModel", name := "findState", desc := "()I" } : Jvm.MethodName) prog_9_method_49_code (4 : Nat) (Option.some Jvm.ClassFile.FieldType.int)) ∈ zTb := zTb_in (List.mem_of_getElem? (i := 1057) (by decide +kernel)) (by decide +kernel)
theorem kw694 : (Jvm.Cond.fieldLink "AllHomeModel" (59 : Nat) "AllHomeModel" "leads" "[Z") ∈ zTb := zTb_in (List.mem_of_getElem? (i := 760) (by decide +kernel)) (by decide +kernel)
theorem kp53 : Cond.selects "AllHomeModel" ⟨"AllHomeModel", "keepState", "(II)V"⟩ ⟨"AllHomeModel", "keepState", "(II)V"⟩ ∈ zTb := zTb_in (List.mem_of_getElem? (i := 53) (by decide +kernel)) (by decide +kernel)
theorem kw976 : (Jvm.Cond.methodLink "AllHomeModel" (243 : Nat) ({ cls := "AllHomeModel", name := "keepState", desc := "(II)V" } : Jvm.MethodName)) ∈ zTb := zTb_in (List.mem_of_getElem? (i := 1042) (by decide +kernel)) (by decide +kernel)
theorem kw978 : (Jvm.Cond.instanceMethod ({ cls := "AllHomeModel", name := "keepState", desc := "(II)V" } : Jvm.MethodName)) ∈ zTb := zTb_in (List.mem_of_getElem? (i := 1044) (by decide +kernel)) (by decide +kernel)
theorem kw979 : (Jvm.Cond.code ({ cls := "AllHomeModel", name := "keepState", desc := "(II)V" } : Jvm.MethodName) prog_9_method_50_code (4 : Nat) (Option.none : Option Jvm.ClassFile.FieldType)) ∈ zTb := zTb_in (List.mem_of_getElem? (i := 1045) (by decide +kernel)) (by decide +kernel)
theorem kp54 : Cond.selects "AllHomeModel" ⟨"AllHomeModel", "goFrom", "(I)V"⟩ ⟨"AllHomeModel", "goFrom", "(I)V"⟩ ∈ zTb := zTb_in (List.mem_of_getElem? (i := 54) (by decide +kernel)) (by decide +kernel)
theorem kw980 : (Jvm.Cond.methodLink "AllHomeModel" (246 : Nat) ({ cls := "AllHomeModel", name := "goFrom", desc := "(I)V" } : Jvm.MethodName)) ∈ zTb := zTb_in (List.mem_of_getElem? (i := 1046) (by decide +kernel)) (by decide +kernel)
theorem kw982 : (Jvm.Cond.instanceMethod ({ cls := "AllHomeModel", name := "goFrom", desc := "(I)V" } : Jvm.MethodName)) ∈ zTb := zTb_in (List.mem_of_getElem? (i := 1048) (by decide +kernel)) (by decide +kernel)
theorem kw983 : (Jvm.Cond.code ({ cls := "AllHomeModel", name := "goFrom", desc := "(I)V" } : Jvm.MethodName) prog_9_method_51_code (4 : Nat) (Option.none : Option Jvm.ClassFile.FieldType)) ∈ zTb := zTb_in (List.mem_of_getElem? (i := 1049) (by decide +kernel)) (by decide +kernel)
theorem kp52 : Cond.selects "AllHomeModel" ⟨"AllHomeModel", "findAll", "(I)I"⟩ ⟨"AllHomeModel", "findAll", "(I)I"⟩ ∈ zTb := zTb_in (List.mem_of_getElem? (i := 52) (by decide +kernel)) (by decide +kernel)
theorem kw972 : (Jvm.Cond.methodLink "AllHomeModel" (249 : Nat) ({ cls := "AllHomeModel", name := "findAll", desc := "(I)I" } : Jvm.MethodName)) ∈ zTb := zTb_in (List.mem_of_getElem? (i := 1038) (by decide +kernel)) (by decide +kernel)
theorem kw974 : (Jvm.Cond.instanceMethod ({ cls := "AllHomeModel", name := "findAll", desc := "(I)I" } : Jvm.MethodName)) ∈ zTb := zTb_in (List.mem_of_getElem? (i := 1040) (by decide +kernel)) (by decide +kernel)
theorem kw975 : (Jvm.Cond.code ({ cls := "AllHomeModel", name := "findAll", desc := "(I)I" } : Jvm.MethodName) prog_9_method_52_code (3 : Nat) (Option.some Jvm.ClassFile.FieldType.int)) ∈ zTb := zTb_in (List.mem_of_getElem? (i := 1041) (by decide +kernel)) (by decide +kernel)
theorem kp51 : Cond.selects "AllHomeModel" ⟨"AllHomeModel", "noOrders", "(I)I"⟩ ⟨"AllHomeModel", "noOrders", "(I)I"⟩ ∈ zTb := zTb_in (List.mem_of_getElem? (i := 51) (by decide +kernel)) (by decide +kernel)
theorem kw968 : (Jvm.Cond.methodLink "AllHomeModel" (252 : Nat) ({ cls := "AllHomeModel", name := "noOrders", desc := "(I)I" } : Jvm.MethodName)) ∈ zTb := zTb_in (List.mem_of_getElem? (i := 1034) (by decide +kernel)) (by decide +kernel)
theorem kw970 : (Jvm.Cond.instanceMethod ({ cls := "AllHomeModel", name := "noOrders", desc := "(I)I" } : Jvm.MethodName)) ∈ zTb := zTb_in (List.mem_of_getElem? (i := 1036) (by decide +kernel)) (by decide +kernel)
theorem kw971 : (Jvm.Cond.code ({ cls := "AllHomeModel", name := "noOrders", desc := "(I)I" } : Jvm.MethodName) prog_9_method_53_code (2 : Nat) (Option.some Jvm.ClassFile.FieldType.int)) ∈ zTb := zTb_in (List.mem_of_getElem? (i := 1037) (by decide +kernel)) (by decide +kernel)
theorem kp57 : Cond.selects "AllHomeModel" ⟨"AllHomeModel", "stepsTo", "(I)I"⟩ ⟨"AllHomeModel", "stepsTo", "(I)I"⟩ ∈ zTb := zTb_in (List.mem_of_getElem? (i := 57) (by decide +kernel)) (by decide +kernel)
theorem kw996 : (Jvm.Cond.methodLink "AllHomeModel" (255 : Nat) ({ cls := "AllHomeModel", name := "stepsTo", desc := "(I)I" } : Jvm.MethodName)) ∈ zTb := zTb_in (List.mem_of_getElem? (i := 1062) (by decide +kernel)) (by decide +kernel)
theorem kw998 : (Jvm.Cond.instanceMethod ({ cls := "AllHomeModel", name := "stepsTo", desc := "(I)I" } : Jvm.MethodName)) ∈ zTb := zTb_in (List.mem_of_getElem? (i := 1064) (by decide +kernel)) (by decide +kernel)
theorem kw999 : (Jvm.Cond.code ({ cls := "AllHomeModel", name := "stepsTo", desc := "(I)I" } : Jvm.MethodName) prog_9_method_55_code (4 : Nat) (Option.some Jvm.ClassFile.FieldType.int)) ∈ zTb := zTb_in (List.mem_of_getElem? (i := 1065) (by decide +kernel)) (by decide +kernel)
theorem kw693 : (Jvm.Cond.fieldLink "AllHomeModel" (55 : Nat) "AllHomeModel" "canSay" "[Z") ∈ zTb := zTb_in (List.mem_of_getElem? (i := 759) (by decide +kernel)) (by decide +kernel)
theorem kp59 : Cond.selects "AllHomeModel" ⟨"AllHomeModel", "worksAlike", "(II)Z"⟩ ⟨"AllHomeModel", "worksAlike", "(II)Z"⟩ ∈ zTb := zTb_in (List.mem_of_getElem? (i := 59) (by decide +kernel)) (by decide +kernel)
theorem kw1012 : (Jvm.Cond.methodLink "AllHomeModel" (258 : Nat) ({ cls := "AllHomeModel", name := "worksAlike", desc := "(II)Z" } : Jvm.MethodName)) ∈ zTb := zTb_in (List.mem_of_getElem? (i := 1078) (by decide +kernel)) (by decide +kernel)
theorem kw1014 : (Jvm.Cond.instanceMethod ({ cls := "AllHomeModel", name := "worksAlike", desc := "(II)Z" } : Jvm.MethodName)) ∈ zTb := zTb_in (List.mem_of_getElem? (i := 1080) (by decide +kernel)) (by decide +kernel)
theorem kw1015 : (Jvm.Cond.code ({ cls := "AllHomeModel", name := "worksAlike", desc := "(II)Z" } : Jvm.MethodName) prog_9_method_58_code (8 : Nat) (Option.some Jvm.ClassFile.FieldType.boolean)) ∈ zTb := zTb_in (List.mem_of_getElem? (i := 1081) (by decide +kernel)) (by decide +kernel)
theorem kp58 : Cond.selects "AllHomeModel" ⟨"AllHomeModel", "workMany", "()I"⟩ ⟨"AllHomeModel", "workMany", "()I"⟩ ∈ zTb := zTb_in (List.mem_of_getElem? (i := 58) (by decide +kernel)) (by decide +kernel)
theorem kw1008 : (Jvm.Cond.methodLink "AllHomeModel" (261 : Nat) ({ cls := "AllHomeModel", name := "workMany", desc := "()I" } : Jvm.MethodName)) ∈ zTb := zTb_in (List.mem_of_getElem? (i := 1074) (by decide +kernel)) (by decide +kernel)
theorem kw1010 : (Jvm.Cond.instanceMethod ({ cls := "AllHomeModel", name := "workMany", desc := "()I" } : Jvm.MethodName)) ∈ zTb := zTb_in (List.mem_of_getElem? (i := 1076) (by decide +kernel)) (by decide +kernel)
theorem kw1011 : (Jvm.Cond.code ({ cls := "AllHomeModel", name := "workMany", desc := "()I" } : Jvm.MethodName) prog_9_method_59_code (5 : Nat) (Option.some Jvm.ClassFile.FieldType.int)) ∈ zTb := zTb_in (List.mem_of_getElem? (i := 1077) (by decide +kernel)) (by decide +kernel)
theorem kw697 : (Jvm.Cond.fieldLink "AllHomeModel" (264 : Nat) "AllHomeModel" "ran" "I") ∈ zTb := zTb_in (List.mem_of_getElem? (i := 763) (by decide +kernel)) (by decide +kernel)
theorem kw696 : (Jvm.Cond.fieldLink "AllHomeModel" (62 : Nat) "AllHomeModel" "trace" "[I") ∈ zTb := zTb_in (List.mem_of_getElem? (i := 762) (by decide +kernel)) (by decide +kernel)
theorem kp61 : Cond.selects "AllHomeModel" ⟨"AllHomeModel", "ranBody", "(I)V"⟩ ⟨"AllHomeModel", "ranBody", "(I)V"⟩ ∈ zTb := zTb_in (List.mem_of_getElem? (i := 61) (by decide +kernel)) (by decide +kernel)
theorem kw1025 : (Jvm.Cond.methodLink "AllHomeModel" (267 : Nat) ({ cls := "AllHomeModel", name := "ranBody", desc := "(I)V" } : Jvm.MethodName)) ∈ zTb := zTb_in (List.mem_of_getElem? (i := 1091) (by decide +kernel)) (by decide +kernel)
theorem kw1027 : (Jvm.Cond.instanceMethod ({ cls := "AllHomeModel", name := "ranBody", desc := "(I)V" } : Jvm.MethodName)) ∈ zTb := zTb_in (List.mem_of_getElem? (i := 1093) (by decide +kernel)) (by decide +kernel)
theorem kw1028 : (Jvm.Cond.code ({ cls := "AllHomeModel", name := "ranBody", desc := "(I)V" } : Jvm.MethodName) prog_9_method_61_code (2 : Nat) (Option.none : Option Jvm.ClassFile.FieldType)) ∈ zTb := zTb_in (List.mem_of_getElem? (i := 1094) (by decide +kernel)) (by decide +kernel)
theorem kw698 : (Jvm.Cond.fieldLink "AllHomeModel" (270 : Nat) "AllHomeModel" "acting" "I") ∈ zTb := zTb_in (List.mem_of_getElem? (i := 764) (by decide +kernel)) (by decide +kernel)
theorem kp60 : Cond.selects "AllHomeModel" ⟨"AllHomeModel", "sends", "(II)I"⟩ ⟨"AllHomeModel", "sends", "(II)I"⟩ ∈ zTb := zTb_in (List.mem_of_getElem? (i := 60) (by decide +kernel)) (by decide +kernel)
theorem kw1021 : (Jvm.Cond.methodLink "AllHomeModel" (273 : Nat) ({ cls := "AllHomeModel", name := "sends", desc := "(II)I" } : Jvm.MethodName)) ∈ zTb := zTb_in (List.mem_of_getElem? (i := 1087) (by decide +kernel)) (by decide +kernel)
theorem kw1023 : (Jvm.Cond.instanceMethod ({ cls := "AllHomeModel", name := "sends", desc := "(II)I" } : Jvm.MethodName)) ∈ zTb := zTb_in (List.mem_of_getElem? (i := 1089) (by decide +kernel)) (by decide +kernel)
theorem kw1024 : (Jvm.Cond.code ({ cls := "AllHomeModel", name := "sends", desc := "(II)I" } : Jvm.MethodName) prog_9_method_62_code (3 : Nat) (Option.some Jvm.ClassFile.FieldType.int)) ∈ zTb := zTb_in (List.mem_of_getElem? (i := 1090) (by decide +kernel)) (by decide +kernel)
theorem kp62 : Cond.selects "AllHomeModel" ⟨"AllHomeModel", "asksOf", "(II)I"⟩ ⟨"AllHomeModel", "asksOf", "(II)I"⟩ ∈ zTb := zTb_in (List.mem_of_getElem? (i := 62) (by decide +kernel)) (by decide +kernel)
theorem kw1029 : (Jvm.Cond.methodLink "AllHomeModel" (276 : Nat) ({ cls := "AllHomeModel", name := "asksOf", desc := "(II)I" } : Jvm.MethodName)) ∈ zTb := zTb_in (List.mem_of_getElem? (i := 1095) (by decide +kernel)) (by decide +kernel)
theorem kw1031 : (Jvm.Cond.instanceMethod ({ cls := "AllHomeModel", name := "asksOf", desc := "(II)I" } : Jvm.MethodName)) ∈ zTb := zTb_in (List.mem_of_getElem? (i := 1097) (by decide +kernel)) (by decide +kernel)
theorem kw1032 : (Jvm.Cond.code ({ cls := "AllHomeModel", name := "asksOf", desc := "(II)I" } : Jvm.MethodName) prog_9_method_63_code (4 : Nat) (Option.some Jvm.ClassFile.FieldType.int)) ∈ zTb := zTb_in (List.mem_of_getElem? (i := 1098) (by decide +kernel)) (by decide +kernel)
theorem kp63 : Cond.selects "AllHomeModel" ⟨"AllHomeModel", "owes", "(II)I"⟩ ⟨"AllHomeModel", "owes", "(II)I"⟩ ∈ zTb := zTb_in (List.mem_of_getElem? (i := 63) (by decide +kernel)) (by decide +kernel)
theorem kw1033 : (Jvm.Cond.methodLink "AllHomeModel" (279 : Nat) ({ cls := "AllHomeModel", name := "owes", desc := "(II)I" } : Jvm.MethodName)) ∈ zTb := zTb_in (List.mem_of_getElem? (i := 1099) (by decide +kernel)) (by decide +kernel)
theorem kw1035 : (Jvm.Cond.instanceMethod ({ cls := "AllHomeModel", name := "owes", desc := "(II)I" } : Jvm.MethodName)) ∈ zTb := zTb_in (List.mem_of_getElem? (i := 1101) (by decide +kernel)) (by decide +kernel)
theorem kw1036 : (Jvm.Cond.code ({ cls := "AllHomeModel", name := "owes", desc := "(II)I" } : Jvm.MethodName) prog_9_method_64_code (4 : Nat) (Option.some Jvm.ClassFile.FieldType.int)) ∈ zTb := zTb_in (List.mem_of_getElem? (i := 1102) (by decide +kernel)) (by decide +kernel)
theorem kp64 : Cond.selects "AllHomeModel" ⟨"AllHomeModel", "tells", "(II)I"⟩ ⟨"AllHomeModel", "tells", "(II)I"⟩ ∈ zTb := zTb_in (List.mem_of_getElem? (i := 64) (by decide +kernel)) (by decide +kernel)
theorem kw1037 : (Jvm.Cond.methodLink "AllHomeModel" (282 : Nat) ({ cls := "AllHomeModel", name := "tells", desc := "(II)I" } : Jvm.MethodName)) ∈ zTb := zTb_in (List.mem_of_getElem? (i := 1103) (by decide +kernel)) (by decide +kernel)
theorem kw1039 : (Jvm.Cond.instanceMethod ({ cls := "AllHomeModel", name := "tells", desc := "(II)I" } : Jvm.MethodName)) ∈ zTb := zTb_in (List.mem_of_getElem? (i := 1105) (by decide +kernel)) (by decide +kernel)
theorem kw1040 : (Jvm.Cond.code ({ cls := "AllHomeModel", name := "tells", desc := "(II)I" } : Jvm.MethodName) prog_9_method_65_code (4 : Nat) (Option.some Jvm.ClassFile.FieldType.int)) ∈ zTb := zTb_in (List.mem_of_getElem? (i := 1106) (by decide +kernel)) (by decide +kernel)
theorem kw1020 : (Jvm.Cond.constantLong "AllHomeModel" (285 : Nat) (3 : Int64)) ∈ zTb := zTb_in (List.mem_of_getElem? (i := 1086) (by decide +kernel)) (by decide +kernel)
theorem kp65 : Cond.selects "AllHomeModel" ⟨"AllHomeModel", "refusal", "(II)I"⟩ ⟨"AllHomeModel", "refusal", "(II)I"⟩ ∈ zTb := zTb_in (List.mem_of_getElem? (i := 65) (by decide +kernel)) (by decide +kernel)
theorem kw1057 : (Jvm.Cond.methodLink "AllHomeModel" (289 : Nat) ({ cls := "AllHomeModel", name := "refusal", desc := "(II)I" } : Jvm.MethodName)) ∈ zTb := zTb_in (List.mem_of_getElem? (i := 1123) (by decide +kernel)) (by decide +kernel)
theorem kw1059 : (Jvm.Cond.instanceMethod ({ cls := "AllHomeModel", name := "refusal", desc := "(II)I" } : Jvm.MethodName)) ∈ zTb := zTb_in (List.mem_of_getElem? (i := 1125) (by decide +kernel)) (by decide +kernel)
theorem kw1060 : (Jvm.Cond.code ({ cls := "AllHomeModel", name := "refusal", desc := "(II)I" } : Jvm.MethodName) prog_9_method_71_code (3 : Nat) (Option.some Jvm.ClassFile.FieldType.int)) ∈ zTb := zTb_in (List.mem_of_getElem? (i := 1126) (by decide +kernel)) (by decide +kernel)
theorem kw1061 : (Jvm.Cond.methodLink "AllHomeModel" (292 : Nat) ({ cls := "AllHomeModel", name := "asSort", desc := "(IJ)J" } : Jvm.MethodName)) ∈ zTb := zTb_in (List.mem_of_getElem? (i := 1127) (by decide +kernel)) (by decide +kernel)
theorem kw1062 : (Jvm.Cond.static ({ cls := "AllHomeModel", name := "asSort", desc := "(IJ)J" } : Jvm.MethodName)) ∈ zTb := zTb_in (List.mem_of_getElem? (i := 1128) (by decide +kernel)) (by decide +kernel)
theorem kw1063 : (Jvm.Cond.code ({ cls := "AllHomeModel", name := "asSort", desc := "(IJ)J" } : Jvm.MethodName) prog_9_method_72_code (3 : Nat) (Option.some Jvm.ClassFile.FieldType.long)) ∈ zTb := zTb_in (List.mem_of_getElem? (i := 1129) (by decide +kernel)) (by decide +kernel)
theorem kw1068 : (Jvm.Cond.constantLong "AllHomeModel" (298 : Nat) (-9223372036854775808 : Int64)) ∈ zTb := zTb_in (List.mem_of_getElem? (i := 1134) (by decide +kernel)) (by decide +kernel)
theorem kw702 : (Jvm.Cond.fieldLink "AllHomeModel" (75 : Nat) "AllHomeModel" "carried" "[J") ∈ zTb := zTb_in (List.mem_of_getElem? (i := 768) (by decide +kernel)) (by decide +kernel)
theorem F_Home_59 : zFd "AllHome" 59 6 1 := ⟨by decide, "AllHome", nT6, 12, rfl, nI6, by decide, kw178⟩
theorem P_Home_59 : zFp "AllHome" 59 6 1 .int false := ⟨by decide, "AllHome", nT6, 12, nY6, rfl, nI6, by decide, kw178, nP6, nN6, by decide +kernel, rfl, rfl⟩
theorem F_Home_9 : zFd "AllHome" 9 6 0 := ⟨by decide, "AllHome", nT6, 12, rfl, nI6, by decide, kw177⟩
theorem F_Huts_23 : zFd "AllHome$Huts" 23 1 3 := ⟨by decide, "AllHome$Huts", nT1, 4, rfl, nI1, by decide, kw31⟩
theorem F_Huts_13 : zFd "AllHome$Huts" 13 1 0 := ⟨by decide, "AllHome$Huts", nT1, 4, rfl, nI1, by decide, kw28⟩
theorem F_Huts_16 : zFd "AllHome$Huts" 16 1 1 := ⟨by decide, "AllHome$Huts", nT1, 4, rfl, nI1, by decide, kw29⟩
theorem F_Huts_19 : zFd "AllHome$Huts" 19 1 2 := ⟨by decide, "AllHome$Huts", nT1, 4, rfl, nI1, by decide, kw30⟩
theorem P_Huts_23 : zFp "AllHome$Huts" 23 1 3 .int false := ⟨by decide, "AllHome$Huts", nT1, 4, nY1, rfl, nI1, by decide, kw31, nP1, nN1, by decide +kernel, rfl, rfl⟩
theorem C_Huts_31 : zCV "AllHome$Huts" 31 y_Huts_addWords prog_3_method_8_code 5 (some .int) 3 1 := ⟨kw230, kw232, kp0, kw2, kw233, ⟨by decide +kernel, by decide +kernel, by decide +kernel⟩, by decide, _, rfl, rfl⟩
theorem P_Orders_42 : zFp "AllHome$Orders" 42 2 13 .int false := ⟨by decide, "AllHome$Orders", nT2, 14, nY2, rfl, nI2, by decide, kw81, nP2, nN2, by decide +kernel, rfl, rfl⟩
theorem F_Home_63 : zFd "AllHome" 63 6 6 := ⟨by decide, "AllHome", nT6, 12, rfl, nI6, by decide, kw183⟩
theorem F_Home_16 : zFd "AllHome" 16 6 2 := ⟨by decide, "AllHome", nT6, 12, rfl, nI6, by decide, kw179⟩
theorem C_Home_66 : zCV "AllHome" 66 y_Huts_size prog_3_method_2_code 1 (some .int) 0 1 := ⟨kw222, kw223, kw224, kw2, kw225, ⟨by decide +kernel, by decide +kernel, by decide +kernel⟩, by decide, _, rfl, rfl⟩
theorem C_Home_70 : zCV "AllHome" 70 y_Huts_read prog_3_method_7_code 9 (some .int) 2 1 := ⟨kw226, kw227, kw228, kw2, kw229, ⟨by decide +kernel, by decide +kernel, by decide +kernel⟩, by decide, _, rfl, rfl⟩
theorem F_Home_37 : zFd "AllHome" 37 6 8 := ⟨by decide, "AllHome", nT6, 12, rfl, nI6, by decide, kw185⟩
theorem C_Home_74 : zCV "AllHome" 74 y_Orders_forget prog_4_method_2_code 1 none 0 2 := ⟨kw237, kw238, kw239, kw3, kw240, ⟨by decide +kernel, by decide +kernel, by decide +kernel⟩, by decide, _, rfl, rfl⟩
theorem F_Home_41 : zFd "AllHome" 41 6 9 := ⟨by decide, "AllHome", nT6, 12, rfl, nI6, by decide, kw186⟩
theorem C_Huts_27 : zCV "AllHome$Huts" 27 y_Huts_has prog_3_method_3_code 2 (some .boolean) 1 1 := ⟨kw253, kw246, kw247, kw2, kw248, ⟨by decide +kernel, by decide +kernel, by decide +kernel⟩, by decide, _, rfl, rfl⟩
theorem C_Home_77 : zCV "AllHome" 77 y_Huts_has prog_3_method_3_code 2 (some .boolean) 1 1 := ⟨kw245, kw246, kw247, kw2, kw248, ⟨by decide +kernel, by decide +kernel, by decide +kernel⟩, by decide, _, rfl, rfl⟩
theorem C_Home_81 : zCV "AllHome" 81 y_Huts_linesOf prog_3_method_4_code 2 (some .int) 1 1 := ⟨kw249, kw250, kw251, kw2, kw252, ⟨by decide +kernel, by decide +kernel, by decide +kernel⟩, by decide, _, rfl, rfl⟩
theorem C_Home_85 : zCV "AllHome" 85 y_Huts_wordsOf prog_3_method_5_code 3 (some .int) 2 1 := ⟨kw254, kw255, kw256, kw2, kw257, ⟨by decide +kernel, by decide +kernel, by decide +kernel⟩, by decide, _, rfl, rfl⟩
theorem C_Home_89 : zCV "AllHome" 89 y_Huts_goal prog_3_method_6_code 5 (some .int) 3 1 := ⟨kw262, kw263, kw264, kw2, kw265, ⟨by decide +kernel, by decide +kernel, by decide +kernel⟩, by decide, _, rfl, rfl⟩
theorem C_Home_93 : zCS "AllHome" 93 y_Home_isKind prog_1_method_32_code 1 (some .boolean) 1 := ⟨kw270, kw271, kw1, kw272, ⟨by decide +kernel, by decide +kernel, by decide +kernel⟩⟩
theorem F_Home_96 : zFd "AllHome" 96 6 4 := ⟨by decide, "AllHome", nT6, 12, rfl, nI6, by decide, kw181⟩
theorem F_Home_20 : zFd "AllHome" 20 6 3 := ⟨by decide, "AllHome", nT6, 12, rfl, nI6, by decide, kw180⟩
theorem P_Home_96 : zFp "AllHome" 96 6 4 .int false := ⟨by decide, "AllHome", nT6, 12, nY6, rfl, nI6, by decide, kw181, nP6, nN6, by decide +kernel, rfl, rfl⟩
theorem C_Home_99 : zCV "AllHome" 99 y_Home_isWay prog_1_method_29_code 2 (some .boolean) 1 6 := ⟨kw277, kw279, kp1, kw1, kw280, ⟨by decide +kernel, by decide +kernel, by decide +kernel⟩, by decide, _, rfl, rfl⟩
theorem C_Rules_19 : zCN "AllHome$Rules" 19 y_Home_isKind prog_1_method_32_code 1 (some .boolean) 1 := ⟨List.mem_of_getElem? (i := 3) rfl, kw271, kw1, kw272, ⟨by decide +kernel, by decide +kernel, by decide +kernel⟩⟩
theorem P_Rules_23 : zFp "AllHome$Rules" 23 3 1 .int false := ⟨by decide, "AllHome$Rules", nT3, 3, nY3, rfl, nI3, by decide, kw58, nP3, nN3, by decide +kernel, rfl, rfl⟩
theorem F_Rules_23 : zFd "AllHome$Rules" 23 3 1 := ⟨by decide, "AllHome$Rules", nT3, 3, rfl, nI3, by decide, kw58⟩
theorem P_Rules_15 : zFp "AllHome$Rules" 15 3 2 .int false := ⟨by decide, "AllHome$Rules", nT3, 3, nY3, rfl, nI3, by decide, kw59, nP3, nN3, by decide +kernel, rfl, rfl⟩
theorem C_Rules_30 : zCS "AllHome$Rules" 30 y_Fill_I prog_12_method_103_code 4 none 2 := ⟨kw296, kw297, kw10, kw298, ⟨by decide +kernel, by decide +kernel, by decide +kernel⟩⟩
theorem F_Rules_15 : zFd "AllHome$Rules" 15 3 2 := ⟨by decide, "AllHome$Rules", nT3, 3, rfl, nI3, by decide, kw59⟩
theorem F_Run_20 : zFd "AllHome$Run" 20 4 0 := ⟨by decide, "AllHome$Run", nT4, 6, rfl, nI4, by decide, kw139⟩
theorem F_Run_9 : zFd "AllHome$Run" 9 4 1 := ⟨by decide, "AllHome$Run", nT4, 6, rfl, nI4, by decide, kw140⟩
theorem C_Run_24 : zCV "AllHome$Run" 24 y_Rules_begin prog_5_method_3_code 4 none 2 3 := ⟨kw289, kw290, kw291, kw4, kw292, ⟨by decide +kernel, by decide +kernel, by decide +kernel⟩, by decide, _, rfl, rfl⟩
theorem P_Run_28 : zFp "AllHome$Run" 28 4 2 .int false := ⟨by decide, "AllHome$Run", nT4, 6, nY4, rfl, nI4, by decide, kw141, nP4, nN4, by decide +kernel, rfl, rfl⟩
theorem P_Run_32 : zFp "AllHome$Run" 32 4 3 .int false := ⟨by decide, "AllHome$Run", nT4, 6, nY4, rfl, nI4, by decide, kw142, nP4, nN4, by decide +kernel, rfl, rfl⟩
theorem P_Run_35 : zFp "AllHome$Run" 35 4 4 .int false := ⟨by decide, "AllHome$Run", nT4, 6, nY4, rfl, nI4, by decide, kw143, nP4, nN4, by decide +kernel, rfl, rfl⟩
theorem P_Run_38 : zFp "AllHome$Run" 38 4 5 .int false := ⟨by decide, "AllHome$Run", nT4, 6, nY4, rfl, nI4, by decide, kw144, nP4, nN4, by decide +kernel, rfl, rfl⟩
theorem F_Home_25 : zFd "AllHome" 25 6 5 := ⟨by decide, "AllHome", nT6, 12, rfl, nI6, by decide, kw182⟩
theorem C_Home_102 : zCV "AllHome" 102 y_Run_begin prog_6_method_2_code 3 none 2 4 := ⟨kw285, kw286, kw287, kw6, kw288, ⟨by decide +kernel, by decide +kernel, by decide +kernel⟩, by decide, _, rfl, rfl⟩
theorem P_Home_63 : zFp "AllHome" 63 6 6 .int false := ⟨by decide, "AllHome", nT6, 12, nY6, rfl, nI6, by decide, kw183, nP6, nN6, by decide +kernel, rfl, rfl⟩
theorem C_Rules_81 : zCS "AllHome$Rules" 81 y_Rules_partUnits prog_5_method_7_code 3 (some .int) 2 := ⟨kw329, kw330, kw4, kw331, ⟨by decide +kernel, by decide +kernel, by decide +kernel⟩⟩
theorem F_Rules_9 : zFd "AllHome$Rules" 9 3 0 := ⟨by decide, "AllHome$Rules", nT3, 3, rfl, nI3, by decide, kw57⟩
theorem C_Rules_60 : zCV "AllHome$Rules" 60 y_Huts_has prog_3_method_3_code 2 (some .boolean) 1 1 := ⟨kw322, kw246, kw247, kw2, kw248, ⟨by decide +kernel, by decide +kernel, by decide +kernel⟩, by decide, _, rfl, rfl⟩
theorem C_Rules_65 : zCV "AllHome$Rules" 65 y_Huts_wordsOf prog_3_method_5_code 3 (some .int) 2 1 := ⟨kw323, kw255, kw256, kw2, kw257, ⟨by decide +kernel, by decide +kernel, by decide +kernel⟩, by decide, _, rfl, rfl⟩
theorem C_Rules_77 : zCS "AllHome$Rules" 77 y_Rules_sendNote prog_5_method_8_code 5 (some .int) 4 := ⟨kw332, kw333, kw4, kw334, ⟨by decide +kernel, by decide +kernel, by decide +kernel⟩⟩
theorem C_Rules_69 : zCV "AllHome$Rules" 69 y_Huts_goal prog_3_method_6_code 5 (some .int) 3 1 := ⟨kw324, kw263, kw264, kw2, kw265, ⟨by decide +kernel, by decide +kernel, by decide +kernel⟩, by decide, _, rfl, rfl⟩
theorem C_Rules_73 : zCV "AllHome$Rules" 73 y_Rules_send prog_5_method_6_code 6 (some .int) 3 3 := ⟨kw325, kw327, kp4, kw4, kw328, ⟨by decide +kernel, by decide +kernel, by decide +kernel⟩, by decide, _, rfl, rfl⟩
theorem C_Rules_90 : zCS "AllHome$Rules" 90 y_Rules_closeGap prog_5_method_13_code 4 none 3 := ⟨kw342, kw343, kw4, kw344, ⟨by decide +kernel, by decide +kernel, by decide +kernel⟩⟩
theorem C_Rules_84 : zCS "AllHome$Rules" 84 y_Rules_takeAwayWord prog_5_method_12_code 2 none 2 := ⟨kw339, kw340, kw4, kw341, ⟨by decide +kernel, by decide +kernel, by decide +kernel⟩⟩
theorem C_Rules_87 : zCS "AllHome$Rules" 87 y_Rules_joinTree prog_5_method_10_code 3 (some .int) 3 := ⟨kw345, kw346, kw4, kw347, ⟨by decide +kernel, by decide +kernel, by decide +kernel⟩⟩
theorem C_Rules_100 : zCV "AllHome$Rules" 100 y_Huts_size prog_3_method_2_code 1 (some .int) 0 1 := ⟨kw359, kw223, kw224, kw2, kw225, ⟨by decide +kernel, by decide +kernel, by decide +kernel⟩, by decide, _, rfl, rfl⟩
theorem C_Rules_94 : zCS "AllHome$Rules" 94 y_Rules_takeStone prog_5_method_15_code 5 (some .int) 4 := ⟨kw352, kw353, kw4, kw354, ⟨by decide +kernel, by decide +kernel, by decide +kernel⟩⟩
theorem C_Rules_97 : zCV "AllHome$Rules" 97 y_Rules_takeSums prog_5_method_16_code 6 (some .int) 4 3 := ⟨kw355, kw357, kp7, kw4, kw358, ⟨by decide +kernel, by decide +kernel, by decide +kernel⟩, by decide, _, rfl, rfl⟩
theorem C_Rules_104 : zCN "AllHome$Rules" 104 y_Home_isUnder prog_1_method_33_code 4 (some .boolean) 2 := ⟨List.mem_of_getElem? (i := 5) rfl, kw365, kw1, kw366, ⟨by decide +kernel, by decide +kernel, by decide +kernel⟩⟩
theorem C_Rules_36 : zCV "AllHome$Rules" 36 y_Rules_goOn prog_5_method_5_code 5 (some .int) 2 3 := ⟨kw318, kw320, kp3, kw4, kw321, ⟨by decide +kernel, by decide +kernel, by decide +kernel⟩, by decide, _, rfl, rfl⟩
theorem C_Rules_56 : zCV "AllHome$Rules" 56 y_Rules_seesAllHome prog_5_method_19_code 4 (some .boolean) 1 3 := ⟨kw376, kw378, kp10, kw4, kw379, ⟨by decide +kernel, by decide +kernel, by decide +kernel⟩, by decide, _, rfl, rfl⟩
theorem C_Rules_52 : zCV "AllHome$Rules" 52 y_Rules_leaveTree prog_5_method_18_code 5 (some .int) 1 3 := ⟨kw372, kw374, kp9, kw4, kw375, ⟨by decide +kernel, by decide +kernel, by decide +kernel⟩, by decide, _, rfl, rfl⟩
theorem C_Rules_40 : zCV "AllHome$Rules" 40 y_Rules_comeWord prog_5_method_9_code 6 (some .int) 2 3 := ⟨kw335, kw337, kp5, kw4, kw338, ⟨by decide +kernel, by decide +kernel, by decide +kernel⟩, by decide, _, rfl, rfl⟩
theorem C_Rules_43 : zCV "AllHome$Rules" 43 y_Rules_comeNote prog_5_method_14_code 6 (some .int) 2 3 := ⟨kw348, kw350, kp6, kw4, kw351, ⟨by decide +kernel, by decide +kernel, by decide +kernel⟩, by decide, _, rfl, rfl⟩
theorem C_Rules_46 : zCV "AllHome$Rules" 46 y_Rules_ask prog_5_method_17_code 3 (some .int) 2 3 := ⟨kw360, kw362, kp8, kw4, kw363, ⟨by decide +kernel, by decide +kernel, by decide +kernel⟩, by decide, _, rfl, rfl⟩
theorem C_Rules_49 : zCS "AllHome$Rules" 49 y_Rules_lose prog_5_method_11_code 2 (some .int) 2 := ⟨kw369, kw370, kw4, kw371, ⟨by decide +kernel, by decide +kernel, by decide +kernel⟩⟩
theorem C_Run_52 : zCV "AllHome$Run" 52 y_Rules_apply prog_5_method_4_code 5 (some .int) 3 3 := ⟨kw314, kw315, kw316, kw4, kw317, ⟨by decide +kernel, by decide +kernel, by decide +kernel⟩, by decide, _, rfl, rfl⟩
theorem F_Run_32 : zFd "AllHome$Run" 32 4 3 := ⟨by decide, "AllHome$Run", nT4, 6, rfl, nI4, by decide, kw142⟩
theorem C_Run_56 : zCN "AllHome$Run" 56 y_Home_isOver prog_1_method_36_code 2 (some .boolean) 1 := ⟨List.mem_of_getElem? (i := 6) rfl, kw381, kw1, kw382, ⟨by decide +kernel, by decide +kernel, by decide +kernel⟩⟩
theorem F_Run_38 : zFd "AllHome$Run" 38 4 5 := ⟨by decide, "AllHome$Run", nT4, 6, rfl, nI4, by decide, kw144⟩
theorem F_Run_35 : zFd "AllHome$Run" 35 4 4 := ⟨by decide, "AllHome$Run", nT4, 6, rfl, nI4, by decide, kw143⟩
theorem C_Home_106 : zCV "AllHome" 106 y_Home_isRun prog_1_method_30_code 2 (some .boolean) 1 6 := ⟨kw303, kw305, kp2, kw1, kw306, ⟨by decide +kernel, by decide +kernel, by decide +kernel⟩, by decide, _, rfl, rfl⟩
theorem F_Home_29 : zFd "AllHome" 29 6 7 := ⟨by decide, "AllHome", nT6, 12, rfl, nI6, by decide, kw184⟩
theorem C_Home_109 : zCV "AllHome" 109 y_Run_advance prog_6_method_5_code 5 (some .int) 3 4 := ⟨kw307, kw308, kw309, kw6, kw310, ⟨by decide +kernel, by decide +kernel, by decide +kernel⟩, by decide, _, rfl, rfl⟩
theorem F_Shelf_19 : zFd "AllHome$Shelf" 19 5 3 := ⟨by decide, "AllHome$Shelf", nT5, 4, rfl, nI5, by decide, kw166⟩
theorem F_Shelf_15 : zFd "AllHome$Shelf" 15 5 2 := ⟨by decide, "AllHome$Shelf", nT5, 4, rfl, nI5, by decide, kw165⟩
theorem F_Shelf_22 : zFd "AllHome$Shelf" 22 5 1 := ⟨by decide, "AllHome$Shelf", nT5, 4, rfl, nI5, by decide, kw164⟩
theorem C_Shelf_40 : zCV "AllHome$Shelf" 40 y_Shelf_hasPlace prog_7_method_9_code 2 (some .boolean) 1 5 := ⟨kw406, kw399, kw400, kw7, kw401, ⟨by decide +kernel, by decide +kernel, by decide +kernel⟩, by decide, _, rfl, rfl⟩
theorem F_Shelf_11 : zFd "AllHome$Shelf" 11 5 0 := ⟨by decide, "AllHome$Shelf", nT5, 4, rfl, nI5, by decide, kw163⟩
theorem C_Home_113 : zCS "AllHome" 113 y_Home_isShelf prog_1_method_31_code 1 (some .boolean) 1 := ⟨kw387, kw388, kw1, kw389, ⟨by decide +kernel, by decide +kernel, by decide +kernel⟩⟩
theorem F_Home_53 : zFd "AllHome" 53 6 11 := ⟨by decide, "AllHome", nT6, 12, rfl, nI6, by decide, kw188⟩
theorem C_Home_116 : zCV "AllHome" 116 y_Shelf_isEmpty prog_7_method_4_code 1 (some .boolean) 0 5 := ⟨kw390, kw391, kw392, kw7, kw393, ⟨by decide +kernel, by decide +kernel, by decide +kernel⟩, by decide, _, rfl, rfl⟩
theorem C_Home_120 : zCV "AllHome" 120 y_Shelf_isRowOf prog_7_method_6_code 2 (some .boolean) 1 5 := ⟨kw394, kw395, kw396, kw7, kw397, ⟨by decide +kernel, by decide +kernel, by decide +kernel⟩, by decide, _, rfl, rfl⟩
theorem C_Home_123 : zCV "AllHome" 123 y_Shelf_hasPlace prog_7_method_9_code 2 (some .boolean) 1 5 := ⟨kw398, kw399, kw400, kw7, kw401, ⟨by decide +kernel, by decide +kernel, by decide +kernel⟩, by decide, _, rfl, rfl⟩
theorem C_Home_126 : zCV "AllHome" 126 y_Shelf_at prog_7_method_11_code 2 (some .long) 1 5 := ⟨kw402, kw403, kw404, kw7, kw405, ⟨by decide +kernel, by decide +kernel, by decide +kernel⟩, by decide, _, rfl, rfl⟩
theorem F_Run_28 : zFd "AllHome$Run" 28 4 2 := ⟨by decide, "AllHome$Run", nT4, 6, rfl, nI4, by decide, kw141⟩
theorem C_Run_60 : zCV "AllHome$Run" 60 y_Run_hutsAwake prog_6_method_7_code 3 (some .int) 0 4 := ⟨kw416, kw418, kp11, kw6, kw419, ⟨by decide +kernel, by decide +kernel, by decide +kernel⟩, by decide, _, rfl, rfl⟩
theorem C_Home_130 : zCV "AllHome" 130 y_Run_tell prog_6_method_6_code 2 (some .int) 1 4 := ⟨kw412, kw413, kw414, kw6, kw415, ⟨by decide +kernel, by decide +kernel, by decide +kernel⟩, by decide, _, rfl, rfl⟩
theorem C_Run_41 : zCV "AllHome$Run" 41 y_Rules_family prog_5_method_2_code 1 (some .int) 0 3 := ⟨kw433, kw434, kw435, kw4, kw436, ⟨by decide +kernel, by decide +kernel, by decide +kernel⟩, by decide, _, rfl, rfl⟩
theorem C_Home_143 : zCV "AllHome" 143 y_Run_cell prog_6_method_4_code 2 (some .int) 1 4 := ⟨kw437, kw438, kw439, kw6, kw440, ⟨by decide +kernel, by decide +kernel, by decide +kernel⟩, by decide, _, rfl, rfl⟩
theorem C_Home_140 : zCV "AllHome" 140 y_Run_family prog_6_method_3_code 1 (some .int) 0 4 := ⟨kw429, kw430, kw431, kw6, kw432, ⟨by decide +kernel, by decide +kernel, by decide +kernel⟩, by decide, _, rfl, rfl⟩
theorem F_Orders_63 : zFd "AllHome$Orders" 63 2 11 := ⟨by decide, "AllHome$Orders", nT2, 14, rfl, nI2, by decide, kw79⟩
theorem F_Orders_39 : zFd "AllHome$Orders" 39 2 10 := ⟨by decide, "AllHome$Orders", nT2, 14, rfl, nI2, by decide, kw78⟩
theorem F_Orders_13 : zFd "AllHome$Orders" 13 2 2 := ⟨by decide, "AllHome$Orders", nT2, 14, rfl, nI2, by decide, kw70⟩
theorem F_Orders_16 : zFd "AllHome$Orders" 16 2 3 := ⟨by decide, "AllHome$Orders", nT2, 14, rfl, nI2, by decide, kw71⟩
theorem C_Orders_100 : zCS "AllHome$Orders" 100 y_Orders_printOf prog_4_method_10_code 3 (some .int) 1 := ⟨kw473, kw474, kw3, kw475, ⟨by decide +kernel, by decide +kernel, by decide +kernel⟩⟩
theorem F_Orders_20 : zFd "AllHome$Orders" 20 2 4 := ⟨by decide, "AllHome$Orders", nT2, 14, rfl, nI2, by decide, kw72⟩
theorem F_Orders_23 : zFd "AllHome$Orders" 23 2 5 := ⟨by decide, "AllHome$Orders", nT2, 14, rfl, nI2, by decide, kw73⟩
theorem F_Orders_26 : zFd "AllHome$Orders" 26 2 6 := ⟨by decide, "AllHome$Orders", nT2, 14, rfl, nI2, by decide, kw74⟩
theorem F_Orders_32 : zFd "AllHome$Orders" 32 2 8 := ⟨by decide, "AllHome$Orders", nT2, 14, rfl, nI2, by decide, kw76⟩
theorem P_Orders_63 : zFp "AllHome$Orders" 63 2 11 .int false := ⟨by decide, "AllHome$Orders", nT2, 14, nY2, rfl, nI2, by decide, kw79, nP2, nN2, by decide +kernel, rfl, rfl⟩
theorem P_Orders_59 : zFp "AllHome$Orders" 59 2 12 .boolean false := ⟨by decide, "AllHome$Orders", nT2, 14, nY2, rfl, nI2, by decide, kw80, nP2, nN2, by decide +kernel, rfl, rfl⟩
theorem F_Orders_46 : zFd "AllHome$Orders" 46 2 0 := ⟨by decide, "AllHome$Orders", nT2, 14, rfl, nI2, by decide, kw68⟩
theorem C_Orders_66 : zCV "AllHome$Orders" 66 y_Huts_size prog_3_method_2_code 1 (some .int) 0 1 := ⟨kw466, kw223, kw224, kw2, kw225, ⟨by decide +kernel, by decide +kernel, by decide +kernel⟩, by decide, _, rfl, rfl⟩
theorem C_Orders_104 : zCS "AllHome$Orders" 104 y_Orders_alike prog_4_method_11_code 4 (some .boolean) 3 := ⟨kw489, kw490, kw3, kw491, ⟨by decide +kernel, by decide +kernel, by decide +kernel⟩⟩
theorem F_Orders_55 : zFd "AllHome$Orders" 55 2 1 := ⟨by decide, "AllHome$Orders", nT2, 14, rfl, nI2, by decide, kw69⟩
theorem C_Orders_93 : zCV "AllHome$Orders" 93 y_Rules_apply prog_5_method_4_code 5 (some .int) 3 3 := ⟨kw484, kw315, kw316, kw4, kw317, ⟨by decide +kernel, by decide +kernel, by decide +kernel⟩, by decide, _, rfl, rfl⟩
theorem C_Orders_97 : zCV "AllHome$Orders" 97 y_Orders_findSpare prog_4_method_8_code 3 (some .int) 0 2 := ⟨kw485, kw487, kp16, kw3, kw488, ⟨by decide +kernel, by decide +kernel, by decide +kernel⟩, by decide, _, rfl, rfl⟩
theorem F_Orders_29 : zFd "AllHome$Orders" 29 2 7 := ⟨by decide, "AllHome$Orders", nT2, 14, rfl, nI2, by decide, kw75⟩
theorem C_Orders_75 : zCV "AllHome$Orders" 75 y_Orders_addSpare prog_4_method_9_code 3 (some .int) 2 2 := ⟨kw468, kw470, kp13, kw3, kw471, ⟨by decide +kernel, by decide +kernel, by decide +kernel⟩, by decide, _, rfl, rfl⟩
theorem F_Orders_42 : zFd "AllHome$Orders" 42 2 13 := ⟨by decide, "AllHome$Orders", nT2, 14, rfl, nI2, by decide, kw81⟩
theorem C_Orders_71 : zCV "AllHome$Orders" 71 y_Rules_begin prog_5_method_3_code 4 none 2 3 := ⟨kw467, kw290, kw291, kw4, kw292, ⟨by decide +kernel, by decide +kernel, by decide +kernel⟩, by decide, _, rfl, rfl⟩
theorem C_Orders_79 : zCV "AllHome$Orders" 79 y_Orders_numbersOf prog_4_method_6_code 3 (some .int) 2 2 := ⟨kw476, kw478, kp14, kw3, kw479, ⟨by decide +kernel, by decide +kernel, by decide +kernel⟩, by decide, _, rfl, rfl⟩
theorem F_Orders_59 : zFd "AllHome$Orders" 59 2 12 := ⟨by decide, "AllHome$Orders", nT2, 14, rfl, nI2, by decide, kw80⟩
theorem C_Orders_83 : zCV "AllHome$Orders" 83 y_Orders_tryStep prog_4_method_7_code 5 none 3 2 := ⟨kw480, kw482, kp15, kw3, kw483, ⟨by decide +kernel, by decide +kernel, by decide +kernel⟩, by decide, _, rfl, rfl⟩
theorem C_Home_168 : zCV "AllHome" 168 y_Orders_explore prog_4_method_5_code 7 none 1 2 := ⟨kw462, kw463, kw464, kw3, kw465, ⟨by decide +kernel, by decide +kernel, by decide +kernel⟩, by decide, _, rfl, rfl⟩
theorem C_Home_172 : zCV "AllHome" 172 y_Orders_isBig prog_4_method_3_code 1 (some .boolean) 0 2 := ⟨kw492, kw493, kw494, kw3, kw495, ⟨by decide +kernel, by decide +kernel, by decide +kernel⟩, by decide, _, rfl, rfl⟩
theorem C_Home_146 : zCV "AllHome" 146 y_Home_goThrough prog_1_method_34_code 2 (some .int) 1 6 := ⟨kw458, kw460, kp12, kw1, kw461, ⟨by decide +kernel, by decide +kernel, by decide +kernel⟩, by decide, _, rfl, rfl⟩
theorem C_Home_149 : zCV "AllHome" 149 y_Orders_size prog_4_method_4_code 1 (some .int) 0 2 := ⟨kw496, kw497, kw498, kw3, kw499, ⟨by decide +kernel, by decide +kernel, by decide +kernel⟩, by decide, _, rfl, rfl⟩
theorem C_Orders_112 : zCN "AllHome$Orders" 112 y_Home_isOver prog_1_method_36_code 2 (some .boolean) 1 := ⟨List.mem_of_getElem? (i := 7) rfl, kw381, kw1, kw382, ⟨by decide +kernel, by decide +kernel, by decide +kernel⟩⟩
theorem C_Orders_108 : zCV "AllHome$Orders" 108 y_Orders_firstSaying prog_4_method_14_code 3 (some .int) 1 2 := ⟨kw508, kw510, kp17, kw3, kw511, ⟨by decide +kernel, by decide +kernel, by decide +kernel⟩, by decide, _, rfl, rfl⟩
theorem C_Orders_116 : zCV "AllHome$Orders" 116 y_Orders_stepsTo prog_4_method_15_code 2 (some .int) 1 2 := ⟨kw525, kw518, kw519, kw3, kw520, ⟨by decide +kernel, by decide +kernel, by decide +kernel⟩, by decide, _, rfl, rfl⟩
theorem C_Home_153 : zCV "AllHome" 153 y_Orders_soon prog_4_method_13_code 1 (some .int) 0 2 := ⟨kw513, kw514, kw515, kw3, kw516, ⟨by decide +kernel, by decide +kernel, by decide +kernel⟩, by decide, _, rfl, rfl⟩
theorem C_Home_156 : zCV "AllHome" 156 y_Orders_stepsTo prog_4_method_15_code 2 (some .int) 1 2 := ⟨kw517, kw518, kw519, kw3, kw520, ⟨by decide +kernel, by decide +kernel, by decide +kernel⟩, by decide, _, rfl, rfl⟩
theorem C_Home_159 : zCV "AllHome" 159 y_Orders_stepOnTheWayTo prog_4_method_16_code 5 (some .int) 2 2 := ⟨kw521, kw522, kw523, kw3, kw524, ⟨by decide +kernel, by decide +kernel, by decide +kernel⟩, by decide, _, rfl, rfl⟩
theorem C_Home_150 : zCV "AllHome" 150 y_Orders_early prog_4_method_12_code 1 (some .int) 0 2 := ⟨kw504, kw505, kw506, kw3, kw507, ⟨by decide +kernel, by decide +kernel, by decide +kernel⟩, by decide, _, rfl, rfl⟩
theorem F_Orders_35 : zFd "AllHome$Orders" 35 2 9 := ⟨by decide, "AllHome$Orders", nT2, 14, rfl, nI2, by decide, kw77⟩
theorem C_Orders_120 : zCV "AllHome$Orders" 120 y_Orders_spreadCanSay prog_4_method_18_code 4 (some .boolean) 0 2 := ⟨kw534, kw536, kp18, kw3, kw537, ⟨by decide +kernel, by decide +kernel, by decide +kernel⟩, by decide, _, rfl, rfl⟩
theorem C_Home_162 : zCV "AllHome" 162 y_Orders_stuckStates prog_4_method_17_code 4 (some .int) 0 2 := ⟨kw530, kw531, kw532, kw3, kw533, ⟨by decide +kernel, by decide +kernel, by decide +kernel⟩, by decide, _, rfl, rfl⟩
theorem C_Home_165 : zCV "AllHome" 165 y_Orders_unlikeWorks prog_4_method_19_code 5 (some .int) 0 2 := ⟨kw542, kw543, kw544, kw3, kw545, ⟨by decide +kernel, by decide +kernel, by decide +kernel⟩, by decide, _, rfl, rfl⟩
theorem P_Acts_15 : zFp "AllHome$Acts" 15 0 1 .int false := ⟨by decide, "AllHome$Acts", nT0, 4, nY0, rfl, nI0, by decide, kw118, nP0, nN0, by decide +kernel, rfl, rfl⟩
theorem C_Acts_33 : zCN "AllHome$Acts" 33 y_Home_isKind prog_1_method_32_code 1 (some .boolean) 1 := ⟨List.mem_of_getElem? (i := 8) rfl, kw271, kw1, kw272, ⟨by decide +kernel, by decide +kernel, by decide +kernel⟩⟩
theorem F_Acts_15 : zFd "AllHome$Acts" 15 0 1 := ⟨by decide, "AllHome$Acts", nT0, 4, rfl, nI0, by decide, kw118⟩
theorem F_Acts_11 : zFd "AllHome$Acts" 11 0 0 := ⟨by decide, "AllHome$Acts", nT0, 4, rfl, nI0, by decide, kw117⟩
theorem C_Acts_29 : zCS "AllHome$Acts" 29 y_Acts_bodyOf prog_2_method_7_code 2 (some .int) 2 := ⟨kw562, kw563, kw5, kw564, ⟨by decide +kernel, by decide +kernel, by decide +kernel⟩⟩
theorem C_Acts_40 : zCV "AllHome$Acts" 40 y_Acts_begun prog_2_method_8_code 2 none 1 0 := ⟨kw569, kw571, kp20, kw5, kw572, ⟨by decide +kernel, by decide +kernel, by decide +kernel⟩, by decide, _, rfl, rfl⟩
theorem F_Acts_22 : zFd "AllHome$Acts" 22 0 3 := ⟨by decide, "AllHome$Acts", nT0, 4, rfl, nI0, by decide, kw120⟩
theorem F_Acts_19 : zFd "AllHome$Acts" 19 0 2 := ⟨by decide, "AllHome$Acts", nT0, 4, rfl, nI0, by decide, kw119⟩
theorem C_Acts_25 : zCV "AllHome$Acts" 25 y_Acts_perform prog_2_method_6_code 9 (some .int) 4 0 := ⟨kw558, kw560, kp19, kw5, kw561, ⟨by decide +kernel, by decide +kernel, by decide +kernel⟩, by decide, _, rfl, rfl⟩
theorem P_Acts_19 : zFp "AllHome$Acts" 19 0 2 .int false := ⟨by decide, "AllHome$Acts", nT0, 4, nY0, rfl, nI0, by decide, kw119, nP0, nN0, by decide +kernel, rfl, rfl⟩
theorem P_Acts_22 : zFp "AllHome$Acts" 22 0 3 .int false := ⟨by decide, "AllHome$Acts", nT0, 4, nY0, rfl, nI0, by decide, kw120, nP0, nN0, by decide +kernel, rfl, rfl⟩
theorem F_Home_47 : zFd "AllHome" 47 6 10 := ⟨by decide, "AllHome", nT6, 12, rfl, nI6, by decide, kw187⟩
theorem C_Home_175 : zCV "AllHome" 175 y_Acts_clear prog_2_method_2_code 1 none 0 0 := ⟨kw550, kw551, kw552, kw5, kw553, ⟨by decide +kernel, by decide +kernel, by decide +kernel⟩, by decide, _, rfl, rfl⟩
theorem C_Home_178 : zCV "AllHome" 178 y_Acts_begin prog_2_method_5_code 5 (some .int) 4 0 := ⟨kw554, kw555, kw556, kw5, kw557, ⟨by decide +kernel, by decide +kernel, by decide +kernel⟩, by decide, _, rfl, rfl⟩
theorem C_Home_181 : zCV "AllHome" 181 y_Acts_traced prog_2_method_4_code 2 (some .int) 1 0 := ⟨kw577, kw578, kw579, kw5, kw580, ⟨by decide +kernel, by decide +kernel, by decide +kernel⟩, by decide, _, rfl, rfl⟩
theorem P_Shelf_19 : zFp "AllHome$Shelf" 19 5 3 .int false := ⟨by decide, "AllHome$Shelf", nT5, 4, nY5, rfl, nI5, by decide, kw166, nP5, nN5, by decide +kernel, rfl, rfl⟩
theorem P_Shelf_15 : zFp "AllHome$Shelf" 15 5 2 .int false := ⟨by decide, "AllHome$Shelf", nT5, 4, nY5, rfl, nI5, by decide, kw165, nP5, nN5, by decide +kernel, rfl, rfl⟩
theorem P_Shelf_22 : zFp "AllHome$Shelf" 22 5 1 .int false := ⟨by decide, "AllHome$Shelf", nT5, 4, nY5, rfl, nI5, by decide, kw164, nP5, nN5, by decide +kernel, rfl, rfl⟩
theorem C_Home_184 : zCV "AllHome" 184 y_Shelf_holdWay prog_7_method_2_code 2 none 1 5 := ⟨kw585, kw586, kw587, kw7, kw588, ⟨by decide +kernel, by decide +kernel, by decide +kernel⟩, by decide, _, rfl, rfl⟩
theorem C_Shelf_34 : zCS "AllHome$Shelf" 34 y_Fill_J prog_12_method_101_code 5 none 2 := ⟨kw601, kw602, kw10, kw603, ⟨by decide +kernel, by decide +kernel, by decide +kernel⟩⟩
theorem C_Home_187 : zCV "AllHome" 187 y_Shelf_holdRow prog_7_method_3_code 3 none 2 5 := ⟨kw593, kw594, kw595, kw7, kw596, ⟨by decide +kernel, by decide +kernel, by decide +kernel⟩, by decide, _, rfl, rfl⟩
theorem C_Home_201 : zCV "AllHome" 201 y_Shelf_isRow prog_7_method_5_code 1 (some .boolean) 0 5 := ⟨kw612, kw613, kw614, kw7, kw615, ⟨by decide +kernel, by decide +kernel, by decide +kernel⟩, by decide, _, rfl, rfl⟩
theorem C_Shelf_48 : zCV "AllHome$Shelf" 48 y_Shelf_lowestBits prog_7_method_13_code 3 (some .long) 1 5 := ⟨kw620, kw622, kp22, kw7, kw623, ⟨by decide +kernel, by decide +kernel, by decide +kernel⟩, by decide, _, rfl, rfl⟩
theorem C_Home_190 : zCV "AllHome" 190 y_Home_wantPlace prog_1_method_35_code 3 (some .int) 2 6 := ⟨kw608, kw610, kp21, kw1, kw611, ⟨by decide +kernel, by decide +kernel, by decide +kernel⟩, by decide, _, rfl, rfl⟩
theorem C_Home_193 : zCV "AllHome" 193 y_Shelf_set prog_7_method_12_code 4 none 2 5 := ⟨kw616, kw617, kw618, kw7, kw619, ⟨by decide +kernel, by decide +kernel, by decide +kernel⟩, by decide, _, rfl, rfl⟩
theorem C_Shelf_52 : zCV "AllHome$Shelf" 52 y_Shelf_hasPlaces prog_7_method_10_code 3 (some .boolean) 2 5 := ⟨kw645, kw638, kw639, kw7, kw640, ⟨by decide +kernel, by decide +kernel, by decide +kernel⟩, by decide, _, rfl, rfl⟩
theorem C_Home_204 : zCV "AllHome" 204 y_Shelf_sort prog_7_method_7_code 1 (some .int) 0 5 := ⟨kw633, kw634, kw635, kw7, kw636, ⟨by decide +kernel, by decide +kernel, by decide +kernel⟩, by decide, _, rfl, rfl⟩
theorem C_Home_207 : zCV "AllHome" 207 y_Shelf_hasPlaces prog_7_method_10_code 3 (some .boolean) 2 5 := ⟨kw637, kw638, kw639, kw7, kw640, ⟨by decide +kernel, by decide +kernel, by decide +kernel⟩, by decide, _, rfl, rfl⟩
theorem C_Home_211 : zCV "AllHome" 211 y_Shelf_copyTo prog_7_method_14_code 5 none 4 5 := ⟨kw641, kw642, kw643, kw7, kw644, ⟨by decide +kernel, by decide +kernel, by decide +kernel⟩, by decide, _, rfl, rfl⟩
theorem C_Home_215 : zCV "AllHome" 215 y_Shelf_heldWay prog_7_method_8_code 1 (some .int) 0 5 := ⟨kw651, kw652, kw653, kw7, kw654, ⟨by decide +kernel, by decide +kernel, by decide +kernel⟩, by decide, _, rfl, rfl⟩
theorem C_Home_218 : zCS "AllHome" 218 y_Home_isUnder prog_1_method_33_code 4 (some .boolean) 2 := ⟨kw655, kw365, kw1, kw366, ⟨by decide +kernel, by decide +kernel, by decide +kernel⟩⟩
theorem C_Home_221 : zCV "AllHome" 221 y_Acts_ran prog_2_method_3_code 1 (some .int) 0 0 := ⟨kw660, kw661, kw662, kw5, kw663, ⟨by decide +kernel, by decide +kernel, by decide +kernel⟩, by decide, _, rfl, rfl⟩
theorem F_Model_78 : zFd "AllHomeModel" 78 7 4 := ⟨by decide, "AllHomeModel", nT7, 33, rfl, nI7, by decide, kw674⟩
theorem F_Model_82 : zFd "AllHomeModel" 82 7 6 := ⟨by decide, "AllHomeModel", nT7, 33, rfl, nI7, by decide, kw676⟩
theorem C_Model_87 : zCS "AllHomeModel" 87 y_Model_within prog_9_method_2_code 6 (some .boolean) 3 := ⟨kw775, kw776, kw8, kw777, ⟨by decide +kernel, by decide +kernel, by decide +kernel⟩⟩
theorem F_Model_91 : zFd "AllHomeModel" 91 7 1 := ⟨by decide, "AllHomeModel", nT7, 33, rfl, nI7, by decide, kw671⟩
theorem F_Model_9 : zFd "AllHomeModel" 9 7 0 := ⟨by decide, "AllHomeModel", nT7, 33, rfl, nI7, by decide, kw670⟩
theorem P_Model_91 : zFp "AllHomeModel" 91 7 1 .int false := ⟨by decide, "AllHomeModel", nT7, 33, nY7, rfl, nI7, by decide, kw671, nP7, nN7, by decide +kernel, rfl, rfl⟩
theorem C_Model_102 : zCS "AllHomeModel" 102 y_Model_isOther prog_9_method_6_code 2 (some .boolean) 2 := ⟨kw788, kw789, kw8, kw790, ⟨by decide +kernel, by decide +kernel, by decide +kernel⟩⟩
theorem F_Model_106 : zFd "AllHomeModel" 106 7 19 := ⟨by decide, "AllHomeModel", nT7, 33, rfl, nI7, by decide, kw689⟩
theorem C_Model_109 : zCV "AllHomeModel" 109 y_Model_faultOf prog_9_method_7_code 4 (some .int) 1 7 := ⟨kw782, kw784, kp23, kw8, kw785, ⟨by decide +kernel, by decide +kernel, by decide +kernel⟩, by decide, _, rfl, rfl⟩
theorem F_Model_16 : zFd "AllHomeModel" 16 7 3 := ⟨by decide, "AllHomeModel", nT7, 33, rfl, nI7, by decide, kw673⟩
theorem P_Model_78 : zFp "AllHomeModel" 78 7 4 .int false := ⟨by decide, "AllHomeModel", nT7, 33, nY7, rfl, nI7, by decide, kw674, nP7, nN7, by decide +kernel, rfl, rfl⟩
theorem F_Model_13 : zFd "AllHomeModel" 13 7 2 := ⟨by decide, "AllHomeModel", nT7, 33, rfl, nI7, by decide, kw672⟩
theorem C_Model_113 : zCV "AllHomeModel" 113 y_Model_isHut prog_9_method_3_code 2 (some .boolean) 1 7 := ⟨kw797, kw799, kp24, kw8, kw800, ⟨by decide +kernel, by decide +kernel, by decide +kernel⟩, by decide, _, rfl, rfl⟩
theorem C_Model_119 : zCV "AllHomeModel" 119 y_Model_lines prog_9_method_9_code 4 (some .int) 1 7 := ⟨kw802, kw804, kp25, kw8, kw805, ⟨by decide +kernel, by decide +kernel, by decide +kernel⟩, by decide, _, rfl, rfl⟩
theorem C_Model_122 : zCV "AllHomeModel" 122 y_Model_inLine prog_9_method_10_code 10 (some .int) 3 7 := ⟨kw806, kw808, kp26, kw8, kw809, ⟨by decide +kernel, by decide +kernel, by decide +kernel⟩, by decide, _, rfl, rfl⟩
theorem F_Model_19 : zFd "AllHomeModel" 19 7 5 := ⟨by decide, "AllHomeModel", nT7, 33, rfl, nI7, by decide, kw675⟩
theorem P_Model_82 : zFp "AllHomeModel" 82 7 6 .int false := ⟨by decide, "AllHomeModel", nT7, 33, nY7, rfl, nI7, by decide, kw676, nP7, nN7, by decide +kernel, rfl, rfl⟩
theorem C_Model_128 : zCV "AllHomeModel" 128 y_Model_isWay prog_9_method_4_code 2 (some .boolean) 1 7 := ⟨kw823, kw825, kp27, kw8, kw826, ⟨by decide +kernel, by decide +kernel, by decide +kernel⟩, by decide, _, rfl, rfl⟩
theorem C_Model_131 : zCS "AllHomeModel" 131 y_Model_above prog_9_method_16_code 1 (some .int) 1 := ⟨kw878, kw879, kw8, kw880, ⟨by decide +kernel, by decide +kernel, by decide +kernel⟩⟩
theorem P_Model_134 : zFp "AllHomeModel" 134 7 10 .int false := ⟨by decide, "AllHomeModel", nT7, 33, nY7, rfl, nI7, by decide, kw680, nP7, nN7, by decide +kernel, rfl, rfl⟩
theorem F_Model_22 : zFd "AllHomeModel" 22 7 7 := ⟨by decide, "AllHomeModel", nT7, 33, rfl, nI7, by decide, kw677⟩
theorem P_Model_137 : zFp "AllHomeModel" 137 7 8 .int false := ⟨by decide, "AllHomeModel", nT7, 33, nY7, rfl, nI7, by decide, kw678, nP7, nN7, by decide +kernel, rfl, rfl⟩
theorem P_Model_140 : zFp "AllHomeModel" 140 7 9 .int false := ⟨by decide, "AllHomeModel", nT7, 33, nY7, rfl, nI7, by decide, kw679, nP7, nN7, by decide +kernel, rfl, rfl⟩
theorem P_Model_143 : zFp "AllHomeModel" 143 7 11 .boolean false := ⟨by decide, "AllHomeModel", nT7, 33, nY7, rfl, nI7, by decide, kw681, nP7, nN7, by decide +kernel, rfl, rfl⟩
theorem C_Model_147 : zCV "AllHomeModel" 147 y_Model_putLast prog_9_method_23_code 6 none 4 7 := ⟨kw881, kw883, kp38, kw8, kw884, ⟨by decide +kernel, by decide +kernel, by decide +kernel⟩, by decide, _, rfl, rfl⟩
theorem F_Model_140 : zFd "AllHomeModel" 140 7 9 := ⟨by decide, "AllHomeModel", nT7, 33, rfl, nI7, by decide, kw679⟩
theorem C_Model_151 : zCV "AllHomeModel" 151 y_Model_add prog_9_method_19_code 4 none 3 7 := ⟨kw871, kw873, kp37, kw8, kw874, ⟨by decide +kernel, by decide +kernel, by decide +kernel⟩, by decide, _, rfl, rfl⟩
theorem F_Model_137 : zFd "AllHomeModel" 137 7 8 := ⟨by decide, "AllHomeModel", nT7, 33, rfl, nI7, by decide, kw678⟩
theorem F_Model_134 : zFd "AllHomeModel" 134 7 10 := ⟨by decide, "AllHomeModel", nT7, 33, rfl, nI7, by decide, kw680⟩
theorem C_Model_159 : zCS "AllHomeModel" 159 y_Model_isUnder prog_9_method_15_code 3 (some .boolean) 2 := ⟨kw875, kw876, kw8, kw877, ⟨by decide +kernel, by decide +kernel, by decide +kernel⟩⟩
theorem C_Model_155 : zCV "AllHomeModel" 155 y_Model_of prog_9_method_18_code 3 (some .int) 2 7 := ⟨kw863, kw865, kp35, kw8, kw866, ⟨by decide +kernel, by decide +kernel, by decide +kernel⟩, by decide, _, rfl, rfl⟩
theorem C_Model_166 : zCV "AllHomeModel" 166 y_Model_become prog_9_method_20_code 4 none 3 7 := ⟨kw885, kw887, kp39, kw8, kw888, ⟨by decide +kernel, by decide +kernel, by decide +kernel⟩, by decide, _, rfl, rfl⟩
theorem C_Model_169 : zCV "AllHomeModel" 169 y_Model_sendNote prog_9_method_25_code 4 none 3 7 := ⟨kw889, kw891, kp40, kw8, kw892, ⟨by decide +kernel, by decide +kernel, by decide +kernel⟩, by decide, _, rfl, rfl⟩
theorem C_Model_162 : zCV "AllHomeModel" 162 y_Model_sendWord prog_9_method_26_code 4 none 2 7 := ⟨kw867, kw869, kp36, kw8, kw870, ⟨by decide +kernel, by decide +kernel, by decide +kernel⟩, by decide, _, rfl, rfl⟩
theorem C_Model_172 : zCV "AllHomeModel" 172 y_Model_words prog_9_method_21_code 1 (some .int) 0 7 := ⟨kw897, kw899, kp42, kw8, kw900, ⟨by decide +kernel, by decide +kernel, by decide +kernel⟩, by decide, _, rfl, rfl⟩
theorem C_Model_176 : zCV "AllHomeModel" 176 y_Model_takeOut prog_9_method_24_code 5 none 2 7 := ⟨kw901, kw903, kp43, kw8, kw904, ⟨by decide +kernel, by decide +kernel, by decide +kernel⟩, by decide, _, rfl, rfl⟩
theorem C_Model_179 : zCV "AllHomeModel" 179 y_Model_notes prog_9_method_22_code 1 (some .int) 0 7 := ⟨kw909, kw911, kp45, kw8, kw912, ⟨by decide +kernel, by decide +kernel, by decide +kernel⟩, by decide, _, rfl, rfl⟩
theorem C_Model_185 : zCV "AllHomeModel" 185 y_Model_sumsAt prog_9_method_31_code 6 none 3 7 := ⟨kw917, kw919, kp47, kw8, kw920, ⟨by decide +kernel, by decide +kernel, by decide +kernel⟩, by decide, _, rfl, rfl⟩
theorem C_Model_182 : zCV "AllHomeModel" 182 y_Model_stoneAt prog_9_method_30_code 5 none 3 7 := ⟨kw913, kw915, kp46, kw8, kw916, ⟨by decide +kernel, by decide +kernel, by decide +kernel⟩, by decide, _, rfl, rfl⟩
theorem C_Model_188 : zCV "AllHomeModel" 188 y_Model_goOn prog_9_method_27_code 4 (some .boolean) 1 7 := ⟨kw859, kw861, kp34, kw8, kw862, ⟨by decide +kernel, by decide +kernel, by decide +kernel⟩, by decide, _, rfl, rfl⟩
theorem C_Model_200 : zCV "AllHomeModel" 200 y_Model_behind prog_9_method_33_code 2 none 0 7 := ⟨kw925, kw927, kp49, kw8, kw928, ⟨by decide +kernel, by decide +kernel, by decide +kernel⟩, by decide, _, rfl, rfl⟩
theorem F_Model_143 : zFd "AllHomeModel" 143 7 11 := ⟨by decide, "AllHomeModel", nT7, 33, rfl, nI7, by decide, kw681⟩
theorem C_Model_191 : zCV "AllHomeModel" 191 y_Model_comes prog_9_method_28_code 5 (some .boolean) 1 7 := ⟨kw893, kw895, kp41, kw8, kw896, ⟨by decide +kernel, by decide +kernel, by decide +kernel⟩, by decide, _, rfl, rfl⟩
theorem C_Model_194 : zCV "AllHomeModel" 194 y_Model_noteComes prog_9_method_29_code 5 (some .boolean) 1 7 := ⟨kw905, kw907, kp44, kw8, kw908, ⟨by decide +kernel, by decide +kernel, by decide +kernel⟩, by decide, _, rfl, rfl⟩
theorem C_Model_197 : zCV "AllHomeModel" 197 y_Model_asks prog_9_method_32_code 2 (some .boolean) 1 7 := ⟨kw921, kw923, kp48, kw8, kw924, ⟨by decide +kernel, by decide +kernel, by decide +kernel⟩, by decide, _, rfl, rfl⟩
theorem F_Model_34 : zFd "AllHomeModel" 34 7 15 := ⟨by decide, "AllHomeModel", nT7, 33, rfl, nI7, by decide, kw685⟩
theorem F_Model_37 : zFd "AllHomeModel" 37 7 16 := ⟨by decide, "AllHomeModel", nT7, 33, rfl, nI7, by decide, kw686⟩
theorem F_Model_25 : zFd "AllHomeModel" 25 7 12 := ⟨by decide, "AllHomeModel", nT7, 33, rfl, nI7, by decide, kw682⟩
theorem F_Model_28 : zFd "AllHomeModel" 28 7 13 := ⟨by decide, "AllHomeModel", nT7, 33, rfl, nI7, by decide, kw683⟩
theorem C_Model_203 : zCV "AllHomeModel" 203 y_Model_begin prog_9_method_17_code 3 none 1 7 := ⟨kw831, kw833, kp28, kw8, kw834, ⟨by decide +kernel, by decide +kernel, by decide +kernel⟩, by decide, _, rfl, rfl⟩
theorem F_Model_40 : zFd "AllHomeModel" 40 7 17 := ⟨by decide, "AllHomeModel", nT7, 33, rfl, nI7, by decide, kw687⟩
theorem F_Model_43 : zFd "AllHomeModel" 43 7 18 := ⟨by decide, "AllHomeModel", nT7, 33, rfl, nI7, by decide, kw688⟩
theorem C_Model_207 : zCV "AllHomeModel" 207 y_Model_keepRun prog_9_method_36_code 3 none 1 7 := ⟨kw835, kw837, kp29, kw8, kw838, ⟨by decide +kernel, by decide +kernel, by decide +kernel⟩, by decide, _, rfl, rfl⟩
theorem P_Model_106 : zFp "AllHomeModel" 106 7 19 .int false := ⟨by decide, "AllHomeModel", nT7, 33, nY7, rfl, nI7, by decide, kw689, nP7, nN7, by decide +kernel, rfl, rfl⟩
theorem C_Model_210 : zCV "AllHomeModel" 210 y_Model_takeRun prog_9_method_37_code 3 none 1 7 := ⟨kw851, kw853, kp32, kw8, kw854, ⟨by decide +kernel, by decide +kernel, by decide +kernel⟩, by decide, _, rfl, rfl⟩
theorem C_Model_213 : zCV "AllHomeModel" 213 y_Model_doStep prog_9_method_34_code 4 (some .int) 2 7 := ⟨kw855, kw857, kp33, kw8, kw858, ⟨by decide +kernel, by decide +kernel, by decide +kernel⟩, by decide, _, rfl, rfl⟩
theorem F_Model_31 : zFd "AllHomeModel" 31 7 14 := ⟨by decide, "AllHomeModel", nT7, 33, rfl, nI7, by decide, kw684⟩
theorem C_Model_216 : zCV "AllHomeModel" 216 y_Model_isOver prog_9_method_35_code 3 (some .boolean) 0 7 := ⟨kw929, kw931, kp50, kw8, kw932, ⟨by decide +kernel, by decide +kernel, by decide +kernel⟩, by decide, _, rfl, rfl⟩
theorem C_Model_220 : zCV "AllHomeModel" 220 y_Model_isRun prog_9_method_39_code 2 (some .boolean) 1 7 := ⟨kw843, kw845, kp30, kw8, kw846, ⟨by decide +kernel, by decide +kernel, by decide +kernel⟩, by decide, _, rfl, rfl⟩
theorem C_Model_223 : zCV "AllHomeModel" 223 y_Model_stepOf prog_9_method_40_code 5 (some .int) 3 7 := ⟨kw847, kw849, kp31, kw8, kw850, ⟨by decide +kernel, by decide +kernel, by decide +kernel⟩, by decide, _, rfl, rfl⟩
theorem C_Model_226 : zCS "AllHomeModel" 226 y_Model_isShelf prog_9_method_68_code 1 (some .boolean) 1 := ⟨kw937, kw938, kw8, kw939, ⟨by decide +kernel, by decide +kernel, by decide +kernel⟩⟩
theorem F_Model_65 : zFd "AllHomeModel" 65 7 29 := ⟨by decide, "AllHomeModel", nT7, 33, rfl, nI7, by decide, kw699⟩
theorem F_Model_71 : zFd "AllHomeModel" 71 7 31 := ⟨by decide, "AllHomeModel", nT7, 33, rfl, nI7, by decide, kw701⟩
theorem F_Model_68 : zFd "AllHomeModel" 68 7 30 := ⟨by decide, "AllHomeModel", nT7, 33, rfl, nI7, by decide, kw700⟩
theorem F_Model_46 : zFd "AllHomeModel" 46 7 20 := ⟨by decide, "AllHomeModel", nT7, 33, rfl, nI7, by decide, kw690⟩
theorem F_Model_234 : zFd "AllHomeModel" 234 7 25 := ⟨by decide, "AllHomeModel", nT7, 33, rfl, nI7, by decide, kw695⟩
theorem F_Model_49 : zFd "AllHomeModel" 49 7 21 := ⟨by decide, "AllHomeModel", nT7, 33, rfl, nI7, by decide, kw691⟩
theorem F_Model_52 : zFd "AllHomeModel" 52 7 22 := ⟨by decide, "AllHomeModel", nT7, 33, rfl, nI7, by decide, kw692⟩
theorem P_Model_234 : zFp "AllHomeModel" 234 7 25 .int false := ⟨by decide, "AllHomeModel", nT7, 33, nY7, rfl, nI7, by decide, kw695, nP7, nN7, by decide +kernel, rfl, rfl⟩
theorem C_Model_237 : zCV "AllHomeModel" 237 y_Model_bringBack prog_9_method_48_code 3 none 1 7 := ⟨kw984, kw986, kp55, kw8, kw987, ⟨by decide +kernel, by decide +kernel, by decide +kernel⟩, by decide, _, rfl, rfl⟩
theorem C_Model_240 : zCV "AllHomeModel" 240 y_Model_findState prog_9_method_49_code 4 (some .int) 0 7 := ⟨kw988, kw990, kp56, kw8, kw991, ⟨by decide +kernel, by decide +kernel, by decide +kernel⟩, by decide, _, rfl, rfl⟩
theorem F_Model_59 : zFd "AllHomeModel" 59 7 24 := ⟨by decide, "AllHomeModel", nT7, 33, rfl, nI7, by decide, kw694⟩
theorem C_Model_243 : zCV "AllHomeModel" 243 y_Model_keepState prog_9_method_50_code 4 none 2 7 := ⟨kw976, kw978, kp53, kw8, kw979, ⟨by decide +kernel, by decide +kernel, by decide +kernel⟩, by decide, _, rfl, rfl⟩
theorem C_Model_246 : zCV "AllHomeModel" 246 y_Model_goFrom prog_9_method_51_code 4 none 1 7 := ⟨kw980, kw982, kp54, kw8, kw983, ⟨by decide +kernel, by decide +kernel, by decide +kernel⟩, by decide, _, rfl, rfl⟩
theorem C_Model_249 : zCV "AllHomeModel" 249 y_Model_findAll prog_9_method_52_code 3 (some .int) 1 7 := ⟨kw972, kw974, kp52, kw8, kw975, ⟨by decide +kernel, by decide +kernel, by decide +kernel⟩, by decide, _, rfl, rfl⟩
theorem C_Model_252 : zCV "AllHomeModel" 252 y_Model_noOrders prog_9_method_53_code 2 (some .int) 1 7 := ⟨kw968, kw970, kp51, kw8, kw971, ⟨by decide +kernel, by decide +kernel, by decide +kernel⟩, by decide, _, rfl, rfl⟩
theorem C_Model_255 : zCV "AllHomeModel" 255 y_Model_stepsTo prog_9_method_55_code 4 (some .int) 1 7 := ⟨kw996, kw998, kp57, kw8, kw999, ⟨by decide +kernel, by decide +kernel, by decide +kernel⟩, by decide, _, rfl, rfl⟩
theorem F_Model_55 : zFd "AllHomeModel" 55 7 23 := ⟨by decide, "AllHomeModel", nT7, 33, rfl, nI7, by decide, kw693⟩
theorem C_Model_258 : zCV "AllHomeModel" 258 y_Model_worksAlike prog_9_method_58_code 8 (some .boolean) 2 7 := ⟨kw1012, kw1014, kp59, kw8, kw1015, ⟨by decide +kernel, by decide +kernel, by decide +kernel⟩, by decide, _, rfl, rfl⟩
theorem C_Model_261 : zCV "AllHomeModel" 261 y_Model_workMany prog_9_method_59_code 5 (some .int) 0 7 := ⟨kw1008, kw1010, kp58, kw8, kw1011, ⟨by decide +kernel, by decide +kernel, by decide +kernel⟩, by decide, _, rfl, rfl⟩
theorem F_Model_264 : zFd "AllHomeModel" 264 7 27 := ⟨by decide, "AllHomeModel", nT7, 33, rfl, nI7, by decide, kw697⟩
theorem P_Model_264 : zFp "AllHomeModel" 264 7 27 .int false := ⟨by decide, "AllHomeModel", nT7, 33, nY7, rfl, nI7, by decide, kw697, nP7, nN7, by decide +kernel, rfl, rfl⟩
theorem F_Model_62 : zFd "AllHomeModel" 62 7 26 := ⟨by decide, "AllHomeModel", nT7, 33, rfl, nI7, by decide, kw696⟩
theorem C_Model_267 : zCV "AllHomeModel" 267 y_Model_ranBody prog_9_method_61_code 2 none 1 7 := ⟨kw1025, kw1027, kp61, kw8, kw1028, ⟨by decide +kernel, by decide +kernel, by decide +kernel⟩, by decide, _, rfl, rfl⟩
theorem F_Model_270 : zFd "AllHomeModel" 270 7 28 := ⟨by decide, "AllHomeModel", nT7, 33, rfl, nI7, by decide, kw698⟩
theorem C_Model_273 : zCV "AllHomeModel" 273 y_Model_sends prog_9_method_62_code 3 (some .int) 2 7 := ⟨kw1021, kw1023, kp60, kw8, kw1024, ⟨by decide +kernel, by decide +kernel, by decide +kernel⟩, by decide, _, rfl, rfl⟩
theorem C_Model_276 : zCV "AllHomeModel" 276 y_Model_asksOf prog_9_method_63_code 4 (some .int) 2 7 := ⟨kw1029, kw1031, kp62, kw8, kw1032, ⟨by decide +kernel, by decide +kernel, by decide +kernel⟩, by decide, _, rfl, rfl⟩
theorem C_Model_279 : zCV "AllHomeModel" 279 y_Model_owes prog_9_method_64_code 4 (some .int) 2 7 := ⟨kw1033, kw1035, kp63, kw8, kw1036, ⟨by decide +kernel, by decide +kernel, by decide +kernel⟩, by decide, _, rfl, rfl⟩
theorem C_Model_282 : zCV "AllHomeModel" 282 y_Model_tells prog_9_method_65_code 4 (some .int) 2 7 := ⟨kw1037, kw1039, kp64, kw8, kw1040, ⟨by decide +kernel, by decide +kernel, by decide +kernel⟩, by decide, _, rfl, rfl⟩
theorem P_Model_270 : zFp "AllHomeModel" 270 7 28 .int false := ⟨by decide, "AllHomeModel", nT7, 33, nY7, rfl, nI7, by decide, kw698, nP7, nN7, by decide +kernel, rfl, rfl⟩
theorem C_Model_289 : zCV "AllHomeModel" 289 y_Model_refusal prog_9_method_71_code 3 (some .int) 2 7 := ⟨kw1057, kw1059, kp65, kw8, kw1060, ⟨by decide +kernel, by decide +kernel, by decide +kernel⟩, by decide, _, rfl, rfl⟩
theorem C_Model_292 : zCS "AllHomeModel" 292 y_Model_asSort prog_9_method_72_code 3 (some .long) 2 := ⟨kw1061, kw1062, kw8, kw1063, ⟨by decide +kernel, by decide +kernel, by decide +kernel⟩⟩
theorem F_Model_75 : zFd "AllHomeModel" 75 7 32 := ⟨by decide, "AllHomeModel", nT7, 33, rfl, nI7, by decide, kw702⟩
