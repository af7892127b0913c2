/-! the methods' names, and what the tables say of links and fields -/
def y_Bed_addCover : MethodName := ⟨"OneBlanket$Bed", "addCover", "(IIII)I"⟩
def y_Bed_addSleeper : MethodName := ⟨"OneBlanket$Bed", "addSleeper", "(IIII)I"⟩
def y_Bed_bitsOf : MethodName := ⟨"OneBlanket$Bed", "bitsOf", "(II)J"⟩
def y_Bed_hasCover : MethodName := ⟨"OneBlanket$Bed", "hasCover", "(I)Z"⟩
def y_Bed_hasSleeper : MethodName := ⟨"OneBlanket$Bed", "hasSleeper", "(I)Z"⟩
def y_Bed_heldWithin : MethodName := ⟨"OneBlanket$Bed", "heldWithin", "(II)I"⟩
def y_Bed_isCold : MethodName := ⟨"OneBlanket$Bed", "isCold", "(II)Z"⟩
def y_Bed_isEasy : MethodName := ⟨"OneBlanket$Bed", "isEasy", "(II)Z"⟩
def y_Bed_laySideBySide : MethodName := ⟨"OneBlanket$Bed", "laySideBySide", "([I[I)V"⟩
def y_Bed_mendable : MethodName := ⟨"OneBlanket$Bed", "mendable", "(I)[I"⟩
def y_Bed_ofCover : MethodName := ⟨"OneBlanket$Bed", "ofCover", "(II)I"⟩
def y_Bed_ofSleeper : MethodName := ⟨"OneBlanket$Bed", "ofSleeper", "(II)I"⟩
def y_Bed_partOf : MethodName := ⟨"OneBlanket$Bed", "partOf", "(III)I"⟩
def y_Bodies_add : MethodName := ⟨"OneBlanket$Bodies", "add", "(I)I"⟩
def y_Bodies_begins : MethodName := ⟨"OneBlanket$Bodies", "begins", "(I)V"⟩
def y_Bodies_has : MethodName := ⟨"OneBlanket$Bodies", "has", "(I)Z"⟩
def y_Bodies_isUnder : MethodName := ⟨"OneBlanket$Bodies", "isUnder", "(II)Z"⟩
def y_Bodies_kindThatHas : MethodName := ⟨"OneBlanket$Bodies", "kindThatHas", "(II)I"⟩
def y_Bodies_run : MethodName := ⟨"OneBlanket$Bodies", "run", "(IIIII)I"⟩
def y_Bodies_runFirst : MethodName := ⟨"OneBlanket$Bodies", "runFirst", "(III)I"⟩
def y_Changes_add : MethodName := ⟨"OneBlanket$Changes", "add", "(IIII)V"⟩
def y_Changes_doAgain : MethodName := ⟨"OneBlanket$Changes", "doAgain", "(LOneBlanket$Bed;)V"⟩
def y_Changes_forgetOldest : MethodName := ⟨"OneBlanket$Changes", "forgetOldest", "()V"⟩
def y_Changes_takeBack : MethodName := ⟨"OneBlanket$Changes", "takeBack", "(LOneBlanket$Bed;)V"⟩
def y_Lie_allCovers : MethodName := ⟨"OneBlanket$Lie", "allCovers", "()J"⟩
def y_Lie_begin : MethodName := ⟨"OneBlanket$Lie", "begin", "([I)V"⟩
def y_Lie_coverAnew : MethodName := ⟨"OneBlanket$Lie", "coverAnew", "(IJ)I"⟩
def y_Lie_feelWarmth : MethodName := ⟨"OneBlanket$Lie", "feelWarmth", "()V"⟩
def y_Lie_isBare : MethodName := ⟨"OneBlanket$Lie", "isBare", "(I)Z"⟩
def y_Lie_isNoneBare : MethodName := ⟨"OneBlanket$Lie", "isNoneBare", "()Z"⟩
def y_Lie_moveCover : MethodName := ⟨"OneBlanket$Lie", "moveCover", "(II)V"⟩
def y_Lie_moveSleeper : MethodName := ⟨"OneBlanket$Lie", "moveSleeper", "(II)V"⟩
def y_Lie_underOf : MethodName := ⟨"OneBlanket$Lie", "underOf", "(II)I"⟩
def y_Night_begin : MethodName := ⟨"OneBlanket$Night", "begin", "(I[I)V"⟩
def y_Night_countIn : MethodName := ⟨"OneBlanket$Night", "countIn", "(III)V"⟩
def y_Night_doDrawn : MethodName := ⟨"OneBlanket$Night", "doDrawn", "(I)V"⟩
def y_Night_doTold : MethodName := ⟨"OneBlanket$Night", "doTold", "(I)V"⟩
def y_Night_drawTurns : MethodName := ⟨"OneBlanket$Night", "drawTurns", "(II)V"⟩
def y_Night_minuteOfTurns : MethodName := ⟨"OneBlanket$Night", "minuteOfTurns", "(I)I"⟩
def y_Night_play : MethodName := ⟨"OneBlanket$Night", "play", "(I)V"⟩
def y_Night_pullOf : MethodName := ⟨"OneBlanket$Night", "pullOf", "(IIII)I"⟩
def y_Night_roll : MethodName := ⟨"OneBlanket$Night", "roll", "()I"⟩
def y_Night_turnOver : MethodName := ⟨"OneBlanket$Night", "turnOver", "(III)V"⟩
def y_Night_warmOf : MethodName := ⟨"OneBlanket$Night", "warmOf", "(II)I"⟩
def y_Room_warmBy : MethodName := ⟨"OneBlanket$Room", "warmBy", "(LOneBlanket$Text;)V"⟩
def y_Shelf_hasPlaces : MethodName := ⟨"OneBlanket$Shelf", "hasPlaces", "(II)Z"⟩
def y_Shelf_holdBody : MethodName := ⟨"OneBlanket$Shelf", "holdBody", "(I)V"⟩
def y_Shelf_holdNothing : MethodName := ⟨"OneBlanket$Shelf", "holdNothing", "()V"⟩
def y_Shelf_holdRow : MethodName := ⟨"OneBlanket$Shelf", "holdRow", "(II)V"⟩
def y_Shelf_isBody : MethodName := ⟨"OneBlanket$Shelf", "isBody", "()Z"⟩
def y_Shelf_isEmpty : MethodName := ⟨"OneBlanket$Shelf", "isEmpty", "()Z"⟩
def y_Shelf_isRow : MethodName := ⟨"OneBlanket$Shelf", "isRow", "()Z"⟩
def y_Shelf_isRowOf : MethodName := ⟨"OneBlanket$Shelf", "isRowOf", "(I)Z"⟩
def y_Shelf_set : MethodName := ⟨"OneBlanket$Shelf", "set", "(IJ)V"⟩
def y_Tally_addCold : MethodName := ⟨"OneBlanket$Tally", "addCold", "(IZII)V"⟩
def y_Tally_begin : MethodName := ⟨"OneBlanket$Tally", "begin", "()V"⟩
def y_Tally_easyOfAll : MethodName := ⟨"OneBlanket$Tally", "easyOfAll", "(I)I"⟩
def y_Tally_leastEasy : MethodName := ⟨"OneBlanket$Tally", "leastEasy", "(I)I"⟩
def y_Tally_wake : MethodName := ⟨"OneBlanket$Tally", "wake", "(III)V"⟩
def y_Tape_add : MethodName := ⟨"OneBlanket$Tape", "add", "(I)V"⟩
def y_Tape_fail : MethodName := ⟨"OneBlanket$Tape", "fail", "()V"⟩
def y_Tape_isDigit : MethodName := ⟨"OneBlanket$Tape", "isDigit", "(I)Z"⟩
def y_Tape_peek : MethodName := ⟨"OneBlanket$Tape", "peek", "()I"⟩
def y_Tape_placeIn : MethodName := ⟨"OneBlanket$Tape", "placeIn", "(Ljava/lang/String;I)I"⟩
def y_Tape_readAll : MethodName := ⟨"OneBlanket$Tape", "readAll", "()I"⟩
def y_Tape_readLevel : MethodName := ⟨"OneBlanket$Tape", "readLevel", "(II)V"⟩
def y_Tape_readLine : MethodName := ⟨"OneBlanket$Tape", "readLine", "()V"⟩
def y_Tape_readNumber : MethodName := ⟨"OneBlanket$Tape", "readNumber", "()V"⟩
def y_Tape_readOperand : MethodName := ⟨"OneBlanket$Tape", "readOperand", "(I)V"⟩
def y_Tape_signsOf : MethodName := ⟨"OneBlanket$Tape", "signsOf", "(I)Ljava/lang/String;"⟩
def y_Tape_takes : MethodName := ⟨"OneBlanket$Tape", "takes", "(I)Z"⟩
def y_Tape_takesOneOf : MethodName := ⟨"OneBlanket$Tape", "takesOneOf", "(Ljava/lang/String;)I"⟩
def y_Text_add : MethodName := ⟨"OneBlanket$Text", "add", "(I)V"⟩
def y_Text_become : MethodName := ⟨"OneBlanket$Text", "become", "(LOneBlanket$Text;)V"⟩
def y_Text_skipToEnd : MethodName := ⟨"OneBlanket$Text", "skipToEnd", "(I)V"⟩
def y_Text_worth : MethodName := ⟨"OneBlanket$Text", "worth", "([I)I"⟩
def y_Text_worthOfTwo : MethodName := ⟨"OneBlanket$Text", "worthOfTwo", "(III)I"⟩
def y_Turns_add : MethodName := ⟨"OneBlanket$Turns", "add", "(III)I"⟩
def y_Turns_has : MethodName := ⟨"OneBlanket$Turns", "has", "(I)Z"⟩
def y_Turns_mayBe : MethodName := ⟨"OneBlanket$Turns", "mayBe", "(III)Z"⟩
def y_Turns_ofTurn : MethodName := ⟨"OneBlanket$Turns", "ofTurn", "(II)I"⟩
def y_B_across : MethodName := ⟨"OneBlanket", "across", "(I)I"⟩
def y_B_act : MethodName := ⟨"OneBlanket", "act", "(III)I"⟩
def y_B_body : MethodName := ⟨"OneBlanket", "body", "(I)I"⟩
def y_B_broad : MethodName := ⟨"OneBlanket", "broad", "(II)I"⟩
def y_B_clear : MethodName := ⟨"OneBlanket", "clear", "()I"⟩
def y_B_count : MethodName := ⟨"OneBlanket", "count", "(I)I"⟩
def y_B_cover : MethodName := ⟨"OneBlanket", "cover", "(III)I"⟩
def y_B_drawn : MethodName := ⟨"OneBlanket", "drawn", "(IIII)I"⟩
def y_B_element : MethodName := ⟨"OneBlanket", "element", "(II)J"⟩
def y_B_feed : MethodName := ⟨"OneBlanket", "feed", "(I)I"⟩
def y_B_film : MethodName := ⟨"OneBlanket", "film", "(I)I"⟩
def y_B_force : MethodName := ⟨"OneBlanket", "force", "(I)I"⟩
def y_B_goToNextOrder : MethodName := ⟨"OneBlanket", "goToNextOrder", "(I)Z"⟩
def y_B_hasShelf : MethodName := ⟨"OneBlanket", "hasShelf", "(I)Z"⟩
def y_B_isFilmOf : MethodName := ⟨"OneBlanket", "isFilmOf", "(ILOneBlanket$Shelf;)Z"⟩
def y_B_isKind : MethodName := ⟨"OneBlanket", "isKind", "(I)Z"⟩
def y_B_isMinute : MethodName := ⟨"OneBlanket", "isMinute", "(I)Z"⟩
def y_B_keep : MethodName := ⟨"OneBlanket", "keep", "(II)I"⟩
def y_B_law : MethodName := ⟨"OneBlanket", "law", "()I"⟩
def y_B_leastOf : MethodName := ⟨"OneBlanket", "leastOf", "(I)I"⟩
def y_B_lies : MethodName := ⟨"OneBlanket", "lies", "(II)I"⟩
def y_B_mend : MethodName := ⟨"OneBlanket", "mend", "(III)I"⟩
def y_B_minutes : MethodName := ⟨"OneBlanket", "minutes", "(II)I"⟩
def y_B_morning : MethodName := ⟨"OneBlanket", "morning", "(III)I"⟩
def y_B_mostOf : MethodName := ⟨"OneBlanket", "mostOf", "(I)I"⟩
def y_B_of : MethodName := ⟨"OneBlanket", "of", "(II)I"⟩
def y_B_orderAsDigits : MethodName := ⟨"OneBlanket", "orderAsDigits", "(I)I"⟩
def y_B_playTo : MethodName := ⟨"OneBlanket", "playTo", "(I)V"⟩
def y_B_put : MethodName := ⟨"OneBlanket", "put", "(IIJ)I"⟩
def y_B_redo : MethodName := ⟨"OneBlanket", "redo", "()I"⟩
def y_B_refusalOfPlace : MethodName := ⟨"OneBlanket", "refusalOfPlace", "(II)I"⟩
def y_B_room : MethodName := ⟨"OneBlanket", "room", "()I"⟩
def y_B_row : MethodName := ⟨"OneBlanket", "row", "(III)I"⟩
def y_B_shift : MethodName := ⟨"OneBlanket", "shift", "(IIIII)I"⟩
def y_B_sleeper : MethodName := ⟨"OneBlanket", "sleeper", "(II)I"⟩
def y_B_sleeps : MethodName := ⟨"OneBlanket", "sleeps", "(III)I"⟩
def y_B_swapInOrder : MethodName := ⟨"OneBlanket", "swapInOrder", "(II)V"⟩
def y_B_taken : MethodName := ⟨"OneBlanket", "taken", "(II)I"⟩
def y_B_took : MethodName := ⟨"OneBlanket", "took", "(I)I"⟩
def y_B_tossedFrom : MethodName := ⟨"OneBlanket", "tossedFrom", "(LOneBlanket$Shelf;II)I"⟩
def y_B_tosses : MethodName := ⟨"OneBlanket", "tosses", "(III)I"⟩
def y_B_trace : MethodName := ⟨"OneBlanket", "trace", "(I)I"⟩
def y_B_tucked : MethodName := ⟨"OneBlanket", "tucked", "(II)I"⟩
def y_B_turn : MethodName := ⟨"OneBlanket", "turn", "(III)I"⟩
def y_B_undo : MethodName := ⟨"OneBlanket", "undo", "()I"⟩
def y_B_wakes : MethodName := ⟨"OneBlanket", "wakes", "(II)I"⟩
def y_B_wide : MethodName := ⟨"OneBlanket", "wide", "(I)I"⟩
def y_B_window : MethodName := ⟨"OneBlanket", "window", "(I)I"⟩
def y_M_across : MethodName := ⟨"OneBlanketModel", "across", "(I)I"⟩
def y_M_act : MethodName := ⟨"OneBlanketModel", "act", "(III)I"⟩
def y_M_addStep : MethodName := ⟨"OneBlanketModel", "addStep", "(II)V"⟩
def y_M_addTurn : MethodName := ⟨"OneBlanketModel", "addTurn", "(III)I"⟩
def y_M_begin : MethodName := ⟨"OneBlanketModel", "begin", "()V"⟩
def y_M_body : MethodName := ⟨"OneBlanketModel", "body", "(I)I"⟩
def y_M_both : MethodName := ⟨"OneBlanketModel", "both", "()V"⟩
def y_M_broad : MethodName := ⟨"OneBlanketModel", "broad", "(II)I"⟩
def y_M_changes : MethodName := ⟨"OneBlanketModel", "changes", "(III)I"⟩
def y_M_clear : MethodName := ⟨"OneBlanketModel", "clear", "()I"⟩
def y_M_compared : MethodName := ⟨"OneBlanketModel", "compared", "()V"⟩
def y_M_count : MethodName := ⟨"OneBlanketModel", "count", "(I)I"⟩
def y_M_countNow : MethodName := ⟨"OneBlanketModel", "countNow", "(I)V"⟩
def y_M_cover : MethodName := ⟨"OneBlanketModel", "cover", "(III)I"⟩
def y_M_coveredOf : MethodName := ⟨"OneBlanketModel", "coveredOf", "(I)I"⟩
def y_M_degrees : MethodName := ⟨"OneBlanketModel", "degrees", "(I)I"⟩
def y_M_draw : MethodName := ⟨"OneBlanketModel", "draw", "(I)I"⟩
def y_M_drawBy : MethodName := ⟨"OneBlanketModel", "drawBy", "(IIIII)I"⟩
def y_M_drawing : MethodName := ⟨"OneBlanketModel", "drawing", "(II)I"⟩
def y_M_drawn : MethodName := ⟨"OneBlanketModel", "drawn", "(IIII)I"⟩
def y_M_drawnNight : MethodName := ⟨"OneBlanketModel", "drawnNight", "(I)V"⟩
def y_M_easyOfAll : MethodName := ⟨"OneBlanketModel", "easyOfAll", "()I"⟩
def y_M_either : MethodName := ⟨"OneBlanketModel", "either", "()V"⟩
def y_M_element : MethodName := ⟨"OneBlanketModel", "element", "(II)J"⟩
def y_M_faulty : MethodName := ⟨"OneBlanketModel", "faulty", "()V"⟩
def y_M_feed : MethodName := ⟨"OneBlanketModel", "feed", "(I)I"⟩
def y_M_figure : MethodName := ⟨"OneBlanketModel", "figure", "()V"⟩
def y_M_film : MethodName := ⟨"OneBlanketModel", "film", "(I)I"⟩
def y_M_force : MethodName := ⟨"OneBlanketModel", "force", "(I)I"⟩
def y_M_gives : MethodName := ⟨"OneBlanketModel", "gives", "(I)I"⟩
def y_M_held : MethodName := ⟨"OneBlanketModel", "held", "(III)I"⟩
def y_M_in : MethodName := ⟨"OneBlanketModel", "in", "(III)Z"⟩
def y_M_isAsFilm : MethodName := ⟨"OneBlanketModel", "isAsFilm", "(I)Z"⟩
def y_M_isBody : MethodName := ⟨"OneBlanketModel", "isBody", "(I)Z"⟩
def y_M_isCover : MethodName := ⟨"OneBlanketModel", "isCover", "(I)Z"⟩
def y_M_isMinute : MethodName := ⟨"OneBlanketModel", "isMinute", "(I)Z"⟩
def y_M_isOrder : MethodName := ⟨"OneBlanketModel", "isOrder", "(I)Z"⟩
def y_M_isShelf : MethodName := ⟨"OneBlanketModel", "isShelf", "(I)Z"⟩
def y_M_isSleeper : MethodName := ⟨"OneBlanketModel", "isSleeper", "(I)Z"⟩
def y_M_isSomeBare : MethodName := ⟨"OneBlanketModel", "isSomeBare", "()Z"⟩
def y_M_isTurn : MethodName := ⟨"OneBlanketModel", "isTurn", "(III)Z"⟩
def y_M_isUnder : MethodName := ⟨"OneBlanketModel", "isUnder", "(II)Z"⟩
def y_M_keep : MethodName := ⟨"OneBlanketModel", "keep", "(II)I"⟩
def y_M_law : MethodName := ⟨"OneBlanketModel", "law", "()I"⟩
def y_M_lays : MethodName := ⟨"OneBlanketModel", "lays", "(III)V"⟩
def y_M_leastEasy : MethodName := ⟨"OneBlanketModel", "leastEasy", "()I"⟩
def y_M_legTurns : MethodName := ⟨"OneBlanketModel", "legTurns", "(II)I"⟩
def y_M_lies : MethodName := ⟨"OneBlanketModel", "lies", "(II)I"⟩
def y_M_line : MethodName := ⟨"OneBlanketModel", "line", "()V"⟩
def y_M_look : MethodName := ⟨"OneBlanketModel", "look", "()I"⟩
def y_M_mend : MethodName := ⟨"OneBlanketModel", "mend", "(III)I"⟩
def y_M_minute : MethodName := ⟨"OneBlanketModel", "minute", "(I)V"⟩
def y_M_minutes : MethodName := ⟨"OneBlanketModel", "minutes", "(II)I"⟩
def y_M_morning : MethodName := ⟨"OneBlanketModel", "morning", "(III)I"⟩
def y_M_nameOf : MethodName := ⟨"OneBlanketModel", "nameOf", "(I)I"⟩
def y_M_night : MethodName := ⟨"OneBlanketModel", "night", "(I)V"⟩
def y_M_of : MethodName := ⟨"OneBlanketModel", "of", "(II)I"⟩
def y_M_opens : MethodName := ⟨"OneBlanketModel", "opens", "()Z"⟩
def y_M_operand : MethodName := ⟨"OneBlanketModel", "operand", "()V"⟩
def y_M_plainDraws : MethodName := ⟨"OneBlanketModel", "plainDraws", "(II)I"⟩
def y_M_plainTurns : MethodName := ⟨"OneBlanketModel", "plainTurns", "(II)I"⟩
def y_M_plainWakes : MethodName := ⟨"OneBlanketModel", "plainWakes", "(II)I"⟩
def y_M_plainWarms : MethodName := ⟨"OneBlanketModel", "plainWarms", "(II)I"⟩
def y_M_product : MethodName := ⟨"OneBlanketModel", "product", "()V"⟩
def y_M_put : MethodName := ⟨"OneBlanketModel", "put", "(IIJ)I"⟩
def y_M_ran : MethodName := ⟨"OneBlanketModel", "ran", "(I)V"⟩
def y_M_readText : MethodName := ⟨"OneBlanketModel", "readText", "(I)I"⟩
def y_M_redo : MethodName := ⟨"OneBlanketModel", "redo", "()I"⟩
def y_M_room : MethodName := ⟨"OneBlanketModel", "room", "()I"⟩
def y_M_row : MethodName := ⟨"OneBlanketModel", "row", "(III)I"⟩
def y_M_shift : MethodName := ⟨"OneBlanketModel", "shift", "(IIIII)I"⟩
def y_M_sizeOf : MethodName := ⟨"OneBlanketModel", "sizeOf", "(I)I"⟩
def y_M_sleeper : MethodName := ⟨"OneBlanketModel", "sleeper", "(II)I"⟩
def y_M_sleeps : MethodName := ⟨"OneBlanketModel", "sleeps", "(III)I"⟩
def y_M_sum : MethodName := ⟨"OneBlanketModel", "sum", "()V"⟩
def y_M_taken : MethodName := ⟨"OneBlanketModel", "taken", "(II)I"⟩
def y_M_took : MethodName := ⟨"OneBlanketModel", "took", "(I)I"⟩
def y_M_tosses : MethodName := ⟨"OneBlanketModel", "tosses", "(III)I"⟩
def y_M_trace : MethodName := ⟨"OneBlanketModel", "trace", "(I)I"⟩
def y_M_tucked : MethodName := ⟨"OneBlanketModel", "tucked", "(II)I"⟩
def y_M_turn : MethodName := ⟨"OneBlanketModel", "turn", "(III)I"⟩
def y_M_turnNow : MethodName := ⟨"OneBlanketModel", "turnNow", "(III)V"⟩
def y_M_turning : MethodName := ⟨"OneBlanketModel", "turning", "(II)I"⟩
def y_M_twoOf : MethodName := ⟨"OneBlanketModel", "twoOf", "(III)I"⟩
def y_M_under : MethodName := ⟨"OneBlanketModel", "under", "(II)I"⟩
def y_M_underDraws : MethodName := ⟨"OneBlanketModel", "underDraws", "(II)I"⟩
def y_M_undo : MethodName := ⟨"OneBlanketModel", "undo", "()I"⟩
def y_M_valueAt : MethodName := ⟨"OneBlanketModel", "valueAt", "(II)I"⟩
def y_M_wakes : MethodName := ⟨"OneBlanketModel", "wakes", "(II)I"⟩
def y_M_waking : MethodName := ⟨"OneBlanketModel", "waking", "(II)I"⟩
def y_M_warmOf : MethodName := ⟨"OneBlanketModel", "warmOf", "(II)I"⟩
def y_M_warming : MethodName := ⟨"OneBlanketModel", "warming", "(II)I"⟩
def y_M_whyNoPlace : MethodName := ⟨"OneBlanketModel", "whyNoPlace", "(II)I"⟩
def y_M_wide : MethodName := ⟨"OneBlanketModel", "wide", "(I)I"⟩
def y_M_window : MethodName := ⟨"OneBlanketModel", "window", "(I)I"⟩
def y_M_wokenWakes : MethodName := ⟨"OneBlanketModel", "wokenWakes", "(II)I"⟩
def y_M_worked : MethodName := ⟨"OneBlanketModel", "worked", "(III)I"⟩
def y_Long_bitCount : MethodName := ⟨"java/lang/Long", "bitCount", "(J)I"⟩
def y_Str_coder : MethodName := ⟨"java/lang/String", "coder", "()B"⟩
def y_Str_indexOf1 : MethodName := ⟨"java/lang/String", "indexOf", "(I)I"⟩
def y_Str_indexOf2 : MethodName := ⟨"java/lang/String", "indexOf", "(II)I"⟩
def y_Str_isLatin1 : MethodName := ⟨"java/lang/String", "isLatin1", "()Z"⟩
def y_Str_length : MethodName := ⟨"java/lang/String", "length", "()I"⟩
def y_Lat_canEncode : MethodName := ⟨"java/lang/StringLatin1", "canEncode", "(I)Z"⟩
def y_Lat_indexOf : MethodName := ⟨"java/lang/StringLatin1", "indexOf", "([BIII)I"⟩
def y_Lat_indexOfChar : MethodName := ⟨"java/lang/StringLatin1", "indexOfChar", "([BIII)I"⟩
def y_Arr_fillI : MethodName := ⟨"java/util/Arrays", "fill", "([II)V"⟩
def y_Arr_fillJ : MethodName := ⟨"java/util/Arrays", "fill", "([JJ)V"⟩
set_option maxRecDepth 100000 in
theorem zl_acN : Cond.native arraycopyName ∈ zz_T := zz_mem 573 (by decide +kernel) (by decide +kernel)
set_option maxRecDepth 100000 in
theorem zl_acS : Cond.static arraycopyName ∈ zz_T := zz_mem 572 (by decide +kernel) (by decide +kernel)
set_option maxRecDepth 100000 in
theorem zl_acI : Cond.initialized "java/lang/System" ∈ zz_T := zz_mem 94 (by decide +kernel) (by decide +kernel)
set_option maxRecDepth 100000 in
theorem zl_0_28 : zz_FL "OneBlanket$Bed" 28 0 7 := ⟨"OneBlanket$Bed", zz_F 0, 11, rfl, by decide, zz_mem 133 (by decide +kernel) (by decide +kernel), by decide +kernel⟩
set_option maxRecDepth 100000 in
theorem zl_0_43 : zz_FL "OneBlanket$Bed" 43 0 2 := ⟨"OneBlanket$Bed", zz_F 0, 11, rfl, by decide, zz_mem 122 (by decide +kernel) (by decide +kernel), by decide +kernel⟩
set_option maxRecDepth 100000 in
theorem zl_0_31 : zz_FL "OneBlanket$Bed" 31 0 8 := ⟨"OneBlanket$Bed", zz_F 0, 11, rfl, by decide, zz_mem 135 (by decide +kernel) (by decide +kernel), by decide +kernel⟩
set_option maxRecDepth 100000 in
theorem zl_0_34 : zz_FL "OneBlanket$Bed" 34 0 9 := ⟨"OneBlanket$Bed", zz_F 0, 11, rfl, by decide, zz_mem 139 (by decide +kernel) (by decide +kernel), by decide +kernel⟩
set_option maxRecDepth 100000 in
theorem zl_0_37 : zz_FL "OneBlanket$Bed" 37 0 10 := ⟨"OneBlanket$Bed", zz_F 0, 11, rfl, by decide, zz_mem 141 (by decide +kernel) (by decide +kernel), by decide +kernel⟩
theorem zpf_0_2 : zz_PF 0 2 := zz_PF.of (by decide +kernel) (by decide +kernel) rfl
set_option maxRecDepth 100000 in
theorem zl_0_15 : zz_FL "OneBlanket$Bed" 15 0 3 := ⟨"OneBlanket$Bed", zz_F 0, 11, rfl, by decide, zz_mem 125 (by decide +kernel) (by decide +kernel), by decide +kernel⟩
set_option maxRecDepth 100000 in
theorem zl_0_40 : zz_FL "OneBlanket$Bed" 40 0 1 := ⟨"OneBlanket$Bed", zz_F 0, 11, rfl, by decide, zz_mem 117 (by decide +kernel) (by decide +kernel), by decide +kernel⟩
set_option maxRecDepth 100000 in
theorem zl_0_19 : zz_FL "OneBlanket$Bed" 19 0 4 := ⟨"OneBlanket$Bed", zz_F 0, 11, rfl, by decide, zz_mem 127 (by decide +kernel) (by decide +kernel), by decide +kernel⟩
set_option maxRecDepth 100000 in
theorem zl_0_22 : zz_FL "OneBlanket$Bed" 22 0 5 := ⟨"OneBlanket$Bed", zz_F 0, 11, rfl, by decide, zz_mem 130 (by decide +kernel) (by decide +kernel), by decide +kernel⟩
set_option maxRecDepth 100000 in
theorem zl_0_25 : zz_FL "OneBlanket$Bed" 25 0 6 := ⟨"OneBlanket$Bed", zz_F 0, 11, rfl, by decide, zz_mem 131 (by decide +kernel) (by decide +kernel), by decide +kernel⟩
theorem zpf_0_1 : zz_PF 0 1 := zz_PF.of (by decide +kernel) (by decide +kernel) rfl
set_option maxRecDepth 100000 in
theorem zl_0_9 : zz_FL "OneBlanket$Bed" 9 0 0 := ⟨"OneBlanket$Bed", zz_F 0, 11, rfl, by decide, zz_mem 115 (by decide +kernel) (by decide +kernel), by decide +kernel⟩
set_option maxRecDepth 100000 in
theorem zl_0_46 : Cond.methodLink "OneBlanket$Bed" 46 Lib.Math.min.name ∈ zz_T := zz_mem 832 (by decide +kernel) (by decide +kernel)
set_option maxRecDepth 100000 in
theorem zl_0_52 : Cond.methodLink "OneBlanket$Bed" 52 Lib.Math.max.name ∈ zz_T := zz_mem 833 (by decide +kernel) (by decide +kernel)
set_option maxRecDepth 100000 in
theorem zl_0_55 : Cond.methodLink "OneBlanket$Bed" 55 y_Bed_heldWithin ∈ zz_T := zz_mem 998 (by decide +kernel) (by decide +kernel)
set_option maxRecDepth 100000 in
theorem zcv_Bed_heldWithin : zz_CV y_Bed_heldWithin prog_2_method_12_code 3 (some .int) 2 0 := ⟨⟨zz_mem 845 (by decide +kernel) (by decide +kernel), zz_mem 80 (by decide +kernel) (by decide +kernel), ⟨by decide +kernel, by decide +kernel, by decide +kernel⟩, by decide⟩, zz_mem 843 (by decide +kernel) (by decide +kernel), zz_mem 844 (by decide +kernel) (by decide +kernel), rfl⟩
set_option maxRecDepth 100000 in
theorem zl_1_11 : zz_FL "OneBlanket$Bodies" 11 1 2 := ⟨"OneBlanket$Bodies", zz_F 1, 4, rfl, by decide, zz_mem 440 (by decide +kernel) (by decide +kernel), by decide +kernel⟩
set_option maxRecDepth 100000 in
theorem zl_1_18 : zz_FL "OneBlanket$Bodies" 18 1 0 := ⟨"OneBlanket$Bodies", zz_F 1, 4, rfl, by decide, zz_mem 436 (by decide +kernel) (by decide +kernel), by decide +kernel⟩
theorem zpf_1_0 : zz_PF 1 0 := zz_PF.of (by decide +kernel) (by decide +kernel) rfl
set_option maxRecDepth 100000 in
theorem zl_1_28 : zz_FL "OneBlanket$Bodies" 28 1 1 := ⟨"OneBlanket$Bodies", zz_F 1, 4, rfl, by decide, zz_mem 438 (by decide +kernel) (by decide +kernel), by decide +kernel⟩
theorem zpf_1_1 : zz_PF 1 1 := zz_PF.of (by decide +kernel) (by decide +kernel) rfl
set_option maxRecDepth 100000 in
theorem zl_1_15 : zz_FL "OneBlanket$Bodies" 15 1 3 := ⟨"OneBlanket$Bodies", zz_F 1, 4, rfl, by decide, zz_mem 442 (by decide +kernel) (by decide +kernel), by decide +kernel⟩
set_option maxRecDepth 100000 in
theorem zl_1_22 : Cond.fieldLink "OneBlanket$Bodies" 22 "OneBlanket$Bodies" "ABOVE" "[I" ∈ zz_T := zz_mem 1082 (by decide +kernel) (by decide +kernel)
set_option maxRecDepth 100000 in
theorem zl_1_25 : Cond.fieldLink "OneBlanket$Bodies" 25 "OneBlanket$Bodies" "OWN" "[I" ∈ zz_T := zz_mem 1080 (by decide +kernel) (by decide +kernel)
set_option maxRecDepth 100000 in
theorem zl_1_39 : Cond.methodLink "OneBlanket$Bodies" 39 y_Bodies_kindThatHas ∈ zz_T := zz_mem 1077 (by decide +kernel) (by decide +kernel)
set_option maxRecDepth 100000 in
theorem zcs_Bodies_kindThatHas : zz_CS y_Bodies_kindThatHas prog_3_method_5_code 4 (some .int) 2 := ⟨⟨zz_mem 1079 (by decide +kernel) (by decide +kernel), zz_mem 91 (by decide +kernel) (by decide +kernel), ⟨by decide +kernel, by decide +kernel, by decide +kernel⟩, by decide⟩, zz_mem 1078 (by decide +kernel) (by decide +kernel)⟩
set_option maxRecDepth 100000 in
theorem zl_1_43 : Cond.methodLink "OneBlanket$Bodies" 43 y_Bodies_begins ∈ zz_T := zz_mem 1084 (by decide +kernel) (by decide +kernel)
set_option maxRecDepth 100000 in
theorem zcv_Bodies_begins : zz_CV y_Bodies_begins prog_3_method_6_code 2 (none) 1 1 := ⟨⟨zz_mem 1087 (by decide +kernel) (by decide +kernel), zz_mem 91 (by decide +kernel) (by decide +kernel), ⟨by decide +kernel, by decide +kernel, by decide +kernel⟩, by decide⟩, zz_mem 1086 (by decide +kernel) (by decide +kernel), zz_mem 24 (by decide +kernel) (by decide +kernel), rfl⟩
set_option maxRecDepth 100000 in
theorem zl_1_35 : Cond.methodLink "OneBlanket$Bodies" 35 y_Bodies_run ∈ zz_T := zz_mem 1073 (by decide +kernel) (by decide +kernel)
set_option maxRecDepth 100000 in
theorem zcv_Bodies_run : zz_CV y_Bodies_run prog_3_method_8_code 11 (some .int) 5 1 := ⟨⟨zz_mem 1076 (by decide +kernel) (by decide +kernel), zz_mem 91 (by decide +kernel) (by decide +kernel), ⟨by decide +kernel, by decide +kernel, by decide +kernel⟩, by decide⟩, zz_mem 1075 (by decide +kernel) (by decide +kernel), zz_mem 23 (by decide +kernel) (by decide +kernel), rfl⟩
set_option maxRecDepth 100000 in
theorem zl_1_31 : Cond.methodLink "OneBlanket$Bodies" 31 y_Bodies_has ∈ zz_T := zz_mem 1069 (by decide +kernel) (by decide +kernel)
set_option maxRecDepth 100000 in
theorem zcv_Bodies_has : zz_CV y_Bodies_has prog_3_method_2_code 2 (some .boolean) 1 1 := ⟨⟨zz_mem 1072 (by decide +kernel) (by decide +kernel), zz_mem 91 (by decide +kernel) (by decide +kernel), ⟨by decide +kernel, by decide +kernel, by decide +kernel⟩, by decide⟩, zz_mem 1071 (by decide +kernel) (by decide +kernel), zz_mem 22 (by decide +kernel) (by decide +kernel), rfl⟩
set_option maxRecDepth 100000 in
theorem zl_2_9 : zz_FL "OneBlanket$Changes" 9 2 2 := ⟨"OneBlanket$Changes", zz_F 2, 6, rfl, by decide, zz_mem 372 (by decide +kernel) (by decide +kernel), by decide +kernel⟩
set_option maxRecDepth 100000 in
theorem zl_2_32 : Cond.methodLink "OneBlanket$Changes" 32 arraycopyName ∈ zz_T := zz_mem 571 (by decide +kernel) (by decide +kernel)
set_option maxRecDepth 100000 in
theorem zl_2_13 : zz_FL "OneBlanket$Changes" 13 2 3 := ⟨"OneBlanket$Changes", zz_F 2, 6, rfl, by decide, zz_mem 373 (by decide +kernel) (by decide +kernel), by decide +kernel⟩
set_option maxRecDepth 100000 in
theorem zl_2_16 : zz_FL "OneBlanket$Changes" 16 2 4 := ⟨"OneBlanket$Changes", zz_F 2, 6, rfl, by decide, zz_mem 374 (by decide +kernel) (by decide +kernel), by decide +kernel⟩
set_option maxRecDepth 100000 in
theorem zl_2_19 : zz_FL "OneBlanket$Changes" 19 2 5 := ⟨"OneBlanket$Changes", zz_F 2, 6, rfl, by decide, zz_mem 375 (by decide +kernel) (by decide +kernel), by decide +kernel⟩
set_option maxRecDepth 100000 in
theorem zl_2_22 : zz_FL "OneBlanket$Changes" 22 2 0 := ⟨"OneBlanket$Changes", zz_F 2, 6, rfl, by decide, zz_mem 368 (by decide +kernel) (by decide +kernel), by decide +kernel⟩
theorem zpf_2_0 : zz_PF 2 0 := zz_PF.of (by decide +kernel) (by decide +kernel) rfl
set_option maxRecDepth 100000 in
theorem zl_2_29 : zz_FL "OneBlanket$Changes" 29 2 1 := ⟨"OneBlanket$Changes", zz_F 2, 6, rfl, by decide, zz_mem 370 (by decide +kernel) (by decide +kernel), by decide +kernel⟩
theorem zpf_2_1 : zz_PF 2 1 := zz_PF.of (by decide +kernel) (by decide +kernel) rfl
set_option maxRecDepth 100000 in
theorem zl_2_26 : Cond.methodLink "OneBlanket$Changes" 26 y_Changes_forgetOldest ∈ zz_T := zz_mem 567 (by decide +kernel) (by decide +kernel)
set_option maxRecDepth 100000 in
theorem zcv_Changes_forgetOldest : zz_CV y_Changes_forgetOldest prog_4_method_3_code 1 (none) 0 2 := ⟨⟨zz_mem 570 (by decide +kernel) (by decide +kernel), zz_mem 88 (by decide +kernel) (by decide +kernel), ⟨by decide +kernel, by decide +kernel, by decide +kernel⟩, by decide⟩, zz_mem 569 (by decide +kernel) (by decide +kernel), zz_mem 0 (by decide +kernel) (by decide +kernel), rfl⟩
set_option maxRecDepth 100000 in
theorem zl_2_38 : Cond.methodLink "OneBlanket$Changes" 38 y_Bed_mendable ∈ zz_T := zz_mem 1041 (by decide +kernel) (by decide +kernel)
set_option maxRecDepth 100000 in
theorem zcv_Bed_mendable : zz_CV y_Bed_mendable prog_2_method_6_code 2 (some (.array .int)) 1 0 := ⟨⟨zz_mem 562 (by decide +kernel) (by decide +kernel), zz_mem 80 (by decide +kernel) (by decide +kernel), ⟨by decide +kernel, by decide +kernel, by decide +kernel⟩, by decide⟩, zz_mem 560 (by decide +kernel) (by decide +kernel), zz_mem 561 (by decide +kernel) (by decide +kernel), rfl⟩
set_option maxRecDepth 100000 in
theorem zl_3_31 : zz_FL "OneBlanket$Lie" 31 3 0 := ⟨"OneBlanket$Lie", zz_F 3, 7, rfl, by decide, zz_mem 277 (by decide +kernel) (by decide +kernel), by decide +kernel⟩
set_option maxRecDepth 100000 in
theorem zl_3_35 : zz_FL "OneBlanket$Lie" 35 0 2 := ⟨"OneBlanket$Bed", zz_F 0, 11, rfl, by decide, zz_mem 121 (by decide +kernel) (by decide +kernel), by decide +kernel⟩
set_option maxRecDepth 100000 in
theorem zl_3_28 : zz_FL "OneBlanket$Lie" 28 3 6 := ⟨"OneBlanket$Lie", zz_F 3, 7, rfl, by decide, zz_mem 287 (by decide +kernel) (by decide +kernel), by decide +kernel⟩
set_option maxRecDepth 100000 in
theorem zl_3_21 : zz_FL "OneBlanket$Lie" 21 3 4 := ⟨"OneBlanket$Lie", zz_F 3, 7, rfl, by decide, zz_mem 284 (by decide +kernel) (by decide +kernel), by decide +kernel⟩
set_option maxRecDepth 100000 in
theorem zl_3_63 : zz_FL "OneBlanket$Lie" 63 0 8 := ⟨"OneBlanket$Bed", zz_F 0, 11, rfl, by decide, zz_mem 136 (by decide +kernel) (by decide +kernel), by decide +kernel⟩
set_option maxRecDepth 100000 in
theorem zl_3_66 : Cond.methodLink "OneBlanket$Lie" 66 y_Bed_bitsOf ∈ zz_T := zz_mem 828 (by decide +kernel) (by decide +kernel)
set_option maxRecDepth 100000 in
theorem zcv_Bed_bitsOf : zz_CV y_Bed_bitsOf prog_2_method_14_code 5 (some .long) 2 0 := ⟨⟨zz_mem 831 (by decide +kernel) (by decide +kernel), zz_mem 80 (by decide +kernel) (by decide +kernel), ⟨by decide +kernel, by decide +kernel, by decide +kernel⟩, by decide⟩, zz_mem 829 (by decide +kernel) (by decide +kernel), zz_mem 830 (by decide +kernel) (by decide +kernel), rfl⟩
set_option maxRecDepth 100000 in
theorem zl_3_9 : zz_FL "OneBlanket$Lie" 9 3 1 := ⟨"OneBlanket$Lie", zz_F 3, 7, rfl, by decide, zz_mem 278 (by decide +kernel) (by decide +kernel), by decide +kernel⟩
set_option maxRecDepth 100000 in
theorem zl_3_70 : Cond.methodLink "OneBlanket$Lie" 70 y_Bed_heldWithin ∈ zz_T := zz_mem 842 (by decide +kernel) (by decide +kernel)
set_option maxRecDepth 100000 in
theorem zl_3_24 : zz_FL "OneBlanket$Lie" 24 3 5 := ⟨"OneBlanket$Lie", zz_F 3, 7, rfl, by decide, zz_mem 286 (by decide +kernel) (by decide +kernel), by decide +kernel⟩
set_option maxRecDepth 100000 in
theorem zl_3_74 : zz_FL "OneBlanket$Lie" 74 0 4 := ⟨"OneBlanket$Bed", zz_F 0, 11, rfl, by decide, zz_mem 128 (by decide +kernel) (by decide +kernel), by decide +kernel⟩
set_option maxRecDepth 100000 in
theorem zl_Long_314 : Jvm.Cond.constantLong "java/lang/Long" 314 (6148914691236517205 : Int64) ∈ zz_T := zz_mem 853 (by decide +kernel) (by decide +kernel)
set_option maxRecDepth 100000 in
theorem zl_Long_316 : Jvm.Cond.constantLong "java/lang/Long" 316 (3689348814741910323 : Int64) ∈ zz_T := zz_mem 854 (by decide +kernel) (by decide +kernel)
set_option maxRecDepth 100000 in
theorem zl_Long_318 : Jvm.Cond.constantLong "java/lang/Long" 318 (1085102592571150095 : Int64) ∈ zz_T := zz_mem 855 (by decide +kernel) (by decide +kernel)
set_option maxRecDepth 100000 in
theorem zl_3_15 : zz_FL "OneBlanket$Lie" 15 3 2 := ⟨"OneBlanket$Lie", zz_F 3, 7, rfl, by decide, zz_mem 280 (by decide +kernel) (by decide +kernel), by decide +kernel⟩
set_option maxRecDepth 100000 in
theorem zl_3_77 : Cond.methodLink "OneBlanket$Lie" 77 y_Long_bitCount ∈ zz_T := zz_mem 850 (by decide +kernel) (by decide +kernel)
set_option maxRecDepth 100000 in
theorem zcs_Long_bitCount : zz_CS y_Long_bitCount prog_16_method_50_code 2 (some .int) 1 := ⟨⟨zz_mem 852 (by decide +kernel) (by decide +kernel), zz_mem 100 (by decide +kernel) (by decide +kernel), ⟨by decide +kernel, by decide +kernel, by decide +kernel⟩, by decide⟩, zz_mem 851 (by decide +kernel) (by decide +kernel)⟩
set_option maxRecDepth 100000 in
theorem zl_3_50 : zz_FL "OneBlanket$Lie" 50 0 1 := ⟨"OneBlanket$Bed", zz_F 0, 11, rfl, by decide, zz_mem 119 (by decide +kernel) (by decide +kernel), by decide +kernel⟩
set_option maxRecDepth 100000 in
theorem zl_3_83 : zz_FL "OneBlanket$Lie" 83 0 6 := ⟨"OneBlanket$Bed", zz_F 0, 11, rfl, by decide, zz_mem 132 (by decide +kernel) (by decide +kernel), by decide +kernel⟩
set_option maxRecDepth 100000 in
theorem zl_3_18 : zz_FL "OneBlanket$Lie" 18 3 3 := ⟨"OneBlanket$Lie", zz_F 3, 7, rfl, by decide, zz_mem 282 (by decide +kernel) (by decide +kernel), by decide +kernel⟩
set_option maxRecDepth 100000 in
theorem zl_3_86 : zz_FL "OneBlanket$Lie" 86 0 9 := ⟨"OneBlanket$Bed", zz_F 0, 11, rfl, by decide, zz_mem 140 (by decide +kernel) (by decide +kernel), by decide +kernel⟩
set_option maxRecDepth 100000 in
theorem zl_3_89 : Cond.methodLink "OneBlanket$Lie" 89 y_Lie_underOf ∈ zz_T := zz_mem 860 (by decide +kernel) (by decide +kernel)
set_option maxRecDepth 100000 in
theorem zcv_Lie_underOf : zz_CV y_Lie_underOf prog_5_method_7_code 3 (some .int) 2 3 := ⟨⟨zz_mem 863 (by decide +kernel) (by decide +kernel), zz_mem 87 (by decide +kernel) (by decide +kernel), ⟨by decide +kernel, by decide +kernel, by decide +kernel⟩, by decide⟩, zz_mem 861 (by decide +kernel) (by decide +kernel), zz_mem 862 (by decide +kernel) (by decide +kernel), rfl⟩
set_option maxRecDepth 100000 in
theorem zl_3_92 : Cond.methodLink "OneBlanket$Lie" 92 y_Bed_partOf ∈ zz_T := zz_mem 864 (by decide +kernel) (by decide +kernel)
set_option maxRecDepth 100000 in
theorem zcv_Bed_partOf : zz_CV y_Bed_partOf prog_2_method_11_code 4 (some .int) 3 0 := ⟨⟨zz_mem 867 (by decide +kernel) (by decide +kernel), zz_mem 80 (by decide +kernel) (by decide +kernel), ⟨by decide +kernel, by decide +kernel, by decide +kernel⟩, by decide⟩, zz_mem 865 (by decide +kernel) (by decide +kernel), zz_mem 866 (by decide +kernel) (by decide +kernel), rfl⟩
set_option maxRecDepth 100000 in
theorem zl_3_46 : Cond.methodLink "OneBlanket$Lie" 46 y_Lie_allCovers ∈ zz_T := zz_mem 834 (by decide +kernel) (by decide +kernel)
set_option maxRecDepth 100000 in
theorem zcv_Lie_allCovers : zz_CV y_Lie_allCovers prog_5_method_5_code 4 (some .long) 0 3 := ⟨⟨zz_mem 837 (by decide +kernel) (by decide +kernel), zz_mem 87 (by decide +kernel) (by decide +kernel), ⟨by decide +kernel, by decide +kernel, by decide +kernel⟩, by decide⟩, zz_mem 835 (by decide +kernel) (by decide +kernel), zz_mem 836 (by decide +kernel) (by decide +kernel), rfl⟩
set_option maxRecDepth 100000 in
theorem zl_3_60 : Cond.methodLink "OneBlanket$Lie" 60 y_Lie_feelWarmth ∈ zz_T := zz_mem 856 (by decide +kernel) (by decide +kernel)
set_option maxRecDepth 100000 in
theorem zcv_Lie_feelWarmth : zz_CV y_Lie_feelWarmth prog_5_method_8_code 4 (none) 0 3 := ⟨⟨zz_mem 859 (by decide +kernel) (by decide +kernel), zz_mem 87 (by decide +kernel) (by decide +kernel), ⟨by decide +kernel, by decide +kernel, by decide +kernel⟩, by decide⟩, zz_mem 857 (by decide +kernel) (by decide +kernel), zz_mem 858 (by decide +kernel) (by decide +kernel), rfl⟩
set_option maxRecDepth 100000 in
theorem zl_3_53 : Cond.methodLink "OneBlanket$Lie" 53 y_Lie_moveSleeper ∈ zz_T := zz_mem 838 (by decide +kernel) (by decide +kernel)
set_option maxRecDepth 100000 in
theorem zcv_Lie_moveSleeper : zz_CV y_Lie_moveSleeper prog_5_method_4_code 3 (none) 2 3 := ⟨⟨zz_mem 841 (by decide +kernel) (by decide +kernel), zz_mem 87 (by decide +kernel) (by decide +kernel), ⟨by decide +kernel, by decide +kernel, by decide +kernel⟩, by decide⟩, zz_mem 839 (by decide +kernel) (by decide +kernel), zz_mem 840 (by decide +kernel) (by decide +kernel), rfl⟩
set_option maxRecDepth 100000 in
theorem zl_3_56 : Cond.methodLink "OneBlanket$Lie" 56 y_Lie_coverAnew ∈ zz_T := zz_mem 846 (by decide +kernel) (by decide +kernel)
set_option maxRecDepth 100000 in
theorem zcv_Lie_coverAnew : zz_CV y_Lie_coverAnew prog_5_method_6_code 5 (some .int) 2 3 := ⟨⟨zz_mem 849 (by decide +kernel) (by decide +kernel), zz_mem 87 (by decide +kernel) (by decide +kernel), ⟨by decide +kernel, by decide +kernel, by decide +kernel⟩, by decide⟩, zz_mem 847 (by decide +kernel) (by decide +kernel), zz_mem 848 (by decide +kernel) (by decide +kernel), rfl⟩
set_option maxRecDepth 100000 in
theorem zl_3_41 : zz_FL "OneBlanket$Lie" 41 0 7 := ⟨"OneBlanket$Bed", zz_F 0, 11, rfl, by decide, zz_mem 134 (by decide +kernel) (by decide +kernel), by decide +kernel⟩
set_option maxRecDepth 100000 in
theorem zl_3_42 : Cond.methodLink "OneBlanket$Lie" 42 y_Lie_moveCover ∈ zz_T := zz_mem 824 (by decide +kernel) (by decide +kernel)
set_option maxRecDepth 100000 in
theorem zcv_Lie_moveCover : zz_CV y_Lie_moveCover prog_5_method_3_code 3 (none) 2 3 := ⟨⟨zz_mem 827 (by decide +kernel) (by decide +kernel), zz_mem 87 (by decide +kernel) (by decide +kernel), ⟨by decide +kernel, by decide +kernel, by decide +kernel⟩, by decide⟩, zz_mem 825 (by decide +kernel) (by decide +kernel), zz_mem 826 (by decide +kernel) (by decide +kernel), rfl⟩
set_option maxRecDepth 100000 in
theorem zl_3_96 : Cond.methodLink "OneBlanket$Lie" 96 y_Lie_isBare ∈ zz_T := zz_mem 972 (by decide +kernel) (by decide +kernel)
set_option maxRecDepth 100000 in
theorem zcv_Lie_isBare : zz_CV y_Lie_isBare prog_5_method_9_code 2 (some .boolean) 1 3 := ⟨⟨zz_mem 936 (by decide +kernel) (by decide +kernel), zz_mem 87 (by decide +kernel) (by decide +kernel), ⟨by decide +kernel, by decide +kernel, by decide +kernel⟩, by decide⟩, zz_mem 934 (by decide +kernel) (by decide +kernel), zz_mem 935 (by decide +kernel) (by decide +kernel), rfl⟩
set_option maxRecDepth 100000 in
theorem zl_7_9 : zz_FL "OneBlanket$Tally" 9 7 0 := ⟨"OneBlanket$Tally", zz_F 7, 6, rfl, by decide, zz_mem 243 (by decide +kernel) (by decide +kernel), by decide +kernel⟩
set_option maxRecDepth 100000 in
theorem zl_7_30 : Cond.methodLink "OneBlanket$Tally" 30 y_Arr_fillI ∈ zz_T := zz_mem 873 (by decide +kernel) (by decide +kernel)
set_option maxRecDepth 100000 in
theorem zcs_Arr_fillI : zz_CS y_Arr_fillI prog_22_method_103_code 4 (none) 2 := ⟨⟨zz_mem 215 (by decide +kernel) (by decide +kernel), zz_mem 84 (by decide +kernel) (by decide +kernel), ⟨by decide +kernel, by decide +kernel, by decide +kernel⟩, by decide⟩, zz_mem 214 (by decide +kernel) (by decide +kernel)⟩
set_option maxRecDepth 100000 in
theorem zl_7_15 : zz_FL "OneBlanket$Tally" 15 7 1 := ⟨"OneBlanket$Tally", zz_F 7, 6, rfl, by decide, zz_mem 246 (by decide +kernel) (by decide +kernel), by decide +kernel⟩
set_option maxRecDepth 100000 in
theorem zl_7_18 : zz_FL "OneBlanket$Tally" 18 7 2 := ⟨"OneBlanket$Tally", zz_F 7, 6, rfl, by decide, zz_mem 248 (by decide +kernel) (by decide +kernel), by decide +kernel⟩
set_option maxRecDepth 100000 in
theorem zl_7_21 : zz_FL "OneBlanket$Tally" 21 7 3 := ⟨"OneBlanket$Tally", zz_F 7, 6, rfl, by decide, zz_mem 251 (by decide +kernel) (by decide +kernel), by decide +kernel⟩
set_option maxRecDepth 100000 in
theorem zl_7_24 : zz_FL "OneBlanket$Tally" 24 7 4 := ⟨"OneBlanket$Tally", zz_F 7, 6, rfl, by decide, zz_mem 253 (by decide +kernel) (by decide +kernel), by decide +kernel⟩
set_option maxRecDepth 100000 in
theorem zl_7_27 : zz_FL "OneBlanket$Tally" 27 7 5 := ⟨"OneBlanket$Tally", zz_F 7, 6, rfl, by decide, zz_mem 255 (by decide +kernel) (by decide +kernel), by decide +kernel⟩
set_option maxRecDepth 100000 in
theorem zl_4_62 : zz_FL "OneBlanket$Night" 62 4 4 := ⟨"OneBlanket$Night", zz_F 4, 17, rfl, by decide, zz_mem 308 (by decide +kernel) (by decide +kernel), by decide +kernel⟩
set_option maxRecDepth 100000 in
theorem zl_4_66 : Cond.methodLink "OneBlanket$Night" 66 y_Lie_begin ∈ zz_T := zz_mem 820 (by decide +kernel) (by decide +kernel)
set_option maxRecDepth 100000 in
theorem zcv_Lie_begin : zz_CV y_Lie_begin prog_5_method_2_code 5 (none) 1 3 := ⟨⟨zz_mem 823 (by decide +kernel) (by decide +kernel), zz_mem 87 (by decide +kernel) (by decide +kernel), ⟨by decide +kernel, by decide +kernel, by decide +kernel⟩, by decide⟩, zz_mem 821 (by decide +kernel) (by decide +kernel), zz_mem 822 (by decide +kernel) (by decide +kernel), rfl⟩
set_option maxRecDepth 100000 in
theorem zl_4_18 : zz_FL "OneBlanket$Night" 18 4 6 := ⟨"OneBlanket$Night", zz_F 4, 17, rfl, by decide, zz_mem 312 (by decide +kernel) (by decide +kernel), by decide +kernel⟩
set_option maxRecDepth 100000 in
theorem zl_4_70 : Cond.methodLink "OneBlanket$Night" 70 y_Arr_fillI ∈ zz_T := zz_mem 868 (by decide +kernel) (by decide +kernel)
set_option maxRecDepth 100000 in
theorem zl_4_22 : zz_FL "OneBlanket$Night" 22 4 7 := ⟨"OneBlanket$Night", zz_F 4, 17, rfl, by decide, zz_mem 314 (by decide +kernel) (by decide +kernel), by decide +kernel⟩
set_option maxRecDepth 100000 in
theorem zl_4_12 : zz_FL "OneBlanket$Night" 12 4 5 := ⟨"OneBlanket$Night", zz_F 4, 17, rfl, by decide, zz_mem 310 (by decide +kernel) (by decide +kernel), by decide +kernel⟩
set_option maxRecDepth 100000 in
theorem zl_4_76 : Cond.methodLink "OneBlanket$Night" 76 y_Tally_begin ∈ zz_T := zz_mem 869 (by decide +kernel) (by decide +kernel)
set_option maxRecDepth 100000 in
theorem zcv_Tally_begin : zz_CV y_Tally_begin prog_9_method_2_code 1 (none) 0 7 := ⟨⟨zz_mem 872 (by decide +kernel) (by decide +kernel), zz_mem 86 (by decide +kernel) (by decide +kernel), ⟨by decide +kernel, by decide +kernel, by decide +kernel⟩, by decide⟩, zz_mem 870 (by decide +kernel) (by decide +kernel), zz_mem 871 (by decide +kernel) (by decide +kernel), rfl⟩
set_option maxRecDepth 100000 in
theorem zl_4_78 : zz_FL "OneBlanket$Night" 78 4 10 := ⟨"OneBlanket$Night", zz_F 4, 17, rfl, by decide, zz_mem 317 (by decide +kernel) (by decide +kernel), by decide +kernel⟩
theorem zpf_4_10 : zz_PF 4 10 := zz_PF.of (by decide +kernel) (by decide +kernel) rfl
set_option maxRecDepth 100000 in
theorem zl_4_82 : zz_FL "OneBlanket$Night" 82 4 11 := ⟨"OneBlanket$Night", zz_F 4, 17, rfl, by decide, zz_mem 318 (by decide +kernel) (by decide +kernel), by decide +kernel⟩
theorem zpf_4_11 : zz_PF 4 11 := zz_PF.of (by decide +kernel) (by decide +kernel) rfl
set_option maxRecDepth 100000 in
theorem zl_4_85 : zz_FL "OneBlanket$Night" 85 4 12 := ⟨"OneBlanket$Night", zz_F 4, 17, rfl, by decide, zz_mem 319 (by decide +kernel) (by decide +kernel), by decide +kernel⟩
theorem zpf_4_12 : zz_PF 4 12 := zz_PF.of (by decide +kernel) (by decide +kernel) rfl
set_option maxRecDepth 100000 in
theorem zl_4_88 : zz_FL "OneBlanket$Night" 88 4 13 := ⟨"OneBlanket$Night", zz_F 4, 17, rfl, by decide, zz_mem 320 (by decide +kernel) (by decide +kernel), by decide +kernel⟩
theorem zpf_4_13 : zz_PF 4 13 := zz_PF.of (by decide +kernel) (by decide +kernel) rfl
set_option maxRecDepth 100000 in
theorem zl_4_91 : zz_FL "OneBlanket$Night" 91 4 14 := ⟨"OneBlanket$Night", zz_F 4, 17, rfl, by decide, zz_mem 322 (by decide +kernel) (by decide +kernel), by decide +kernel⟩
theorem zpf_4_14 : zz_PF 4 14 := zz_PF.of (by decide +kernel) (by decide +kernel) rfl
set_option maxRecDepth 100000 in
theorem zl_4_94 : zz_FL "OneBlanket$Night" 94 4 16 := ⟨"OneBlanket$Night", zz_F 4, 17, rfl, by decide, zz_mem 326 (by decide +kernel) (by decide +kernel), by decide +kernel⟩
theorem zpf_4_16 : zz_PF 4 16 := zz_PF.of (by decide +kernel) (by decide +kernel) rfl
set_option maxRecDepth 100000 in
theorem zl_4_49 : zz_FL "OneBlanket$Night" 49 4 2 := ⟨"OneBlanket$Night", zz_F 4, 17, rfl, by decide, zz_mem 306 (by decide +kernel) (by decide +kernel), by decide +kernel⟩
set_option maxRecDepth 100000 in
theorem zl_4_213 : zz_FL "OneBlanket$Night" 213 5 0 := ⟨"OneBlanket$Room", zz_F 5, 3, rfl, by decide, zz_mem 217 (by decide +kernel) (by decide +kernel), by decide +kernel⟩
set_option maxRecDepth 100000 in
theorem zl_4_216 : zz_FL "OneBlanket$Night" 216 3 3 := ⟨"OneBlanket$Lie", zz_F 3, 7, rfl, by decide, zz_mem 283 (by decide +kernel) (by decide +kernel), by decide +kernel⟩
set_option maxRecDepth 100000 in
theorem zl_7_36 : Cond.methodLink "OneBlanket$Tally" 36 y_Tally_wake ∈ zz_T := zz_mem 945 (by decide +kernel) (by decide +kernel)
set_option maxRecDepth 100000 in
theorem zcv_Tally_wake : zz_CV y_Tally_wake prog_9_method_3_code 4 (none) 3 7 := ⟨⟨zz_mem 906 (by decide +kernel) (by decide +kernel), zz_mem 86 (by decide +kernel) (by decide +kernel), ⟨by decide +kernel, by decide +kernel, by decide +kernel⟩, by decide⟩, zz_mem 904 (by decide +kernel) (by decide +kernel), zz_mem 905 (by decide +kernel) (by decide +kernel), rfl⟩
set_option maxRecDepth 100000 in
theorem zl_4_219 : Cond.methodLink "OneBlanket$Night" 219 y_Night_warmOf ∈ zz_T := zz_mem 925 (by decide +kernel) (by decide +kernel)
set_option maxRecDepth 100000 in
theorem zcv_Night_warmOf : zz_CV y_Night_warmOf prog_6_method_11_code 3 (some .int) 2 4 := ⟨⟨zz_mem 928 (by decide +kernel) (by decide +kernel), zz_mem 85 (by decide +kernel) (by decide +kernel), ⟨by decide +kernel, by decide +kernel, by decide +kernel⟩, by decide⟩, zz_mem 926 (by decide +kernel) (by decide +kernel), zz_mem 927 (by decide +kernel) (by decide +kernel), rfl⟩
set_option maxRecDepth 100000 in
theorem zl_4_41 : zz_FL "OneBlanket$Night" 41 4 0 := ⟨"OneBlanket$Night", zz_F 4, 17, rfl, by decide, zz_mem 304 (by decide +kernel) (by decide +kernel), by decide +kernel⟩
set_option maxRecDepth 100000 in
theorem zl_4_222 : Cond.methodLink "OneBlanket$Night" 222 y_Bed_isEasy ∈ zz_T := zz_mem 929 (by decide +kernel) (by decide +kernel)
set_option maxRecDepth 100000 in
theorem zcv_Bed_isEasy : zz_CV y_Bed_isEasy prog_2_method_9_code 3 (some .boolean) 2 0 := ⟨⟨zz_mem 932 (by decide +kernel) (by decide +kernel), zz_mem 80 (by decide +kernel) (by decide +kernel), ⟨by decide +kernel, by decide +kernel, by decide +kernel⟩, by decide⟩, zz_mem 930 (by decide +kernel) (by decide +kernel), zz_mem 931 (by decide +kernel) (by decide +kernel), rfl⟩
set_option maxRecDepth 100000 in
theorem zl_4_229 : Cond.methodLink "OneBlanket$Night" 229 y_Lie_isBare ∈ zz_T := zz_mem 933 (by decide +kernel) (by decide +kernel)
set_option maxRecDepth 100000 in
theorem zl_4_235 : Cond.methodLink "OneBlanket$Night" 235 y_Bed_isCold ∈ zz_T := zz_mem 937 (by decide +kernel) (by decide +kernel)
set_option maxRecDepth 100000 in
theorem zcv_Bed_isCold : zz_CV y_Bed_isCold prog_2_method_10_code 3 (some .boolean) 2 0 := ⟨⟨zz_mem 940 (by decide +kernel) (by decide +kernel), zz_mem 80 (by decide +kernel) (by decide +kernel), ⟨by decide +kernel, by decide +kernel, by decide +kernel⟩, by decide⟩, zz_mem 938 (by decide +kernel) (by decide +kernel), zz_mem 939 (by decide +kernel) (by decide +kernel), rfl⟩
set_option maxRecDepth 100000 in
theorem zl_4_238 : Cond.methodLink "OneBlanket$Night" 238 y_Tally_addCold ∈ zz_T := zz_mem 941 (by decide +kernel) (by decide +kernel)
set_option maxRecDepth 100000 in
theorem zcv_Tally_addCold : zz_CV y_Tally_addCold prog_9_method_4_code 5 (none) 4 7 := ⟨⟨zz_mem 944 (by decide +kernel) (by decide +kernel), zz_mem 86 (by decide +kernel) (by decide +kernel), ⟨by decide +kernel, by decide +kernel, by decide +kernel⟩, by decide⟩, zz_mem 942 (by decide +kernel) (by decide +kernel), zz_mem 943 (by decide +kernel) (by decide +kernel), rfl⟩
set_option maxRecDepth 100000 in
theorem zl_4_232 : zz_FL "OneBlanket$Night" 232 7 2 := ⟨"OneBlanket$Tally", zz_F 7, 6, rfl, by decide, zz_mem 249 (by decide +kernel) (by decide +kernel), by decide +kernel⟩
set_option maxRecDepth 100000 in
theorem zl_4_226 : zz_FL "OneBlanket$Night" 226 7 0 := ⟨"OneBlanket$Tally", zz_F 7, 6, rfl, by decide, zz_mem 244 (by decide +kernel) (by decide +kernel), by decide +kernel⟩
set_option maxRecDepth 100000 in
theorem zl_4_97 : zz_FL "OneBlanket$Night" 97 4 15 := ⟨"OneBlanket$Night", zz_F 4, 17, rfl, by decide, zz_mem 324 (by decide +kernel) (by decide +kernel), by decide +kernel⟩
set_option maxRecDepth 100000 in
theorem zl_4_161 : Jvm.Cond.constant "OneBlanket$Night" 161 (1103515245 : Int32) ∈ zz_T := zz_mem 916 (by decide +kernel) (by decide +kernel)
theorem zpf_4_15 : zz_PF 4 15 := zz_PF.of (by decide +kernel) (by decide +kernel) rfl
set_option maxRecDepth 100000 in
theorem zl_9_18 : zz_FL "OneBlanket$Text" 18 9 0 := ⟨"OneBlanket$Text", zz_F 9, 3, rfl, by decide, zz_mem 401 (by decide +kernel) (by decide +kernel), by decide +kernel⟩
set_option maxRecDepth 100000 in
theorem zl_9_11 : zz_FL "OneBlanket$Text" 11 9 1 := ⟨"OneBlanket$Text", zz_F 9, 3, rfl, by decide, zz_mem 403 (by decide +kernel) (by decide +kernel), by decide +kernel⟩
set_option maxRecDepth 100000 in
theorem zl_9_28 : Cond.methodLink "OneBlanket$Text" 28 Lib.Math.max.name ∈ zz_T := zz_mem 760 (by decide +kernel) (by decide +kernel)
set_option maxRecDepth 100000 in
theorem zl_9_15 : zz_FL "OneBlanket$Text" 15 9 2 := ⟨"OneBlanket$Text", zz_F 9, 3, rfl, by decide, zz_mem 404 (by decide +kernel) (by decide +kernel), by decide +kernel⟩
set_option maxRecDepth 100000 in
theorem zl_9_34 : Cond.methodLink "OneBlanket$Text" 34 y_Text_worthOfTwo ∈ zz_T := zz_mem 761 (by decide +kernel) (by decide +kernel)
set_option maxRecDepth 100000 in
theorem zcs_Text_worthOfTwo : zz_CS y_Text_worthOfTwo prog_11_method_6_code 3 (some .int) 3 := ⟨⟨zz_mem 763 (by decide +kernel) (by decide +kernel), zz_mem 90 (by decide +kernel) (by decide +kernel), ⟨by decide +kernel, by decide +kernel, by decide +kernel⟩, by decide⟩, zz_mem 762 (by decide +kernel) (by decide +kernel)⟩
set_option maxRecDepth 100000 in
theorem zl_4_190 : Cond.methodLink "OneBlanket$Night" 190 y_Lie_underOf ∈ zz_T := zz_mem 891 (by decide +kernel) (by decide +kernel)
set_option maxRecDepth 100000 in
theorem zl_4_193 : Cond.methodLink "OneBlanket$Night" 193 Lib.Math.abs.name ∈ zz_T := zz_mem 892 (by decide +kernel) (by decide +kernel)
set_option maxRecDepth 100000 in
theorem zl_4_196 : Cond.methodLink "OneBlanket$Night" 196 y_Bed_partOf ∈ zz_T := zz_mem 895 (by decide +kernel) (by decide +kernel)
set_option maxRecDepth 100000 in
theorem zl_4_200 : zz_FL "OneBlanket$Night" 200 0 10 := ⟨"OneBlanket$Bed", zz_F 0, 11, rfl, by decide, zz_mem 142 (by decide +kernel) (by decide +kernel), by decide +kernel⟩
set_option maxRecDepth 100000 in
theorem zl_4_203 : Cond.methodLink "OneBlanket$Night" 203 Lib.Math.max.name ∈ zz_T := zz_mem 896 (by decide +kernel) (by decide +kernel)
set_option maxRecDepth 100000 in
theorem zl_4_38 : zz_FL "OneBlanket$Night" 38 4 9 := ⟨"OneBlanket$Night", zz_F 4, 17, rfl, by decide, zz_mem 316 (by decide +kernel) (by decide +kernel), by decide +kernel⟩
set_option maxRecDepth 100000 in
theorem zl_4_206 : zz_FL "OneBlanket$Night" 206 0 8 := ⟨"OneBlanket$Bed", zz_F 0, 11, rfl, by decide, zz_mem 137 (by decide +kernel) (by decide +kernel), by decide +kernel⟩
set_option maxRecDepth 100000 in
theorem zl_4_53 : zz_FL "OneBlanket$Night" 53 4 3 := ⟨"OneBlanket$Night", zz_F 4, 17, rfl, by decide, zz_mem 307 (by decide +kernel) (by decide +kernel), by decide +kernel⟩
set_option maxRecDepth 100000 in
theorem zl_4_209 : Cond.methodLink "OneBlanket$Night" 209 y_Text_worth ∈ zz_T := zz_mem 897 (by decide +kernel) (by decide +kernel)
set_option maxRecDepth 100000 in
theorem zcv_Text_worth : zz_CV y_Text_worth prog_11_method_5_code 7 (some .int) 1 9 := ⟨⟨zz_mem 759 (by decide +kernel) (by decide +kernel), zz_mem 90 (by decide +kernel) (by decide +kernel), ⟨by decide +kernel, by decide +kernel, by decide +kernel⟩, by decide⟩, zz_mem 757 (by decide +kernel) (by decide +kernel), zz_mem 758 (by decide +kernel) (by decide +kernel), rfl⟩
set_option maxRecDepth 100000 in
theorem zl_4_116 : Cond.methodLink "OneBlanket$Night" 116 Lib.Math.min.name ∈ zz_T := zz_mem 898 (by decide +kernel) (by decide +kernel)
set_option maxRecDepth 100000 in
theorem zl_4_162 : zz_FL "OneBlanket$Night" 162 0 2 := ⟨"OneBlanket$Bed", zz_F 0, 11, rfl, by decide, zz_mem 124 (by decide +kernel) (by decide +kernel), by decide +kernel⟩
set_option maxRecDepth 100000 in
theorem zl_4_173 : Cond.methodLink "OneBlanket$Night" 173 y_Lie_moveSleeper ∈ zz_T := zz_mem 900 (by decide +kernel) (by decide +kernel)
set_option maxRecDepth 100000 in
theorem zl_4_176 : Cond.methodLink "OneBlanket$Night" 176 y_Lie_allCovers ∈ zz_T := zz_mem 901 (by decide +kernel) (by decide +kernel)
set_option maxRecDepth 100000 in
theorem zl_4_122 : zz_FL "OneBlanket$Night" 122 0 1 := ⟨"OneBlanket$Bed", zz_F 0, 11, rfl, by decide, zz_mem 120 (by decide +kernel) (by decide +kernel), by decide +kernel⟩
set_option maxRecDepth 100000 in
theorem zl_4_180 : Cond.methodLink "OneBlanket$Night" 180 y_Lie_coverAnew ∈ zz_T := zz_mem 902 (by decide +kernel) (by decide +kernel)
set_option maxRecDepth 100000 in
theorem zl_4_184 : zz_FL "OneBlanket$Night" 184 0 4 := ⟨"OneBlanket$Bed", zz_F 0, 11, rfl, by decide, zz_mem 129 (by decide +kernel) (by decide +kernel), by decide +kernel⟩
set_option maxRecDepth 100000 in
theorem zl_4_187 : Cond.methodLink "OneBlanket$Night" 187 y_Tally_wake ∈ zz_T := zz_mem 903 (by decide +kernel) (by decide +kernel)
set_option maxRecDepth 100000 in
theorem zl_4_25 : zz_FL "OneBlanket$Night" 25 4 8 := ⟨"OneBlanket$Night", zz_F 4, 17, rfl, by decide, zz_mem 315 (by decide +kernel) (by decide +kernel), by decide +kernel⟩
set_option maxRecDepth 100000 in
theorem zl_4_169 : Cond.methodLink "OneBlanket$Night" 169 y_Lie_moveCover ∈ zz_T := zz_mem 899 (by decide +kernel) (by decide +kernel)
set_option maxRecDepth 100000 in
theorem zl_4_165 : Cond.methodLink "OneBlanket$Night" 165 y_Night_pullOf ∈ zz_T := zz_mem 887 (by decide +kernel) (by decide +kernel)
set_option maxRecDepth 100000 in
theorem zcv_Night_pullOf : zz_CV y_Night_pullOf prog_6_method_10_code 8 (some .int) 4 4 := ⟨⟨zz_mem 890 (by decide +kernel) (by decide +kernel), zz_mem 85 (by decide +kernel) (by decide +kernel), ⟨by decide +kernel, by decide +kernel, by decide +kernel⟩, by decide⟩, zz_mem 889 (by decide +kernel) (by decide +kernel), zz_mem 13 (by decide +kernel) (by decide +kernel), rfl⟩
set_option maxRecDepth 100000 in
theorem zl_4_155 : Cond.methodLink "OneBlanket$Night" 155 y_Lie_feelWarmth ∈ zz_T := zz_mem 907 (by decide +kernel) (by decide +kernel)
set_option maxRecDepth 100000 in
theorem zl_4_158 : Cond.methodLink "OneBlanket$Night" 158 y_Night_roll ∈ zz_T := zz_mem 912 (by decide +kernel) (by decide +kernel)
set_option maxRecDepth 100000 in
theorem zcv_Night_roll : zz_CV y_Night_roll prog_6_method_8_code 1 (some .int) 0 4 := ⟨⟨zz_mem 915 (by decide +kernel) (by decide +kernel), zz_mem 85 (by decide +kernel) (by decide +kernel), ⟨by decide +kernel, by decide +kernel, by decide +kernel⟩, by decide⟩, zz_mem 914 (by decide +kernel) (by decide +kernel), zz_mem 15 (by decide +kernel) (by decide +kernel), rfl⟩
set_option maxRecDepth 100000 in
theorem zl_4_152 : Cond.methodLink "OneBlanket$Night" 152 y_Night_turnOver ∈ zz_T := zz_mem 883 (by decide +kernel) (by decide +kernel)
set_option maxRecDepth 100000 in
theorem zcv_Night_turnOver : zz_CV y_Night_turnOver prog_6_method_9_code 9 (none) 3 4 := ⟨⟨zz_mem 886 (by decide +kernel) (by decide +kernel), zz_mem 85 (by decide +kernel) (by decide +kernel), ⟨by decide +kernel, by decide +kernel, by decide +kernel⟩, by decide⟩, zz_mem 885 (by decide +kernel) (by decide +kernel), zz_mem 12 (by decide +kernel) (by decide +kernel), rfl⟩
set_option maxRecDepth 100000 in
theorem zl_4_45 : zz_FL "OneBlanket$Night" 45 4 1 := ⟨"OneBlanket$Night", zz_F 4, 17, rfl, by decide, zz_mem 305 (by decide +kernel) (by decide +kernel), by decide +kernel⟩
set_option maxRecDepth 100000 in
theorem zl_4_131 : zz_FL "OneBlanket$Night" 131 10 0 := ⟨"OneBlanket$Turns", zz_F 10, 5, rfl, by decide, zz_mem 175 (by decide +kernel) (by decide +kernel), by decide +kernel⟩
set_option maxRecDepth 100000 in
theorem zl_4_139 : zz_FL "OneBlanket$Night" 139 10 4 := ⟨"OneBlanket$Turns", zz_F 10, 5, rfl, by decide, zz_mem 184 (by decide +kernel) (by decide +kernel), by decide +kernel⟩
set_option maxRecDepth 100000 in
theorem zl_4_136 : zz_FL "OneBlanket$Night" 136 10 1 := ⟨"OneBlanket$Turns", zz_F 10, 5, rfl, by decide, zz_mem 178 (by decide +kernel) (by decide +kernel), by decide +kernel⟩
set_option maxRecDepth 100000 in
theorem zl_4_142 : zz_FL "OneBlanket$Night" 142 10 2 := ⟨"OneBlanket$Turns", zz_F 10, 5, rfl, by decide, zz_mem 180 (by decide +kernel) (by decide +kernel), by decide +kernel⟩
set_option maxRecDepth 100000 in
theorem zl_4_145 : Cond.methodLink "OneBlanket$Night" 145 y_Bed_hasSleeper ∈ zz_T := zz_mem 882 (by decide +kernel) (by decide +kernel)
set_option maxRecDepth 100000 in
theorem zcv_Bed_hasSleeper : zz_CV y_Bed_hasSleeper prog_2_method_2_code 2 (some .boolean) 1 0 := ⟨⟨zz_mem 548 (by decide +kernel) (by decide +kernel), zz_mem 80 (by decide +kernel) (by decide +kernel), ⟨by decide +kernel, by decide +kernel, by decide +kernel⟩, by decide⟩, zz_mem 546 (by decide +kernel) (by decide +kernel), zz_mem 547 (by decide +kernel) (by decide +kernel), rfl⟩
set_option maxRecDepth 100000 in
theorem zl_4_149 : zz_FL "OneBlanket$Night" 149 10 3 := ⟨"OneBlanket$Turns", zz_F 10, 5, rfl, by decide, zz_mem 182 (by decide +kernel) (by decide +kernel), by decide +kernel⟩
set_option maxRecDepth 100000 in
theorem zl_4_107 : zz_FL "OneBlanket$Night" 107 5 1 := ⟨"OneBlanket$Room", zz_F 5, 3, rfl, by decide, zz_mem 219 (by decide +kernel) (by decide +kernel), by decide +kernel⟩
set_option maxRecDepth 100000 in
theorem zl_4_112 : Cond.methodLink "OneBlanket$Night" 112 y_Night_minuteOfTurns ∈ zz_T := zz_mem 917 (by decide +kernel) (by decide +kernel)
set_option maxRecDepth 100000 in
theorem zcv_Night_minuteOfTurns : zz_CV y_Night_minuteOfTurns prog_6_method_5_code 2 (some .int) 1 4 := ⟨⟨zz_mem 920 (by decide +kernel) (by decide +kernel), zz_mem 85 (by decide +kernel) (by decide +kernel), ⟨by decide +kernel, by decide +kernel, by decide +kernel⟩, by decide⟩, zz_mem 919 (by decide +kernel) (by decide +kernel), zz_mem 16 (by decide +kernel) (by decide +kernel), rfl⟩
set_option maxRecDepth 100000 in
theorem zl_4_127 : Cond.methodLink "OneBlanket$Night" 127 y_Night_countIn ∈ zz_T := zz_mem 921 (by decide +kernel) (by decide +kernel)
set_option maxRecDepth 100000 in
theorem zcv_Night_countIn : zz_CV y_Night_countIn prog_6_method_12_code 5 (none) 3 4 := ⟨⟨zz_mem 924 (by decide +kernel) (by decide +kernel), zz_mem 85 (by decide +kernel) (by decide +kernel), ⟨by decide +kernel, by decide +kernel, by decide +kernel⟩, by decide⟩, zz_mem 923 (by decide +kernel) (by decide +kernel), zz_mem 17 (by decide +kernel) (by decide +kernel), rfl⟩
set_option maxRecDepth 100000 in
theorem zl_4_104 : Cond.methodLink "OneBlanket$Night" 104 y_Night_doDrawn ∈ zz_T := zz_mem 908 (by decide +kernel) (by decide +kernel)
set_option maxRecDepth 100000 in
theorem zcv_Night_doDrawn : zz_CV y_Night_doDrawn prog_6_method_7_code 4 (none) 1 4 := ⟨⟨zz_mem 911 (by decide +kernel) (by decide +kernel), zz_mem 85 (by decide +kernel) (by decide +kernel), ⟨by decide +kernel, by decide +kernel, by decide +kernel⟩, by decide⟩, zz_mem 910 (by decide +kernel) (by decide +kernel), zz_mem 14 (by decide +kernel) (by decide +kernel), rfl⟩
set_option maxRecDepth 100000 in
theorem zl_4_100 : Cond.methodLink "OneBlanket$Night" 100 y_Night_doTold ∈ zz_T := zz_mem 878 (by decide +kernel) (by decide +kernel)
set_option maxRecDepth 100000 in
theorem zcv_Night_doTold : zz_CV y_Night_doTold prog_6_method_6_code 5 (none) 1 4 := ⟨⟨zz_mem 881 (by decide +kernel) (by decide +kernel), zz_mem 85 (by decide +kernel) (by decide +kernel), ⟨by decide +kernel, by decide +kernel, by decide +kernel⟩, by decide⟩, zz_mem 880 (by decide +kernel) (by decide +kernel), zz_mem 11 (by decide +kernel) (by decide +kernel), rfl⟩
set_option maxRecDepth 100000 in
theorem zl_5_15 : zz_FL "OneBlanket$Room" 15 5 1 := ⟨"OneBlanket$Room", zz_F 5, 3, rfl, by decide, zz_mem 218 (by decide +kernel) (by decide +kernel), by decide +kernel⟩
set_option maxRecDepth 100000 in
theorem zl_5_9 : zz_FL "OneBlanket$Room" 9 5 0 := ⟨"OneBlanket$Room", zz_F 5, 3, rfl, by decide, zz_mem 216 (by decide +kernel) (by decide +kernel), by decide +kernel⟩
set_option maxRecDepth 100000 in
theorem zl_5_28 : zz_FL "OneBlanket$Room" 28 5 2 := ⟨"OneBlanket$Room", zz_F 5, 3, rfl, by decide, zz_mem 220 (by decide +kernel) (by decide +kernel), by decide +kernel⟩
set_option maxRecDepth 100000 in
theorem zl_5_37 : Cond.methodLink "OneBlanket$Room" 37 y_Text_worth ∈ zz_T := zz_mem 756 (by decide +kernel) (by decide +kernel)
set_option maxRecDepth 100000 in
theorem zl_5_41 : Cond.methodLink "OneBlanket$Room" 41 Lib.Math.min.name ∈ zz_T := zz_mem 764 (by decide +kernel) (by decide +kernel)
set_option maxRecDepth 100000 in
theorem zl_5_47 : Cond.methodLink "OneBlanket$Room" 47 Lib.Math.max.name ∈ zz_T := zz_mem 765 (by decide +kernel) (by decide +kernel)
set_option maxRecDepth 100000 in
theorem zl_6_25 : zz_FL "OneBlanket$Shelf" 25 6 3 := ⟨"OneBlanket$Shelf", zz_F 6, 5, rfl, by decide, zz_mem 466 (by decide +kernel) (by decide +kernel), by decide +kernel⟩
set_option maxRecDepth 100000 in
theorem zl_6_11 : zz_FL "OneBlanket$Shelf" 11 6 0 := ⟨"OneBlanket$Shelf", zz_F 6, 5, rfl, by decide, zz_mem 461 (by decide +kernel) (by decide +kernel), by decide +kernel⟩
theorem zpf_6_0 : zz_PF 6 0 := zz_PF.of (by decide +kernel) (by decide +kernel) rfl
set_option maxRecDepth 100000 in
theorem zl_6_22 : zz_FL "OneBlanket$Shelf" 22 6 1 := ⟨"OneBlanket$Shelf", zz_F 6, 5, rfl, by decide, zz_mem 462 (by decide +kernel) (by decide +kernel), by decide +kernel⟩
theorem zpf_6_1 : zz_PF 6 1 := zz_PF.of (by decide +kernel) (by decide +kernel) rfl
set_option maxRecDepth 100000 in
theorem zl_6_19 : zz_FL "OneBlanket$Shelf" 19 6 2 := ⟨"OneBlanket$Shelf", zz_F 6, 5, rfl, by decide, zz_mem 464 (by decide +kernel) (by decide +kernel), by decide +kernel⟩
theorem zpf_6_2 : zz_PF 6 2 := zz_PF.of (by decide +kernel) (by decide +kernel) rfl
theorem zpf_6_3 : zz_PF 6 3 := zz_PF.of (by decide +kernel) (by decide +kernel) rfl
set_option maxRecDepth 100000 in
theorem zl_6_15 : zz_FL "OneBlanket$Shelf" 15 6 4 := ⟨"OneBlanket$Shelf", zz_F 6, 5, rfl, by decide, zz_mem 468 (by decide +kernel) (by decide +kernel), by decide +kernel⟩
set_option maxRecDepth 100000 in
theorem zl_6_28 : Cond.methodLink "OneBlanket$Shelf" 28 y_Arr_fillJ ∈ zz_T := zz_mem 1112 (by decide +kernel) (by decide +kernel)
set_option maxRecDepth 100000 in
theorem zcs_Arr_fillJ : zz_CS y_Arr_fillJ prog_22_method_101_code 5 (none) 2 := ⟨⟨zz_mem 1114 (by decide +kernel) (by decide +kernel), zz_mem 84 (by decide +kernel) (by decide +kernel), ⟨by decide +kernel, by decide +kernel, by decide +kernel⟩, by decide⟩, zz_mem 1113 (by decide +kernel) (by decide +kernel)⟩
set_option maxRecDepth 100000 in
theorem zl_7_40 : Cond.methodLink "OneBlanket$Tally" 40 Lib.Math.min.name ∈ zz_T := zz_mem 989 (by decide +kernel) (by decide +kernel)
set_option maxRecDepth 100000 in
theorem zl_8_22 : zz_FL "OneBlanket$Tape" 22 8 0 := ⟨"OneBlanket$Tape", zz_F 8, 5, rfl, by decide, zz_mem 412 (by decide +kernel) (by decide +kernel), by decide +kernel⟩
set_option maxRecDepth 100000 in
theorem zl_8_18 : zz_FL "OneBlanket$Tape" 18 8 2 := ⟨"OneBlanket$Tape", zz_F 8, 5, rfl, by decide, zz_mem 416 (by decide +kernel) (by decide +kernel), by decide +kernel⟩
theorem zpf_8_0 : zz_PF 8 0 := zz_PF.of (by decide +kernel) (by decide +kernel) rfl
set_option maxRecDepth 100000 in
theorem zl_8_29 : zz_FL "OneBlanket$Tape" 29 8 4 := ⟨"OneBlanket$Tape", zz_F 8, 5, rfl, by decide, zz_mem 418 (by decide +kernel) (by decide +kernel), by decide +kernel⟩
set_option maxRecDepth 100000 in
theorem zl_8_26 : zz_FL "OneBlanket$Tape" 26 8 3 := ⟨"OneBlanket$Tape", zz_F 8, 5, rfl, by decide, zz_mem 417 (by decide +kernel) (by decide +kernel), by decide +kernel⟩
theorem zpf_8_4 : zz_PF 8 4 := zz_PF.of (by decide +kernel) (by decide +kernel) rfl
set_option maxRecDepth 100000 in
theorem zl_Str_38 : Cond.fieldLink "java/lang/String" 38 "java/lang/String" "COMPACT_STRINGS" "Z" ∈ zz_T := zz_mem 211 (by decide +kernel) (by decide +kernel)
set_option maxRecDepth 100000 in
theorem zl_Str_15 : Cond.fieldLink "java/lang/String" 15 "java/lang/String" "coder" "B" ∈ zz_T := zz_mem 1741 (by decide +kernel) (by decide +kernel)
set_option maxRecDepth 100000 in
theorem zl_Str_9 : Cond.fieldLink "java/lang/String" 9 "java/lang/String" "value" "[B" ∈ zz_T := zz_mem 1740 (by decide +kernel) (by decide +kernel)
set_option maxRecDepth 100000 in
theorem zl_Str_335 : Cond.methodLink "java/lang/String" 335 y_Str_coder ∈ zz_T := zz_mem 207 (by decide +kernel) (by decide +kernel)
set_option maxRecDepth 100000 in
theorem zcv_Str_coder : zz_MC y_Str_coder prog_18_method_152_code 1 (some .byte) 0 ∧ Cond.instanceMethod y_Str_coder ∈ zz_T ∧ Cond.selects y_Str_coder.cls y_Str_coder y_Str_coder ∈ zz_T ∧ y_Str_coder.cls = "java/lang/String" := ⟨⟨zz_mem 210 (by decide +kernel) (by decide +kernel), zz_mem 83 (by decide +kernel) (by decide +kernel), ⟨by decide +kernel, by decide +kernel, by decide +kernel⟩, by decide⟩, zz_mem 208 (by decide +kernel) (by decide +kernel), zz_mem 209 (by decide +kernel) (by decide +kernel), rfl⟩
set_option maxRecDepth 100000 in
theorem zl_Lat_88 : Cond.methodLink "java/lang/StringLatin1" 88 y_Lat_canEncode ∈ zz_T := zz_mem 647 (by decide +kernel) (by decide +kernel)
set_option maxRecDepth 100000 in
theorem zcs_Lat_canEncode : zz_CS y_Lat_canEncode prog_19_method_4_code 1 (some .boolean) 1 := ⟨⟨zz_mem 649 (by decide +kernel) (by decide +kernel), zz_mem 95 (by decide +kernel) (by decide +kernel), ⟨by decide +kernel, by decide +kernel, by decide +kernel⟩, by decide⟩, zz_mem 648 (by decide +kernel) (by decide +kernel)⟩
set_option maxRecDepth 100000 in
theorem zl_Lat_92 : Cond.methodLink "java/lang/StringLatin1" 92 Lib.Math.max.name ∈ zz_T := zz_mem 650 (by decide +kernel) (by decide +kernel)
set_option maxRecDepth 100000 in
theorem zl_Lat_38 : Cond.methodLink "java/lang/StringLatin1" 38 Lib.Math.min.name ∈ zz_T := zz_mem 653 (by decide +kernel) (by decide +kernel)
set_option maxRecDepth 100000 in
theorem zl_Lat_95 : Cond.methodLink "java/lang/StringLatin1" 95 y_Lat_indexOfChar ∈ zz_T := zz_mem 656 (by decide +kernel) (by decide +kernel)
set_option maxRecDepth 100000 in
theorem zcs_Lat_indexOfChar : zz_CS y_Lat_indexOfChar prog_19_method_23_code 6 (some .int) 4 := ⟨⟨zz_mem 658 (by decide +kernel) (by decide +kernel), zz_mem 95 (by decide +kernel) (by decide +kernel), ⟨by decide +kernel, by decide +kernel, by decide +kernel⟩, by decide⟩, zz_mem 657 (by decide +kernel) (by decide +kernel)⟩
set_option maxRecDepth 100000 in
theorem zl_Str_492 : Cond.methodLink "java/lang/String" 492 y_Str_isLatin1 ∈ zz_T := zz_mem 639 (by decide +kernel) (by decide +kernel)
set_option maxRecDepth 100000 in
theorem zcv_Str_isLatin1 : zz_MC y_Str_isLatin1 prog_18_method_154_code 1 (some .boolean) 0 ∧ Cond.instanceMethod y_Str_isLatin1 ∈ zz_T ∧ Cond.selects y_Str_isLatin1.cls y_Str_isLatin1 y_Str_isLatin1 ∈ zz_T ∧ y_Str_isLatin1.cls = "java/lang/String" := ⟨⟨zz_mem 642 (by decide +kernel) (by decide +kernel), zz_mem 83 (by decide +kernel) (by decide +kernel), ⟨by decide +kernel, by decide +kernel, by decide +kernel⟩, by decide⟩, zz_mem 640 (by decide +kernel) (by decide +kernel), zz_mem 641 (by decide +kernel) (by decide +kernel), rfl⟩
set_option maxRecDepth 100000 in
theorem zl_Str_505 : Cond.methodLink "java/lang/String" 505 y_Str_length ∈ zz_T := zz_mem 643 (by decide +kernel) (by decide +kernel)
set_option maxRecDepth 100000 in
theorem zcv_Str_length : zz_MC y_Str_length prog_18_method_54_code 1 (some .int) 0 ∧ Cond.instanceMethod y_Str_length ∈ zz_T ∧ Cond.selects y_Str_length.cls y_Str_length y_Str_length ∈ zz_T ∧ y_Str_length.cls = "java/lang/String" := ⟨⟨zz_mem 206 (by decide +kernel) (by decide +kernel), zz_mem 83 (by decide +kernel) (by decide +kernel), ⟨by decide +kernel, by decide +kernel, by decide +kernel⟩, by decide⟩, zz_mem 204 (by decide +kernel) (by decide +kernel), zz_mem 205 (by decide +kernel) (by decide +kernel), rfl⟩
set_option maxRecDepth 100000 in
theorem zl_Str_637 : Cond.methodLink "java/lang/String" 637 y_Lat_indexOf ∈ zz_T := zz_mem 644 (by decide +kernel) (by decide +kernel)
set_option maxRecDepth 100000 in
theorem zcs_Lat_indexOf : zz_CS y_Lat_indexOf prog_19_method_22_code 4 (some .int) 4 := ⟨⟨zz_mem 646 (by decide +kernel) (by decide +kernel), zz_mem 95 (by decide +kernel) (by decide +kernel), ⟨by decide +kernel, by decide +kernel, by decide +kernel⟩, by decide⟩, zz_mem 645 (by decide +kernel) (by decide +kernel)⟩
set_option maxRecDepth 100000 in
theorem zl_Str_633 : Cond.methodLink "java/lang/String" 633 y_Str_indexOf2 ∈ zz_T := zz_mem 635 (by decide +kernel) (by decide +kernel)
set_option maxRecDepth 100000 in
theorem zcv_Str_indexOf2 : zz_MC y_Str_indexOf2 prog_18_method_80_code 3 (some .int) 2 ∧ Cond.instanceMethod y_Str_indexOf2 ∈ zz_T ∧ Cond.selects y_Str_indexOf2.cls y_Str_indexOf2 y_Str_indexOf2 ∈ zz_T ∧ y_Str_indexOf2.cls = "java/lang/String" := ⟨⟨zz_mem 638 (by decide +kernel) (by decide +kernel), zz_mem 83 (by decide +kernel) (by decide +kernel), ⟨by decide +kernel, by decide +kernel, by decide +kernel⟩, by decide⟩, zz_mem 636 (by decide +kernel) (by decide +kernel), zz_mem 637 (by decide +kernel) (by decide +kernel), rfl⟩
set_option maxRecDepth 100000 in
theorem zl_8_93 : Cond.methodLink "OneBlanket$Tape" 93 y_Str_indexOf1 ∈ zz_T := zz_mem 631 (by decide +kernel) (by decide +kernel)
set_option maxRecDepth 100000 in
theorem zcv_Str_indexOf1 : zz_MC y_Str_indexOf1 prog_18_method_79_code 2 (some .int) 1 ∧ Cond.instanceMethod y_Str_indexOf1 ∈ zz_T ∧ Cond.selects y_Str_indexOf1.cls y_Str_indexOf1 y_Str_indexOf1 ∈ zz_T ∧ y_Str_indexOf1.cls = "java/lang/String" := ⟨⟨zz_mem 634 (by decide +kernel) (by decide +kernel), zz_mem 83 (by decide +kernel) (by decide +kernel), ⟨by decide +kernel, by decide +kernel, by decide +kernel⟩, by decide⟩, zz_mem 632 (by decide +kernel) (by decide +kernel), zz_mem 633 (by decide +kernel) (by decide +kernel), rfl⟩
set_option maxRecDepth 100000 in
theorem zl_8_79 : Cond.methodLink "OneBlanket$Tape" 79 y_Tape_peek ∈ zz_T := zz_mem 624 (by decide +kernel) (by decide +kernel)
set_option maxRecDepth 100000 in
theorem zcv_Tape_peek : zz_CV y_Tape_peek prog_10_method_11_code 1 (some .int) 0 8 := ⟨⟨zz_mem 627 (by decide +kernel) (by decide +kernel), zz_mem 89 (by decide +kernel) (by decide +kernel), ⟨by decide +kernel, by decide +kernel, by decide +kernel⟩, by decide⟩, zz_mem 626 (by decide +kernel) (by decide +kernel), zz_mem 4 (by decide +kernel) (by decide +kernel), rfl⟩
set_option maxRecDepth 100000 in
theorem zl_8_83 : Cond.methodLink "OneBlanket$Tape" 83 y_Tape_placeIn ∈ zz_T := zz_mem 628 (by decide +kernel) (by decide +kernel)
set_option maxRecDepth 100000 in
theorem zcs_Tape_placeIn : zz_CS y_Tape_placeIn prog_10_method_10_code 2 (some .int) 2 := ⟨⟨zz_mem 630 (by decide +kernel) (by decide +kernel), zz_mem 89 (by decide +kernel) (by decide +kernel), ⟨by decide +kernel, by decide +kernel, by decide +kernel⟩, by decide⟩, zz_mem 629 (by decide +kernel) (by decide +kernel)⟩
theorem zpf_8_3 : zz_PF 8 3 := zz_PF.of (by decide +kernel) (by decide +kernel) rfl
theorem zpf_9_0 : zz_PF 9 0 := zz_PF.of (by decide +kernel) (by decide +kernel) rfl
set_option maxRecDepth 100000 in
theorem zl_8_12 : zz_FL "OneBlanket$Tape" 12 8 1 := ⟨"OneBlanket$Tape", zz_F 8, 5, rfl, by decide, zz_mem 414 (by decide +kernel) (by decide +kernel), by decide +kernel⟩
set_option maxRecDepth 100000 in
theorem zl_8_49 : Cond.methodLink "OneBlanket$Tape" 49 y_Text_add ∈ zz_T := zz_mem 715 (by decide +kernel) (by decide +kernel)
set_option maxRecDepth 100000 in
theorem zcv_Text_add : zz_CV y_Text_add prog_11_method_2_code 2 (none) 1 9 := ⟨⟨zz_mem 718 (by decide +kernel) (by decide +kernel), zz_mem 90 (by decide +kernel) (by decide +kernel), ⟨by decide +kernel, by decide +kernel, by decide +kernel⟩, by decide⟩, zz_mem 716 (by decide +kernel) (by decide +kernel), zz_mem 717 (by decide +kernel) (by decide +kernel), rfl⟩
set_option maxRecDepth 100000 in
theorem zl_8_87 : Cond.methodLink "OneBlanket$Tape" 87 y_Tape_isDigit ∈ zz_T := zz_mem 708 (by decide +kernel) (by decide +kernel)
set_option maxRecDepth 100000 in
theorem zcs_Tape_isDigit : zz_CS y_Tape_isDigit prog_10_method_9_code 1 (some .boolean) 1 := ⟨⟨zz_mem 710 (by decide +kernel) (by decide +kernel), zz_mem 89 (by decide +kernel) (by decide +kernel), ⟨by decide +kernel, by decide +kernel, by decide +kernel⟩, by decide⟩, zz_mem 709 (by decide +kernel) (by decide +kernel)⟩
set_option maxRecDepth 100000 in
theorem zl_8_38 : Cond.methodLink "OneBlanket$Tape" 38 y_Tape_takes ∈ zz_T := zz_mem 723 (by decide +kernel) (by decide +kernel)
set_option maxRecDepth 100000 in
theorem zcv_Tape_takes : zz_CV y_Tape_takes prog_10_method_12_code 2 (some .boolean) 1 8 := ⟨⟨zz_mem 726 (by decide +kernel) (by decide +kernel), zz_mem 89 (by decide +kernel) (by decide +kernel), ⟨by decide +kernel, by decide +kernel, by decide +kernel⟩, by decide⟩, zz_mem 725 (by decide +kernel) (by decide +kernel), zz_mem 7 (by decide +kernel) (by decide +kernel), rfl⟩
set_option maxRecDepth 100000 in
theorem zl_8_42 : Cond.methodLink "OneBlanket$Tape" 42 y_Tape_fail ∈ zz_T := zz_mem 719 (by decide +kernel) (by decide +kernel)
set_option maxRecDepth 100000 in
theorem zcv_Tape_fail : zz_CV y_Tape_fail prog_10_method_14_code 1 (none) 0 8 := ⟨⟨zz_mem 722 (by decide +kernel) (by decide +kernel), zz_mem 89 (by decide +kernel) (by decide +kernel), ⟨by decide +kernel, by decide +kernel, by decide +kernel⟩, by decide⟩, zz_mem 721 (by decide +kernel) (by decide +kernel), zz_mem 6 (by decide +kernel) (by decide +kernel), rfl⟩
set_option maxRecDepth 100000 in
theorem zl_8_66 : Cond.methodLink "OneBlanket$Tape" 66 y_Tape_readOperand ∈ zz_T := zz_mem 619 (by decide +kernel) (by decide +kernel)
set_option maxRecDepth 100000 in
theorem zcv_Tape_readOperand : zz_CV y_Tape_readOperand prog_10_method_7_code 3 (none) 1 8 := ⟨⟨zz_mem 622 (by decide +kernel) (by decide +kernel), zz_mem 89 (by decide +kernel) (by decide +kernel), ⟨by decide +kernel, by decide +kernel, by decide +kernel⟩, by decide⟩, zz_mem 621 (by decide +kernel) (by decide +kernel), zz_mem 3 (by decide +kernel) (by decide +kernel), rfl⟩
set_option maxRecDepth 100000 in
theorem zl_8_45 : Cond.methodLink "OneBlanket$Tape" 45 y_Tape_readLevel ∈ zz_T := zz_mem 615 (by decide +kernel) (by decide +kernel)
set_option maxRecDepth 100000 in
theorem zcv_Tape_readLevel : zz_CV y_Tape_readLevel prog_10_method_6_code 5 (none) 2 8 := ⟨⟨zz_mem 618 (by decide +kernel) (by decide +kernel), zz_mem 89 (by decide +kernel) (by decide +kernel), ⟨by decide +kernel, by decide +kernel, by decide +kernel⟩, by decide⟩, zz_mem 617 (by decide +kernel) (by decide +kernel), zz_mem 2 (by decide +kernel) (by decide +kernel), rfl⟩
set_option maxRecDepth 100000 in
theorem zl_8_90 : Cond.methodLink "OneBlanket$Tape" 90 y_Tape_readNumber ∈ zz_T := zz_mem 711 (by decide +kernel) (by decide +kernel)
set_option maxRecDepth 100000 in
theorem zcv_Tape_readNumber : zz_CV y_Tape_readNumber prog_10_method_8_code 3 (none) 0 8 := ⟨⟨zz_mem 714 (by decide +kernel) (by decide +kernel), zz_mem 89 (by decide +kernel) (by decide +kernel), ⟨by decide +kernel, by decide +kernel, by decide +kernel⟩, by decide⟩, zz_mem 713 (by decide +kernel) (by decide +kernel), zz_mem 5 (by decide +kernel) (by decide +kernel), rfl⟩
set_option maxRecDepth 100000 in
theorem zl_8_69 : Cond.methodLink "OneBlanket$Tape" 69 y_Tape_signsOf ∈ zz_T := zz_mem 727 (by decide +kernel) (by decide +kernel)
set_option maxRecDepth 100000 in
theorem zcs_Tape_signsOf : zz_CS y_Tape_signsOf prog_10_method_5_code 1 (some (.object "java/lang/String")) 1 := ⟨⟨zz_mem 729 (by decide +kernel) (by decide +kernel), zz_mem 89 (by decide +kernel) (by decide +kernel), ⟨by decide +kernel, by decide +kernel, by decide +kernel⟩, by decide⟩, zz_mem 728 (by decide +kernel) (by decide +kernel)⟩
set_option maxRecDepth 100000 in
theorem zl_8_73 : Cond.methodLink "OneBlanket$Tape" 73 y_Tape_takesOneOf ∈ zz_T := zz_mem 735 (by decide +kernel) (by decide +kernel)
set_option maxRecDepth 100000 in
theorem zcv_Tape_takesOneOf : zz_CV y_Tape_takesOneOf prog_10_method_13_code 3 (some .int) 1 8 := ⟨⟨zz_mem 738 (by decide +kernel) (by decide +kernel), zz_mem 89 (by decide +kernel) (by decide +kernel), ⟨by decide +kernel, by decide +kernel, by decide +kernel⟩, by decide⟩, zz_mem 737 (by decide +kernel) (by decide +kernel), zz_mem 8 (by decide +kernel) (by decide +kernel), rfl⟩
set_option maxRecDepth 100000 in
theorem zl_8_32 : zz_FL "OneBlanket$Tape" 32 9 0 := ⟨"OneBlanket$Text", zz_F 9, 3, rfl, by decide, zz_mem 402 (by decide +kernel) (by decide +kernel), by decide +kernel⟩
set_option maxRecDepth 100000 in
theorem zl_8_53 : Cond.methodLink "OneBlanket$Tape" 53 y_Text_skipToEnd ∈ zz_T := zz_mem 739 (by decide +kernel) (by decide +kernel)
set_option maxRecDepth 100000 in
theorem zcv_Text_skipToEnd : zz_CV y_Text_skipToEnd prog_11_method_3_code 2 (none) 1 9 := ⟨⟨zz_mem 742 (by decide +kernel) (by decide +kernel), zz_mem 90 (by decide +kernel) (by decide +kernel), ⟨by decide +kernel, by decide +kernel, by decide +kernel⟩, by decide⟩, zz_mem 740 (by decide +kernel) (by decide +kernel), zz_mem 741 (by decide +kernel) (by decide +kernel), rfl⟩
set_option maxRecDepth 100000 in
theorem zl_8_35 : Cond.methodLink "OneBlanket$Tape" 35 y_Tape_readLine ∈ zz_T := zz_mem 611 (by decide +kernel) (by decide +kernel)
set_option maxRecDepth 100000 in
theorem zcv_Tape_readLine : zz_CV y_Tape_readLine prog_10_method_4_code 2 (none) 0 8 := ⟨⟨zz_mem 614 (by decide +kernel) (by decide +kernel), zz_mem 89 (by decide +kernel) (by decide +kernel), ⟨by decide +kernel, by decide +kernel, by decide +kernel⟩, by decide⟩, zz_mem 613 (by decide +kernel) (by decide +kernel), zz_mem 1 (by decide +kernel) (by decide +kernel), rfl⟩
set_option maxRecDepth 100000 in
theorem zl_9_22 : Cond.methodLink "OneBlanket$Text" 22 arraycopyName ∈ zz_T := zz_mem 747 (by decide +kernel) (by decide +kernel)
set_option maxRecDepth 100000 in
theorem zl_10_9 : zz_FL "OneBlanket$Turns" 9 10 1 := ⟨"OneBlanket$Turns", zz_F 10, 5, rfl, by decide, zz_mem 177 (by decide +kernel) (by decide +kernel), by decide +kernel⟩
set_option maxRecDepth 100000 in
theorem zl_10_28 : zz_FL "OneBlanket$Turns" 28 10 0 := ⟨"OneBlanket$Turns", zz_F 10, 5, rfl, by decide, zz_mem 174 (by decide +kernel) (by decide +kernel), by decide +kernel⟩
set_option maxRecDepth 100000 in
theorem zl_10_15 : zz_FL "OneBlanket$Turns" 15 10 2 := ⟨"OneBlanket$Turns", zz_F 10, 5, rfl, by decide, zz_mem 179 (by decide +kernel) (by decide +kernel), by decide +kernel⟩
set_option maxRecDepth 100000 in
theorem zl_10_18 : zz_FL "OneBlanket$Turns" 18 10 3 := ⟨"OneBlanket$Turns", zz_F 10, 5, rfl, by decide, zz_mem 181 (by decide +kernel) (by decide +kernel), by decide +kernel⟩
set_option maxRecDepth 100000 in
theorem zl_10_21 : zz_FL "OneBlanket$Turns" 21 10 4 := ⟨"OneBlanket$Turns", zz_F 10, 5, rfl, by decide, zz_mem 183 (by decide +kernel) (by decide +kernel), by decide +kernel⟩
theorem zpf_10_0 : zz_PF 10 0 := zz_PF.of (by decide +kernel) (by decide +kernel) rfl
theorem zl_10_24n : Cond.methodLinkNest "OneBlanket$Turns" 24 y_B_isMinute "OneBlanket" ∈ zz_nst := by decide
set_option maxRecDepth 100000 in
theorem zcs_B_isMinute : zz_CS y_B_isMinute prog_1_method_22_code 1 (some .boolean) 1 := ⟨⟨zz_mem 779 (by decide +kernel) (by decide +kernel), zz_mem 79 (by decide +kernel) (by decide +kernel), ⟨by decide +kernel, by decide +kernel, by decide +kernel⟩, by decide⟩, zz_mem 778 (by decide +kernel) (by decide +kernel)⟩
set_option maxRecDepth 100000 in
theorem zl_11_72 : zz_FL "OneBlanket" 72 11 9 := ⟨"OneBlanket", zz_F 11, 13, rfl, by decide, zz_mem 490 (by decide +kernel) (by decide +kernel), by decide +kernel⟩
set_option maxRecDepth 100000 in
theorem zl_11_280 : Cond.methodLink "OneBlanket" 280 y_B_swapInOrder ∈ zz_T := zz_mem 1007 (by decide +kernel) (by decide +kernel)
set_option maxRecDepth 100000 in
theorem zcv_B_swapInOrder : zz_CV y_B_swapInOrder prog_1_method_30_code 4 (none) 2 11 := ⟨⟨zz_mem 1010 (by decide +kernel) (by decide +kernel), zz_mem 79 (by decide +kernel) (by decide +kernel), ⟨by decide +kernel, by decide +kernel, by decide +kernel⟩, by decide⟩, zz_mem 1009 (by decide +kernel) (by decide +kernel), zz_mem 20 (by decide +kernel) (by decide +kernel), rfl⟩
set_option maxRecDepth 100000 in
theorem zl_11_12 : zz_FL "OneBlanket" 12 11 0 := ⟨"OneBlanket", zz_F 11, 13, rfl, by decide, zz_mem 481 (by decide +kernel) (by decide +kernel), by decide +kernel⟩
set_option maxRecDepth 100000 in
theorem zl_11_85 : zz_FL "OneBlanket" 85 0 1 := ⟨"OneBlanket$Bed", zz_F 0, 11, rfl, by decide, zz_mem 118 (by decide +kernel) (by decide +kernel), by decide +kernel⟩
set_option maxRecDepth 100000 in
theorem zl_11_76 : zz_FL "OneBlanket" 76 11 10 := ⟨"OneBlanket", zz_F 11, 13, rfl, by decide, zz_mem 491 (by decide +kernel) (by decide +kernel), by decide +kernel⟩
set_option maxRecDepth 100000 in
theorem zl_11_270 : Cond.methodLink "OneBlanket" 270 y_Bed_laySideBySide ∈ zz_T := zz_mem 994 (by decide +kernel) (by decide +kernel)
set_option maxRecDepth 100000 in
theorem zcv_Bed_laySideBySide : zz_CV y_Bed_laySideBySide prog_2_method_13_code 6 (none) 2 0 := ⟨⟨zz_mem 997 (by decide +kernel) (by decide +kernel), zz_mem 80 (by decide +kernel) (by decide +kernel), ⟨by decide +kernel, by decide +kernel, by decide +kernel⟩, by decide⟩, zz_mem 995 (by decide +kernel) (by decide +kernel), zz_mem 996 (by decide +kernel) (by decide +kernel), rfl⟩
set_option maxRecDepth 100000 in
theorem zl_11_41 : zz_FL "OneBlanket" 41 11 4 := ⟨"OneBlanket", zz_F 11, 13, rfl, by decide, zz_mem 485 (by decide +kernel) (by decide +kernel), by decide +kernel⟩
set_option maxRecDepth 100000 in
theorem zl_11_79 : zz_FL "OneBlanket" 79 11 12 := ⟨"OneBlanket", zz_F 11, 13, rfl, by decide, zz_mem 493 (by decide +kernel) (by decide +kernel), by decide +kernel⟩
set_option maxRecDepth 100000 in
theorem zl_11_245 : Cond.methodLink "OneBlanket" 245 y_Night_begin ∈ zz_T := zz_mem 816 (by decide +kernel) (by decide +kernel)
set_option maxRecDepth 100000 in
theorem zcv_Night_begin : zz_CV y_Night_begin prog_6_method_2_code 3 (none) 2 4 := ⟨⟨zz_mem 819 (by decide +kernel) (by decide +kernel), zz_mem 85 (by decide +kernel) (by decide +kernel), ⟨by decide +kernel, by decide +kernel, by decide +kernel⟩, by decide⟩, zz_mem 817 (by decide +kernel) (by decide +kernel), zz_mem 818 (by decide +kernel) (by decide +kernel), rfl⟩
set_option maxRecDepth 100000 in
theorem zl_11_249 : Cond.methodLink "OneBlanket" 249 y_Night_play ∈ zz_T := zz_mem 874 (by decide +kernel) (by decide +kernel)
set_option maxRecDepth 100000 in
theorem zcv_Night_play : zz_CV y_Night_play prog_6_method_4_code 5 (none) 1 4 := ⟨⟨zz_mem 877 (by decide +kernel) (by decide +kernel), zz_mem 85 (by decide +kernel) (by decide +kernel), ⟨by decide +kernel, by decide +kernel, by decide +kernel⟩, by decide⟩, zz_mem 875 (by decide +kernel) (by decide +kernel), zz_mem 876 (by decide +kernel) (by decide +kernel), rfl⟩
set_option maxRecDepth 100000 in
theorem zl_11_220 : zz_FL "OneBlanket" 220 4 5 := ⟨"OneBlanket$Night", zz_F 4, 17, rfl, by decide, zz_mem 311 (by decide +kernel) (by decide +kernel), by decide +kernel⟩
set_option maxRecDepth 100000 in
theorem zl_11_267 : Cond.methodLink "OneBlanket" 267 y_Tally_leastEasy ∈ zz_T := zz_mem 985 (by decide +kernel) (by decide +kernel)
set_option maxRecDepth 100000 in
theorem zcv_Tally_leastEasy : zz_CV y_Tally_leastEasy prog_9_method_6_code 4 (some .int) 1 7 := ⟨⟨zz_mem 988 (by decide +kernel) (by decide +kernel), zz_mem 86 (by decide +kernel) (by decide +kernel), ⟨by decide +kernel, by decide +kernel, by decide +kernel⟩, by decide⟩, zz_mem 986 (by decide +kernel) (by decide +kernel), zz_mem 987 (by decide +kernel) (by decide +kernel), rfl⟩
set_option maxRecDepth 100000 in
theorem zl_11_277 : Cond.methodLink "OneBlanket" 277 y_B_goToNextOrder ∈ zz_T := zz_mem 1003 (by decide +kernel) (by decide +kernel)
set_option maxRecDepth 100000 in
theorem zcv_B_goToNextOrder : zz_CV y_B_goToNextOrder prog_1_method_29_code 6 (some .boolean) 1 11 := ⟨⟨zz_mem 1006 (by decide +kernel) (by decide +kernel), zz_mem 79 (by decide +kernel) (by decide +kernel), ⟨by decide +kernel, by decide +kernel, by decide +kernel⟩, by decide⟩, zz_mem 1005 (by decide +kernel) (by decide +kernel), zz_mem 19 (by decide +kernel) (by decide +kernel), rfl⟩
set_option maxRecDepth 100000 in
theorem zl_11_274 : Cond.methodLink "OneBlanket" 274 y_B_orderAsDigits ∈ zz_T := zz_mem 999 (by decide +kernel) (by decide +kernel)
set_option maxRecDepth 100000 in
theorem zcv_B_orderAsDigits : zz_CV y_B_orderAsDigits prog_1_method_28_code 4 (some .int) 1 11 := ⟨⟨zz_mem 1002 (by decide +kernel) (by decide +kernel), zz_mem 79 (by decide +kernel) (by decide +kernel), ⟨by decide +kernel, by decide +kernel, by decide +kernel⟩, by decide⟩, zz_mem 1001 (by decide +kernel) (by decide +kernel), zz_mem 18 (by decide +kernel) (by decide +kernel), rfl⟩
set_option maxRecDepth 100000 in
theorem zl_11_62 : zz_FL "OneBlanket" 62 11 7 := ⟨"OneBlanket", zz_F 11, 13, rfl, by decide, zz_mem 488 (by decide +kernel) (by decide +kernel), by decide +kernel⟩
set_option maxRecDepth 100000 in
theorem zl_11_324 : Cond.methodLink "OneBlanket" 324 y_Bodies_runFirst ∈ zz_T := zz_mem 1065 (by decide +kernel) (by decide +kernel)
set_option maxRecDepth 100000 in
theorem zcv_Bodies_runFirst : zz_CV y_Bodies_runFirst prog_3_method_7_code 4 (some .int) 3 1 := ⟨⟨zz_mem 1068 (by decide +kernel) (by decide +kernel), zz_mem 91 (by decide +kernel) (by decide +kernel), ⟨by decide +kernel, by decide +kernel, by decide +kernel⟩, by decide⟩, zz_mem 1066 (by decide +kernel) (by decide +kernel), zz_mem 1067 (by decide +kernel) (by decide +kernel), rfl⟩
set_option maxRecDepth 100000 in
theorem zl_11_318 : Cond.methodLink "OneBlanket" 318 y_B_isKind ∈ zz_T := zz_mem 1054 (by decide +kernel) (by decide +kernel)
set_option maxRecDepth 100000 in
theorem zcs_B_isKind : zz_CS y_B_isKind prog_1_method_49_code 1 (some .boolean) 1 := ⟨⟨zz_mem 1056 (by decide +kernel) (by decide +kernel), zz_mem 79 (by decide +kernel) (by decide +kernel), ⟨by decide +kernel, by decide +kernel, by decide +kernel⟩, by decide⟩, zz_mem 1055 (by decide +kernel) (by decide +kernel)⟩
set_option maxRecDepth 100000 in
theorem zl_11_321 : zz_FL "OneBlanket" 321 1 0 := ⟨"OneBlanket$Bodies", zz_F 1, 4, rfl, by decide, zz_mem 437 (by decide +kernel) (by decide +kernel), by decide +kernel⟩
set_option maxRecDepth 100000 in
theorem zl_11_322 : Cond.methodLink "OneBlanket" 322 y_Bodies_add ∈ zz_T := zz_mem 1057 (by decide +kernel) (by decide +kernel)
set_option maxRecDepth 100000 in
theorem zcv_Bodies_add : zz_CV y_Bodies_add prog_3_method_3_code 2 (some .int) 1 1 := ⟨⟨zz_mem 1060 (by decide +kernel) (by decide +kernel), zz_mem 91 (by decide +kernel) (by decide +kernel), ⟨by decide +kernel, by decide +kernel, by decide +kernel⟩, by decide⟩, zz_mem 1058 (by decide +kernel) (by decide +kernel), zz_mem 1059 (by decide +kernel) (by decide +kernel), rfl⟩
set_option maxRecDepth 100000 in
theorem zl_11_244 : zz_FL "OneBlanket" 244 0 3 := ⟨"OneBlanket$Bed", zz_F 0, 11, rfl, by decide, zz_mem 126 (by decide +kernel) (by decide +kernel), by decide +kernel⟩
set_option maxRecDepth 100000 in
theorem zl_11_105 : Cond.methodLink "OneBlanket" 105 y_Bed_hasCover ∈ zz_T := zz_mem 549 (by decide +kernel) (by decide +kernel)
set_option maxRecDepth 100000 in
theorem zcv_Bed_hasCover : zz_CV y_Bed_hasCover prog_2_method_3_code 2 (some .boolean) 1 0 := ⟨⟨zz_mem 552 (by decide +kernel) (by decide +kernel), zz_mem 80 (by decide +kernel) (by decide +kernel), ⟨by decide +kernel, by decide +kernel, by decide +kernel⟩, by decide⟩, zz_mem 550 (by decide +kernel) (by decide +kernel), zz_mem 551 (by decide +kernel) (by decide +kernel), rfl⟩
set_option maxRecDepth 100000 in
theorem zl_11_192 : Cond.methodLink "OneBlanket" 192 y_B_isMinute ∈ zz_T := zz_mem 811 (by decide +kernel) (by decide +kernel)
set_option maxRecDepth 100000 in
theorem zl_11_252 : zz_FL "OneBlanket" 252 0 8 := ⟨"OneBlanket$Bed", zz_F 0, 11, rfl, by decide, zz_mem 138 (by decide +kernel) (by decide +kernel), by decide +kernel⟩
set_option maxRecDepth 100000 in
theorem zl_11_195 : Cond.methodLink "OneBlanket" 195 y_B_playTo ∈ zz_T := zz_mem 812 (by decide +kernel) (by decide +kernel)
set_option maxRecDepth 100000 in
theorem zcv_B_playTo : zz_CV y_B_playTo prog_1_method_23_code 2 (none) 1 11 := ⟨⟨zz_mem 815 (by decide +kernel) (by decide +kernel), zz_mem 79 (by decide +kernel) (by decide +kernel), ⟨by decide +kernel, by decide +kernel, by decide +kernel⟩, by decide⟩, zz_mem 814 (by decide +kernel) (by decide +kernel), zz_mem 10 (by decide +kernel) (by decide +kernel), rfl⟩
set_option maxRecDepth 100000 in
theorem zl_11_198 : zz_FL "OneBlanket" 198 4 4 := ⟨"OneBlanket$Night", zz_F 4, 17, rfl, by decide, zz_mem 309 (by decide +kernel) (by decide +kernel), by decide +kernel⟩
set_option maxRecDepth 100000 in
theorem zl_11_255 : Cond.methodLink "OneBlanket" 255 y_Lie_isNoneBare ∈ zz_T := zz_mem 968 (by decide +kernel) (by decide +kernel)
set_option maxRecDepth 100000 in
theorem zcv_Lie_isNoneBare : zz_CV y_Lie_isNoneBare prog_5_method_10_code 2 (some .boolean) 0 3 := ⟨⟨zz_mem 971 (by decide +kernel) (by decide +kernel), zz_mem 87 (by decide +kernel) (by decide +kernel), ⟨by decide +kernel, by decide +kernel, by decide +kernel⟩, by decide⟩, zz_mem 969 (by decide +kernel) (by decide +kernel), zz_mem 970 (by decide +kernel) (by decide +kernel), rfl⟩
set_option maxRecDepth 100000 in
theorem zl_11_19 : zz_FL "OneBlanket" 19 11 1 := ⟨"OneBlanket", zz_F 11, 13, rfl, by decide, zz_mem 482 (by decide +kernel) (by decide +kernel), by decide +kernel⟩
set_option maxRecDepth 100000 in
theorem zl_11_165 : zz_FL "OneBlanket" 165 10 0 := ⟨"OneBlanket$Turns", zz_F 10, 5, rfl, by decide, zz_mem 176 (by decide +kernel) (by decide +kernel), by decide +kernel⟩
set_option maxRecDepth 100000 in
theorem zl_11_95 : zz_FL "OneBlanket" 95 0 2 := ⟨"OneBlanket$Bed", zz_F 0, 11, rfl, by decide, zz_mem 123 (by decide +kernel) (by decide +kernel), by decide +kernel⟩
set_option maxRecDepth 100000 in
theorem zl_11_143 : zz_FL "OneBlanket" 143 11 11 := ⟨"OneBlanket", zz_F 11, 13, rfl, by decide, zz_mem 492 (by decide +kernel) (by decide +kernel), by decide +kernel⟩
set_option maxRecDepth 100000 in
theorem zl_11_55 : zz_FL "OneBlanket" 55 11 6 := ⟨"OneBlanket", zz_F 11, 13, rfl, by decide, zz_mem 487 (by decide +kernel) (by decide +kernel), by decide +kernel⟩
set_option maxRecDepth 100000 in
theorem zl_11_137 : zz_FL "OneBlanket" 137 8 0 := ⟨"OneBlanket$Tape", zz_F 8, 5, rfl, by decide, zz_mem 413 (by decide +kernel) (by decide +kernel), by decide +kernel⟩
set_option maxRecDepth 100000 in
theorem zl_11_48 : zz_FL "OneBlanket" 48 11 5 := ⟨"OneBlanket", zz_F 11, 13, rfl, by decide, zz_mem 486 (by decide +kernel) (by decide +kernel), by decide +kernel⟩
set_option maxRecDepth 100000 in
theorem zl_11_305 : zz_FL "OneBlanket" 305 2 0 := ⟨"OneBlanket$Changes", zz_F 2, 6, rfl, by decide, zz_mem 369 (by decide +kernel) (by decide +kernel), by decide +kernel⟩
set_option maxRecDepth 100000 in
theorem zl_11_327 : zz_FL "OneBlanket" 327 1 1 := ⟨"OneBlanket$Bodies", zz_F 1, 4, rfl, by decide, zz_mem 439 (by decide +kernel) (by decide +kernel), by decide +kernel⟩
set_option maxRecDepth 100000 in
theorem zl_11_98 : Cond.methodLink "OneBlanket" 98 y_Bed_addCover ∈ zz_T := zz_mem 537 (by decide +kernel) (by decide +kernel)
set_option maxRecDepth 100000 in
theorem zcv_Bed_addCover : zz_CV y_Bed_addCover prog_2_method_5_code 5 (some .int) 4 0 := ⟨⟨zz_mem 540 (by decide +kernel) (by decide +kernel), zz_mem 80 (by decide +kernel) (by decide +kernel), ⟨by decide +kernel, by decide +kernel, by decide +kernel⟩, by decide⟩, zz_mem 538 (by decide +kernel) (by decide +kernel), zz_mem 539 (by decide +kernel) (by decide +kernel), rfl⟩
set_option maxRecDepth 100000 in
theorem zl_11_127 : Jvm.Cond.constant "OneBlanket" 127 (-2000000000 : Int32) ∈ zz_T := zz_mem 582 (by decide +kernel) (by decide +kernel)
set_option maxRecDepth 100000 in
theorem zl_11_284 : Cond.methodLink "OneBlanket" 284 y_Night_drawTurns ∈ zz_T := zz_mem 1015 (by decide +kernel) (by decide +kernel)
set_option maxRecDepth 100000 in
theorem zcv_Night_drawTurns : zz_CV y_Night_drawTurns prog_6_method_3_code 3 (none) 2 4 := ⟨⟨zz_mem 1018 (by decide +kernel) (by decide +kernel), zz_mem 85 (by decide +kernel) (by decide +kernel), ⟨by decide +kernel, by decide +kernel, by decide +kernel⟩, by decide⟩, zz_mem 1016 (by decide +kernel) (by decide +kernel), zz_mem 1017 (by decide +kernel) (by decide +kernel), rfl⟩
set_option maxRecDepth 100000 in
theorem zl_11_287 : zz_FL "OneBlanket" 287 4 15 := ⟨"OneBlanket$Night", zz_F 4, 17, rfl, by decide, zz_mem 325 (by decide +kernel) (by decide +kernel), by decide +kernel⟩
set_option maxRecDepth 100000 in
theorem zl_11_202 : zz_FL "OneBlanket" 202 3 4 := ⟨"OneBlanket$Lie", zz_F 3, 7, rfl, by decide, zz_mem 285 (by decide +kernel) (by decide +kernel), by decide +kernel⟩
set_option maxRecDepth 100000 in
theorem zl_11_224 : zz_FL "OneBlanket" 224 7 0 := ⟨"OneBlanket$Tally", zz_F 7, 6, rfl, by decide, zz_mem 245 (by decide +kernel) (by decide +kernel), by decide +kernel⟩
set_option maxRecDepth 100000 in
theorem zl_11_101 : Cond.methodLink "OneBlanket" 101 y_Bed_hasSleeper ∈ zz_T := zz_mem 545 (by decide +kernel) (by decide +kernel)
set_option maxRecDepth 100000 in
theorem zl_11_171 : Cond.methodLink "OneBlanket" 171 y_B_hasShelf ∈ zz_T := zz_mem 788 (by decide +kernel) (by decide +kernel)
set_option maxRecDepth 100000 in
theorem zcs_B_hasShelf : zz_CS y_B_hasShelf prog_1_method_48_code 1 (some .boolean) 1 := ⟨⟨zz_mem 790 (by decide +kernel) (by decide +kernel), zz_mem 79 (by decide +kernel) (by decide +kernel), ⟨by decide +kernel, by decide +kernel, by decide +kernel⟩, by decide⟩, zz_mem 789 (by decide +kernel) (by decide +kernel)⟩
set_option maxRecDepth 100000 in
theorem zl_11_68 : zz_FL "OneBlanket" 68 11 8 := ⟨"OneBlanket", zz_F 11, 13, rfl, by decide, zz_mem 489 (by decide +kernel) (by decide +kernel), by decide +kernel⟩
set_option maxRecDepth 100000 in
theorem zl_11_174 : Cond.methodLink "OneBlanket" 174 y_Shelf_isEmpty ∈ zz_T := zz_mem 791 (by decide +kernel) (by decide +kernel)
set_option maxRecDepth 100000 in
theorem zcv_Shelf_isEmpty : zz_CV y_Shelf_isEmpty prog_8_method_2_code 1 (some .boolean) 0 6 := ⟨⟨zz_mem 794 (by decide +kernel) (by decide +kernel), zz_mem 92 (by decide +kernel) (by decide +kernel), ⟨by decide +kernel, by decide +kernel, by decide +kernel⟩, by decide⟩, zz_mem 792 (by decide +kernel) (by decide +kernel), zz_mem 793 (by decide +kernel) (by decide +kernel), rfl⟩
set_option maxRecDepth 100000 in
theorem zl_11_353 : Cond.methodLink "OneBlanket" 353 y_Shelf_isRow ∈ zz_T := zz_mem 1123 (by decide +kernel) (by decide +kernel)
set_option maxRecDepth 100000 in
theorem zcv_Shelf_isRow : zz_CV y_Shelf_isRow prog_8_method_4_code 1 (some .boolean) 0 6 := ⟨⟨zz_mem 1126 (by decide +kernel) (by decide +kernel), zz_mem 92 (by decide +kernel) (by decide +kernel), ⟨by decide +kernel, by decide +kernel, by decide +kernel⟩, by decide⟩, zz_mem 1124 (by decide +kernel) (by decide +kernel), zz_mem 1125 (by decide +kernel) (by decide +kernel), rfl⟩
set_option maxRecDepth 100000 in
theorem zl_11_185 : zz_FL "OneBlanket" 185 6 3 := ⟨"OneBlanket$Shelf", zz_F 6, 5, rfl, by decide, zz_mem 467 (by decide +kernel) (by decide +kernel), by decide +kernel⟩
set_option maxRecDepth 100000 in
theorem zl_11_342 : Cond.methodLink "OneBlanket" 342 y_B_refusalOfPlace ∈ zz_T := zz_mem 1119 (by decide +kernel) (by decide +kernel)
set_option maxRecDepth 100000 in
theorem zcv_B_refusalOfPlace : zz_CV y_B_refusalOfPlace prog_1_method_44_code 4 (some .int) 2 11 := ⟨⟨zz_mem 1122 (by decide +kernel) (by decide +kernel), zz_mem 79 (by decide +kernel) (by decide +kernel), ⟨by decide +kernel, by decide +kernel, by decide +kernel⟩, by decide⟩, zz_mem 1121 (by decide +kernel) (by decide +kernel), zz_mem 25 (by decide +kernel) (by decide +kernel), rfl⟩
set_option maxRecDepth 100000 in
theorem zl_11_188 : zz_FL "OneBlanket" 188 6 4 := ⟨"OneBlanket$Shelf", zz_F 6, 5, rfl, by decide, zz_mem 469 (by decide +kernel) (by decide +kernel), by decide +kernel⟩
set_option maxRecDepth 100000 in
theorem zl_11_351 : Jvm.Cond.constantLong "OneBlanket" 351 (-9223372036854775808 : Int64) ∈ zz_T := zz_mem 1135 (by decide +kernel) (by decide +kernel)
set_option maxRecDepth 100000 in
theorem zl_11_140 : Cond.methodLink "OneBlanket" 140 y_Tape_add ∈ zz_T := zz_mem 599 (by decide +kernel) (by decide +kernel)
set_option maxRecDepth 100000 in
theorem zcv_Tape_add : zz_CV y_Tape_add prog_10_method_2_code 2 (none) 1 8 := ⟨⟨zz_mem 602 (by decide +kernel) (by decide +kernel), zz_mem 89 (by decide +kernel) (by decide +kernel), ⟨by decide +kernel, by decide +kernel, by decide +kernel⟩, by decide⟩, zz_mem 600 (by decide +kernel) (by decide +kernel), zz_mem 601 (by decide +kernel) (by decide +kernel), rfl⟩
set_option maxRecDepth 100000 in
theorem zl_11_302 : Cond.methodLink "OneBlanket" 302 Lib.Math.min.name ∈ zz_T := zz_mem 1032 (by decide +kernel) (by decide +kernel)
set_option maxRecDepth 100000 in
theorem zl_11_178 : Cond.methodLink "OneBlanket" 178 y_Shelf_isRowOf ∈ zz_T := zz_mem 795 (by decide +kernel) (by decide +kernel)
set_option maxRecDepth 100000 in
theorem zcv_Shelf_isRowOf : zz_CV y_Shelf_isRowOf prog_8_method_5_code 2 (some .boolean) 1 6 := ⟨⟨zz_mem 798 (by decide +kernel) (by decide +kernel), zz_mem 92 (by decide +kernel) (by decide +kernel), ⟨by decide +kernel, by decide +kernel, by decide +kernel⟩, by decide⟩, zz_mem 796 (by decide +kernel) (by decide +kernel), zz_mem 797 (by decide +kernel) (by decide +kernel), rfl⟩
set_option maxRecDepth 100000 in
theorem zl_11_298 : Cond.methodLink "OneBlanket" 298 y_B_isFilmOf ∈ zz_T := zz_mem 1028 (by decide +kernel) (by decide +kernel)
set_option maxRecDepth 100000 in
theorem zcv_B_isFilmOf : zz_CV y_B_isFilmOf prog_1_method_34_code 4 (some .boolean) 2 11 := ⟨⟨zz_mem 1031 (by decide +kernel) (by decide +kernel), zz_mem 79 (by decide +kernel) (by decide +kernel), ⟨by decide +kernel, by decide +kernel, by decide +kernel⟩, by decide⟩, zz_mem 1030 (by decide +kernel) (by decide +kernel), zz_mem 21 (by decide +kernel) (by decide +kernel), rfl⟩
theorem zpf_11_12 : zz_PF 11 12 := zz_PF.of (by decide +kernel) (by decide +kernel) rfl
set_option maxRecDepth 100000 in
theorem zl_11_336 : Cond.methodLink "OneBlanket" 336 y_Shelf_holdBody ∈ zz_T := zz_mem 1100 (by decide +kernel) (by decide +kernel)
set_option maxRecDepth 100000 in
theorem zcv_Shelf_holdBody : zz_CV y_Shelf_holdBody prog_8_method_7_code 2 (none) 1 6 := ⟨⟨zz_mem 1103 (by decide +kernel) (by decide +kernel), zz_mem 92 (by decide +kernel) (by decide +kernel), ⟨by decide +kernel, by decide +kernel, by decide +kernel⟩, by decide⟩, zz_mem 1101 (by decide +kernel) (by decide +kernel), zz_mem 1102 (by decide +kernel) (by decide +kernel), rfl⟩
set_option maxRecDepth 100000 in
theorem zl_11_333 : Cond.methodLink "OneBlanket" 333 y_Shelf_holdNothing ∈ zz_T := zz_mem 1096 (by decide +kernel) (by decide +kernel)
set_option maxRecDepth 100000 in
theorem zcv_Shelf_holdNothing : zz_CV y_Shelf_holdNothing prog_8_method_6_code 1 (none) 0 6 := ⟨⟨zz_mem 1099 (by decide +kernel) (by decide +kernel), zz_mem 92 (by decide +kernel) (by decide +kernel), ⟨by decide +kernel, by decide +kernel, by decide +kernel⟩, by decide⟩, zz_mem 1097 (by decide +kernel) (by decide +kernel), zz_mem 1098 (by decide +kernel) (by decide +kernel), rfl⟩
set_option maxRecDepth 100000 in
theorem zl_11_146 : Cond.methodLink "OneBlanket" 146 y_Tape_readAll ∈ zz_T := zz_mem 607 (by decide +kernel) (by decide +kernel)
set_option maxRecDepth 100000 in
theorem zcv_Tape_readAll : zz_CV y_Tape_readAll prog_10_method_3_code 2 (some .int) 0 8 := ⟨⟨zz_mem 610 (by decide +kernel) (by decide +kernel), zz_mem 89 (by decide +kernel) (by decide +kernel), ⟨by decide +kernel, by decide +kernel, by decide +kernel⟩, by decide⟩, zz_mem 608 (by decide +kernel) (by decide +kernel), zz_mem 609 (by decide +kernel) (by decide +kernel), rfl⟩
set_option maxRecDepth 100000 in
theorem zl_11_32 : zz_FL "OneBlanket" 32 11 3 := ⟨"OneBlanket", zz_F 11, 13, rfl, by decide, zz_mem 484 (by decide +kernel) (by decide +kernel), by decide +kernel⟩
set_option maxRecDepth 100000 in
theorem zl_11_150 : zz_FL "OneBlanket" 150 8 1 := ⟨"OneBlanket$Tape", zz_F 8, 5, rfl, by decide, zz_mem 415 (by decide +kernel) (by decide +kernel), by decide +kernel⟩
set_option maxRecDepth 100000 in
theorem zl_11_154 : Cond.methodLink "OneBlanket" 154 y_Text_become ∈ zz_T := zz_mem 743 (by decide +kernel) (by decide +kernel)
set_option maxRecDepth 100000 in
theorem zcv_Text_become : zz_CV y_Text_become prog_11_method_4_code 2 (none) 1 9 := ⟨⟨zz_mem 746 (by decide +kernel) (by decide +kernel), zz_mem 90 (by decide +kernel) (by decide +kernel), ⟨by decide +kernel, by decide +kernel, by decide +kernel⟩, by decide⟩, zz_mem 744 (by decide +kernel) (by decide +kernel), zz_mem 745 (by decide +kernel) (by decide +kernel), rfl⟩
theorem zpf_11_11 : zz_PF 11 11 := zz_PF.of (by decide +kernel) (by decide +kernel) rfl
set_option maxRecDepth 100000 in
theorem zl_11_108 : Cond.methodLink "OneBlanket" 108 y_B_leastOf ∈ zz_T := zz_mem 553 (by decide +kernel) (by decide +kernel)
set_option maxRecDepth 100000 in
theorem zcs_B_leastOf : zz_CS y_B_leastOf prog_1_method_6_code 1 (some .int) 1 := ⟨⟨zz_mem 555 (by decide +kernel) (by decide +kernel), zz_mem 79 (by decide +kernel) (by decide +kernel), ⟨by decide +kernel, by decide +kernel, by decide +kernel⟩, by decide⟩, zz_mem 554 (by decide +kernel) (by decide +kernel)⟩
set_option maxRecDepth 100000 in
theorem zl_11_112 : Cond.methodLink "OneBlanket" 112 y_B_mostOf ∈ zz_T := zz_mem 556 (by decide +kernel) (by decide +kernel)
set_option maxRecDepth 100000 in
theorem zcs_B_mostOf : zz_CS y_B_mostOf prog_1_method_7_code 1 (some .int) 1 := ⟨⟨zz_mem 558 (by decide +kernel) (by decide +kernel), zz_mem 79 (by decide +kernel) (by decide +kernel), ⟨by decide +kernel, by decide +kernel, by decide +kernel⟩, by decide⟩, zz_mem 557 (by decide +kernel) (by decide +kernel)⟩
set_option maxRecDepth 100000 in
theorem zl_11_115 : Cond.methodLink "OneBlanket" 115 y_Bed_mendable ∈ zz_T := zz_mem 559 (by decide +kernel) (by decide +kernel)
set_option maxRecDepth 100000 in
theorem zl_11_119 : Cond.methodLink "OneBlanket" 119 y_Changes_add ∈ zz_T := zz_mem 563 (by decide +kernel) (by decide +kernel)
set_option maxRecDepth 100000 in
theorem zcv_Changes_add : zz_CV y_Changes_add prog_4_method_2_code 5 (none) 4 2 := ⟨⟨zz_mem 566 (by decide +kernel) (by decide +kernel), zz_mem 88 (by decide +kernel) (by decide +kernel), ⟨by decide +kernel, by decide +kernel, by decide +kernel⟩, by decide⟩, zz_mem 564 (by decide +kernel) (by decide +kernel), zz_mem 565 (by decide +kernel) (by decide +kernel), rfl⟩
set_option maxRecDepth 100000 in
theorem zl_11_229 : zz_FL "OneBlanket" 229 7 1 := ⟨"OneBlanket$Tally", zz_F 7, 6, rfl, by decide, zz_mem 247 (by decide +kernel) (by decide +kernel), by decide +kernel⟩
set_option maxRecDepth 100000 in
theorem zl_11_232 : zz_FL "OneBlanket" 232 7 2 := ⟨"OneBlanket$Tally", zz_F 7, 6, rfl, by decide, zz_mem 250 (by decide +kernel) (by decide +kernel), by decide +kernel⟩
set_option maxRecDepth 100000 in
theorem zl_11_290 : zz_FL "OneBlanket" 290 4 14 := ⟨"OneBlanket$Night", zz_F 4, 17, rfl, by decide, zz_mem 323 (by decide +kernel) (by decide +kernel), by decide +kernel⟩
set_option maxRecDepth 100000 in
theorem zl_11_293 : Cond.methodLink "OneBlanket" 293 Lib.Math.abs.name ∈ zz_T := zz_mem 1023 (by decide +kernel) (by decide +kernel)
set_option maxRecDepth 100000 in
theorem zl_11_131 : Cond.methodLink "OneBlanket" 131 y_Turns_has ∈ zz_T := zz_mem 587 (by decide +kernel) (by decide +kernel)
set_option maxRecDepth 100000 in
theorem zcv_Turns_has : zz_CV y_Turns_has prog_12_method_3_code 2 (some .boolean) 1 10 := ⟨⟨zz_mem 590 (by decide +kernel) (by decide +kernel), zz_mem 81 (by decide +kernel) (by decide +kernel), ⟨by decide +kernel, by decide +kernel, by decide +kernel⟩, by decide⟩, zz_mem 588 (by decide +kernel) (by decide +kernel), zz_mem 589 (by decide +kernel) (by decide +kernel), rfl⟩
set_option maxRecDepth 100000 in
theorem zl_11_134 : Cond.methodLink "OneBlanket" 134 y_Turns_ofTurn ∈ zz_T := zz_mem 591 (by decide +kernel) (by decide +kernel)
set_option maxRecDepth 100000 in
theorem zcv_Turns_ofTurn : zz_CV y_Turns_ofTurn prog_12_method_5_code 3 (some .int) 2 10 := ⟨⟨zz_mem 594 (by decide +kernel) (by decide +kernel), zz_mem 81 (by decide +kernel) (by decide +kernel), ⟨by decide +kernel, by decide +kernel, by decide +kernel⟩, by decide⟩, zz_mem 592 (by decide +kernel) (by decide +kernel), zz_mem 593 (by decide +kernel) (by decide +kernel), rfl⟩
set_option maxRecDepth 100000 in
theorem zl_11_128 : Cond.methodLink "OneBlanket" 128 y_Bed_ofCover ∈ zz_T := zz_mem 583 (by decide +kernel) (by decide +kernel)
set_option maxRecDepth 100000 in
theorem zcv_Bed_ofCover : zz_CV y_Bed_ofCover prog_2_method_8_code 3 (some .int) 2 0 := ⟨⟨zz_mem 586 (by decide +kernel) (by decide +kernel), zz_mem 80 (by decide +kernel) (by decide +kernel), ⟨by decide +kernel, by decide +kernel, by decide +kernel⟩, by decide⟩, zz_mem 584 (by decide +kernel) (by decide +kernel), zz_mem 585 (by decide +kernel) (by decide +kernel), rfl⟩
set_option maxRecDepth 100000 in
theorem zl_11_123 : Cond.methodLink "OneBlanket" 123 y_Bed_ofSleeper ∈ zz_T := zz_mem 578 (by decide +kernel) (by decide +kernel)
set_option maxRecDepth 100000 in
theorem zcv_Bed_ofSleeper : zz_CV y_Bed_ofSleeper prog_2_method_7_code 3 (some .int) 2 0 := ⟨⟨zz_mem 581 (by decide +kernel) (by decide +kernel), zz_mem 80 (by decide +kernel) (by decide +kernel), ⟨by decide +kernel, by decide +kernel, by decide +kernel⟩, by decide⟩, zz_mem 579 (by decide +kernel) (by decide +kernel), zz_mem 580 (by decide +kernel) (by decide +kernel), rfl⟩
set_option maxRecDepth 100000 in
theorem zl_11_345 : Cond.methodLink "OneBlanket" 345 y_Shelf_set ∈ zz_T := zz_mem 1127 (by decide +kernel) (by decide +kernel)
set_option maxRecDepth 100000 in
theorem zcv_Shelf_set : zz_CV y_Shelf_set prog_8_method_10_code 4 (none) 2 6 := ⟨⟨zz_mem 1130 (by decide +kernel) (by decide +kernel), zz_mem 92 (by decide +kernel) (by decide +kernel), ⟨by decide +kernel, by decide +kernel, by decide +kernel⟩, by decide⟩, zz_mem 1128 (by decide +kernel) (by decide +kernel), zz_mem 1129 (by decide +kernel) (by decide +kernel), rfl⟩
set_option maxRecDepth 100000 in
theorem zl_11_312 : zz_FL "OneBlanket" 312 2 1 := ⟨"OneBlanket$Changes", zz_F 2, 6, rfl, by decide, zz_mem 371 (by decide +kernel) (by decide +kernel), by decide +kernel⟩
set_option maxRecDepth 100000 in
theorem zl_11_315 : Cond.methodLink "OneBlanket" 315 y_Changes_doAgain ∈ zz_T := zz_mem 1046 (by decide +kernel) (by decide +kernel)
set_option maxRecDepth 100000 in
theorem zcv_Changes_doAgain : zz_CV y_Changes_doAgain prog_4_method_5_code 2 (none) 1 2 := ⟨⟨zz_mem 1049 (by decide +kernel) (by decide +kernel), zz_mem 88 (by decide +kernel) (by decide +kernel), ⟨by decide +kernel, by decide +kernel, by decide +kernel⟩, by decide⟩, zz_mem 1047 (by decide +kernel) (by decide +kernel), zz_mem 1048 (by decide +kernel) (by decide +kernel), rfl⟩
set_option maxRecDepth 100000 in
theorem zl_11_26 : zz_FL "OneBlanket" 26 11 2 := ⟨"OneBlanket", zz_F 11, 13, rfl, by decide, zz_mem 483 (by decide +kernel) (by decide +kernel), by decide +kernel⟩
set_option maxRecDepth 100000 in
theorem zl_11_158 : Cond.methodLink "OneBlanket" 158 y_Room_warmBy ∈ zz_T := zz_mem 752 (by decide +kernel) (by decide +kernel)
set_option maxRecDepth 100000 in
theorem zcv_Room_warmBy : zz_CV y_Room_warmBy prog_7_method_2_code 4 (none) 1 5 := ⟨⟨zz_mem 755 (by decide +kernel) (by decide +kernel), zz_mem 82 (by decide +kernel) (by decide +kernel), ⟨by decide +kernel, by decide +kernel, by decide +kernel⟩, by decide⟩, zz_mem 753 (by decide +kernel) (by decide +kernel), zz_mem 754 (by decide +kernel) (by decide +kernel), rfl⟩
set_option maxRecDepth 100000 in
theorem zl_11_339 : Cond.methodLink "OneBlanket" 339 y_Shelf_holdRow ∈ zz_T := zz_mem 1108 (by decide +kernel) (by decide +kernel)
set_option maxRecDepth 100000 in
theorem zcv_Shelf_holdRow : zz_CV y_Shelf_holdRow prog_8_method_8_code 3 (none) 2 6 := ⟨⟨zz_mem 1111 (by decide +kernel) (by decide +kernel), zz_mem 92 (by decide +kernel) (by decide +kernel), ⟨by decide +kernel, by decide +kernel, by decide +kernel⟩, by decide⟩, zz_mem 1109 (by decide +kernel) (by decide +kernel), zz_mem 1110 (by decide +kernel) (by decide +kernel), rfl⟩
set_option maxRecDepth 100000 in
theorem zl_11_356 : zz_FL "OneBlanket" 356 6 2 := ⟨"OneBlanket$Shelf", zz_F 6, 5, rfl, by decide, zz_mem 465 (by decide +kernel) (by decide +kernel), by decide +kernel⟩
set_option maxRecDepth 100000 in
theorem zl_11_359 : Cond.methodLink "OneBlanket" 359 y_Shelf_hasPlaces ∈ zz_T := zz_mem 1140 (by decide +kernel) (by decide +kernel)
set_option maxRecDepth 100000 in
theorem zcv_Shelf_hasPlaces : zz_CV y_Shelf_hasPlaces prog_8_method_9_code 3 (some .boolean) 2 6 := ⟨⟨zz_mem 1143 (by decide +kernel) (by decide +kernel), zz_mem 92 (by decide +kernel) (by decide +kernel), ⟨by decide +kernel, by decide +kernel, by decide +kernel⟩, by decide⟩, zz_mem 1141 (by decide +kernel) (by decide +kernel), zz_mem 1142 (by decide +kernel) (by decide +kernel), rfl⟩
set_option maxRecDepth 100000 in
theorem zl_11_362 : Cond.methodLink "OneBlanket" 362 arraycopyName ∈ zz_T := zz_mem 1144 (by decide +kernel) (by decide +kernel)
set_option maxRecDepth 100000 in
theorem zl_11_88 : zz_FL "OneBlanket" 88 0 0 := ⟨"OneBlanket$Bed", zz_F 0, 11, rfl, by decide, zz_mem 116 (by decide +kernel) (by decide +kernel), by decide +kernel⟩
set_option maxRecDepth 100000 in
theorem zl_11_91 : Cond.methodLink "OneBlanket" 91 y_Bed_addSleeper ∈ zz_T := zz_mem 529 (by decide +kernel) (by decide +kernel)
set_option maxRecDepth 100000 in
theorem zcv_Bed_addSleeper : zz_CV y_Bed_addSleeper prog_2_method_4_code 5 (some .int) 4 0 := ⟨⟨zz_mem 532 (by decide +kernel) (by decide +kernel), zz_mem 80 (by decide +kernel) (by decide +kernel), ⟨by decide +kernel, by decide +kernel, by decide +kernel⟩, by decide⟩, zz_mem 530 (by decide +kernel) (by decide +kernel), zz_mem 531 (by decide +kernel) (by decide +kernel), rfl⟩
set_option maxRecDepth 100000 in
theorem zl_11_207 : Cond.methodLink "OneBlanket" 207 y_Night_warmOf ∈ zz_T := zz_mem 950 (by decide +kernel) (by decide +kernel)
set_option maxRecDepth 100000 in
theorem zl_11_210 : zz_FL "OneBlanket" 210 3 1 := ⟨"OneBlanket$Lie", zz_F 3, 7, rfl, by decide, zz_mem 279 (by decide +kernel) (by decide +kernel), by decide +kernel⟩
set_option maxRecDepth 100000 in
theorem zl_11_213 : zz_FL "OneBlanket" 213 3 2 := ⟨"OneBlanket$Lie", zz_F 3, 7, rfl, by decide, zz_mem 281 (by decide +kernel) (by decide +kernel), by decide +kernel⟩
set_option maxRecDepth 100000 in
theorem zl_11_216 : Cond.methodLink "OneBlanket" 216 y_Bed_isEasy ∈ zz_T := zz_mem 951 (by decide +kernel) (by decide +kernel)
set_option maxRecDepth 100000 in
theorem zl_11_368 : Cond.methodLink "OneBlanket" 368 y_Shelf_isBody ∈ zz_T := zz_mem 1149 (by decide +kernel) (by decide +kernel)
set_option maxRecDepth 100000 in
theorem zcv_Shelf_isBody : zz_CV y_Shelf_isBody prog_8_method_3_code 1 (some .boolean) 0 6 := ⟨⟨zz_mem 1152 (by decide +kernel) (by decide +kernel), zz_mem 92 (by decide +kernel) (by decide +kernel), ⟨by decide +kernel, by decide +kernel, by decide +kernel⟩, by decide⟩, zz_mem 1150 (by decide +kernel) (by decide +kernel), zz_mem 1151 (by decide +kernel) (by decide +kernel), rfl⟩
set_option maxRecDepth 100000 in
theorem zl_11_371 : zz_FL "OneBlanket" 371 1 2 := ⟨"OneBlanket$Bodies", zz_F 1, 4, rfl, by decide, zz_mem 441 (by decide +kernel) (by decide +kernel), by decide +kernel⟩
set_option maxRecDepth 100000 in
theorem zl_11_374 : zz_FL "OneBlanket" 374 6 1 := ⟨"OneBlanket$Shelf", zz_F 6, 5, rfl, by decide, zz_mem 463 (by decide +kernel) (by decide +kernel), by decide +kernel⟩
set_option maxRecDepth 100000 in
theorem zl_11_377 : Cond.methodLink "OneBlanket" 377 y_Bodies_isUnder ∈ zz_T := zz_mem 1153 (by decide +kernel) (by decide +kernel)
set_option maxRecDepth 100000 in
theorem zcs_Bodies_isUnder : zz_CS y_Bodies_isUnder prog_3_method_4_code 4 (some .boolean) 2 := ⟨⟨zz_mem 1155 (by decide +kernel) (by decide +kernel), zz_mem 91 (by decide +kernel) (by decide +kernel), ⟨by decide +kernel, by decide +kernel, by decide +kernel⟩, by decide⟩, zz_mem 1154 (by decide +kernel) (by decide +kernel)⟩
set_option maxRecDepth 100000 in
theorem zl_11_241 : zz_FL "OneBlanket" 241 4 6 := ⟨"OneBlanket$Night", zz_F 4, 17, rfl, by decide, zz_mem 313 (by decide +kernel) (by decide +kernel), by decide +kernel⟩
set_option maxRecDepth 100000 in
theorem zl_11_161 : Cond.methodLink "OneBlanket" 161 y_Turns_mayBe ∈ zz_T := zz_mem 774 (by decide +kernel) (by decide +kernel)
set_option maxRecDepth 100000 in
theorem zcs_Turns_mayBe : zz_CS y_Turns_mayBe prog_12_method_2_code 3 (some .boolean) 3 := ⟨⟨zz_mem 776 (by decide +kernel) (by decide +kernel), zz_mem 81 (by decide +kernel) (by decide +kernel), ⟨by decide +kernel, by decide +kernel, by decide +kernel⟩, by decide⟩, zz_mem 775 (by decide +kernel) (by decide +kernel)⟩
set_option maxRecDepth 100000 in
theorem zl_11_168 : Cond.methodLink "OneBlanket" 168 y_Turns_add ∈ zz_T := zz_mem 780 (by decide +kernel) (by decide +kernel)
set_option maxRecDepth 100000 in
theorem zcv_Turns_add : zz_CV y_Turns_add prog_12_method_4_code 5 (some .int) 3 10 := ⟨⟨zz_mem 783 (by decide +kernel) (by decide +kernel), zz_mem 81 (by decide +kernel) (by decide +kernel), ⟨by decide +kernel, by decide +kernel, by decide +kernel⟩, by decide⟩, zz_mem 781 (by decide +kernel) (by decide +kernel), zz_mem 782 (by decide +kernel) (by decide +kernel), rfl⟩
set_option maxRecDepth 100000 in
theorem zl_11_181 : Cond.methodLink "OneBlanket" 181 y_B_tossedFrom ∈ zz_T := zz_mem 799 (by decide +kernel) (by decide +kernel)
set_option maxRecDepth 100000 in
theorem zcv_B_tossedFrom : zz_CV y_B_tossedFrom prog_1_method_15_code 8 (some .int) 3 11 := ⟨⟨zz_mem 802 (by decide +kernel) (by decide +kernel), zz_mem 79 (by decide +kernel) (by decide +kernel), ⟨by decide +kernel, by decide +kernel, by decide +kernel⟩, by decide⟩, zz_mem 801 (by decide +kernel) (by decide +kernel), zz_mem 9 (by decide +kernel) (by decide +kernel), rfl⟩
set_option maxRecDepth 100000 in
theorem zl_11_330 : zz_FL "OneBlanket" 330 1 3 := ⟨"OneBlanket$Bodies", zz_F 1, 4, rfl, by decide, zz_mem 443 (by decide +kernel) (by decide +kernel), by decide +kernel⟩
set_option maxRecDepth 100000 in
theorem zl_11_258 : zz_FL "OneBlanket" 258 0 10 := ⟨"OneBlanket$Bed", zz_F 0, 11, rfl, by decide, zz_mem 143 (by decide +kernel) (by decide +kernel), by decide +kernel⟩
set_option maxRecDepth 100000 in
theorem zl_11_261 : Cond.methodLink "OneBlanket" 261 y_Tally_easyOfAll ∈ zz_T := zz_mem 977 (by decide +kernel) (by decide +kernel)
set_option maxRecDepth 100000 in
theorem zcv_Tally_easyOfAll : zz_CV y_Tally_easyOfAll prog_9_method_5_code 4 (some .int) 1 7 := ⟨⟨zz_mem 980 (by decide +kernel) (by decide +kernel), zz_mem 86 (by decide +kernel) (by decide +kernel), ⟨by decide +kernel, by decide +kernel, by decide +kernel⟩, by decide⟩, zz_mem 978 (by decide +kernel) (by decide +kernel), zz_mem 979 (by decide +kernel) (by decide +kernel), rfl⟩
set_option maxRecDepth 100000 in
theorem zl_11_308 : Cond.methodLink "OneBlanket" 308 y_Changes_takeBack ∈ zz_T := zz_mem 1037 (by decide +kernel) (by decide +kernel)
set_option maxRecDepth 100000 in
theorem zcv_Changes_takeBack : zz_CV y_Changes_takeBack prog_4_method_4_code 2 (none) 1 2 := ⟨⟨zz_mem 1040 (by decide +kernel) (by decide +kernel), zz_mem 88 (by decide +kernel) (by decide +kernel), ⟨by decide +kernel, by decide +kernel, by decide +kernel⟩, by decide⟩, zz_mem 1038 (by decide +kernel) (by decide +kernel), zz_mem 1039 (by decide +kernel) (by decide +kernel), rfl⟩
set_option maxRecDepth 100000 in
theorem zl_11_238 : zz_FL "OneBlanket" 238 7 4 := ⟨"OneBlanket$Tally", zz_F 7, 6, rfl, by decide, zz_mem 254 (by decide +kernel) (by decide +kernel), by decide +kernel⟩
set_option maxRecDepth 100000 in
theorem zl_11_235 : zz_FL "OneBlanket" 235 7 3 := ⟨"OneBlanket$Tally", zz_F 7, 6, rfl, by decide, zz_mem 252 (by decide +kernel) (by decide +kernel), by decide +kernel⟩
theorem zpf_0_0 : zz_PF 0 0 := zz_PF.of (by decide +kernel) (by decide +kernel) rfl
set_option maxRecDepth 100000 in
theorem zl_11_264 : zz_FL "OneBlanket" 264 4 13 := ⟨"OneBlanket$Night", zz_F 4, 17, rfl, by decide, zz_mem 321 (by decide +kernel) (by decide +kernel), by decide +kernel⟩
set_option maxRecDepth 100000 in
theorem zl_12_118 : zz_FL "OneBlanketModel" 118 12 49 := ⟨"OneBlanketModel", zz_F 12, 63, rfl, by decide, zz_mem 1214 (by decide +kernel) (by decide +kernel), by decide +kernel⟩
set_option maxRecDepth 100000 in
theorem zl_12_91 : zz_FL "OneBlanketModel" 91 12 40 := ⟨"OneBlanketModel", zz_F 12, 63, rfl, by decide, zz_mem 1205 (by decide +kernel) (by decide +kernel), by decide +kernel⟩
set_option maxRecDepth 100000 in
theorem zl_12_26 : zz_FL "OneBlanketModel" 26 12 8 := ⟨"OneBlanketModel", zz_F 12, 63, rfl, by decide, zz_mem 1173 (by decide +kernel) (by decide +kernel), by decide +kernel⟩
set_option maxRecDepth 100000 in
theorem zl_12_88 : zz_FL "OneBlanketModel" 88 12 39 := ⟨"OneBlanketModel", zz_F 12, 63, rfl, by decide, zz_mem 1204 (by decide +kernel) (by decide +kernel), by decide +kernel⟩
set_option maxRecDepth 100000 in
theorem zl_12_13 : zz_FL "OneBlanketModel" 13 12 3 := ⟨"OneBlanketModel", zz_F 12, 63, rfl, by decide, zz_mem 1168 (by decide +kernel) (by decide +kernel), by decide +kernel⟩
set_option maxRecDepth 100000 in
theorem zl_12_94 : zz_FL "OneBlanketModel" 94 12 41 := ⟨"OneBlanketModel", zz_F 12, 63, rfl, by decide, zz_mem 1206 (by decide +kernel) (by decide +kernel), by decide +kernel⟩
set_option maxRecDepth 100000 in
theorem zl_12_100 : zz_FL "OneBlanketModel" 100 12 43 := ⟨"OneBlanketModel", zz_F 12, 63, rfl, by decide, zz_mem 1208 (by decide +kernel) (by decide +kernel), by decide +kernel⟩
set_option maxRecDepth 100000 in
theorem zl_12_103 : zz_FL "OneBlanketModel" 103 12 44 := ⟨"OneBlanketModel", zz_F 12, 63, rfl, by decide, zz_mem 1209 (by decide +kernel) (by decide +kernel), by decide +kernel⟩
set_option maxRecDepth 100000 in
theorem zl_12_106 : zz_FL "OneBlanketModel" 106 12 45 := ⟨"OneBlanketModel", zz_F 12, 63, rfl, by decide, zz_mem 1210 (by decide +kernel) (by decide +kernel), by decide +kernel⟩
set_option maxRecDepth 100000 in
theorem zl_12_109 : zz_FL "OneBlanketModel" 109 12 46 := ⟨"OneBlanketModel", zz_F 12, 63, rfl, by decide, zz_mem 1211 (by decide +kernel) (by decide +kernel), by decide +kernel⟩
set_option maxRecDepth 100000 in
theorem zl_12_112 : zz_FL "OneBlanketModel" 112 12 47 := ⟨"OneBlanketModel", zz_F 12, 63, rfl, by decide, zz_mem 1212 (by decide +kernel) (by decide +kernel), by decide +kernel⟩
set_option maxRecDepth 100000 in
theorem zl_12_115 : zz_FL "OneBlanketModel" 115 12 48 := ⟨"OneBlanketModel", zz_F 12, 63, rfl, by decide, zz_mem 1213 (by decide +kernel) (by decide +kernel), by decide +kernel⟩
set_option maxRecDepth 100000 in
theorem zl_12_82 : zz_FL "OneBlanketModel" 82 12 34 := ⟨"OneBlanketModel", zz_F 12, 63, rfl, by decide, zz_mem 1199 (by decide +kernel) (by decide +kernel), by decide +kernel⟩
set_option maxRecDepth 100000 in
theorem zl_12_63 : zz_FL "OneBlanketModel" 63 12 28 := ⟨"OneBlanketModel", zz_F 12, 63, rfl, by decide, zz_mem 1193 (by decide +kernel) (by decide +kernel), by decide +kernel⟩
set_option maxRecDepth 100000 in
theorem zl_12_79 : zz_FL "OneBlanketModel" 79 12 33 := ⟨"OneBlanketModel", zz_F 12, 63, rfl, by decide, zz_mem 1198 (by decide +kernel) (by decide +kernel), by decide +kernel⟩
set_option maxRecDepth 100000 in
theorem zl_12_66 : zz_FL "OneBlanketModel" 66 12 29 := ⟨"OneBlanketModel", zz_F 12, 63, rfl, by decide, zz_mem 1194 (by decide +kernel) (by decide +kernel), by decide +kernel⟩
set_option maxRecDepth 100000 in
theorem zl_12_252 : Cond.methodLink "OneBlanketModel" 252 y_M_twoOf ∈ zz_T := zz_mem 1548 (by decide +kernel) (by decide +kernel)
set_option maxRecDepth 100000 in
theorem zcs_M_twoOf : zz_CS y_M_twoOf prog_14_method_34_code 3 (some .int) 3 := ⟨⟨zz_mem 1550 (by decide +kernel) (by decide +kernel), zz_mem 93 (by decide +kernel) (by decide +kernel), ⟨by decide +kernel, by decide +kernel, by decide +kernel⟩, by decide⟩, zz_mem 1549 (by decide +kernel) (by decide +kernel)⟩
set_option maxRecDepth 100000 in
theorem zl_12_69 : zz_FL "OneBlanketModel" 69 12 30 := ⟨"OneBlanketModel", zz_F 12, 63, rfl, by decide, zz_mem 1195 (by decide +kernel) (by decide +kernel), by decide +kernel⟩
set_option maxRecDepth 100000 in
theorem zl_12_72 : zz_FL "OneBlanketModel" 72 12 31 := ⟨"OneBlanketModel", zz_F 12, 63, rfl, by decide, zz_mem 1196 (by decide +kernel) (by decide +kernel), by decide +kernel⟩
set_option maxRecDepth 100000 in
theorem zl_12_76 : zz_FL "OneBlanketModel" 76 12 32 := ⟨"OneBlanketModel", zz_F 12, 63, rfl, by decide, zz_mem 1197 (by decide +kernel) (by decide +kernel), by decide +kernel⟩
set_option maxRecDepth 100000 in
theorem zl_12_255 : Cond.methodLink "OneBlanketModel" 255 y_M_worked ∈ zz_T := zz_mem 1544 (by decide +kernel) (by decide +kernel)
set_option maxRecDepth 100000 in
theorem zcv_M_worked : zz_CV y_M_worked prog_14_method_35_code 7 (some .int) 3 12 := ⟨⟨zz_mem 1547 (by decide +kernel) (by decide +kernel), zz_mem 93 (by decide +kernel) (by decide +kernel), ⟨by decide +kernel, by decide +kernel, by decide +kernel⟩, by decide⟩, zz_mem 1546 (by decide +kernel) (by decide +kernel), zz_mem 53 (by decide +kernel) (by decide +kernel), rfl⟩
set_option maxRecDepth 100000 in
theorem zl_12_17 : zz_FL "OneBlanketModel" 17 12 4 := ⟨"OneBlanketModel", zz_F 12, 63, rfl, by decide, zz_mem 1169 (by decide +kernel) (by decide +kernel), by decide +kernel⟩
set_option maxRecDepth 100000 in
theorem zl_12_29 : zz_FL "OneBlanketModel" 29 12 9 := ⟨"OneBlanketModel", zz_F 12, 63, rfl, by decide, zz_mem 1174 (by decide +kernel) (by decide +kernel), by decide +kernel⟩
set_option maxRecDepth 100000 in
theorem zl_12_294 : Cond.methodLink "OneBlanketModel" 294 y_M_sizeOf ∈ zz_T := zz_mem 1537 (by decide +kernel) (by decide +kernel)
set_option maxRecDepth 100000 in
theorem zcs_M_sizeOf : zz_CS y_M_sizeOf prog_14_method_4_code 1 (some .int) 1 := ⟨⟨zz_mem 1539 (by decide +kernel) (by decide +kernel), zz_mem 93 (by decide +kernel) (by decide +kernel), ⟨by decide +kernel, by decide +kernel, by decide +kernel⟩, by decide⟩, zz_mem 1538 (by decide +kernel) (by decide +kernel)⟩
set_option maxRecDepth 100000 in
theorem zl_12_291 : Cond.methodLink "OneBlanketModel" 291 y_M_under ∈ zz_T := zz_mem 1529 (by decide +kernel) (by decide +kernel)
set_option maxRecDepth 100000 in
theorem zcv_M_under : zz_CV y_M_under prog_14_method_46_code 5 (some .int) 2 12 := ⟨⟨zz_mem 1532 (by decide +kernel) (by decide +kernel), zz_mem 93 (by decide +kernel) (by decide +kernel), ⟨by decide +kernel, by decide +kernel, by decide +kernel⟩, by decide⟩, zz_mem 1531 (by decide +kernel) (by decide +kernel), zz_mem 50 (by decide +kernel) (by decide +kernel), rfl⟩
set_option maxRecDepth 100000 in
theorem zl_12_85 : zz_FL "OneBlanketModel" 85 12 36 := ⟨"OneBlanketModel", zz_F 12, 63, rfl, by decide, zz_mem 1201 (by decide +kernel) (by decide +kernel), by decide +kernel⟩
set_option maxRecDepth 100000 in
theorem zl_12_35 : zz_FL "OneBlanketModel" 35 12 11 := ⟨"OneBlanketModel", zz_F 12, 63, rfl, by decide, zz_mem 1176 (by decide +kernel) (by decide +kernel), by decide +kernel⟩
set_option maxRecDepth 100000 in
theorem zl_12_271 : Cond.methodLink "OneBlanketModel" 271 y_M_gives ∈ zz_T := zz_mem 1540 (by decide +kernel) (by decide +kernel)
set_option maxRecDepth 100000 in
theorem zcv_M_gives : zz_CV y_M_gives prog_14_method_36_code 4 (some .int) 1 12 := ⟨⟨zz_mem 1543 (by decide +kernel) (by decide +kernel), zz_mem 93 (by decide +kernel) (by decide +kernel), ⟨by decide +kernel, by decide +kernel, by decide +kernel⟩, by decide⟩, zz_mem 1542 (by decide +kernel) (by decide +kernel), zz_mem 52 (by decide +kernel) (by decide +kernel), rfl⟩
set_option maxRecDepth 100000 in
theorem zl_12_274 : Cond.methodLink "OneBlanketModel" 274 y_M_held ∈ zz_T := zz_mem 1551 (by decide +kernel) (by decide +kernel)
set_option maxRecDepth 100000 in
theorem zcs_M_held : zz_CS y_M_held prog_14_method_5_code 3 (some .int) 3 := ⟨⟨zz_mem 1553 (by decide +kernel) (by decide +kernel), zz_mem 93 (by decide +kernel) (by decide +kernel), ⟨by decide +kernel, by decide +kernel, by decide +kernel⟩, by decide⟩, zz_mem 1552 (by decide +kernel) (by decide +kernel)⟩
set_option maxRecDepth 100000 in
theorem zl_12_162 : zz_FL "OneBlanketModel" 162 12 7 := ⟨"OneBlanketModel", zz_F 12, 63, rfl, by decide, zz_mem 1172 (by decide +kernel) (by decide +kernel), by decide +kernel⟩
set_option maxRecDepth 100000 in
theorem zl_12_155 : zz_FL "OneBlanketModel" 155 12 2 := ⟨"OneBlanketModel", zz_F 12, 63, rfl, by decide, zz_mem 1167 (by decide +kernel) (by decide +kernel), by decide +kernel⟩
set_option maxRecDepth 100000 in
theorem zl_12_7 : zz_FL "OneBlanketModel" 7 12 1 := ⟨"OneBlanketModel", zz_F 12, 63, rfl, by decide, zz_mem 1166 (by decide +kernel) (by decide +kernel), by decide +kernel⟩
set_option maxRecDepth 100000 in
theorem zl_12_121 : zz_FL "OneBlanketModel" 121 12 50 := ⟨"OneBlanketModel", zz_F 12, 63, rfl, by decide, zz_mem 1215 (by decide +kernel) (by decide +kernel), by decide +kernel⟩
set_option maxRecDepth 100000 in
theorem zl_12_297 : Cond.methodLink "OneBlanketModel" 297 y_M_coveredOf ∈ zz_T := zz_mem 1525 (by decide +kernel) (by decide +kernel)
set_option maxRecDepth 100000 in
theorem zcv_M_coveredOf : zz_CV y_M_coveredOf prog_14_method_47_code 6 (some .int) 1 12 := ⟨⟨zz_mem 1528 (by decide +kernel) (by decide +kernel), zz_mem 93 (by decide +kernel) (by decide +kernel), ⟨by decide +kernel, by decide +kernel, by decide +kernel⟩, by decide⟩, zz_mem 1527 (by decide +kernel) (by decide +kernel), zz_mem 49 (by decide +kernel) (by decide +kernel), rfl⟩
set_option maxRecDepth 100000 in
theorem zl_12_97 : zz_FL "OneBlanketModel" 97 12 42 := ⟨"OneBlanketModel", zz_F 12, 63, rfl, by decide, zz_mem 1207 (by decide +kernel) (by decide +kernel), by decide +kernel⟩
set_option maxRecDepth 100000 in
theorem zl_12_300 : Cond.methodLink "OneBlanketModel" 300 y_M_drawBy ∈ zz_T := zz_mem 1533 (by decide +kernel) (by decide +kernel)
set_option maxRecDepth 100000 in
theorem zcv_M_drawBy : zz_CV y_M_drawBy prog_14_method_49_code 9 (some .int) 5 12 := ⟨⟨zz_mem 1536 (by decide +kernel) (by decide +kernel), zz_mem 93 (by decide +kernel) (by decide +kernel), ⟨by decide +kernel, by decide +kernel, by decide +kernel⟩, by decide⟩, zz_mem 1535 (by decide +kernel) (by decide +kernel), zz_mem 51 (by decide +kernel) (by decide +kernel), rfl⟩
set_option maxRecDepth 100000 in
theorem zl_12_191 : zz_FL "OneBlanketModel" 191 12 12 := ⟨"OneBlanketModel", zz_F 12, 63, rfl, by decide, zz_mem 1177 (by decide +kernel) (by decide +kernel), by decide +kernel⟩
set_option maxRecDepth 100000 in
theorem zl_12_38 : zz_FL "OneBlanketModel" 38 12 13 := ⟨"OneBlanketModel", zz_F 12, 63, rfl, by decide, zz_mem 1178 (by decide +kernel) (by decide +kernel), by decide +kernel⟩
set_option maxRecDepth 100000 in
theorem zl_12_41 : zz_FL "OneBlanketModel" 41 12 14 := ⟨"OneBlanketModel", zz_F 12, 63, rfl, by decide, zz_mem 1179 (by decide +kernel) (by decide +kernel), by decide +kernel⟩
set_option maxRecDepth 100000 in
theorem zl_12_124 : zz_FL "OneBlanketModel" 124 12 51 := ⟨"OneBlanketModel", zz_F 12, 63, rfl, by decide, zz_mem 1216 (by decide +kernel) (by decide +kernel), by decide +kernel⟩
set_option maxRecDepth 100000 in
theorem zl_12_44 : zz_FL "OneBlanketModel" 44 12 15 := ⟨"OneBlanketModel", zz_F 12, 63, rfl, by decide, zz_mem 1180 (by decide +kernel) (by decide +kernel), by decide +kernel⟩
set_option maxRecDepth 100000 in
theorem zl_12_310 : Cond.methodLink "OneBlanketModel" 310 y_M_turnNow ∈ zz_T := zz_mem 1521 (by decide +kernel) (by decide +kernel)
set_option maxRecDepth 100000 in
theorem zcv_M_turnNow : zz_CV y_M_turnNow prog_14_method_50_code 7 (none) 3 12 := ⟨⟨zz_mem 1524 (by decide +kernel) (by decide +kernel), zz_mem 93 (by decide +kernel) (by decide +kernel), ⟨by decide +kernel, by decide +kernel, by decide +kernel⟩, by decide⟩, zz_mem 1523 (by decide +kernel) (by decide +kernel), zz_mem 48 (by decide +kernel) (by decide +kernel), rfl⟩
set_option maxRecDepth 100000 in
theorem zl_12_23 : zz_FL "OneBlanketModel" 23 12 6 := ⟨"OneBlanketModel", zz_F 12, 63, rfl, by decide, zz_mem 1171 (by decide +kernel) (by decide +kernel), by decide +kernel⟩
set_option maxRecDepth 100000 in
theorem zl_12_32 : zz_FL "OneBlanketModel" 32 12 10 := ⟨"OneBlanketModel", zz_F 12, 63, rfl, by decide, zz_mem 1175 (by decide +kernel) (by decide +kernel), by decide +kernel⟩
set_option maxRecDepth 100000 in
theorem zl_12_264 : zz_FL "OneBlanketModel" 264 12 37 := ⟨"OneBlanketModel", zz_F 12, 63, rfl, by decide, zz_mem 1202 (by decide +kernel) (by decide +kernel), by decide +kernel⟩
set_option maxRecDepth 100000 in
theorem zl_12_268 : zz_FL "OneBlanketModel" 268 12 38 := ⟨"OneBlanketModel", zz_F 12, 63, rfl, by decide, zz_mem 1203 (by decide +kernel) (by decide +kernel), by decide +kernel⟩
set_option maxRecDepth 100000 in
theorem zl_12_304 : Cond.methodLink "OneBlanketModel" 304 y_M_degrees ∈ zz_T := zz_mem 1558 (by decide +kernel) (by decide +kernel)
set_option maxRecDepth 100000 in
theorem zcv_M_degrees : zz_CV y_M_degrees prog_14_method_40_code 3 (some .int) 1 12 := ⟨⟨zz_mem 1561 (by decide +kernel) (by decide +kernel), zz_mem 93 (by decide +kernel) (by decide +kernel), ⟨by decide +kernel, by decide +kernel, by decide +kernel⟩, by decide⟩, zz_mem 1560 (by decide +kernel) (by decide +kernel), zz_mem 55 (by decide +kernel) (by decide +kernel), rfl⟩
set_option maxRecDepth 100000 in
theorem zl_12_307 : Cond.methodLink "OneBlanketModel" 307 y_M_warmOf ∈ zz_T := zz_mem 1562 (by decide +kernel) (by decide +kernel)
set_option maxRecDepth 100000 in
theorem zcv_M_warmOf : zz_CV y_M_warmOf prog_14_method_48_code 5 (some .int) 2 12 := ⟨⟨zz_mem 1565 (by decide +kernel) (by decide +kernel), zz_mem 93 (by decide +kernel) (by decide +kernel), ⟨by decide +kernel, by decide +kernel, by decide +kernel⟩, by decide⟩, zz_mem 1564 (by decide +kernel) (by decide +kernel), zz_mem 56 (by decide +kernel) (by decide +kernel), rfl⟩
set_option maxRecDepth 100000 in
theorem zl_12_20 : zz_FL "OneBlanketModel" 20 12 5 := ⟨"OneBlanketModel", zz_F 12, 63, rfl, by decide, zz_mem 1170 (by decide +kernel) (by decide +kernel), by decide +kernel⟩
set_option maxRecDepth 100000 in
theorem zl_12_313 : Cond.methodLink "OneBlanketModel" 313 y_M_begin ∈ zz_T := zz_mem 1513 (by decide +kernel) (by decide +kernel)
set_option maxRecDepth 100000 in
theorem zcv_M_begin : zz_CV y_M_begin prog_14_method_51_code 2 (none) 0 12 := ⟨⟨zz_mem 1516 (by decide +kernel) (by decide +kernel), zz_mem 93 (by decide +kernel) (by decide +kernel), ⟨by decide +kernel, by decide +kernel, by decide +kernel⟩, by decide⟩, zz_mem 1515 (by decide +kernel) (by decide +kernel), zz_mem 46 (by decide +kernel) (by decide +kernel), rfl⟩
set_option maxRecDepth 100000 in
theorem zl_12_316 : Cond.methodLink "OneBlanketModel" 316 y_M_minute ∈ zz_T := zz_mem 1517 (by decide +kernel) (by decide +kernel)
set_option maxRecDepth 100000 in
theorem zcv_M_minute : zz_CV y_M_minute prog_14_method_53_code 3 (none) 1 12 := ⟨⟨zz_mem 1520 (by decide +kernel) (by decide +kernel), zz_mem 93 (by decide +kernel) (by decide +kernel), ⟨by decide +kernel, by decide +kernel, by decide +kernel⟩, by decide⟩, zz_mem 1519 (by decide +kernel) (by decide +kernel), zz_mem 47 (by decide +kernel) (by decide +kernel), rfl⟩
set_option maxRecDepth 100000 in
theorem zl_12_320 : Cond.methodLink "OneBlanketModel" 320 y_M_countNow ∈ zz_T := zz_mem 1554 (by decide +kernel) (by decide +kernel)
set_option maxRecDepth 100000 in
theorem zcv_M_countNow : zz_CV y_M_countNow prog_14_method_52_code 5 (none) 1 12 := ⟨⟨zz_mem 1557 (by decide +kernel) (by decide +kernel), zz_mem 93 (by decide +kernel) (by decide +kernel), ⟨by decide +kernel, by decide +kernel, by decide +kernel⟩, by decide⟩, zz_mem 1556 (by decide +kernel) (by decide +kernel), zz_mem 54 (by decide +kernel) (by decide +kernel), rfl⟩
set_option maxRecDepth 100000 in
theorem zl_12_323 : Cond.methodLink "OneBlanketModel" 323 y_M_night ∈ zz_T := zz_mem 1509 (by decide +kernel) (by decide +kernel)
set_option maxRecDepth 100000 in
theorem zcv_M_night : zz_CV y_M_night prog_14_method_54_code 3 (none) 1 12 := ⟨⟨zz_mem 1512 (by decide +kernel) (by decide +kernel), zz_mem 93 (by decide +kernel) (by decide +kernel), ⟨by decide +kernel, by decide +kernel, by decide +kernel⟩, by decide⟩, zz_mem 1511 (by decide +kernel) (by decide +kernel), zz_mem 45 (by decide +kernel) (by decide +kernel), rfl⟩
set_option maxRecDepth 100000 in
theorem zl_12_130 : zz_FL "OneBlanketModel" 130 12 53 := ⟨"OneBlanketModel", zz_F 12, 63, rfl, by decide, zz_mem 1218 (by decide +kernel) (by decide +kernel), by decide +kernel⟩
set_option maxRecDepth 100000 in
theorem zl_12_158 : Cond.methodLink "OneBlanketModel" 158 y_M_in ∈ zz_T := zz_mem 1360 (by decide +kernel) (by decide +kernel)
set_option maxRecDepth 100000 in
theorem zcs_M_in : zz_CS y_M_in prog_14_method_3_code 3 (some .boolean) 3 := ⟨⟨zz_mem 1362 (by decide +kernel) (by decide +kernel), zz_mem 93 (by decide +kernel) (by decide +kernel), ⟨by decide +kernel, by decide +kernel, by decide +kernel⟩, by decide⟩, zz_mem 1361 (by decide +kernel) (by decide +kernel)⟩
set_option maxRecDepth 100000 in
theorem zl_12_127 : zz_FL "OneBlanketModel" 127 12 52 := ⟨"OneBlanketModel", zz_F 12, 63, rfl, by decide, zz_mem 1217 (by decide +kernel) (by decide +kernel), by decide +kernel⟩
set_option maxRecDepth 100000 in
theorem zl_12_335 : Cond.methodLink "OneBlanketModel" 335 y_M_isOrder ∈ zz_T := zz_mem 1610 (by decide +kernel) (by decide +kernel)
set_option maxRecDepth 100000 in
theorem zcv_M_isOrder : zz_CV y_M_isOrder prog_14_method_66_code 5 (some .boolean) 1 12 := ⟨⟨zz_mem 1613 (by decide +kernel) (by decide +kernel), zz_mem 93 (by decide +kernel) (by decide +kernel), ⟨by decide +kernel, by decide +kernel, by decide +kernel⟩, by decide⟩, zz_mem 1612 (by decide +kernel) (by decide +kernel), zz_mem 60 (by decide +kernel) (by decide +kernel), rfl⟩
set_option maxRecDepth 100000 in
theorem zl_12_332 : Cond.methodLink "OneBlanketModel" 332 y_M_leastEasy ∈ zz_T := zz_mem 1602 (by decide +kernel) (by decide +kernel)
set_option maxRecDepth 100000 in
theorem zcv_M_leastEasy : zz_CV y_M_leastEasy prog_14_method_63_code 3 (some .int) 0 12 := ⟨⟨zz_mem 1605 (by decide +kernel) (by decide +kernel), zz_mem 93 (by decide +kernel) (by decide +kernel), ⟨by decide +kernel, by decide +kernel, by decide +kernel⟩, by decide⟩, zz_mem 1604 (by decide +kernel) (by decide +kernel), zz_mem 59 (by decide +kernel) (by decide +kernel), rfl⟩
set_option maxRecDepth 100000 in
theorem zl_12_354 : zz_FL "OneBlanketModel" 354 12 57 := ⟨"OneBlanketModel", zz_F 12, 63, rfl, by decide, zz_mem 1222 (by decide +kernel) (by decide +kernel), by decide +kernel⟩
theorem zpf_12_57 : zz_PF 12 57 := zz_PF.of (by decide +kernel) (by decide +kernel) rfl
set_option maxRecDepth 100000 in
theorem zl_12_136 : zz_FL "OneBlanketModel" 136 12 58 := ⟨"OneBlanketModel", zz_F 12, 63, rfl, by decide, zz_mem 1223 (by decide +kernel) (by decide +kernel), by decide +kernel⟩
set_option maxRecDepth 100000 in
theorem zl_12_357 : Cond.methodLink "OneBlanketModel" 357 y_M_ran ∈ zz_T := zz_mem 1662 (by decide +kernel) (by decide +kernel)
set_option maxRecDepth 100000 in
theorem zcv_M_ran : zz_CV y_M_ran prog_14_method_75_code 2 (none) 1 12 := ⟨⟨zz_mem 1665 (by decide +kernel) (by decide +kernel), zz_mem 93 (by decide +kernel) (by decide +kernel), ⟨by decide +kernel, by decide +kernel, by decide +kernel⟩, by decide⟩, zz_mem 1664 (by decide +kernel) (by decide +kernel), zz_mem 66 (by decide +kernel) (by decide +kernel), rfl⟩
set_option maxRecDepth 100000 in
theorem zl_12_360 : Cond.methodLink "OneBlanketModel" 360 y_M_plainTurns ∈ zz_T := zz_mem 1666 (by decide +kernel) (by decide +kernel)
set_option maxRecDepth 100000 in
theorem zcv_M_plainTurns : zz_CV y_M_plainTurns prog_14_method_79_code 3 (some .int) 2 12 := ⟨⟨zz_mem 1669 (by decide +kernel) (by decide +kernel), zz_mem 93 (by decide +kernel) (by decide +kernel), ⟨by decide +kernel, by decide +kernel, by decide +kernel⟩, by decide⟩, zz_mem 1668 (by decide +kernel) (by decide +kernel), zz_mem 67 (by decide +kernel) (by decide +kernel), rfl⟩
set_option maxRecDepth 100000 in
theorem zl_12_133 : zz_FL "OneBlanketModel" 133 12 56 := ⟨"OneBlanketModel", zz_F 12, 63, rfl, by decide, zz_mem 1221 (by decide +kernel) (by decide +kernel), by decide +kernel⟩
set_option maxRecDepth 100000 in
theorem zl_12_363 : Cond.methodLink "OneBlanketModel" 363 y_M_isUnder ∈ zz_T := zz_mem 1659 (by decide +kernel) (by decide +kernel)
set_option maxRecDepth 100000 in
theorem zcs_M_isUnder : zz_CS y_M_isUnder prog_14_method_78_code 2 (some .boolean) 2 := ⟨⟨zz_mem 1661 (by decide +kernel) (by decide +kernel), zz_mem 93 (by decide +kernel) (by decide +kernel), ⟨by decide +kernel, by decide +kernel, by decide +kernel⟩, by decide⟩, zz_mem 1660 (by decide +kernel) (by decide +kernel)⟩
set_option maxRecDepth 100000 in
theorem zl_12_367 : Cond.methodLink "OneBlanketModel" 367 y_M_legTurns ∈ zz_T := zz_mem 1670 (by decide +kernel) (by decide +kernel)
set_option maxRecDepth 100000 in
theorem zcv_M_legTurns : zz_CV y_M_legTurns prog_14_method_80_code 3 (some .int) 2 12 := ⟨⟨zz_mem 1673 (by decide +kernel) (by decide +kernel), zz_mem 93 (by decide +kernel) (by decide +kernel), ⟨by decide +kernel, by decide +kernel, by decide +kernel⟩, by decide⟩, zz_mem 1672 (by decide +kernel) (by decide +kernel), zz_mem 68 (by decide +kernel) (by decide +kernel), rfl⟩
set_option maxRecDepth 100000 in
theorem zl_12_370 : Cond.methodLink "OneBlanketModel" 370 y_M_turning ∈ zz_T := zz_mem 1655 (by decide +kernel) (by decide +kernel)
set_option maxRecDepth 100000 in
theorem zcv_M_turning : zz_CV y_M_turning prog_14_method_81_code 3 (some .int) 2 12 := ⟨⟨zz_mem 1658 (by decide +kernel) (by decide +kernel), zz_mem 93 (by decide +kernel) (by decide +kernel), ⟨by decide +kernel, by decide +kernel, by decide +kernel⟩, by decide⟩, zz_mem 1657 (by decide +kernel) (by decide +kernel), zz_mem 65 (by decide +kernel) (by decide +kernel), rfl⟩
set_option maxRecDepth 100000 in
theorem zl_12_373 : Cond.methodLink "OneBlanketModel" 373 y_M_plainDraws ∈ zz_T := zz_mem 1682 (by decide +kernel) (by decide +kernel)
set_option maxRecDepth 100000 in
theorem zcv_M_plainDraws : zz_CV y_M_plainDraws prog_14_method_82_code 3 (some .int) 2 12 := ⟨⟨zz_mem 1685 (by decide +kernel) (by decide +kernel), zz_mem 93 (by decide +kernel) (by decide +kernel), ⟨by decide +kernel, by decide +kernel, by decide +kernel⟩, by decide⟩, zz_mem 1684 (by decide +kernel) (by decide +kernel), zz_mem 71 (by decide +kernel) (by decide +kernel), rfl⟩
set_option maxRecDepth 100000 in
theorem zl_12_382 : Cond.methodLink "OneBlanketModel" 382 y_M_plainWarms ∈ zz_T := zz_mem 1690 (by decide +kernel) (by decide +kernel)
set_option maxRecDepth 100000 in
theorem zcv_M_plainWarms : zz_CV y_M_plainWarms prog_14_method_85_code 3 (some .int) 2 12 := ⟨⟨zz_mem 1693 (by decide +kernel) (by decide +kernel), zz_mem 93 (by decide +kernel) (by decide +kernel), ⟨by decide +kernel, by decide +kernel, by decide +kernel⟩, by decide⟩, zz_mem 1692 (by decide +kernel) (by decide +kernel), zz_mem 73 (by decide +kernel) (by decide +kernel), rfl⟩
set_option maxRecDepth 100000 in
theorem zl_12_376 : Cond.methodLink "OneBlanketModel" 376 y_M_underDraws ∈ zz_T := zz_mem 1678 (by decide +kernel) (by decide +kernel)
set_option maxRecDepth 100000 in
theorem zcv_M_underDraws : zz_CV y_M_underDraws prog_14_method_83_code 3 (some .int) 2 12 := ⟨⟨zz_mem 1681 (by decide +kernel) (by decide +kernel), zz_mem 93 (by decide +kernel) (by decide +kernel), ⟨by decide +kernel, by decide +kernel, by decide +kernel⟩, by decide⟩, zz_mem 1680 (by decide +kernel) (by decide +kernel), zz_mem 70 (by decide +kernel) (by decide +kernel), rfl⟩
set_option maxRecDepth 100000 in
theorem zl_12_379 : Cond.methodLink "OneBlanketModel" 379 y_M_warming ∈ zz_T := zz_mem 1686 (by decide +kernel) (by decide +kernel)
set_option maxRecDepth 100000 in
theorem zcv_M_warming : zz_CV y_M_warming prog_14_method_86_code 4 (some .int) 2 12 := ⟨⟨zz_mem 1689 (by decide +kernel) (by decide +kernel), zz_mem 93 (by decide +kernel) (by decide +kernel), ⟨by decide +kernel, by decide +kernel, by decide +kernel⟩, by decide⟩, zz_mem 1688 (by decide +kernel) (by decide +kernel), zz_mem 72 (by decide +kernel) (by decide +kernel), rfl⟩
set_option maxRecDepth 100000 in
theorem zl_12_385 : Cond.methodLink "OneBlanketModel" 385 y_M_drawing ∈ zz_T := zz_mem 1674 (by decide +kernel) (by decide +kernel)
set_option maxRecDepth 100000 in
theorem zcv_M_drawing : zz_CV y_M_drawing prog_14_method_84_code 4 (some .int) 2 12 := ⟨⟨zz_mem 1677 (by decide +kernel) (by decide +kernel), zz_mem 93 (by decide +kernel) (by decide +kernel), ⟨by decide +kernel, by decide +kernel, by decide +kernel⟩, by decide⟩, zz_mem 1676 (by decide +kernel) (by decide +kernel), zz_mem 69 (by decide +kernel) (by decide +kernel), rfl⟩
set_option maxRecDepth 100000 in
theorem zl_12_388 : Cond.methodLink "OneBlanketModel" 388 y_M_plainWakes ∈ zz_T := zz_mem 1702 (by decide +kernel) (by decide +kernel)
set_option maxRecDepth 100000 in
theorem zcv_M_plainWakes : zz_CV y_M_plainWakes prog_14_method_87_code 4 (some .int) 2 12 := ⟨⟨zz_mem 1705 (by decide +kernel) (by decide +kernel), zz_mem 93 (by decide +kernel) (by decide +kernel), ⟨by decide +kernel, by decide +kernel, by decide +kernel⟩, by decide⟩, zz_mem 1704 (by decide +kernel) (by decide +kernel), zz_mem 76 (by decide +kernel) (by decide +kernel), rfl⟩
set_option maxRecDepth 100000 in
theorem zl_12_391 : Cond.methodLink "OneBlanketModel" 391 y_M_wokenWakes ∈ zz_T := zz_mem 1698 (by decide +kernel) (by decide +kernel)
set_option maxRecDepth 100000 in
theorem zcv_M_wokenWakes : zz_CV y_M_wokenWakes prog_14_method_88_code 3 (some .int) 2 12 := ⟨⟨zz_mem 1701 (by decide +kernel) (by decide +kernel), zz_mem 93 (by decide +kernel) (by decide +kernel), ⟨by decide +kernel, by decide +kernel, by decide +kernel⟩, by decide⟩, zz_mem 1700 (by decide +kernel) (by decide +kernel), zz_mem 75 (by decide +kernel) (by decide +kernel), rfl⟩
set_option maxRecDepth 100000 in
theorem zl_12_351 : zz_FL "OneBlanketModel" 351 12 55 := ⟨"OneBlanketModel", zz_F 12, 63, rfl, by decide, zz_mem 1220 (by decide +kernel) (by decide +kernel), by decide +kernel⟩
set_option maxRecDepth 100000 in
theorem zl_12_394 : Cond.methodLink "OneBlanketModel" 394 y_M_isBody ∈ zz_T := zz_mem 1651 (by decide +kernel) (by decide +kernel)
set_option maxRecDepth 100000 in
theorem zcv_M_isBody : zz_CV y_M_isBody prog_14_method_74_code 2 (some .boolean) 1 12 := ⟨⟨zz_mem 1654 (by decide +kernel) (by decide +kernel), zz_mem 93 (by decide +kernel) (by decide +kernel), ⟨by decide +kernel, by decide +kernel, by decide +kernel⟩, by decide⟩, zz_mem 1653 (by decide +kernel) (by decide +kernel), zz_mem 64 (by decide +kernel) (by decide +kernel), rfl⟩
set_option maxRecDepth 100000 in
theorem zl_12_397 : Cond.methodLink "OneBlanketModel" 397 y_M_waking ∈ zz_T := zz_mem 1694 (by decide +kernel) (by decide +kernel)
set_option maxRecDepth 100000 in
theorem zcv_M_waking : zz_CV y_M_waking prog_14_method_89_code 3 (some .int) 2 12 := ⟨⟨zz_mem 1697 (by decide +kernel) (by decide +kernel), zz_mem 93 (by decide +kernel) (by decide +kernel), ⟨by decide +kernel, by decide +kernel, by decide +kernel⟩, by decide⟩, zz_mem 1696 (by decide +kernel) (by decide +kernel), zz_mem 74 (by decide +kernel) (by decide +kernel), rfl⟩
set_option maxRecDepth 100000 in
theorem zl_12_203 : zz_FL "OneBlanketModel" 203 12 27 := ⟨"OneBlanketModel", zz_F 12, 63, rfl, by decide, zz_mem 1192 (by decide +kernel) (by decide +kernel), by decide +kernel⟩
theorem zpf_12_27 : zz_PF 12 27 := zz_PF.of (by decide +kernel) (by decide +kernel) rfl
theorem zpf_12_12 : zz_PF 12 12 := zz_PF.of (by decide +kernel) (by decide +kernel) rfl
theorem zpf_12_55 : zz_PF 12 55 := zz_PF.of (by decide +kernel) (by decide +kernel) rfl
set_option maxRecDepth 100000 in
theorem zl_12_197 : zz_FL "OneBlanketModel" 197 12 24 := ⟨"OneBlanketModel", zz_F 12, 63, rfl, by decide, zz_mem 1189 (by decide +kernel) (by decide +kernel), by decide +kernel⟩
set_option maxRecDepth 100000 in
theorem zl_12_194 : zz_FL "OneBlanketModel" 194 12 23 := ⟨"OneBlanketModel", zz_F 12, 63, rfl, by decide, zz_mem 1188 (by decide +kernel) (by decide +kernel), by decide +kernel⟩
set_option maxRecDepth 100000 in
theorem zl_12_59 : zz_FL "OneBlanketModel" 59 12 22 := ⟨"OneBlanketModel", zz_F 12, 63, rfl, by decide, zz_mem 1187 (by decide +kernel) (by decide +kernel), by decide +kernel⟩
set_option maxRecDepth 100000 in
theorem zl_12_246 : Cond.methodLink "OneBlanketModel" 246 y_M_both ∈ zz_T := zz_mem 1428 (by decide +kernel) (by decide +kernel)
set_option maxRecDepth 100000 in
theorem zcv_M_both : zz_CV y_M_both prog_14_method_30_code 1 (none) 0 12 := ⟨⟨zz_mem 1431 (by decide +kernel) (by decide +kernel), zz_mem 93 (by decide +kernel) (by decide +kernel), ⟨by decide +kernel, by decide +kernel, by decide +kernel⟩, by decide⟩, zz_mem 1430 (by decide +kernel) (by decide +kernel), zz_mem 34 (by decide +kernel) (by decide +kernel), rfl⟩
set_option maxRecDepth 100000 in
theorem zl_12_200 : zz_FL "OneBlanketModel" 200 12 25 := ⟨"OneBlanketModel", zz_F 12, 63, rfl, by decide, zz_mem 1190 (by decide +kernel) (by decide +kernel), by decide +kernel⟩
set_option maxRecDepth 100000 in
theorem zl_12_212 : Cond.methodLink "OneBlanketModel" 212 y_M_look ∈ zz_T := zz_mem 1448 (by decide +kernel) (by decide +kernel)
set_option maxRecDepth 100000 in
theorem zcv_M_look : zz_CV y_M_look prog_14_method_20_code 1 (some .int) 0 12 := ⟨⟨zz_mem 1451 (by decide +kernel) (by decide +kernel), zz_mem 93 (by decide +kernel) (by decide +kernel), ⟨by decide +kernel, by decide +kernel, by decide +kernel⟩, by decide⟩, zz_mem 1450 (by decide +kernel) (by decide +kernel), zz_mem 39 (by decide +kernel) (by decide +kernel), rfl⟩
theorem zpf_12_24 : zz_PF 12 24 := zz_PF.of (by decide +kernel) (by decide +kernel) rfl
set_option maxRecDepth 100000 in
theorem zl_12_216 : Cond.methodLink "OneBlanketModel" 216 y_M_addStep ∈ zz_T := zz_mem 1455 (by decide +kernel) (by decide +kernel)
set_option maxRecDepth 100000 in
theorem zcv_M_addStep : zz_CV y_M_addStep prog_14_method_22_code 3 (none) 2 12 := ⟨⟨zz_mem 1458 (by decide +kernel) (by decide +kernel), zz_mem 93 (by decide +kernel) (by decide +kernel), ⟨by decide +kernel, by decide +kernel, by decide +kernel⟩, by decide⟩, zz_mem 1457 (by decide +kernel) (by decide +kernel), zz_mem 40 (by decide +kernel) (by decide +kernel), rfl⟩
theorem zpf_12_25 : zz_PF 12 25 := zz_PF.of (by decide +kernel) (by decide +kernel) rfl
set_option maxRecDepth 100000 in
theorem zl_12_209 : Cond.methodLink "OneBlanketModel" 209 y_M_faulty ∈ zz_T := zz_mem 1463 (by decide +kernel) (by decide +kernel)
set_option maxRecDepth 100000 in
theorem zcv_M_faulty : zz_CV y_M_faulty prog_14_method_21_code 1 (none) 0 12 := ⟨⟨zz_mem 1466 (by decide +kernel) (by decide +kernel), zz_mem 93 (by decide +kernel) (by decide +kernel), ⟨by decide +kernel, by decide +kernel, by decide +kernel⟩, by decide⟩, zz_mem 1465 (by decide +kernel) (by decide +kernel), zz_mem 42 (by decide +kernel) (by decide +kernel), rfl⟩
set_option maxRecDepth 100000 in
theorem zl_12_206 : zz_FL "OneBlanketModel" 206 12 26 := ⟨"OneBlanketModel", zz_F 12, 63, rfl, by decide, zz_mem 1191 (by decide +kernel) (by decide +kernel), by decide +kernel⟩
theorem zpf_12_26 : zz_PF 12 26 := zz_PF.of (by decide +kernel) (by decide +kernel) rfl
set_option maxRecDepth 100000 in
theorem zl_12_220 : Cond.methodLink "OneBlanketModel" 220 y_M_nameOf ∈ zz_T := zz_mem 1452 (by decide +kernel) (by decide +kernel)
set_option maxRecDepth 100000 in
theorem zcs_M_nameOf : zz_CS y_M_nameOf prog_14_method_23_code 1 (some .int) 1 := ⟨⟨zz_mem 1454 (by decide +kernel) (by decide +kernel), zz_mem 93 (by decide +kernel) (by decide +kernel), ⟨by decide +kernel, by decide +kernel, by decide +kernel⟩, by decide⟩, zz_mem 1453 (by decide +kernel) (by decide +kernel)⟩
set_option maxRecDepth 100000 in
theorem zl_12_224 : Cond.methodLink "OneBlanketModel" 224 y_M_opens ∈ zz_T := zz_mem 1459 (by decide +kernel) (by decide +kernel)
set_option maxRecDepth 100000 in
theorem zcv_M_opens : zz_CV y_M_opens prog_14_method_24_code 1 (some .boolean) 0 12 := ⟨⟨zz_mem 1462 (by decide +kernel) (by decide +kernel), zz_mem 93 (by decide +kernel) (by decide +kernel), ⟨by decide +kernel, by decide +kernel, by decide +kernel⟩, by decide⟩, zz_mem 1461 (by decide +kernel) (by decide +kernel), zz_mem 41 (by decide +kernel) (by decide +kernel), rfl⟩
set_option maxRecDepth 100000 in
theorem zl_12_228 : Cond.methodLink "OneBlanketModel" 228 y_M_operand ∈ zz_T := zz_mem 1444 (by decide +kernel) (by decide +kernel)
set_option maxRecDepth 100000 in
theorem zcv_M_operand : zz_CV y_M_operand prog_14_method_26_code 2 (none) 0 12 := ⟨⟨zz_mem 1447 (by decide +kernel) (by decide +kernel), zz_mem 93 (by decide +kernel) (by decide +kernel), ⟨by decide +kernel, by decide +kernel, by decide +kernel⟩, by decide⟩, zz_mem 1446 (by decide +kernel) (by decide +kernel), zz_mem 38 (by decide +kernel) (by decide +kernel), rfl⟩
set_option maxRecDepth 100000 in
theorem zl_12_234 : Cond.methodLink "OneBlanketModel" 234 y_M_figure ∈ zz_T := zz_mem 1467 (by decide +kernel) (by decide +kernel)
set_option maxRecDepth 100000 in
theorem zcv_M_figure : zz_CV y_M_figure prog_14_method_25_code 3 (none) 0 12 := ⟨⟨zz_mem 1470 (by decide +kernel) (by decide +kernel), zz_mem 93 (by decide +kernel) (by decide +kernel), ⟨by decide +kernel, by decide +kernel, by decide +kernel⟩, by decide⟩, zz_mem 1469 (by decide +kernel) (by decide +kernel), zz_mem 43 (by decide +kernel) (by decide +kernel), rfl⟩
set_option maxRecDepth 100000 in
theorem zl_12_231 : Cond.methodLink "OneBlanketModel" 231 y_M_either ∈ zz_T := zz_mem 1424 (by decide +kernel) (by decide +kernel)
set_option maxRecDepth 100000 in
theorem zcv_M_either : zz_CV y_M_either prog_14_method_31_code 1 (none) 0 12 := ⟨⟨zz_mem 1427 (by decide +kernel) (by decide +kernel), zz_mem 93 (by decide +kernel) (by decide +kernel), ⟨by decide +kernel, by decide +kernel, by decide +kernel⟩, by decide⟩, zz_mem 1426 (by decide +kernel) (by decide +kernel), zz_mem 33 (by decide +kernel) (by decide +kernel), rfl⟩
set_option maxRecDepth 100000 in
theorem zl_12_237 : Cond.methodLink "OneBlanketModel" 237 y_M_product ∈ zz_T := zz_mem 1440 (by decide +kernel) (by decide +kernel)
set_option maxRecDepth 100000 in
theorem zcv_M_product : zz_CV y_M_product prog_14_method_27_code 2 (none) 0 12 := ⟨⟨zz_mem 1443 (by decide +kernel) (by decide +kernel), zz_mem 93 (by decide +kernel) (by decide +kernel), ⟨by decide +kernel, by decide +kernel, by decide +kernel⟩, by decide⟩, zz_mem 1442 (by decide +kernel) (by decide +kernel), zz_mem 37 (by decide +kernel) (by decide +kernel), rfl⟩
set_option maxRecDepth 100000 in
theorem zl_12_240 : Cond.methodLink "OneBlanketModel" 240 y_M_sum ∈ zz_T := zz_mem 1436 (by decide +kernel) (by decide +kernel)
set_option maxRecDepth 100000 in
theorem zcv_M_sum : zz_CV y_M_sum prog_14_method_28_code 2 (none) 0 12 := ⟨⟨zz_mem 1439 (by decide +kernel) (by decide +kernel), zz_mem 93 (by decide +kernel) (by decide +kernel), ⟨by decide +kernel, by decide +kernel, by decide +kernel⟩, by decide⟩, zz_mem 1438 (by decide +kernel) (by decide +kernel), zz_mem 36 (by decide +kernel) (by decide +kernel), rfl⟩
set_option maxRecDepth 100000 in
theorem zl_12_243 : Cond.methodLink "OneBlanketModel" 243 y_M_compared ∈ zz_T := zz_mem 1432 (by decide +kernel) (by decide +kernel)
set_option maxRecDepth 100000 in
theorem zcv_M_compared : zz_CV y_M_compared prog_14_method_29_code 2 (none) 0 12 := ⟨⟨zz_mem 1435 (by decide +kernel) (by decide +kernel), zz_mem 93 (by decide +kernel) (by decide +kernel), ⟨by decide +kernel, by decide +kernel, by decide +kernel⟩, by decide⟩, zz_mem 1434 (by decide +kernel) (by decide +kernel), zz_mem 35 (by decide +kernel) (by decide +kernel), rfl⟩
set_option maxRecDepth 100000 in
theorem zl_12_187 : Cond.methodLink "OneBlanketModel" 187 y_M_isCover ∈ zz_T := zz_mem 1399 (by decide +kernel) (by decide +kernel)
set_option maxRecDepth 100000 in
theorem zcv_M_isCover : zz_CV y_M_isCover prog_14_method_7_code 2 (some .boolean) 1 12 := ⟨⟨zz_mem 1402 (by decide +kernel) (by decide +kernel), zz_mem 93 (by decide +kernel) (by decide +kernel), ⟨by decide +kernel, by decide +kernel, by decide +kernel⟩, by decide⟩, zz_mem 1401 (by decide +kernel) (by decide +kernel), zz_mem 30 (by decide +kernel) (by decide +kernel), rfl⟩
set_option maxRecDepth 100000 in
theorem zl_12_277 : Cond.methodLink "OneBlanketModel" 277 y_M_isMinute ∈ zz_T := zz_mem 1486 (by decide +kernel) (by decide +kernel)
set_option maxRecDepth 100000 in
theorem zcs_M_isMinute : zz_CS y_M_isMinute prog_14_method_8_code 1 (some .boolean) 1 := ⟨⟨zz_mem 1488 (by decide +kernel) (by decide +kernel), zz_mem 93 (by decide +kernel) (by decide +kernel), ⟨by decide +kernel, by decide +kernel, by decide +kernel⟩, by decide⟩, zz_mem 1487 (by decide +kernel) (by decide +kernel)⟩
set_option maxRecDepth 100000 in
theorem zl_12_326 : Cond.methodLink "OneBlanketModel" 326 y_M_isSomeBare ∈ zz_T := zz_mem 1586 (by decide +kernel) (by decide +kernel)
set_option maxRecDepth 100000 in
theorem zcv_M_isSomeBare : zz_CV y_M_isSomeBare prog_14_method_60_code 2 (some .boolean) 0 12 := ⟨⟨zz_mem 1589 (by decide +kernel) (by decide +kernel), zz_mem 93 (by decide +kernel) (by decide +kernel), ⟨by decide +kernel, by decide +kernel, by decide +kernel⟩, by decide⟩, zz_mem 1588 (by decide +kernel) (by decide +kernel), zz_mem 57 (by decide +kernel) (by decide +kernel), rfl⟩
set_option maxRecDepth 100000 in
theorem zl_12_165 : Cond.methodLink "OneBlanketModel" 165 y_M_valueAt ∈ zz_T := zz_mem 1395 (by decide +kernel) (by decide +kernel)
set_option maxRecDepth 100000 in
theorem zcv_M_valueAt : zz_CV y_M_valueAt prog_14_method_12_code 3 (some .int) 2 12 := ⟨⟨zz_mem 1398 (by decide +kernel) (by decide +kernel), zz_mem 93 (by decide +kernel) (by decide +kernel), ⟨by decide +kernel, by decide +kernel, by decide +kernel⟩, by decide⟩, zz_mem 1397 (by decide +kernel) (by decide +kernel), zz_mem 29 (by decide +kernel) (by decide +kernel), rfl⟩
set_option maxRecDepth 100000 in
theorem zl_12_169 : zz_FL "OneBlanketModel" 169 12 17 := ⟨"OneBlanketModel", zz_F 12, 63, rfl, by decide, zz_mem 1182 (by decide +kernel) (by decide +kernel), by decide +kernel⟩
theorem zpf_12_17 : zz_PF 12 17 := zz_PF.of (by decide +kernel) (by decide +kernel) rfl
set_option maxRecDepth 100000 in
theorem zl_12_172 : zz_FL "OneBlanketModel" 172 12 16 := ⟨"OneBlanketModel", zz_F 12, 63, rfl, by decide, zz_mem 1181 (by decide +kernel) (by decide +kernel), by decide +kernel⟩
set_option maxRecDepth 100000 in
theorem zl_12_47 : zz_FL "OneBlanketModel" 47 12 18 := ⟨"OneBlanketModel", zz_F 12, 63, rfl, by decide, zz_mem 1183 (by decide +kernel) (by decide +kernel), by decide +kernel⟩
set_option maxRecDepth 100000 in
theorem zl_12_50 : zz_FL "OneBlanketModel" 50 12 19 := ⟨"OneBlanketModel", zz_F 12, 63, rfl, by decide, zz_mem 1184 (by decide +kernel) (by decide +kernel), by decide +kernel⟩
set_option maxRecDepth 100000 in
theorem zl_12_53 : zz_FL "OneBlanketModel" 53 12 20 := ⟨"OneBlanketModel", zz_F 12, 63, rfl, by decide, zz_mem 1185 (by decide +kernel) (by decide +kernel), by decide +kernel⟩
set_option maxRecDepth 100000 in
theorem zl_12_56 : zz_FL "OneBlanketModel" 56 12 21 := ⟨"OneBlanketModel", zz_F 12, 63, rfl, by decide, zz_mem 1186 (by decide +kernel) (by decide +kernel), by decide +kernel⟩
theorem zpf_12_16 : zz_PF 12 16 := zz_PF.of (by decide +kernel) (by decide +kernel) rfl
set_option maxRecDepth 100000 in
theorem zl_12_175 : Cond.methodLink "OneBlanketModel" 175 y_M_lays ∈ zz_T := zz_mem 1375 (by decide +kernel) (by decide +kernel)
set_option maxRecDepth 100000 in
theorem zcv_M_lays : zz_CV y_M_lays prog_14_method_13_code 4 (none) 3 12 := ⟨⟨zz_mem 1378 (by decide +kernel) (by decide +kernel), zz_mem 93 (by decide +kernel) (by decide +kernel), ⟨by decide +kernel, by decide +kernel, by decide +kernel⟩, by decide⟩, zz_mem 1377 (by decide +kernel) (by decide +kernel), zz_mem 26 (by decide +kernel) (by decide +kernel), rfl⟩
set_option maxRecDepth 100000 in
theorem zl_12_258 : zz_FL "OneBlanketModel" 258 12 35 := ⟨"OneBlanketModel", zz_F 12, 63, rfl, by decide, zz_mem 1200 (by decide +kernel) (by decide +kernel), by decide +kernel⟩
theorem zpf_12_7 : zz_PF 12 7 := zz_PF.of (by decide +kernel) (by decide +kernel) rfl
set_option maxRecDepth 100000 in
theorem zl_12_338 : zz_FL "OneBlanketModel" 338 12 54 := ⟨"OneBlanketModel", zz_F 12, 63, rfl, by decide, zz_mem 1219 (by decide +kernel) (by decide +kernel), by decide +kernel⟩
set_option maxRecDepth 100000 in
theorem zl_12_341 : Jvm.Cond.constant "OneBlanketModel" 341 (1103515245 : Int32) ∈ zz_T := zz_mem 1626 (by decide +kernel) (by decide +kernel)
theorem zpf_12_54 : zz_PF 12 54 := zz_PF.of (by decide +kernel) (by decide +kernel) rfl
set_option maxRecDepth 100000 in
theorem zl_12_342 : Cond.methodLink "OneBlanketModel" 342 y_M_draw ∈ zz_T := zz_mem 1622 (by decide +kernel) (by decide +kernel)
set_option maxRecDepth 100000 in
theorem zcv_M_draw : zz_CV y_M_draw prog_14_method_68_code 2 (some .int) 1 12 := ⟨⟨zz_mem 1625 (by decide +kernel) (by decide +kernel), zz_mem 93 (by decide +kernel) (by decide +kernel), ⟨by decide +kernel, by decide +kernel, by decide +kernel⟩, by decide⟩, zz_mem 1624 (by decide +kernel) (by decide +kernel), zz_mem 62 (by decide +kernel) (by decide +kernel), rfl⟩
set_option maxRecDepth 100000 in
theorem zl_12_190 : Jvm.Cond.constant "OneBlanketModel" 190 (-2000000000 : Int32) ∈ zz_T := zz_mem 1407 (by decide +kernel) (by decide +kernel)
set_option maxRecDepth 100000 in
theorem zl_12_345 : Cond.methodLink "OneBlanketModel" 345 y_M_drawnNight ∈ zz_T := zz_mem 1618 (by decide +kernel) (by decide +kernel)
set_option maxRecDepth 100000 in
theorem zcv_M_drawnNight : zz_CV y_M_drawnNight prog_14_method_69_code 5 (none) 1 12 := ⟨⟨zz_mem 1621 (by decide +kernel) (by decide +kernel), zz_mem 93 (by decide +kernel) (by decide +kernel), ⟨by decide +kernel, by decide +kernel, by decide +kernel⟩, by decide⟩, zz_mem 1620 (by decide +kernel) (by decide +kernel), zz_mem 61 (by decide +kernel) (by decide +kernel), rfl⟩
set_option maxRecDepth 100000 in
theorem zl_12_179 : Cond.methodLink "OneBlanketModel" 179 y_M_isSleeper ∈ zz_T := zz_mem 1387 (by decide +kernel) (by decide +kernel)
set_option maxRecDepth 100000 in
theorem zcv_M_isSleeper : zz_CV y_M_isSleeper prog_14_method_6_code 2 (some .boolean) 1 12 := ⟨⟨zz_mem 1390 (by decide +kernel) (by decide +kernel), zz_mem 93 (by decide +kernel) (by decide +kernel), ⟨by decide +kernel, by decide +kernel, by decide +kernel⟩, by decide⟩, zz_mem 1389 (by decide +kernel) (by decide +kernel), zz_mem 27 (by decide +kernel) (by decide +kernel), rfl⟩
set_option maxRecDepth 100000 in
theorem zl_12_286 : Cond.methodLink "OneBlanketModel" 286 y_M_isShelf ∈ zz_T := zz_mem 1497 (by decide +kernel) (by decide +kernel)
set_option maxRecDepth 100000 in
theorem zcs_M_isShelf : zz_CS y_M_isShelf prog_14_method_92_code 1 (some .boolean) 1 := ⟨⟨zz_mem 1499 (by decide +kernel) (by decide +kernel), zz_mem 93 (by decide +kernel) (by decide +kernel), ⟨by decide +kernel, by decide +kernel, by decide +kernel⟩, by decide⟩, zz_mem 1498 (by decide +kernel) (by decide +kernel)⟩
set_option maxRecDepth 100000 in
theorem zl_12_139 : zz_FL "OneBlanketModel" 139 12 59 := ⟨"OneBlanketModel", zz_F 12, 63, rfl, by decide, zz_mem 1224 (by decide +kernel) (by decide +kernel), by decide +kernel⟩
set_option maxRecDepth 100000 in
theorem zl_12_142 : zz_FL "OneBlanketModel" 142 12 60 := ⟨"OneBlanketModel", zz_F 12, 63, rfl, by decide, zz_mem 1225 (by decide +kernel) (by decide +kernel), by decide +kernel⟩
set_option maxRecDepth 100000 in
theorem zl_12_400 : Cond.methodLink "OneBlanketModel" 400 y_M_whyNoPlace ∈ zz_T := zz_mem 1722 (by decide +kernel) (by decide +kernel)
set_option maxRecDepth 100000 in
theorem zcv_M_whyNoPlace : zz_CV y_M_whyNoPlace prog_14_method_95_code 3 (some .int) 2 12 := ⟨⟨zz_mem 1725 (by decide +kernel) (by decide +kernel), zz_mem 93 (by decide +kernel) (by decide +kernel), ⟨by decide +kernel, by decide +kernel, by decide +kernel⟩, by decide⟩, zz_mem 1724 (by decide +kernel) (by decide +kernel), zz_mem 77 (by decide +kernel) (by decide +kernel), rfl⟩
set_option maxRecDepth 100000 in
theorem zl_12_145 : zz_FL "OneBlanketModel" 145 12 61 := ⟨"OneBlanketModel", zz_F 12, 63, rfl, by decide, zz_mem 1226 (by decide +kernel) (by decide +kernel), by decide +kernel⟩
set_option maxRecDepth 100000 in
theorem zl_12_405 : Jvm.Cond.constantLong "OneBlanketModel" 405 (-9223372036854775808 : Int64) ∈ zz_T := zz_mem 1730 (by decide +kernel) (by decide +kernel)
theorem zpf_12_23 : zz_PF 12 23 := zz_PF.of (by decide +kernel) (by decide +kernel) rfl
theorem zpf_12_36 : zz_PF 12 36 := zz_PF.of (by decide +kernel) (by decide +kernel) rfl
set_option maxRecDepth 100000 in
theorem zl_12_348 : Cond.methodLink "OneBlanketModel" 348 y_M_isAsFilm ∈ zz_T := zz_mem 1635 (by decide +kernel) (by decide +kernel)
set_option maxRecDepth 100000 in
theorem zcv_M_isAsFilm : zz_CV y_M_isAsFilm prog_14_method_72_code 4 (some .boolean) 1 12 := ⟨⟨zz_mem 1638 (by decide +kernel) (by decide +kernel), zz_mem 93 (by decide +kernel) (by decide +kernel), ⟨by decide +kernel, by decide +kernel, by decide +kernel⟩, by decide⟩, zz_mem 1637 (by decide +kernel) (by decide +kernel), zz_mem 63 (by decide +kernel) (by decide +kernel), rfl⟩
set_option maxRecDepth 100000 in
theorem zl_12_249 : Cond.methodLink "OneBlanketModel" 249 y_M_line ∈ zz_T := zz_mem 1420 (by decide +kernel) (by decide +kernel)
set_option maxRecDepth 100000 in
theorem zcv_M_line : zz_CV y_M_line prog_14_method_32_code 2 (none) 0 12 := ⟨⟨zz_mem 1423 (by decide +kernel) (by decide +kernel), zz_mem 93 (by decide +kernel) (by decide +kernel), ⟨by decide +kernel, by decide +kernel, by decide +kernel⟩, by decide⟩, zz_mem 1422 (by decide +kernel) (by decide +kernel), zz_mem 32 (by decide +kernel) (by decide +kernel), rfl⟩
set_option maxRecDepth 100000 in
theorem zl_12_261 : Cond.methodLink "OneBlanketModel" 261 y_M_readText ∈ zz_T := zz_mem 1416 (by decide +kernel) (by decide +kernel)
set_option maxRecDepth 100000 in
theorem zcv_M_readText : zz_CV y_M_readText prog_14_method_33_code 3 (some .int) 1 12 := ⟨⟨zz_mem 1419 (by decide +kernel) (by decide +kernel), zz_mem 93 (by decide +kernel) (by decide +kernel), ⟨by decide +kernel, by decide +kernel, by decide +kernel⟩, by decide⟩, zz_mem 1418 (by decide +kernel) (by decide +kernel), zz_mem 31 (by decide +kernel) (by decide +kernel), rfl⟩
theorem zpf_12_35 : zz_PF 12 35 := zz_PF.of (by decide +kernel) (by decide +kernel) rfl
set_option maxRecDepth 100000 in
theorem zl_12_183 : Cond.methodLink "OneBlanketModel" 183 y_M_changes ∈ zz_T := zz_mem 1391 (by decide +kernel) (by decide +kernel)
set_option maxRecDepth 100000 in
theorem zcv_M_changes : zz_CV y_M_changes prog_14_method_14_code 6 (some .int) 3 12 := ⟨⟨zz_mem 1394 (by decide +kernel) (by decide +kernel), zz_mem 93 (by decide +kernel) (by decide +kernel), ⟨by decide +kernel, by decide +kernel, by decide +kernel⟩, by decide⟩, zz_mem 1393 (by decide +kernel) (by decide +kernel), zz_mem 28 (by decide +kernel) (by decide +kernel), rfl⟩
theorem zpf_12_51 : zz_PF 12 51 := zz_PF.of (by decide +kernel) (by decide +kernel) rfl
set_option maxRecDepth 100000 in
theorem zl_12_149 : zz_FL "OneBlanketModel" 149 12 62 := ⟨"OneBlanketModel", zz_F 12, 63, rfl, by decide, zz_mem 1227 (by decide +kernel) (by decide +kernel), by decide +kernel⟩
theorem zpf_12_2 : zz_PF 12 2 := zz_PF.of (by decide +kernel) (by decide +kernel) rfl
set_option maxRecDepth 100000 in
theorem zl_12_289 : Jvm.Cond.constantLong "OneBlanketModel" 289 (2 : Int64) ∈ zz_T := zz_mem 1500 (by decide +kernel) (by decide +kernel)
set_option maxRecDepth 100000 in
theorem zl_12_280 : Cond.methodLink "OneBlanketModel" 280 y_M_isTurn ∈ zz_T := zz_mem 1483 (by decide +kernel) (by decide +kernel)
set_option maxRecDepth 100000 in
theorem zcs_M_isTurn : zz_CS y_M_isTurn prog_14_method_41_code 3 (some .boolean) 3 := ⟨⟨zz_mem 1485 (by decide +kernel) (by decide +kernel), zz_mem 93 (by decide +kernel) (by decide +kernel), ⟨by decide +kernel, by decide +kernel, by decide +kernel⟩, by decide⟩, zz_mem 1484 (by decide +kernel) (by decide +kernel)⟩
set_option maxRecDepth 100000 in
theorem zl_12_283 : Cond.methodLink "OneBlanketModel" 283 y_M_addTurn ∈ zz_T := zz_mem 1489 (by decide +kernel) (by decide +kernel)
set_option maxRecDepth 100000 in
theorem zcv_M_addTurn : zz_CV y_M_addTurn prog_14_method_42_code 4 (some .int) 3 12 := ⟨⟨zz_mem 1492 (by decide +kernel) (by decide +kernel), zz_mem 93 (by decide +kernel) (by decide +kernel), ⟨by decide +kernel, by decide +kernel, by decide +kernel⟩, by decide⟩, zz_mem 1491 (by decide +kernel) (by decide +kernel), zz_mem 44 (by decide +kernel) (by decide +kernel), rfl⟩
set_option maxRecDepth 100000 in
theorem zl_12_329 : Cond.methodLink "OneBlanketModel" 329 y_M_easyOfAll ∈ zz_T := zz_mem 1594 (by decide +kernel) (by decide +kernel)
set_option maxRecDepth 100000 in
theorem zcv_M_easyOfAll : zz_CV y_M_easyOfAll prog_14_method_62_code 3 (some .int) 0 12 := ⟨⟨zz_mem 1597 (by decide +kernel) (by decide +kernel), zz_mem 93 (by decide +kernel) (by decide +kernel), ⟨by decide +kernel, by decide +kernel, by decide +kernel⟩, by decide⟩, zz_mem 1596 (by decide +kernel) (by decide +kernel), zz_mem 58 (by decide +kernel) (by decide +kernel), rfl⟩
theorem zpf_12_1 : zz_PF 12 1 := zz_PF.of (by decide +kernel) (by decide +kernel) rfl
theorem zpf_12_38 : zz_PF 12 38 := zz_PF.of (by decide +kernel) (by decide +kernel) rfl
theorem zlk_Bodies_run_63 {x : Int} (h0 : x ≠ 1) (h1 : x ≠ 2) (h2 : x ≠ 10) (h3 : x ≠ 11) (h4 : x ≠ 20) (h5 : x ≠ 30) (h6 : x ≠ 40) (h7 : x ≠ 41) (h8 : x ≠ 50) (h9 : x ≠ 60) (h10 : x ≠ 61) (h11 : x ≠ 70) (h12 : x ≠ 80) (h13 : x ≠ 81) : Op.lookupswitch.offset [(1, 121), (2, 126), (10, 151), (11, 166), (20, 171), (30, 186), (40, 200), (41, 215), (50, 230), (60, 245), (61, 270), (70, 285), (80, 300), (81, 325)] (340) x = 340 := by
  simp [Op.lookupswitch.offset, Ne.symm h0, Ne.symm h1, Ne.symm h2, Ne.symm h3, Ne.symm h4, Ne.symm h5, Ne.symm h6, Ne.symm h7, Ne.symm h8, Ne.symm h9, Ne.symm h10, Ne.symm h11, Ne.symm h12, Ne.symm h13]
theorem zlk_Text_worthOfTwo_1 {x : Int} (h0 : x ≠ 38) (h1 : x ≠ 42) (h2 : x ≠ 43) (h3 : x ≠ 45) (h4 : x ≠ 47) (h5 : x ≠ 60) (h6 : x ≠ 61) (h7 : x ≠ 62) (h8 : x ≠ 124) : Op.lookupswitch.offset [(38, 97), (42, 152), (43, 144), (45, 148), (47, 156), (60, 111), (61, 122), (62, 133), (124, 83)] (168) x = 168 := by
  simp [Op.lookupswitch.offset, Ne.symm h0, Ne.symm h1, Ne.symm h2, Ne.symm h3, Ne.symm h4, Ne.symm h5, Ne.symm h6, Ne.symm h7, Ne.symm h8]
theorem zlk_Turns_ofTurn_1 {x : Int} (h0 : x ≠ 0) (h1 : x ≠ 1) : Op.lookupswitch.offset [(0, 27), (1, 34)] (41) x = 41 := by
  simp [Op.lookupswitch.offset, Ne.symm h0, Ne.symm h1]
theorem zlk_B_minutes_30 {x : Int} (h0 : x ≠ 0) (h1 : x ≠ 1) : Op.lookupswitch.offset [(0, 26), (1, 39)] (52) x = 52 := by
  simp [Op.lookupswitch.offset, Ne.symm h0, Ne.symm h1]
set_option maxRecDepth 100000 in
theorem zl_max : Cond.static Lib.Math.max.name ∈ zz_T ∧ Cond.initialized "java/lang/Math" ∈ zz_T ∧ Cond.code Lib.Math.max.name Lib.Math.max.code 2 (some .int) ∈ zz_T := ⟨zz_mem 651 (by decide +kernel) (by decide +kernel), zz_mem 96 (by decide +kernel) (by decide +kernel), zz_mem 652 (by decide +kernel) (by decide +kernel)⟩
set_option maxRecDepth 100000 in
theorem zl_min : Cond.static Lib.Math.min.name ∈ zz_T ∧ Cond.initialized "java/lang/Math" ∈ zz_T ∧ Cond.code Lib.Math.min.name Lib.Math.min.code 2 (some .int) ∈ zz_T := ⟨zz_mem 654 (by decide +kernel) (by decide +kernel), zz_mem 96 (by decide +kernel) (by decide +kernel), zz_mem 655 (by decide +kernel) (by decide +kernel)⟩
set_option maxRecDepth 100000 in
theorem zl_abs : Cond.static Lib.Math.abs.name ∈ zz_T ∧ Cond.initialized "java/lang/Math" ∈ zz_T ∧ Cond.code Lib.Math.abs.name Lib.Math.abs.code 1 (some .int) ∈ zz_T := ⟨zz_mem 893 (by decide +kernel) (by decide +kernel), zz_mem 96 (by decide +kernel) (by decide +kernel), zz_mem 894 (by decide +kernel) (by decide +kernel)⟩
