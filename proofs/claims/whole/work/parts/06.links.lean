abbrev cX0_init : ByteArray := prog_2_method_1_code
def yX0_init : MethodName := ⟨RX0, "<init>", "(LBearsTwo$Ways;)V"⟩
abbrev cX0_send : ByteArray := prog_2_method_2_code
def yX0_send : MethodName := ⟨RX0, "send", "(LBearsTwo$Scene;II)I"⟩
abbrev cX0_sendOver : ByteArray := prog_2_method_3_code
def yX0_sendOver : MethodName := ⟨RX0, "sendOver", "(LBearsTwo$Scene;I)I"⟩
abbrev cX0_sendHome : ByteArray := prog_2_method_4_code
def yX0_sendHome : MethodName := ⟨RX0, "sendHome", "(LBearsTwo$Scene;I)I"⟩
abbrev cX0_wadeOver : ByteArray := prog_2_method_5_code
def yX0_wadeOver : MethodName := ⟨RX0, "wadeOver", "(LBearsTwo$Scene;II)I"⟩
abbrev cX0_wade : ByteArray := prog_2_method_6_code
def yX0_wade : MethodName := ⟨RX0, "wade", "(LBearsTwo$Scene;III)Z"⟩
abbrev cX0_couldGo : ByteArray := prog_2_method_7_code
def yX0_couldGo : MethodName := ⟨RX0, "couldGo", "(LBearsTwo$Scene;I)Z"⟩
abbrev cX1_init : ByteArray := prog_3_method_1_code
def yX1_init : MethodName := ⟨RX1, "<init>", "(LBearsTwo$Links;)V"⟩
abbrev cX1_chance : ByteArray := prog_3_method_2_code
def yX1_chance : MethodName := ⟨RX1, "chance", "(LBearsTwo$Scene;II)J"⟩
abbrev cX1_gather : ByteArray := prog_3_method_3_code
def yX1_gather : MethodName := ⟨RX1, "gather", "(LBearsTwo$Scene;II)V"⟩
abbrev cX2_init : ByteArray := prog_4_method_1_code
def yX2_init : MethodName := ⟨RX2, "<init>", "(LBearsTwo$Links;)V"⟩
abbrev cX2_lay : ByteArray := prog_4_method_2_code
def yX2_lay : MethodName := ⟨RX2, "lay", "(LBearsTwo$Scene;II)V"⟩
abbrev cX2_save : ByteArray := prog_4_method_3_code
def yX2_save : MethodName := ⟨RX2, "save", "()V"⟩
abbrev cX2_restore : ByteArray := prog_4_method_4_code
def yX2_restore : MethodName := ⟨RX2, "restore", "()V"⟩
abbrev cX2_lift : ByteArray := prog_4_method_5_code
def yX2_lift : MethodName := ⟨RX2, "lift", "(I)V"⟩
abbrev cX2_put : ByteArray := prog_4_method_6_code
def yX2_put : MethodName := ⟨RX2, "put", "(LBearsTwo$River;IIII)V"⟩
abbrev cX2_around : ByteArray := prog_4_method_7_code
def yX2_around : MethodName := ⟨RX2, "around", "(LBearsTwo$River;II)I"⟩
abbrev cX2_join : ByteArray := prog_4_method_8_code
def yX2_join : MethodName := ⟨RX2, "join", "(II)V"⟩
abbrev cX2_linkHelps : ByteArray := prog_4_method_9_code
def yX2_linkHelps : MethodName := ⟨RX2, "linkHelps", "(II)Z"⟩
abbrev cX2_stoneHelps : ByteArray := prog_4_method_10_code
def yX2_stoneHelps : MethodName := ⟨RX2, "stoneHelps", "(LBearsTwo$River;II)Z"⟩
abbrev cX2_fill : ByteArray := prog_4_method_11_code
def yX2_fill : MethodName := ⟨RX2, "fill", "()I"⟩
abbrev cX2_barring : ByteArray := prog_4_method_12_code
def yX2_barring : MethodName := ⟨RX2, "barring", "()I"⟩
abbrev cX2_search : ByteArray := prog_4_method_13_code
def yX2_search : MethodName := ⟨RX2, "search", "()I"⟩
abbrev cX2_enter : ByteArray := prog_4_method_14_code
def yX2_enter : MethodName := ⟨RX2, "enter", "(II)V"⟩
abbrev cX2_leave : ByteArray := prog_4_method_15_code
def yX2_leave : MethodName := ⟨RX2, "leave", "(II)V"⟩
abbrev cX2_narrowest : ByteArray := prog_4_method_16_code
def yX2_narrowest : MethodName := ⟨RX2, "narrowest", "(I)I"⟩
abbrev cX2_push : ByteArray := prog_4_method_17_code
def yX2_push : MethodName := ⟨RX2, "push", "(II)V"⟩
abbrev cX3_init : ByteArray := prog_5_method_1_code
def yX3_init : MethodName := ⟨RX3, "<init>", "()V"⟩
abbrev cX3_lay : ByteArray := prog_5_method_2_code
def yX3_lay : MethodName := ⟨RX3, "lay", "(LBearsTwo$River;)V"⟩
abbrev cX3_link : ByteArray := prog_5_method_3_code
def yX3_link : MethodName := ⟨RX3, "link", "(III)V"⟩
abbrev cX3_flood : ByteArray := prog_5_method_4_code
def yX3_flood : MethodName := ⟨RX3, "flood", "(II)I"⟩
abbrev cX3_crosses : ByteArray := prog_5_method_5_code
def yX3_crosses : MethodName := ⟨RX3, "crosses", "(II)Z"⟩
abbrev cX4_init : ByteArray := prog_6_method_1_code
def yX4_init : MethodName := ⟨RX4, "<init>", "()V"⟩
abbrev cX4_takeFrom : ByteArray := prog_6_method_2_code
def yX4_takeFrom : MethodName := ⟨RX4, "takeFrom", "(LBearsTwo$Net;)V"⟩
abbrev cX4_empty : ByteArray := prog_6_method_3_code
def yX4_empty : MethodName := ⟨RX4, "empty", "()V"⟩
abbrev cX4_canLeave : ByteArray := prog_6_method_4_code
def yX4_canLeave : MethodName := ⟨RX4, "canLeave", "(I)Z"⟩
abbrev cX4_canEnter : ByteArray := prog_6_method_5_code
def yX4_canEnter : MethodName := ⟨RX4, "canEnter", "(I)Z"⟩
abbrev cX4_pass : ByteArray := prog_6_method_6_code
def yX4_pass : MethodName := ⟨RX4, "pass", "(III)V"⟩
abbrev cX5_init : ByteArray := prog_7_method_1_code
def yX5_init : MethodName := ⟨RX5, "<init>", "(LBearsTwo$Crossing;LBearsTwo$River;)V"⟩
abbrev cX5_forget : ByteArray := prog_7_method_2_code
def yX5_forget : MethodName := ⟨RX5, "forget", "()V"⟩
abbrev cX5_find : ByteArray := prog_7_method_3_code
def yX5_find : MethodName := ⟨RX5, "find", "(LBearsTwo$Scene;I)Z"⟩
abbrev cX5_unitAt : ByteArray := prog_7_method_4_code
def yX5_unitAt : MethodName := ⟨RX5, "unitAt", "(I)I"⟩
abbrev cX5_extend : ByteArray := prog_7_method_5_code
def yX5_extend : MethodName := ⟨RX5, "extend", "(IIIII)V"⟩
abbrev cX5_isBetter : ByteArray := prog_7_method_6_code
def yX5_isBetter : MethodName := ⟨RX5, "isBetter", "(II)Z"⟩
abbrev cX5_couldBeBetter : ByteArray := prog_7_method_7_code
def yX5_couldBeBetter : MethodName := ⟨RX5, "couldBeBetter", "(LBearsTwo$Scene;III)Z"⟩
abbrev cX5_hasTwin : ByteArray := prog_7_method_8_code
def yX5_hasTwin : MethodName := ⟨RX5, "hasTwin", "(II)Z"⟩
abbrev cX6_init : ByteArray := prog_8_method_1_code
def yX6_init : MethodName := ⟨RX6, "<init>", "()V"⟩
abbrev cX6_readAll : ByteArray := prog_8_method_2_code
def yX6_readAll : MethodName := ⟨RX6, "readAll", "([BI)V"⟩
abbrev cX6_readLine : ByteArray := prog_8_method_3_code
def yX6_readLine : MethodName := ⟨RX6, "readLine", "()V"⟩
abbrev cX6_readWater : ByteArray := prog_8_method_4_code
def yX6_readWater : MethodName := ⟨RX6, "readWater", "()V"⟩
abbrev cX6_readStone : ByteArray := prog_8_method_5_code
def yX6_readStone : MethodName := ⟨RX6, "readStone", "()V"⟩
abbrev cX6_readPerson : ByteArray := prog_8_method_6_code
def yX6_readPerson : MethodName := ⟨RX6, "readPerson", "()V"⟩
abbrev cX6_readHand : ByteArray := prog_8_method_7_code
def yX6_readHand : MethodName := ⟨RX6, "readHand", "(I)V"⟩
abbrev cX6_readPlank : ByteArray := prog_8_method_8_code
def yX6_readPlank : MethodName := ⟨RX6, "readPlank", "()V"⟩
abbrev cX6_readPair : ByteArray := prog_8_method_9_code
def yX6_readPair : MethodName := ⟨RX6, "readPair", "(Ljava/lang/String;II)I"⟩
abbrev cX6_readFlag : ByteArray := prog_8_method_10_code
def yX6_readFlag : MethodName := ⟨RX6, "readFlag", "(Ljava/lang/String;)Z"⟩
abbrev cX6_readNumber : ByteArray := prog_8_method_11_code
def yX6_readNumber : MethodName := ⟨RX6, "readNumber", "(II)I"⟩
abbrev cX6_refuse : ByteArray := prog_8_method_12_code
def yX6_refuse : MethodName := ⟨RX6, "refuse", "(I)V"⟩
abbrev cX6_isWord : ByteArray := prog_8_method_13_code
def yX6_isWord : MethodName := ⟨RX6, "isWord", "(Ljava/lang/String;)Z"⟩
abbrev cX6_advance : ByteArray := prog_8_method_14_code
def yX6_advance : MethodName := ⟨RX6, "advance", "()V"⟩
abbrev cX6_isLetter : ByteArray := prog_8_method_15_code
def yX6_isLetter : MethodName := ⟨RX6, "isLetter", "(B)Z"⟩
abbrev cX6_isDigit : ByteArray := prog_8_method_16_code
def yX6_isDigit : MethodName := ⟨RX6, "isDigit", "(B)Z"⟩
abbrev cX7_init : ByteArray := prog_9_method_1_code
def yX7_init : MethodName := ⟨RX7, "<init>", "()V"⟩
abbrev cX7_clear : ByteArray := prog_9_method_2_code
def yX7_clear : MethodName := ⟨RX7, "clear", "()V"⟩
abbrev cX7_takeFrom : ByteArray := prog_9_method_3_code
def yX7_takeFrom : MethodName := ⟨RX7, "takeFrom", "(LBearsTwo$River;)V"⟩
abbrev cX7_isPlace : ByteArray := prog_9_method_4_code
def yX7_isPlace : MethodName := ⟨RX7, "isPlace", "(I)Z"⟩
abbrev cX7_placeBy : ByteArray := prog_9_method_5_code
def yX7_placeBy : MethodName := ⟨RX7, "placeBy", "(I)I"⟩
abbrev cX7_isInWater : ByteArray := prog_9_method_6_code
def yX7_isInWater : MethodName := ⟨RX7, "isInWater", "(II)Z"⟩
abbrev cX7_stoneAt : ByteArray := prog_9_method_7_code
def yX7_stoneAt : MethodName := ⟨RX7, "stoneAt", "(II)I"⟩
abbrev cX7_across : ByteArray := prog_9_method_8_code
def yX7_across : MethodName := ⟨RX7, "across", "(I)I"⟩
abbrev cX7_square : ByteArray := prog_9_method_9_code
def yX7_square : MethodName := ⟨RX7, "square", "(II)I"⟩
abbrev cX7_joins : ByteArray := prog_9_method_10_code
def yX7_joins : MethodName := ⟨RX7, "joins", "(III)Z"⟩
abbrev cX7_isUnit : ByteArray := prog_9_method_11_code
def yX7_isUnit : MethodName := ⟨RX7, "isUnit", "(I)Z"⟩
abbrev cX7_unitOf : ByteArray := prog_9_method_12_code
def yX7_unitOf : MethodName := ⟨RX7, "unitOf", "(I)I"⟩
abbrev cX7_peopleOf : ByteArray := prog_9_method_13_code
def yX7_peopleOf : MethodName := ⟨RX7, "peopleOf", "(I)I"⟩
abbrev cX7_strideOf : ByteArray := prog_9_method_14_code
def yX7_strideOf : MethodName := ⟨RX7, "strideOf", "(I)I"⟩
abbrev cX7_weightOf : ByteArray := prog_9_method_15_code
def yX7_weightOf : MethodName := ⟨RX7, "weightOf", "(I)I"⟩
abbrev cX7_mustGo : ByteArray := prog_9_method_16_code
def yX7_mustGo : MethodName := ⟨RX7, "mustGo", "(I)Z"⟩
abbrev cX7_comesBack : ByteArray := prog_9_method_17_code
def yX7_comesBack : MethodName := ⟨RX7, "comesBack", "(I)Z"⟩
abbrev cX7_worthOf : ByteArray := prog_9_method_18_code
def yX7_worthOf : MethodName := ⟨RX7, "worthOf", "(I)I"⟩
abbrev cX8_init : ByteArray := prog_10_method_1_code
def yX8_init : MethodName := ⟨RX8, "<init>", "()V"⟩
abbrev cX8_clear : ByteArray := prog_10_method_2_code
def yX8_clear : MethodName := ⟨RX8, "clear", "(II)V"⟩
abbrev cX8_put : ByteArray := prog_10_method_3_code
def yX8_put : MethodName := ⟨RX8, "put", "(IJ)Z"⟩
abbrev cX8_has : ByteArray := prog_10_method_4_code
def yX8_has : MethodName := ⟨RX8, "has", "(II)Z"⟩
abbrev cX8_allBelow : ByteArray := prog_10_method_5_code
def yX8_allBelow : MethodName := ⟨RX8, "allBelow", "(I)Z"⟩
abbrev cX8_stones : ByteArray := prog_10_method_6_code
def yX8_stones : MethodName := ⟨RX8, "stones", "()I"⟩
abbrev cX8_meets : ByteArray := prog_10_method_7_code
def yX8_meets : MethodName := ⟨RX8, "meets", "(LBearsTwo$Row;I)Z"⟩
abbrev cX9_init : ByteArray := prog_11_method_1_code
def yX9_init : MethodName := ⟨RX9, "<init>", "(LBearsTwo$River;)V"⟩
abbrev cX9_begin : ByteArray := prog_11_method_2_code
def yX9_begin : MethodName := ⟨RX9, "begin", "()V"⟩
abbrev cX9_takeFrom : ByteArray := prog_11_method_3_code
def yX9_takeFrom : MethodName := ⟨RX9, "takeFrom", "(LBearsTwo$Scene;)V"⟩
abbrev cX9_wash : ByteArray := prog_11_method_4_code
def yX9_wash : MethodName := ⟨RX9, "wash", "()I"⟩
abbrev cX9_leftOf : ByteArray := prog_11_method_5_code
def yX9_leftOf : MethodName := ⟨RX9, "leftOf", "(I)I"⟩
abbrev cX9_openFor : ByteArray := prog_11_method_6_code
def yX9_openFor : MethodName := ⟨RX9, "openFor", "(I)I"⟩
abbrev cX9_inDoubt : ByteArray := prog_11_method_7_code
def yX9_inDoubt : MethodName := ⟨RX9, "inDoubt", "(I)Z"⟩
abbrev cX9_stonesInDoubt : ByteArray := prog_11_method_8_code
def yX9_stonesInDoubt : MethodName := ⟨RX9, "stonesInDoubt", "()I"⟩
abbrev cX9_drawn : ByteArray := prog_11_method_9_code
def yX9_drawn : MethodName := ⟨RX9, "drawn", "(I)I"⟩
abbrev cX9_peopleAt : ByteArray := prog_11_method_10_code
def yX9_peopleAt : MethodName := ⟨RX9, "peopleAt", "(I)I"⟩
abbrev cX9_isAt : ByteArray := prog_11_method_11_code
def yX9_isAt : MethodName := ⟨RX9, "isAt", "(II)Z"⟩
abbrev cX9_settle : ByteArray := prog_11_method_12_code
def yX9_settle : MethodName := ⟨RX9, "settle", "(II)V"⟩
abbrev cX9_missing : ByteArray := prog_11_method_13_code
def yX9_missing : MethodName := ⟨RX9, "missing", "()I"⟩
abbrev cX9_takeStep : ByteArray := prog_11_method_14_code
def yX9_takeStep : MethodName := ⟨RX9, "takeStep", "(II)Z"⟩
abbrev cX10_init : ByteArray := prog_12_method_1_code
def yX10_init : MethodName := ⟨RX10, "<init>", "(LBearsTwo$Links;)V"⟩
abbrev cX10_seek : ByteArray := prog_12_method_2_code
def yX10_seek : MethodName := ⟨RX10, "seek", "(LBearsTwo$Scene;IIII)I"⟩
abbrev cX10_putCosts : ByteArray := prog_12_method_3_code
def yX10_putCosts : MethodName := ⟨RX10, "putCosts", "(LBearsTwo$Scene;I)V"⟩
abbrev cX10_putReached : ByteArray := prog_12_method_4_code
def yX10_putReached : MethodName := ⟨RX10, "putReached", "(LBearsTwo$River;I)V"⟩
abbrev cX10_crowd : ByteArray := prog_12_method_5_code
def yX10_crowd : MethodName := ⟨RX10, "crowd", "(LBearsTwo$River;I)I"⟩
abbrev cX10_spread : ByteArray := prog_12_method_6_code
def yX10_spread : MethodName := ⟨RX10, "spread", "(IIII)V"⟩
abbrev cX10_least : ByteArray := prog_12_method_7_code
def yX10_least : MethodName := ⟨RX10, "least", "(I)I"⟩
abbrev cX10_walk : ByteArray := prog_12_method_8_code
def yX10_walk : MethodName := ⟨RX10, "walk", "(III)V"⟩
abbrev cX10_wear : ByteArray := prog_12_method_9_code
def yX10_wear : MethodName := ⟨RX10, "wear", "(LBearsTwo$Scene;I)V"⟩
abbrev cX11_init : ByteArray := prog_1_method_1_code
def yX11_init : MethodName := ⟨RX11, "<init>", "()V"⟩
abbrev cX11_feed : ByteArray := prog_1_method_2_code
def yX11_feed : MethodName := ⟨RX11, "feed", "(IIIII)I"⟩
abbrev cX11_putBytes : ByteArray := prog_1_method_3_code
def yX11_putBytes : MethodName := ⟨RX11, "putBytes", "(I)V"⟩
abbrev cX11_end : ByteArray := prog_1_method_4_code
def yX11_end : MethodName := ⟨RX11, "end", "(I)I"⟩
abbrev cX11_river : ByteArray := prog_1_method_5_code
def yX11_river : MethodName := ⟨RX11, "river", "()I"⟩
abbrev cX11_fault : ByteArray := prog_1_method_6_code
def yX11_fault : MethodName := ⟨RX11, "fault", "(I)I"⟩
abbrev cX11_stone : ByteArray := prog_1_method_7_code
def yX11_stone : MethodName := ⟨RX11, "stone", "(II)I"⟩
abbrev cX11_knowledgeOf : ByteArray := prog_1_method_8_code
def yX11_knowledgeOf : MethodName := ⟨RX11, "knowledgeOf", "(I)I"⟩
abbrev cX11_person : ByteArray := prog_1_method_9_code
def yX11_person : MethodName := ⟨RX11, "person", "(II)I"⟩
abbrev cX11_may : ByteArray := prog_1_method_10_code
def yX11_may : MethodName := ⟨RX11, "may", "(III)I"⟩
abbrev cX11_reach : ByteArray := prog_1_method_11_code
def yX11_reach : MethodName := ⟨RX11, "reach", "(I)I"⟩
abbrev cX11_hour : ByteArray := prog_1_method_12_code
def yX11_hour : MethodName := ⟨RX11, "hour", "(I)I"⟩
abbrev cX11_fresh : ByteArray := prog_1_method_13_code
def yX11_fresh : MethodName := ⟨RX11, "fresh", "()I"⟩
abbrev cX11_length : ByteArray := prog_1_method_14_code
def yX11_length : MethodName := ⟨RX11, "length", "(III)I"⟩
abbrev cX11_path : ByteArray := prog_1_method_15_code
def yX11_path : MethodName := ⟨RX11, "path", "(IIII)I"⟩
abbrev cX11_step : ByteArray := prog_1_method_16_code
def yX11_step : MethodName := ⟨RX11, "step", "(II)I"⟩
abbrev cX11_judge : ByteArray := prog_1_method_17_code
def yX11_judge : MethodName := ⟨RX11, "judge", "(I)I"⟩
abbrev cX11_ends : ByteArray := prog_1_method_18_code
def yX11_ends : MethodName := ⟨RX11, "ends", "(II)I"⟩
abbrev cX11_stepsInThought : ByteArray := prog_1_method_19_code
def yX11_stepsInThought : MethodName := ⟨RX11, "stepsInThought", "(LBearsTwo$Row;)I"⟩
abbrev cX11_stepInThought : ByteArray := prog_1_method_20_code
def yX11_stepInThought : MethodName := ⟨RX11, "stepInThought", "(JJ)Z"⟩
abbrev cX11_go : ByteArray := prog_1_method_21_code
def yX11_go : MethodName := ⟨RX11, "go", "(II)I"⟩
abbrev cX11_over : ByteArray := prog_1_method_22_code
def yX11_over : MethodName := ⟨RX11, "over", "(II)I"⟩
abbrev cX11_overInThought : ByteArray := prog_1_method_23_code
def yX11_overInThought : MethodName := ⟨RX11, "overInThought", "(I)I"⟩
abbrev cX11_all : ByteArray := prog_1_method_24_code
def yX11_all : MethodName := ⟨RX11, "all", "(I)I"⟩
abbrev cX11_order : ByteArray := prog_1_method_25_code
def yX11_order : MethodName := ⟨RX11, "order", "(II)I"⟩
abbrev cX11_gap : ByteArray := prog_1_method_26_code
def yX11_gap : MethodName := ⟨RX11, "gap", "(I)I"⟩
abbrev cX11_home : ByteArray := prog_1_method_27_code
def yX11_home : MethodName := ⟨RX11, "home", "(I)I"⟩
abbrev cX11_days : ByteArray := prog_1_method_28_code
def yX11_days : MethodName := ⟨RX11, "days", "(I)I"⟩
abbrev cX11_best : ByteArray := prog_1_method_29_code
def yX11_best : MethodName := ⟨RX11, "best", "()I"⟩
abbrev cX11_most : ByteArray := prog_1_method_30_code
def yX11_most : MethodName := ⟨RX11, "most", "(II)I"⟩
abbrev cX11_mostOf : ByteArray := prog_1_method_31_code
def yX11_mostOf : MethodName := ⟨RX11, "mostOf", "(LBearsTwo$Scene;II)I"⟩
abbrev cX11_cut : ByteArray := prog_1_method_32_code
def yX11_cut : MethodName := ⟨RX11, "cut", "(II)I"⟩
abbrev cX11_bars : ByteArray := prog_1_method_33_code
def yX11_bars : MethodName := ⟨RX11, "bars", "(III)I"⟩
abbrev cX11_alike : ByteArray := prog_1_method_34_code
def yX11_alike : MethodName := ⟨RX11, "alike", "(III)I"⟩
abbrev cX11_more : ByteArray := prog_1_method_35_code
def yX11_more : MethodName := ⟨RX11, "more", "(IIII)I"⟩
abbrev cX11_where : ByteArray := prog_1_method_36_code
def yX11_where : MethodName := ⟨RX11, "where", "(II)I"⟩
abbrev cX11_mostWithOneMore : ByteArray := prog_1_method_37_code
def yX11_mostWithOneMore : MethodName := ⟨RX11, "mostWithOneMore", "(III)I"⟩
abbrev cX11_moved : ByteArray := prog_1_method_38_code
def yX11_moved : MethodName := ⟨RX11, "moved", "(III)I"⟩
abbrev cX11_mostMoved : ByteArray := prog_1_method_39_code
def yX11_mostMoved : MethodName := ⟨RX11, "mostMoved", "(III)I"⟩
abbrev cX11_move : ByteArray := prog_1_method_40_code
def yX11_move : MethodName := ⟨RX11, "move", "(II)I"⟩
abbrev cX11_plank : ByteArray := prog_1_method_41_code
def yX11_plank : MethodName := ⟨RX11, "plank", "(III)I"⟩
abbrev cX11_planks : ByteArray := prog_1_method_42_code
def yX11_planks : MethodName := ⟨RX11, "planks", "(I)I"⟩
abbrev cX11_mostWithPlank : ByteArray := prog_1_method_43_code
def yX11_mostWithPlank : MethodName := ⟨RX11, "mostWithPlank", "(III)I"⟩
abbrev cX11_know : ByteArray := prog_1_method_44_code
def yX11_know : MethodName := ⟨RX11, "know", "(IZ)I"⟩
abbrev cX11_sure : ByteArray := prog_1_method_45_code
def yX11_sure : MethodName := ⟨RX11, "sure", "(II)J"⟩
abbrev cX11_tread : ByteArray := prog_1_method_46_code
def yX11_tread : MethodName := ⟨RX11, "tread", "(III)J"⟩
abbrev cX11_treadOf : ByteArray := prog_1_method_47_code
def yX11_treadOf : MethodName := ⟨RX11, "treadOf", "(III)J"⟩
abbrev cX11_first : ByteArray := prog_1_method_48_code
def yX11_first : MethodName := ⟨RX11, "first", "(II)I"⟩
abbrev cX11_price : ByteArray := prog_1_method_49_code
def yX11_price : MethodName := ⟨RX11, "price", "(III)I"⟩
abbrev cX11_priceOf : ByteArray := prog_1_method_50_code
def yX11_priceOf : MethodName := ⟨RX11, "priceOf", "(III)I"⟩
abbrev cX11_keep : ByteArray := prog_1_method_51_code
def yX11_keep : MethodName := ⟨RX11, "keep", "(II)I"⟩
abbrev cX11_late : ByteArray := prog_1_method_52_code
def yX11_late : MethodName := ⟨RX11, "late", "(II)I"⟩
abbrev cX11_mostAt : ByteArray := prog_1_method_53_code
def yX11_mostAt : MethodName := ⟨RX11, "mostAt", "(II)I"⟩
abbrev cX11_noon : ByteArray := prog_1_method_54_code
def yX11_noon : MethodName := ⟨RX11, "noon", "(II)I"⟩
abbrev cX11_waits : ByteArray := prog_1_method_55_code
def yX11_waits : MethodName := ⟨RX11, "waits", "(II)I"⟩
abbrev cX11_cross : ByteArray := prog_1_method_56_code
def yX11_cross : MethodName := ⟨RX11, "cross", "(II)I"⟩
abbrev cX11_wrongRows : ByteArray := prog_1_method_57_code
def yX11_wrongRows : MethodName := ⟨RX11, "wrongRows", "(II)I"⟩
abbrev cX11_run : ByteArray := prog_1_method_58_code
def yX11_run : MethodName := ⟨RX11, "run", "(II)I"⟩
abbrev cX11_peopleOnDay : ByteArray := prog_1_method_59_code
def yX11_peopleOnDay : MethodName := ⟨RX11, "peopleOnDay", "(II)I"⟩
abbrev cX11_runs : ByteArray := prog_1_method_60_code
def yX11_runs : MethodName := ⟨RX11, "runs", "(IIII)I"⟩
abbrev cX11_count : ByteArray := prog_1_method_61_code
def yX11_count : MethodName := ⟨RX11, "count", "(I)I"⟩
abbrev cX11_rowsThere : ByteArray := prog_1_method_62_code
def yX11_rowsThere : MethodName := ⟨RX11, "rowsThere", "()I"⟩
abbrev cX11_image : ByteArray := prog_1_method_63_code
def yX11_image : MethodName := ⟨RX11, "image", "(I)I"⟩
abbrev cX11_back : ByteArray := prog_1_method_64_code
def yX11_back : MethodName := ⟨RX11, "back", "(I)I"⟩
abbrev cX11_row : ByteArray := prog_1_method_65_code
def yX11_row : MethodName := ⟨RX11, "row", "(III)I"⟩
abbrev cX11_write : ByteArray := prog_1_method_66_code
def yX11_write : MethodName := ⟨RX11, "write", "(IIJ)I"⟩
abbrev cX11_paste : ByteArray := prog_1_method_67_code
def yX11_paste : MethodName := ⟨RX11, "paste", "(IIIII)I"⟩
abbrev cX11_isTold : ByteArray := prog_1_method_68_code
def yX11_isTold : MethodName := ⟨RX11, "isTold", "()Z"⟩
abbrev cX11_isStone : ByteArray := prog_1_method_69_code
def yX11_isStone : MethodName := ⟨RX11, "isStone", "(I)Z"⟩
abbrev cX11_isPerson : ByteArray := prog_1_method_70_code
def yX11_isPerson : MethodName := ⟨RX11, "isPerson", "(I)Z"⟩
abbrev cX11_isStride : ByteArray := prog_1_method_71_code
def yX11_isStride : MethodName := ⟨RX11, "isStride", "(I)Z"⟩
abbrev cX11_isWay : ByteArray := prog_1_method_72_code
def yX11_isWay : MethodName := ⟨RX11, "isWay", "(I)Z"⟩
abbrev cX11_isHour : ByteArray := prog_1_method_73_code
def yX11_isHour : MethodName := ⟨RX11, "isHour", "(I)Z"⟩
abbrev cX11_isWeight : ByteArray := prog_1_method_74_code
def yX11_isWeight : MethodName := ⟨RX11, "isWeight", "(I)Z"⟩
abbrev cX11_isLoad : ByteArray := prog_1_method_75_code
def yX11_isLoad : MethodName := ⟨RX11, "isLoad", "(I)Z"⟩
abbrev cX11_isSeed : ByteArray := prog_1_method_76_code
def yX11_isSeed : MethodName := ⟨RX11, "isSeed", "(I)Z"⟩
abbrev cX11_isSlot : ByteArray := prog_1_method_77_code
def yX11_isSlot : MethodName := ⟨RX11, "isSlot", "(I)Z"⟩
abbrev cX11_isImage : ByteArray := prog_1_method_78_code
def yX11_isImage : MethodName := ⟨RX11, "isImage", "(I)Z"⟩
abbrev cX12_init : ByteArray := prog_14_method_1_code
def yX12_init : MethodName := ⟨RX12, "<init>", "()V"⟩
abbrev cX12_in : ByteArray := prog_14_method_3_code
def yX12_in : MethodName := ⟨RX12, "in", "(JJJ)Z"⟩
abbrev cX12_image : ByteArray := prog_14_method_4_code
def yX12_image : MethodName := ⟨RX12, "image", "(I)I"⟩
abbrev cX12_back : ByteArray := prog_14_method_5_code
def yX12_back : MethodName := ⟨RX12, "back", "(I)I"⟩
abbrev cX12_isRiver : ByteArray := prog_14_method_6_code
def yX12_isRiver : MethodName := ⟨RX12, "isRiver", "()Z"⟩
abbrev cX12_ofStone : ByteArray := prog_14_method_7_code
def yX12_ofStone : MethodName := ⟨RX12, "ofStone", "(II)I"⟩
abbrev cX12_setStone : ByteArray := prog_14_method_8_code
def yX12_setStone : MethodName := ⟨RX12, "setStone", "(III)V"⟩
abbrev cX12_of : ByteArray := prog_14_method_9_code
def yX12_of : MethodName := ⟨RX12, "of", "(II)I"⟩
abbrev cX12_set : ByteArray := prog_14_method_10_code
def yX12_set : MethodName := ⟨RX12, "set", "(III)V"⟩
abbrev cX12_isStone : ByteArray := prog_14_method_11_code
def yX12_isStone : MethodName := ⟨RX12, "isStone", "(I)Z"⟩
abbrev cX12_isPerson : ByteArray := prog_14_method_12_code
def yX12_isPerson : MethodName := ⟨RX12, "isPerson", "(I)Z"⟩
abbrev cX12_isPlace : ByteArray := prog_14_method_13_code
def yX12_isPlace : MethodName := ⟨RX12, "isPlace", "(I)Z"⟩
abbrev cX12_feed : ByteArray := prog_14_method_14_code
def yX12_feed : MethodName := ⟨RX12, "feed", "(IIIII)I"⟩
abbrev cX12_end : ByteArray := prog_14_method_15_code
def yX12_end : MethodName := ⟨RX12, "end", "(I)I"⟩
abbrev cX12_see : ByteArray := prog_14_method_16_code
def yX12_see : MethodName := ⟨RX12, "see", "(I)I"⟩
abbrev cX12_advance : ByteArray := prog_14_method_17_code
def yX12_advance : MethodName := ⟨RX12, "advance", "()V"⟩
abbrev cX12_good : ByteArray := prog_14_method_18_code
def yX12_good : MethodName := ⟨RX12, "good", "()Z"⟩
abbrev cX12_errs : ByteArray := prog_14_method_19_code
def yX12_errs : MethodName := ⟨RX12, "errs", "(I)V"⟩
abbrev cX12_is : ByteArray := prog_14_method_20_code
def yX12_is : MethodName := ⟨RX12, "is", "(Ljava/lang/String;)Z"⟩
abbrev cX12_takes : ByteArray := prog_14_method_21_code
def yX12_takes : MethodName := ⟨RX12, "takes", "(Ljava/lang/String;)Z"⟩
abbrev cX12_needs : ByteArray := prog_14_method_22_code
def yX12_needs : MethodName := ⟨RX12, "needs", "(Ljava/lang/String;)V"⟩
abbrev cX12_number : ByteArray := prog_14_method_23_code
def yX12_number : MethodName := ⟨RX12, "number", "(II)I"⟩
abbrev cX12_told : ByteArray := prog_14_method_24_code
def yX12_told : MethodName := ⟨RX12, "told", "(Ljava/lang/String;II)I"⟩
abbrev cX12_fault : ByteArray := prog_14_method_25_code
def yX12_fault : MethodName := ⟨RX12, "fault", "(I)I"⟩
abbrev cX12_freshOn : ByteArray := prog_14_method_26_code
def yX12_freshOn : MethodName := ⟨RX12, "freshOn", "(II)I"⟩
abbrev cX12_readStone : ByteArray := prog_14_method_27_code
def yX12_readStone : MethodName := ⟨RX12, "readStone", "()V"⟩
abbrev cX12_readPerson : ByteArray := prog_14_method_28_code
def yX12_readPerson : MethodName := ⟨RX12, "readPerson", "()V"⟩
abbrev cX12_readNext : ByteArray := prog_14_method_29_code
def yX12_readNext : MethodName := ⟨RX12, "readNext", "()V"⟩
abbrev cX12_readLine : ByteArray := prog_14_method_30_code
def yX12_readLine : MethodName := ⟨RX12, "readLine", "()V"⟩
abbrev cX12_river : ByteArray := prog_14_method_31_code
def yX12_river : MethodName := ⟨RX12, "river", "()I"⟩
abbrev cX12_bearsNow : ByteArray := prog_14_method_32_code
def yX12_bearsNow : MethodName := ⟨RX12, "bearsNow", "(I)I"⟩
abbrev cX12_left : ByteArray := prog_14_method_33_code
def yX12_left : MethodName := ⟨RX12, "left", "(I)I"⟩
abbrev cX12_isInDoubt : ByteArray := prog_14_method_34_code
def yX12_isInDoubt : MethodName := ⟨RX12, "isInDoubt", "(I)Z"⟩
abbrev cX12_stone : ByteArray := prog_14_method_35_code
def yX12_stone : MethodName := ⟨RX12, "stone", "(II)I"⟩
abbrev cX12_acrossOf : ByteArray := prog_14_method_36_code
def yX12_acrossOf : MethodName := ⟨RX12, "acrossOf", "(I)I"⟩
abbrev cX12_squares : ByteArray := prog_14_method_37_code
def yX12_squares : MethodName := ⟨RX12, "squares", "(II)I"⟩
abbrev cX12_isStep : ByteArray := prog_14_method_38_code
def yX12_isStep : MethodName := ⟨RX12, "isStep", "(III)Z"⟩
abbrev cX12_isStride : ByteArray := prog_14_method_39_code
def yX12_isStride : MethodName := ⟨RX12, "isStride", "(I)Z"⟩
abbrev cX12_may : ByteArray := prog_14_method_40_code
def yX12_may : MethodName := ⟨RX12, "may", "(III)I"⟩
abbrev cX12_reachOf : ByteArray := prog_14_method_41_code
def yX12_reachOf : MethodName := ⟨RX12, "reachOf", "(I)I"⟩
abbrev cX12_reach : ByteArray := prog_14_method_42_code
def yX12_reach : MethodName := ⟨RX12, "reach", "(I)I"⟩
abbrev cX12_hour : ByteArray := prog_14_method_43_code
def yX12_hour : MethodName := ⟨RX12, "hour", "(I)I"⟩
abbrev cX12_borneAll : ByteArray := prog_14_method_44_code
def yX12_borneAll : MethodName := ⟨RX12, "borneAll", "()I"⟩
abbrev cX12_freshens : ByteArray := prog_14_method_45_code
def yX12_freshens : MethodName := ⟨RX12, "freshens", "()V"⟩
abbrev cX12_fresh : ByteArray := prog_14_method_46_code
def yX12_fresh : MethodName := ⟨RX12, "fresh", "()I"⟩
abbrev cX12_fillCosts : ByteArray := prog_14_method_47_code
def yX12_fillCosts : MethodName := ⟨RX12, "fillCosts", "(I)V"⟩
abbrev cX12_isLess : ByteArray := prog_14_method_48_code
def yX12_isLess : MethodName := ⟨RX12, "isLess", "(IIII)Z"⟩
abbrev cX12_fillLeft : ByteArray := prog_14_method_49_code
def yX12_fillLeft : MethodName := ⟨RX12, "fillLeft", "(III)V"⟩
abbrev cX12_finds : ByteArray := prog_14_method_50_code
def yX12_finds : MethodName := ⟨RX12, "finds", "(IIII)Z"⟩
abbrev cX12_isAsked : ByteArray := prog_14_method_51_code
def yX12_isAsked : MethodName := ⟨RX12, "isAsked", "(III)Z"⟩
abbrev cX12_length : ByteArray := prog_14_method_52_code
def yX12_length : MethodName := ⟨RX12, "length", "(III)I"⟩
abbrev cX12_path : ByteArray := prog_14_method_53_code
def yX12_path : MethodName := ⟨RX12, "path", "(IIII)I"⟩
abbrev cX12_bears : ByteArray := prog_14_method_54_code
def yX12_bears : MethodName := ⟨RX12, "bears", "(II)V"⟩
abbrev cX12_steps : ByteArray := prog_14_method_55_code
def yX12_steps : MethodName := ⟨RX12, "steps", "(II)Z"⟩
abbrev cX12_step : ByteArray := prog_14_method_56_code
def yX12_step : MethodName := ⟨RX12, "step", "(II)I"⟩
abbrev cX12_thinks : ByteArray := prog_14_method_57_code
def yX12_thinks : MethodName := ⟨RX12, "thinks", "()V"⟩
abbrev cX12_wakes : ByteArray := prog_14_method_58_code
def yX12_wakes : MethodName := ⟨RX12, "wakes", "()V"⟩
abbrev cX12_walks : ByteArray := prog_14_method_59_code
def yX12_walks : MethodName := ⟨RX12, "walks", "(I)I"⟩
abbrev cX12_judge : ByteArray := prog_14_method_60_code
def yX12_judge : MethodName := ⟨RX12, "judge", "(I)I"⟩
abbrev cX12_ends : ByteArray := prog_14_method_61_code
def yX12_ends : MethodName := ⟨RX12, "ends", "(II)I"⟩
abbrev cX12_leads : ByteArray := prog_14_method_62_code
def yX12_leads : MethodName := ⟨RX12, "leads", "(I)Z"⟩
abbrev cX12_units : ByteArray := prog_14_method_63_code
def yX12_units : MethodName := ⟨RX12, "units", "()I"⟩
abbrev cX12_second : ByteArray := prog_14_method_64_code
def yX12_second : MethodName := ⟨RX12, "second", "(I)I"⟩
abbrev cX12_sumOf : ByteArray := prog_14_method_65_code
def yX12_sumOf : MethodName := ⟨RX12, "sumOf", "(II)I"⟩
abbrev cX12_strideOf : ByteArray := prog_14_method_66_code
def yX12_strideOf : MethodName := ⟨RX12, "strideOf", "(I)I"⟩
abbrev cX12_manyOf : ByteArray := prog_14_method_67_code
def yX12_manyOf : MethodName := ⟨RX12, "manyOf", "(I)I"⟩
abbrev cX12_bitsOf : ByteArray := prog_14_method_68_code
def yX12_bitsOf : MethodName := ⟨RX12, "bitsOf", "(I)I"⟩
abbrev cX12_isAt : ByteArray := prog_14_method_69_code
def yX12_isAt : MethodName := ⟨RX12, "isAt", "(II)Z"⟩
abbrev cX12_puts : ByteArray := prog_14_method_70_code
def yX12_puts : MethodName := ⟨RX12, "puts", "(II)V"⟩
abbrev cX12_person : ByteArray := prog_14_method_71_code
def yX12_person : MethodName := ⟨RX12, "person", "(II)I"⟩
abbrev cX12_goes : ByteArray := prog_14_method_72_code
def yX12_goes : MethodName := ⟨RX12, "goes", "(III)Z"⟩
abbrev cX12_isWay : ByteArray := prog_14_method_73_code
def yX12_isWay : MethodName := ⟨RX12, "isWay", "(I)Z"⟩
abbrev cX12_go : ByteArray := prog_14_method_74_code
def yX12_go : MethodName := ⟨RX12, "go", "(II)I"⟩
abbrev cX12_clearsOver : ByteArray := prog_14_method_75_code
def yX12_clearsOver : MethodName := ⟨RX12, "clearsOver", "()V"⟩
abbrev cX12_goesOver : ByteArray := prog_14_method_76_code
def yX12_goesOver : MethodName := ⟨RX12, "goesOver", "(II)V"⟩
abbrev cX12_allGoOver : ByteArray := prog_14_method_77_code
def yX12_allGoOver : MethodName := ⟨RX12, "allGoOver", "(I)V"⟩
abbrev cX12_mustAndNot : ByteArray := prog_14_method_78_code
def yX12_mustAndNot : MethodName := ⟨RX12, "mustAndNot", "()I"⟩
abbrev cX12_over : ByteArray := prog_14_method_79_code
def yX12_over : MethodName := ⟨RX12, "over", "(II)I"⟩
abbrev cX12_all : ByteArray := prog_14_method_80_code
def yX12_all : MethodName := ⟨RX12, "all", "(I)I"⟩
abbrev cX12_fillWaiting : ByteArray := prog_14_method_81_code
def yX12_fillWaiting : MethodName := ⟨RX12, "fillWaiting", "()V"⟩
abbrev cX12_swaps : ByteArray := prog_14_method_82_code
def yX12_swaps : MethodName := ⟨RX12, "swaps", "(II)V"⟩
abbrev cX12_nextOrder : ByteArray := prog_14_method_83_code
def yX12_nextOrder : MethodName := ⟨RX12, "nextOrder", "()Z"⟩
abbrev cX12_findsOrder : ByteArray := prog_14_method_84_code
def yX12_findsOrder : MethodName := ⟨RX12, "findsOrder", "(I)V"⟩
abbrev cX12_order : ByteArray := prog_14_method_85_code
def yX12_order : MethodName := ⟨RX12, "order", "(II)I"⟩
abbrev cX12_gap : ByteArray := prog_14_method_86_code
def yX12_gap : MethodName := ⟨RX12, "gap", "(I)I"⟩
abbrev cX12_home : ByteArray := prog_14_method_87_code
def yX12_home : MethodName := ⟨RX12, "home", "(I)I"⟩
abbrev cX12_isSomebodyHere : ByteArray := prog_14_method_88_code
def yX12_isSomebodyHere : MethodName := ⟨RX12, "isSomebodyHere", "()Z"⟩
abbrev cX12_days : ByteArray := prog_14_method_89_code
def yX12_days : MethodName := ⟨RX12, "days", "(I)I"⟩
abbrev cX12_best : ByteArray := prog_14_method_90_code
def yX12_best : MethodName := ⟨RX12, "best", "()I"⟩
abbrev cX12_fillNodes : ByteArray := prog_14_method_91_code
def yX12_fillNodes : MethodName := ⟨RX12, "fillNodes", "(I)V"⟩
abbrev cX12_addNode : ByteArray := prog_14_method_92_code
def yX12_addNode : MethodName := ⟨RX12, "addNode", "(III)V"⟩
abbrev cX12_areNear : ByteArray := prog_14_method_93_code
def yX12_areNear : MethodName := ⟨RX12, "areNear", "(III)Z"⟩
abbrev cX12_fillRoom : ByteArray := prog_14_method_94_code
def yX12_fillRoom : MethodName := ⟨RX12, "fillRoom", "(I)V"⟩
abbrev cX12_floods : ByteArray := prog_14_method_95_code
def yX12_floods : MethodName := ⟨RX12, "floods", "()Z"⟩
abbrev cX12_flow : ByteArray := prog_14_method_96_code
def yX12_flow : MethodName := ⟨RX12, "flow", "(I)I"⟩
abbrev cX12_mostOf : ByteArray := prog_14_method_97_code
def yX12_mostOf : MethodName := ⟨RX12, "mostOf", "(II)I"⟩
abbrev cX12_isLoad : ByteArray := prog_14_method_98_code
def yX12_isLoad : MethodName := ⟨RX12, "isLoad", "(II)Z"⟩
abbrev cX12_most : ByteArray := prog_14_method_99_code
def yX12_most : MethodName := ⟨RX12, "most", "(II)I"⟩
abbrev cX12_cut : ByteArray := prog_14_method_100_code
def yX12_cut : MethodName := ⟨RX12, "cut", "(II)I"⟩
abbrev cX12_bars : ByteArray := prog_14_method_101_code
def yX12_bars : MethodName := ⟨RX12, "bars", "(III)I"⟩
abbrev cX12_alike : ByteArray := prog_14_method_102_code
def yX12_alike : MethodName := ⟨RX12, "alike", "(III)I"⟩
abbrev cX12_stoneOn : ByteArray := prog_14_method_103_code
def yX12_stoneOn : MethodName := ⟨RX12, "stoneOn", "(II)I"⟩
abbrev cX12_isSpot : ByteArray := prog_14_method_104_code
def yX12_isSpot : MethodName := ⟨RX12, "isSpot", "(II)Z"⟩
abbrev cX12_withMore : ByteArray := prog_14_method_105_code
def yX12_withMore : MethodName := ⟨RX12, "withMore", "(IIII)I"⟩
abbrev cX12_more : ByteArray := prog_14_method_106_code
def yX12_more : MethodName := ⟨RX12, "more", "(IIII)I"⟩
abbrev cX12_where : ByteArray := prog_14_method_107_code
def yX12_where : MethodName := ⟨RX12, "where", "(II)I"⟩
abbrev cX12_movedOf : ByteArray := prog_14_method_108_code
def yX12_movedOf : MethodName := ⟨RX12, "movedOf", "(III)I"⟩
abbrev cX12_moved : ByteArray := prog_14_method_109_code
def yX12_moved : MethodName := ⟨RX12, "moved", "(III)I"⟩
abbrev cX12_move : ByteArray := prog_14_method_110_code
def yX12_move : MethodName := ⟨RX12, "move", "(II)I"⟩
abbrev cX12_nodeOf : ByteArray := prog_14_method_111_code
def yX12_nodeOf : MethodName := ⟨RX12, "nodeOf", "(I)I"⟩
abbrev cX12_plankOf : ByteArray := prog_14_method_112_code
def yX12_plankOf : MethodName := ⟨RX12, "plankOf", "(III)I"⟩
abbrev cX12_plank : ByteArray := prog_14_method_113_code
def yX12_plank : MethodName := ⟨RX12, "plank", "(III)I"⟩
abbrev cX12_planks : ByteArray := prog_14_method_114_code
def yX12_planks : MethodName := ⟨RX12, "planks", "(I)I"⟩
abbrev cX12_know : ByteArray := prog_14_method_115_code
def yX12_know : MethodName := ⟨RX12, "know", "(IZ)I"⟩
abbrev cX12_on : ByteArray := prog_14_method_116_code
def yX12_on : MethodName := ⟨RX12, "on", "(IIJ)J"⟩
abbrev cX12_sureOf : ByteArray := prog_14_method_117_code
def yX12_sureOf : MethodName := ⟨RX12, "sureOf", "(II)J"⟩
abbrev cX12_sure : ByteArray := prog_14_method_118_code
def yX12_sure : MethodName := ⟨RX12, "sure", "(II)J"⟩
abbrev cX12_treadOf : ByteArray := prog_14_method_119_code
def yX12_treadOf : MethodName := ⟨RX12, "treadOf", "(III)J"⟩
abbrev cX12_tread : ByteArray := prog_14_method_120_code
def yX12_tread : MethodName := ⟨RX12, "tread", "(III)J"⟩
abbrev cX12_first : ByteArray := prog_14_method_121_code
def yX12_first : MethodName := ⟨RX12, "first", "(II)I"⟩
abbrev cX12_priceOf : ByteArray := prog_14_method_122_code
def yX12_priceOf : MethodName := ⟨RX12, "priceOf", "(III)I"⟩
abbrev cX12_price : ByteArray := prog_14_method_123_code
def yX12_price : MethodName := ⟨RX12, "price", "(III)I"⟩
abbrev cX12_keep : ByteArray := prog_14_method_124_code
def yX12_keep : MethodName := ⟨RX12, "keep", "(II)I"⟩
abbrev cX12_lateOf : ByteArray := prog_14_method_125_code
def yX12_lateOf : MethodName := ⟨RX12, "lateOf", "(II)I"⟩
abbrev cX12_late : ByteArray := prog_14_method_126_code
def yX12_late : MethodName := ⟨RX12, "late", "(II)I"⟩
abbrev cX12_noon : ByteArray := prog_14_method_127_code
def yX12_noon : MethodName := ⟨RX12, "noon", "(II)I"⟩
abbrev cX12_areStones : ByteArray := prog_14_method_128_code
def yX12_areStones : MethodName := ⟨RX12, "areStones", "(I)Z"⟩
abbrev cX12_asksTwo : ByteArray := prog_14_method_129_code
def yX12_asksTwo : MethodName := ⟨RX12, "asksTwo", "(II)I"⟩
abbrev cX12_meet : ByteArray := prog_14_method_130_code
def yX12_meet : MethodName := ⟨RX12, "meet", "(III)Z"⟩
abbrev cX12_waits : ByteArray := prog_14_method_131_code
def yX12_waits : MethodName := ⟨RX12, "waits", "(II)I"⟩
abbrev cX12_setOf : ByteArray := prog_14_method_132_code
def yX12_setOf : MethodName := ⟨RX12, "setOf", "(I)I"⟩
abbrev cX12_cross : ByteArray := prog_14_method_133_code
def yX12_cross : MethodName := ⟨RX12, "cross", "(II)I"⟩
abbrev cX12_draw : ByteArray := prog_14_method_134_code
def yX12_draw : MethodName := ⟨RX12, "draw", "()I"⟩
abbrev cX12_ventures : ByteArray := prog_14_method_135_code
def yX12_ventures : MethodName := ⟨RX12, "ventures", "(III)V"⟩
abbrev cX12_runOf : ByteArray := prog_14_method_136_code
def yX12_runOf : MethodName := ⟨RX12, "runOf", "(JI)I"⟩
abbrev cX12_isSeed : ByteArray := prog_14_method_137_code
def yX12_isSeed : MethodName := ⟨RX12, "isSeed", "(I)Z"⟩
abbrev cX12_run : ByteArray := prog_14_method_138_code
def yX12_run : MethodName := ⟨RX12, "run", "(II)I"⟩
abbrev cX12_runs : ByteArray := prog_14_method_139_code
def yX12_runs : MethodName := ⟨RX12, "runs", "(IIII)I"⟩
abbrev cX12_at : ByteArray := prog_14_method_140_code
def yX12_at : MethodName := ⟨RX12, "at", "(I)I"⟩
abbrev cX12_count : ByteArray := prog_14_method_141_code
def yX12_count : MethodName := ⟨RX12, "count", "(I)I"⟩
abbrev cX12_isSlot : ByteArray := prog_14_method_142_code
def yX12_isSlot : MethodName := ⟨RX12, "isSlot", "(I)Z"⟩
abbrev cX12_cut_ : ByteArray := prog_14_method_143_code
def yX12_cut_ : MethodName := ⟨RX12, "cut", "(JI)J"⟩
abbrev cX12_row : ByteArray := prog_14_method_144_code
def yX12_row : MethodName := ⟨RX12, "row", "(III)I"⟩
abbrev cX12_write : ByteArray := prog_14_method_145_code
def yX12_write : MethodName := ⟨RX12, "write", "(IIJ)I"⟩
abbrev cX12_paste : ByteArray := prog_14_method_146_code
def yX12_paste : MethodName := ⟨RX12, "paste", "(IIIII)I"⟩
abbrev cJ6_numberOfTrailingZeros_0f7a4 : ByteArray := prog_15_method_48_code
def yJ6_numberOfTrailingZeros_0f7a4 : MethodName := ⟨"java/lang/Integer", "numberOfTrailingZeros", "(I)I"⟩
abbrev cJ6_bitCount_0f7a4 : ByteArray := prog_15_method_49_code
def yJ6_bitCount_0f7a4 : MethodName := ⟨"java/lang/Integer", "bitCount", "(I)I"⟩
abbrev cJ9_max_7cf53 : ByteArray := prog_16_method_65_code
def yJ9_max_7cf53 : MethodName := ⟨"java/lang/Math", "max", "(II)I"⟩
abbrev cJ9_max_f86c9 : ByteArray := prog_16_method_66_code
def yJ9_max_f86c9 : MethodName := ⟨"java/lang/Math", "max", "(JJ)J"⟩
abbrev cJ9_min_7cf53 : ByteArray := prog_16_method_69_code
def yJ9_min_7cf53 : MethodName := ⟨"java/lang/Math", "min", "(II)I"⟩
abbrev cJ0_length_8abf5 : ByteArray := prog_17_method_54_code
def yJ0_length_8abf5 : MethodName := ⟨"java/lang/String", "length", "()I"⟩
abbrev cJ0_charAt_5068e : ByteArray := prog_17_method_56_code
def yJ0_charAt_5068e : MethodName := ⟨"java/lang/String", "charAt", "(I)C"⟩
abbrev cJ0_coder_7d493 : ByteArray := prog_17_method_152_code
def yJ0_coder_7d493 : MethodName := ⟨"java/lang/String", "coder", "()B"⟩
abbrev cJ0_isLatin1_aae02 : ByteArray := prog_17_method_154_code
def yJ0_isLatin1_aae02 : MethodName := ⟨"java/lang/String", "isLatin1", "()Z"⟩
abbrev cJ0_checkIndex_df160 : ByteArray := prog_17_method_155_code
def yJ0_checkIndex_df160 : MethodName := ⟨"java/lang/String", "checkIndex", "(II)V"⟩
abbrev cJ1_charAt_3b067 : ByteArray := prog_18_method_2_code
def yJ1_charAt_3b067 : MethodName := ⟨"java/lang/StringLatin1", "charAt", "([BI)C"⟩
abbrev cJ2_getChar_3b067 : ByteArray := prog_19_method_5_code
def yJ2_getChar_3b067 : MethodName := ⟨"java/lang/StringUTF16", "getChar", "([BI)C"⟩
abbrev cJ2_length_9d52b : ByteArray := prog_19_method_6_code
def yJ2_length_9d52b : MethodName := ⟨"java/lang/StringUTF16", "length", "([B)I"⟩
abbrev cJ2_charAt_3b067 : ByteArray := prog_19_method_83_code
def yJ2_charAt_3b067 : MethodName := ⟨"java/lang/StringUTF16", "charAt", "([BI)C"⟩
abbrev cJ2_checkIndex_2214a : ByteArray := prog_19_method_91_code
def yJ2_checkIndex_2214a : MethodName := ⟨"java/lang/StringUTF16", "checkIndex", "(I[B)V"⟩
abbrev cJ7_fill_d0a16 : ByteArray := prog_21_method_101_code
def yJ7_fill_d0a16 : MethodName := ⟨"java/util/Arrays", "fill", "([JJ)V"⟩
abbrev cJ7_fill_53178 : ByteArray := prog_21_method_103_code
def yJ7_fill_53178 : MethodName := ⟨"java/util/Arrays", "fill", "([II)V"⟩
abbrev cJ3_checkIndex_8e157 : ByteArray := prog_22_method_11_code
def yJ3_checkIndex_8e157 : MethodName := ⟨"jdk/internal/util/Preconditions", "checkIndex", "(IILjava/util/function/BiFunction;)I"⟩
set_option maxRecDepth 100000 in
theorem co_X1_31 : Cond.constantLong RX1 31 (1000000000 : Int64) ∈ lw_w := lw_m (List.mem_of_getElem? (i := 1325) rfl) rfl
set_option maxRecDepth 100000 in
theorem co_X1_47 : Cond.constantLong RX1 47 (100 : Int64) ∈ lw_w := lw_m (List.mem_of_getElem? (i := 1332) rfl) rfl
set_option maxRecDepth 100000 in
theorem co_X9_63 : Cond.constantLong RX9 63 (1103515245 : Int64) ∈ lw_w := lw_m (List.mem_of_getElem? (i := 1412) rfl) rfl
set_option maxRecDepth 100000 in
theorem co_X9_65 : Cond.constantLong RX9 65 (12345 : Int64) ∈ lw_w := lw_m (List.mem_of_getElem? (i := 1413) rfl) rfl
set_option maxRecDepth 100000 in
theorem co_X9_67 : Cond.constantLong RX9 67 (2147483648 : Int64) ∈ lw_w := lw_m (List.mem_of_getElem? (i := 1414) rfl) rfl
set_option maxRecDepth 100000 in
theorem co_X9_69 : Cond.constantLong RX9 69 (65536 : Int64) ∈ lw_w := lw_m (List.mem_of_getElem? (i := 1415) rfl) rfl
set_option maxRecDepth 100000 in
theorem co_X9_71 : Cond.constantLong RX9 71 (100 : Int64) ∈ lw_w := lw_m (List.mem_of_getElem? (i := 1416) rfl) rfl
set_option maxRecDepth 100000 in
theorem co_X10_97 : Cond.constant RX10 97 (1048576 : Int32) ∈ lw_w := lw_m (List.mem_of_getElem? (i := 945) rfl) rfl
set_option maxRecDepth 100000 in
theorem co_X11_256 : Cond.constantLong RX11 256 (99 : Int64) ∈ lw_w := lw_m (List.mem_of_getElem? (i := 989) rfl) rfl
set_option maxRecDepth 100000 in
theorem co_X11_296 : Cond.constant RX11 296 (-1000000 : Int32) ∈ lw_w := lw_m (List.mem_of_getElem? (i := 1124) rfl) rfl
set_option maxRecDepth 100000 in
theorem co_X11_386 : Cond.constantLong RX11 386 (-2 : Int64) ∈ lw_w := lw_m (List.mem_of_getElem? (i := 1320) rfl) rfl
set_option maxRecDepth 100000 in
theorem co_X11_399 : Cond.constantLong RX11 399 (100 : Int64) ∈ lw_w := lw_m (List.mem_of_getElem? (i := 1342) rfl) rfl
set_option maxRecDepth 100000 in
theorem co_X11_458 : Cond.constant RX11 458 (2000000000 : Int32) ∈ lw_w := lw_m (List.mem_of_getElem? (i := 1402) rfl) rfl
set_option maxRecDepth 100000 in
theorem co_X12_101 : Cond.constantLong RX12 101 (2 : Int64) ∈ lw_w := lw_m (List.mem_of_getElem? (i := 1631) rfl) rfl
set_option maxRecDepth 100000 in
theorem co_X12_134 : Cond.constantLong RX12 134 (97 : Int64) ∈ lw_w := lw_m (List.mem_of_getElem? (i := 1663) rfl) rfl
set_option maxRecDepth 100000 in
theorem co_X12_136 : Cond.constantLong RX12 136 (122 : Int64) ∈ lw_w := lw_m (List.mem_of_getElem? (i := 1664) rfl) rfl
set_option maxRecDepth 100000 in
theorem co_X12_138 : Cond.constantLong RX12 138 (48 : Int64) ∈ lw_w := lw_m (List.mem_of_getElem? (i := 1665) rfl) rfl
set_option maxRecDepth 100000 in
theorem co_X12_140 : Cond.constantLong RX12 140 (57 : Int64) ∈ lw_w := lw_m (List.mem_of_getElem? (i := 1666) rfl) rfl
set_option maxRecDepth 100000 in
theorem co_X12_145 : Cond.constant RX12 145 (99999 : Int32) ∈ lw_w := lw_m (List.mem_of_getElem? (i := 1667) rfl) rfl
set_option maxRecDepth 100000 in
theorem co_X12_248 : Cond.constantLong RX12 248 (4 : Int64) ∈ lw_w := lw_m (List.mem_of_getElem? (i := 1743) rfl) rfl
set_option maxRecDepth 100000 in
theorem co_X12_262 : Cond.constantLong RX12 262 (9 : Int64) ∈ lw_w := lw_m (List.mem_of_getElem? (i := 1776) rfl) rfl
set_option maxRecDepth 100000 in
theorem co_X12_277 : Cond.constantLong RX12 277 (23 : Int64) ∈ lw_w := lw_m (List.mem_of_getElem? (i := 1801) rfl) rfl
set_option maxRecDepth 100000 in
theorem co_X12_292 : Cond.constant RX12 292 (1000000 : Int32) ∈ lw_w := lw_m (List.mem_of_getElem? (i := 1844) rfl) rfl
set_option maxRecDepth 100000 in
theorem co_X12_306 : Cond.constantLong RX12 306 (6 : Int64) ∈ lw_w := lw_m (List.mem_of_getElem? (i := 1826) rfl) rfl
set_option maxRecDepth 100000 in
theorem co_X12_308 : Cond.constantLong RX12 308 (3 : Int64) ∈ lw_w := lw_m (List.mem_of_getElem? (i := 1827) rfl) rfl
set_option maxRecDepth 100000 in
theorem co_X12_332 : Cond.constantLong RX12 332 (8 : Int64) ∈ lw_w := lw_m (List.mem_of_getElem? (i := 1887) rfl) rfl
set_option maxRecDepth 100000 in
theorem co_X12_334 : Cond.constantLong RX12 334 (99 : Int64) ∈ lw_w := lw_m (List.mem_of_getElem? (i := 1888) rfl) rfl
set_option maxRecDepth 100000 in
theorem co_X12_420 : Cond.constantLong RX12 420 (7 : Int64) ∈ lw_w := lw_m (List.mem_of_getElem? (i := 1977) rfl) rfl
set_option maxRecDepth 100000 in
theorem co_X12_428 : Cond.constant RX12 428 (-1000000 : Int32) ∈ lw_w := lw_m (List.mem_of_getElem? (i := 1998) rfl) rfl
set_option maxRecDepth 100000 in
theorem co_X12_479 : Cond.constantLong RX12 479 (100 : Int64) ∈ lw_w := lw_m (List.mem_of_getElem? (i := 2127) rfl) rfl
set_option maxRecDepth 100000 in
theorem co_X12_481 : Cond.constantLong RX12 481 (1000000000 : Int64) ∈ lw_w := lw_m (List.mem_of_getElem? (i := 2122) rfl) rfl
set_option maxRecDepth 100000 in
theorem co_X12_494 : Cond.constantLong RX12 494 (-2 : Int64) ∈ lw_w := lw_m (List.mem_of_getElem? (i := 2131) rfl) rfl
set_option maxRecDepth 100000 in
theorem co_X12_506 : Cond.constantLong RX12 506 (999 : Int64) ∈ lw_w := lw_m (List.mem_of_getElem? (i := 2168) rfl) rfl
set_option maxRecDepth 100000 in
theorem co_X12_520 : Cond.constantLong RX12 520 (1103515245 : Int64) ∈ lw_w := lw_m (List.mem_of_getElem? (i := 2209) rfl) rfl
set_option maxRecDepth 100000 in
theorem co_X12_526 : Cond.constantLong RX12 526 (12345 : Int64) ∈ lw_w := lw_m (List.mem_of_getElem? (i := 2210) rfl) rfl
set_option maxRecDepth 100000 in
theorem co_X12_528 : Cond.constantLong RX12 528 (2147483648 : Int64) ∈ lw_w := lw_m (List.mem_of_getElem? (i := 2211) rfl) rfl
set_option maxRecDepth 100000 in
theorem co_X12_530 : Cond.constantLong RX12 530 (65536 : Int64) ∈ lw_w := lw_m (List.mem_of_getElem? (i := 2212) rfl) rfl
set_option maxRecDepth 100000 in
theorem co_X12_538 : Cond.constantLong RX12 538 (2000000000 : Int64) ∈ lw_w := lw_m (List.mem_of_getElem? (i := 2200) rfl) rfl
set_option maxRecDepth 100000 in
theorem co_X12_547 : Cond.constantLong RX12 547 (60 : Int64) ∈ lw_w := lw_m (List.mem_of_getElem? (i := 2221) rfl) rfl
set_option maxRecDepth 100000 in
theorem co_J6_264 : Cond.constant "java/lang/Integer" 264 (65536 : Int32) ∈ lw_w := lw_m (List.mem_of_getElem? (i := 893) rfl) rfl
set_option maxRecDepth 100000 in
theorem co_J6_265 : Cond.constant "java/lang/Integer" 265 (1431655765 : Int32) ∈ lw_w := lw_m (List.mem_of_getElem? (i := 1048) rfl) rfl
set_option maxRecDepth 100000 in
theorem co_J6_266 : Cond.constant "java/lang/Integer" 266 (858993459 : Int32) ∈ lw_w := lw_m (List.mem_of_getElem? (i := 1049) rfl) rfl
set_option maxRecDepth 100000 in
theorem co_J6_267 : Cond.constant "java/lang/Integer" 267 (252645135 : Int32) ∈ lw_w := lw_m (List.mem_of_getElem? (i := 1050) rfl) rfl
set_option maxRecDepth 100000 in
theorem fl_X0_21 : sm_F RX0 21 9 0 2 := ⟨by decide, _, _, _, rfl, by decide, by decide +kernel, lw_m (List.mem_of_getElem? (i := 339) rfl) rfl⟩
set_option maxRecDepth 100000 in
theorem fl_X0_48 : sm_F RX0 48 7 5 0 := ⟨by decide, _, _, _, rfl, by decide, by decide +kernel, lw_m (List.mem_of_getElem? (i := 207) rfl) rfl⟩
set_option maxRecDepth 100000 in
theorem fl_X0_70 : sm_F RX0 70 10 0 2 := ⟨by decide, _, _, _, rfl, by decide, by decide +kernel, lw_m (List.mem_of_getElem? (i := 392) rfl) rfl⟩
set_option maxRecDepth 100000 in
theorem fl_X0_74 : sm_F RX0 74 9 2 2 := ⟨by decide, _, _, _, rfl, by decide, by decide +kernel, lw_m (List.mem_of_getElem? (i := 345) rfl) rfl⟩
set_option maxRecDepth 100000 in
theorem fl_X0_77 : sm_F RX0 77 7 10 2 := ⟨by decide, _, _, _, rfl, by decide, by decide +kernel, lw_m (List.mem_of_getElem? (i := 229) rfl) rfl⟩
set_option maxRecDepth 100000 in
theorem fl_X0_80 : sm_F RX0 80 7 1 0 := ⟨by decide, _, _, _, rfl, by decide, by decide +kernel, lw_m (List.mem_of_getElem? (i := 190) rfl) rfl⟩
-- nest X0 83
set_option maxRecDepth 100000 in
theorem fl_X0_9 : sm_F RX0 9 0 0 2 := ⟨by decide, _, _, _, rfl, by decide, by decide +kernel, lw_m (List.mem_of_getElem? (i := 419) rfl) rfl⟩
set_option maxRecDepth 100000 in
theorem fl_X1_11 : sm_F RX1 11 1 1 2 := ⟨by decide, _, _, _, rfl, by decide, by decide +kernel, lw_m (List.mem_of_getElem? (i := 469) rfl) rfl⟩
set_option maxRecDepth 100000 in
theorem fl_X1_15 : sm_F RX1 15 1 0 2 := ⟨by decide, _, _, _, rfl, by decide, by decide +kernel, lw_m (List.mem_of_getElem? (i := 468) rfl) rfl⟩
set_option maxRecDepth 100000 in
theorem fl_X1_19 : sm_F RX1 19 9 0 2 := ⟨by decide, _, _, _, rfl, by decide, by decide +kernel, lw_m (List.mem_of_getElem? (i := 337) rfl) rfl⟩
set_option maxRecDepth 100000 in
theorem fl_X1_25 : sm_F RX1 25 7 1 0 := ⟨by decide, _, _, _, rfl, by decide, by decide +kernel, lw_m (List.mem_of_getElem? (i := 184) rfl) rfl⟩
set_option maxRecDepth 100000 in
theorem fl_X1_41 : sm_F RX1 41 1 2 0 := ⟨by decide, _, _, _, rfl, by decide, by decide +kernel, lw_m (List.mem_of_getElem? (i := 470) rfl) rfl⟩
set_option maxRecDepth 100000 in
theorem fl_X1_44 : sm_F RX1 44 7 12 2 := ⟨by decide, _, _, _, rfl, by decide, by decide +kernel, lw_m (List.mem_of_getElem? (i := 234) rfl) rfl⟩
set_option maxRecDepth 100000 in
theorem fl_X1_55 : sm_F RX1 55 7 4 0 := ⟨by decide, _, _, _, rfl, by decide, by decide +kernel, lw_m (List.mem_of_getElem? (i := 202) rfl) rfl⟩
set_option maxRecDepth 100000 in
theorem fl_X1_62 : sm_F RX1 62 9 2 2 := ⟨by decide, _, _, _, rfl, by decide, by decide +kernel, lw_m (List.mem_of_getElem? (i := 344) rfl) rfl⟩
set_option maxRecDepth 100000 in
theorem fl_X2_101 : sm_F RX2 101 7 9 2 := ⟨by decide, _, _, _, rfl, by decide, by decide +kernel, lw_m (List.mem_of_getElem? (i := 224) rfl) rfl⟩
set_option maxRecDepth 100000 in
theorem fl_X2_120 : sm_F RX2 120 4 4 0 := ⟨by decide, _, _, _, rfl, by decide, by decide +kernel, lw_m (List.mem_of_getElem? (i := 499) rfl) rfl⟩
set_option maxRecDepth 100000 in
theorem fl_X2_123 : sm_F RX2 123 4 3 0 := ⟨by decide, _, _, _, rfl, by decide, by decide +kernel, lw_m (List.mem_of_getElem? (i := 497) rfl) rfl⟩
set_option maxRecDepth 100000 in
theorem fl_X2_137 : sm_F RX2 137 4 2 0 := ⟨by decide, _, _, _, rfl, by decide, by decide +kernel, lw_m (List.mem_of_getElem? (i := 495) rfl) rfl⟩
set_option maxRecDepth 100000 in
theorem fl_X2_14 : sm_F RX2 14 2 1 2 := ⟨by decide, _, _, _, rfl, by decide, by decide +kernel, lw_m (List.mem_of_getElem? (i := 532) rfl) rfl⟩
set_option maxRecDepth 100000 in
theorem fl_X2_140 : sm_F RX2 140 2 6 0 := ⟨by decide, _, _, _, rfl, by decide, by decide +kernel, lw_m (List.mem_of_getElem? (i := 537) rfl) rfl⟩
set_option maxRecDepth 100000 in
theorem fl_X2_146 : sm_F RX2 146 4 7 2 := ⟨by decide, _, _, _, rfl, by decide, by decide +kernel, lw_m (List.mem_of_getElem? (i := 505) rfl) rfl⟩
set_option maxRecDepth 100000 in
theorem fl_X2_152 : sm_F RX2 152 4 9 2 := ⟨by decide, _, _, _, rfl, by decide, by decide +kernel, lw_m (List.mem_of_getElem? (i := 509) rfl) rfl⟩
set_option maxRecDepth 100000 in
theorem fl_X2_155 : sm_F RX2 155 4 8 2 := ⟨by decide, _, _, _, rfl, by decide, by decide +kernel, lw_m (List.mem_of_getElem? (i := 507) rfl) rfl⟩
set_option maxRecDepth 100000 in
theorem fl_X2_18 : sm_F RX2 18 2 2 2 := ⟨by decide, _, _, _, rfl, by decide, by decide +kernel, lw_m (List.mem_of_getElem? (i := 533) rfl) rfl⟩
set_option maxRecDepth 100000 in
theorem fl_X2_21 : sm_F RX2 21 2 3 2 := ⟨by decide, _, _, _, rfl, by decide, by decide +kernel, lw_m (List.mem_of_getElem? (i := 534) rfl) rfl⟩
set_option maxRecDepth 100000 in
theorem fl_X2_25 : sm_F RX2 25 2 4 2 := ⟨by decide, _, _, _, rfl, by decide, by decide +kernel, lw_m (List.mem_of_getElem? (i := 535) rfl) rfl⟩
set_option maxRecDepth 100000 in
theorem fl_X2_28 : sm_F RX2 28 2 5 2 := ⟨by decide, _, _, _, rfl, by decide, by decide +kernel, lw_m (List.mem_of_getElem? (i := 536) rfl) rfl⟩
set_option maxRecDepth 100000 in
theorem fl_X2_31 : sm_F RX2 31 2 0 2 := ⟨by decide, _, _, _, rfl, by decide, by decide +kernel, lw_m (List.mem_of_getElem? (i := 531) rfl) rfl⟩
set_option maxRecDepth 100000 in
theorem fl_X2_35 : sm_F RX2 35 2 7 0 := ⟨by decide, _, _, _, rfl, by decide, by decide +kernel, lw_m (List.mem_of_getElem? (i := 538) rfl) rfl⟩
set_option maxRecDepth 100000 in
theorem fl_X2_42 : sm_F RX2 42 3 0 2 := ⟨by decide, _, _, _, rfl, by decide, by decide +kernel, lw_m (List.mem_of_getElem? (i := 370) rfl) rfl⟩
set_option maxRecDepth 100000 in
theorem fl_X2_47 : sm_F RX2 47 4 0 0 := ⟨by decide, _, _, _, rfl, by decide, by decide +kernel, lw_m (List.mem_of_getElem? (i := 491) rfl) rfl⟩
set_option maxRecDepth 100000 in
theorem fl_X2_49 : sm_F RX2 49 3 1 2 := ⟨by decide, _, _, _, rfl, by decide, by decide +kernel, lw_m (List.mem_of_getElem? (i := 373) rfl) rfl⟩
set_option maxRecDepth 100000 in
theorem fl_X2_52 : sm_F RX2 52 4 1 0 := ⟨by decide, _, _, _, rfl, by decide, by decide +kernel, lw_m (List.mem_of_getElem? (i := 493) rfl) rfl⟩
set_option maxRecDepth 100000 in
theorem fl_X2_54 : sm_F RX2 54 4 5 2 := ⟨by decide, _, _, _, rfl, by decide, by decide +kernel, lw_m (List.mem_of_getElem? (i := 501) rfl) rfl⟩
set_option maxRecDepth 100000 in
theorem fl_X2_63 : sm_F RX2 63 4 6 2 := ⟨by decide, _, _, _, rfl, by decide, by decide +kernel, lw_m (List.mem_of_getElem? (i := 503) rfl) rfl⟩
set_option maxRecDepth 100000 in
theorem fl_X2_66 : sm_F RX2 66 9 0 2 := ⟨by decide, _, _, _, rfl, by decide, by decide +kernel, lw_m (List.mem_of_getElem? (i := 340) rfl) rfl⟩
set_option maxRecDepth 100000 in
theorem fl_X2_72 : sm_F RX2 72 7 4 0 := ⟨by decide, _, _, _, rfl, by decide, by decide +kernel, lw_m (List.mem_of_getElem? (i := 200) rfl) rfl⟩
set_option maxRecDepth 100000 in
theorem fl_X2_77 : sm_F RX2 77 3 2 2 := ⟨by decide, _, _, _, rfl, by decide, by decide +kernel, lw_m (List.mem_of_getElem? (i := 376) rfl) rfl⟩
set_option maxRecDepth 100000 in
theorem fl_X2_95 : sm_F RX2 95 7 1 0 := ⟨by decide, _, _, _, rfl, by decide, by decide +kernel, lw_m (List.mem_of_getElem? (i := 189) rfl) rfl⟩
set_option maxRecDepth 100000 in
theorem fl_X2_98 : sm_F RX2 98 7 8 2 := ⟨by decide, _, _, _, rfl, by decide, by decide +kernel, lw_m (List.mem_of_getElem? (i := 219) rfl) rfl⟩
set_option maxRecDepth 100000 in
theorem fl_X3_15 : sm_F RX3 15 3 1 2 := ⟨by decide, _, _, _, rfl, by decide, by decide +kernel, lw_m (List.mem_of_getElem? (i := 372) rfl) rfl⟩
set_option maxRecDepth 100000 in
theorem fl_X3_18 : sm_F RX3 18 3 2 2 := ⟨by decide, _, _, _, rfl, by decide, by decide +kernel, lw_m (List.mem_of_getElem? (i := 375) rfl) rfl⟩
set_option maxRecDepth 100000 in
theorem fl_X3_27 : sm_F RX3 27 7 4 0 := ⟨by decide, _, _, _, rfl, by decide, by decide +kernel, lw_m (List.mem_of_getElem? (i := 199) rfl) rfl⟩
set_option maxRecDepth 100000 in
theorem fl_X3_33 : sm_F RX3 33 7 9 2 := ⟨by decide, _, _, _, rfl, by decide, by decide +kernel, lw_m (List.mem_of_getElem? (i := 222) rfl) rfl⟩
set_option maxRecDepth 100000 in
theorem fl_X3_36 : sm_F RX3 36 7 1 0 := ⟨by decide, _, _, _, rfl, by decide, by decide +kernel, lw_m (List.mem_of_getElem? (i := 187) rfl) rfl⟩
set_option maxRecDepth 100000 in
theorem fl_X3_9 : sm_F RX3 9 3 0 2 := ⟨by decide, _, _, _, rfl, by decide, by decide +kernel, lw_m (List.mem_of_getElem? (i := 369) rfl) rfl⟩
set_option maxRecDepth 100000 in
theorem fl_X4_11 : sm_F RX4 11 4 5 2 := ⟨by decide, _, _, _, rfl, by decide, by decide +kernel, lw_m (List.mem_of_getElem? (i := 500) rfl) rfl⟩
set_option maxRecDepth 100000 in
theorem fl_X4_15 : sm_F RX4 15 4 6 2 := ⟨by decide, _, _, _, rfl, by decide, by decide +kernel, lw_m (List.mem_of_getElem? (i := 502) rfl) rfl⟩
set_option maxRecDepth 100000 in
theorem fl_X4_18 : sm_F RX4 18 4 7 2 := ⟨by decide, _, _, _, rfl, by decide, by decide +kernel, lw_m (List.mem_of_getElem? (i := 504) rfl) rfl⟩
set_option maxRecDepth 100000 in
theorem fl_X4_21 : sm_F RX4 21 4 8 2 := ⟨by decide, _, _, _, rfl, by decide, by decide +kernel, lw_m (List.mem_of_getElem? (i := 506) rfl) rfl⟩
set_option maxRecDepth 100000 in
theorem fl_X4_24 : sm_F RX4 24 4 9 2 := ⟨by decide, _, _, _, rfl, by decide, by decide +kernel, lw_m (List.mem_of_getElem? (i := 508) rfl) rfl⟩
set_option maxRecDepth 100000 in
theorem fl_X4_27 : sm_F RX4 27 4 0 0 := ⟨by decide, _, _, _, rfl, by decide, by decide +kernel, lw_m (List.mem_of_getElem? (i := 490) rfl) rfl⟩
set_option maxRecDepth 100000 in
theorem fl_X4_31 : sm_F RX4 31 4 1 0 := ⟨by decide, _, _, _, rfl, by decide, by decide +kernel, lw_m (List.mem_of_getElem? (i := 492) rfl) rfl⟩
set_option maxRecDepth 100000 in
theorem fl_X4_34 : sm_F RX4 34 4 2 0 := ⟨by decide, _, _, _, rfl, by decide, by decide +kernel, lw_m (List.mem_of_getElem? (i := 494) rfl) rfl⟩
set_option maxRecDepth 100000 in
theorem fl_X4_37 : sm_F RX4 37 4 3 0 := ⟨by decide, _, _, _, rfl, by decide, by decide +kernel, lw_m (List.mem_of_getElem? (i := 496) rfl) rfl⟩
set_option maxRecDepth 100000 in
theorem fl_X4_40 : sm_F RX4 40 4 4 0 := ⟨by decide, _, _, _, rfl, by decide, by decide +kernel, lw_m (List.mem_of_getElem? (i := 498) rfl) rfl⟩
set_option maxRecDepth 100000 in
theorem fl_X5_13 : sm_F RX5 13 5 4 2 := ⟨by decide, _, _, _, rfl, by decide, by decide +kernel, lw_m (List.mem_of_getElem? (i := 438) rfl) rfl⟩
set_option maxRecDepth 100000 in
theorem fl_X5_17 : sm_F RX5 17 5 5 2 := ⟨by decide, _, _, _, rfl, by decide, by decide +kernel, lw_m (List.mem_of_getElem? (i := 439) rfl) rfl⟩
set_option maxRecDepth 100000 in
theorem fl_X5_21 : sm_F RX5 21 5 6 2 := ⟨by decide, _, _, _, rfl, by decide, by decide +kernel, lw_m (List.mem_of_getElem? (i := 440) rfl) rfl⟩
set_option maxRecDepth 100000 in
theorem fl_X5_24 : sm_F RX5 24 5 8 0 := ⟨by decide, _, _, _, rfl, by decide, by decide +kernel, lw_m (List.mem_of_getElem? (i := 442) rfl) rfl⟩
set_option maxRecDepth 100000 in
theorem fl_X5_28 : sm_F RX5 28 5 3 2 := ⟨by decide, _, _, _, rfl, by decide, by decide +kernel, lw_m (List.mem_of_getElem? (i := 437) rfl) rfl⟩
set_option maxRecDepth 100000 in
theorem fl_X5_32 : sm_F RX5 32 5 2 2 := ⟨by decide, _, _, _, rfl, by decide, by decide +kernel, lw_m (List.mem_of_getElem? (i := 436) rfl) rfl⟩
set_option maxRecDepth 100000 in
theorem fl_X5_39 : sm_F RX5 39 7 5 0 := ⟨by decide, _, _, _, rfl, by decide, by decide +kernel, lw_m (List.mem_of_getElem? (i := 208) rfl) rfl⟩
set_option maxRecDepth 100000 in
theorem fl_X5_58 : sm_F RX5 58 5 7 0 := ⟨by decide, _, _, _, rfl, by decide, by decide +kernel, lw_m (List.mem_of_getElem? (i := 441) rfl) rfl⟩
set_option maxRecDepth 100000 in
theorem fl_X5_61 : sm_F RX5 61 5 0 0 := ⟨by decide, _, _, _, rfl, by decide, by decide +kernel, lw_m (List.mem_of_getElem? (i := 432) rfl) rfl⟩
set_option maxRecDepth 100000 in
theorem fl_X5_64 : sm_F RX5 64 5 1 0 := ⟨by decide, _, _, _, rfl, by decide, by decide +kernel, lw_m (List.mem_of_getElem? (i := 434) rfl) rfl⟩
set_option maxRecDepth 100000 in
theorem fl_X6_113 : sm_F RX6 113 6 8 0 := ⟨by decide, _, _, _, rfl, by decide, by decide +kernel, lw_m (List.mem_of_getElem? (i := 299) rfl) rfl⟩
set_option maxRecDepth 100000 in
theorem fl_X6_173 : sm_F RX6 173 6 5 0 := ⟨by decide, _, _, _, rfl, by decide, by decide +kernel, lw_m (List.mem_of_getElem? (i := 296) rfl) rfl⟩
set_option maxRecDepth 100000 in
theorem fl_X6_18 : sm_F RX6 18 6 3 3 := ⟨by decide, _, _, _, rfl, by decide, by decide +kernel, lw_m (List.mem_of_getElem? (i := 294) rfl) rfl⟩
set_option maxRecDepth 100000 in
theorem fl_X6_28 : sm_F RX6 28 6 4 0 := ⟨by decide, _, _, _, rfl, by decide, by decide +kernel, lw_m (List.mem_of_getElem? (i := 295) rfl) rfl⟩
set_option maxRecDepth 100000 in
theorem fl_X6_35 : sm_F RX6 35 6 1 0 := ⟨by decide, _, _, _, rfl, by decide, by decide +kernel, lw_m (List.mem_of_getElem? (i := 290) rfl) rfl⟩
set_option maxRecDepth 100000 in
theorem fl_X6_41 : sm_F RX6 41 6 6 0 := ⟨by decide, _, _, _, rfl, by decide, by decide +kernel, lw_m (List.mem_of_getElem? (i := 297) rfl) rfl⟩
set_option maxRecDepth 100000 in
theorem fl_X6_54 : sm_F RX6 54 6 7 0 := ⟨by decide, _, _, _, rfl, by decide, by decide +kernel, lw_m (List.mem_of_getElem? (i := 298) rfl) rfl⟩
set_option maxRecDepth 100000 in
theorem fl_X7_15 : sm_F RX7 15 7 9 2 := ⟨by decide, _, _, _, rfl, by decide, by decide +kernel, lw_m (List.mem_of_getElem? (i := 221) rfl) rfl⟩
set_option maxRecDepth 100000 in
theorem fl_X7_18 : sm_F RX7 18 7 10 2 := ⟨by decide, _, _, _, rfl, by decide, by decide +kernel, lw_m (List.mem_of_getElem? (i := 226) rfl) rfl⟩
set_option maxRecDepth 100000 in
theorem fl_X7_21 : sm_F RX7 21 7 11 2 := ⟨by decide, _, _, _, rfl, by decide, by decide +kernel, lw_m (List.mem_of_getElem? (i := 230) rfl) rfl⟩
set_option maxRecDepth 100000 in
theorem fl_X7_24 : sm_F RX7 24 7 12 2 := ⟨by decide, _, _, _, rfl, by decide, by decide +kernel, lw_m (List.mem_of_getElem? (i := 233) rfl) rfl⟩
set_option maxRecDepth 100000 in
theorem fl_X7_27 : sm_F RX7 27 7 13 2 := ⟨by decide, _, _, _, rfl, by decide, by decide +kernel, lw_m (List.mem_of_getElem? (i := 238) rfl) rfl⟩
set_option maxRecDepth 100000 in
theorem fl_X7_30 : sm_F RX7 30 7 14 2 := ⟨by decide, _, _, _, rfl, by decide, by decide +kernel, lw_m (List.mem_of_getElem? (i := 242) rfl) rfl⟩
set_option maxRecDepth 100000 in
theorem fl_X7_33 : sm_F RX7 33 7 15 2 := ⟨by decide, _, _, _, rfl, by decide, by decide +kernel, lw_m (List.mem_of_getElem? (i := 245) rfl) rfl⟩
set_option maxRecDepth 100000 in
theorem fl_X7_36 : sm_F RX7 36 7 16 2 := ⟨by decide, _, _, _, rfl, by decide, by decide +kernel, lw_m (List.mem_of_getElem? (i := 247) rfl) rfl⟩
set_option maxRecDepth 100000 in
theorem fl_X7_39 : sm_F RX7 39 7 0 0 := ⟨by decide, _, _, _, rfl, by decide, by decide +kernel, lw_m (List.mem_of_getElem? (i := 181) rfl) rfl⟩
set_option maxRecDepth 100000 in
theorem fl_X7_43 : sm_F RX7 43 7 1 0 := ⟨by decide, _, _, _, rfl, by decide, by decide +kernel, lw_m (List.mem_of_getElem? (i := 185) rfl) rfl⟩
set_option maxRecDepth 100000 in
theorem fl_X7_46 : sm_F RX7 46 7 2 0 := ⟨by decide, _, _, _, rfl, by decide, by decide +kernel, lw_m (List.mem_of_getElem? (i := 192) rfl) rfl⟩
set_option maxRecDepth 100000 in
theorem fl_X7_49 : sm_F RX7 49 7 3 0 := ⟨by decide, _, _, _, rfl, by decide, by decide +kernel, lw_m (List.mem_of_getElem? (i := 195) rfl) rfl⟩
set_option maxRecDepth 100000 in
theorem fl_X7_52 : sm_F RX7 52 7 4 0 := ⟨by decide, _, _, _, rfl, by decide, by decide +kernel, lw_m (List.mem_of_getElem? (i := 198) rfl) rfl⟩
set_option maxRecDepth 100000 in
theorem fl_X7_55 : sm_F RX7 55 7 5 0 := ⟨by decide, _, _, _, rfl, by decide, by decide +kernel, lw_m (List.mem_of_getElem? (i := 206) rfl) rfl⟩
set_option maxRecDepth 100000 in
theorem fl_X7_58 : sm_F RX7 58 7 6 0 := ⟨by decide, _, _, _, rfl, by decide, by decide +kernel, lw_m (List.mem_of_getElem? (i := 213) rfl) rfl⟩
set_option maxRecDepth 100000 in
theorem fl_X7_61 : sm_F RX7 61 7 7 0 := ⟨by decide, _, _, _, rfl, by decide, by decide +kernel, lw_m (List.mem_of_getElem? (i := 215) rfl) rfl⟩
set_option maxRecDepth 100000 in
theorem fl_X7_9 : sm_F RX7 9 7 8 2 := ⟨by decide, _, _, _, rfl, by decide, by decide +kernel, lw_m (List.mem_of_getElem? (i := 217) rfl) rfl⟩
set_option maxRecDepth 100000 in
theorem fl_X8_19 : sm_F RX8 19 8 1 0 := ⟨by decide, _, _, _, rfl, by decide, by decide +kernel, lw_m (List.mem_of_getElem? (i := 566) rfl) rfl⟩
set_option maxRecDepth 100000 in
theorem fl_X8_23 : sm_F RX8 23 8 2 0 := ⟨by decide, _, _, _, rfl, by decide, by decide +kernel, lw_m (List.mem_of_getElem? (i := 568) rfl) rfl⟩
set_option maxRecDepth 100000 in
theorem fl_X8_9 : sm_F RX8 9 8 3 2 := ⟨by decide, _, _, _, rfl, by decide, by decide +kernel, lw_m (List.mem_of_getElem? (i := 570) rfl) rfl⟩
set_option maxRecDepth 100000 in
theorem fl_X9_15 : sm_F RX9 15 9 3 2 := ⟨by decide, _, _, _, rfl, by decide, by decide +kernel, lw_m (List.mem_of_getElem? (i := 348) rfl) rfl⟩
set_option maxRecDepth 100000 in
theorem fl_X9_18 : sm_F RX9 18 9 4 2 := ⟨by decide, _, _, _, rfl, by decide, by decide +kernel, lw_m (List.mem_of_getElem? (i := 350) rfl) rfl⟩
set_option maxRecDepth 100000 in
theorem fl_X9_21 : sm_F RX9 21 9 0 2 := ⟨by decide, _, _, _, rfl, by decide, by decide +kernel, lw_m (List.mem_of_getElem? (i := 336) rfl) rfl⟩
set_option maxRecDepth 100000 in
theorem fl_X9_31 : sm_F RX9 31 9 1 0 := ⟨by decide, _, _, _, rfl, by decide, by decide +kernel, lw_m (List.mem_of_getElem? (i := 341) rfl) rfl⟩
set_option maxRecDepth 100000 in
theorem fl_X9_41 : sm_F RX9 41 7 11 2 := ⟨by decide, _, _, _, rfl, by decide, by decide +kernel, lw_m (List.mem_of_getElem? (i := 231) rfl) rfl⟩
set_option maxRecDepth 100000 in
theorem fl_X9_46 : sm_F RX9 46 7 10 2 := ⟨by decide, _, _, _, rfl, by decide, by decide +kernel, lw_m (List.mem_of_getElem? (i := 227) rfl) rfl⟩
set_option maxRecDepth 100000 in
theorem fl_X9_49 : sm_F RX9 49 7 4 0 := ⟨by decide, _, _, _, rfl, by decide, by decide +kernel, lw_m (List.mem_of_getElem? (i := 204) rfl) rfl⟩
set_option maxRecDepth 100000 in
theorem fl_X9_56 : sm_F RX9 56 7 12 2 := ⟨by decide, _, _, _, rfl, by decide, by decide +kernel, lw_m (List.mem_of_getElem? (i := 236) rfl) rfl⟩
set_option maxRecDepth 100000 in
theorem fl_X9_73 : sm_F RX9 73 7 5 0 := ⟨by decide, _, _, _, rfl, by decide, by decide +kernel, lw_m (List.mem_of_getElem? (i := 211) rfl) rfl⟩
set_option maxRecDepth 100000 in
theorem fl_X9_76 : sm_F RX9 76 7 16 2 := ⟨by decide, _, _, _, rfl, by decide, by decide +kernel, lw_m (List.mem_of_getElem? (i := 250) rfl) rfl⟩
set_option maxRecDepth 100000 in
theorem fl_X9_89 : sm_F RX9 89 7 13 2 := ⟨by decide, _, _, _, rfl, by decide, by decide +kernel, lw_m (List.mem_of_getElem? (i := 241) rfl) rfl⟩
set_option maxRecDepth 100000 in
theorem fl_X9_9 : sm_F RX9 9 9 2 2 := ⟨by decide, _, _, _, rfl, by decide, by decide +kernel, lw_m (List.mem_of_getElem? (i := 343) rfl) rfl⟩
set_option maxRecDepth 100000 in
theorem fl_X9_96 : sm_F RX9 96 7 14 2 := ⟨by decide, _, _, _, rfl, by decide, by decide +kernel, lw_m (List.mem_of_getElem? (i := 244) rfl) rfl⟩
set_option maxRecDepth 100000 in
theorem fl_X10_106 : sm_F RX10 106 3 2 2 := ⟨by decide, _, _, _, rfl, by decide, by decide +kernel, lw_m (List.mem_of_getElem? (i := 377) rfl) rfl⟩
set_option maxRecDepth 100000 in
theorem fl_X10_114 : sm_F RX10 114 9 2 2 := ⟨by decide, _, _, _, rfl, by decide, by decide +kernel, lw_m (List.mem_of_getElem? (i := 347) rfl) rfl⟩
set_option maxRecDepth 100000 in
theorem fl_X10_15 : sm_F RX10 15 10 3 2 := ⟨by decide, _, _, _, rfl, by decide, by decide +kernel, lw_m (List.mem_of_getElem? (i := 397) rfl) rfl⟩
set_option maxRecDepth 100000 in
theorem fl_X10_18 : sm_F RX10 18 10 4 2 := ⟨by decide, _, _, _, rfl, by decide, by decide +kernel, lw_m (List.mem_of_getElem? (i := 398) rfl) rfl⟩
set_option maxRecDepth 100000 in
theorem fl_X10_21 : sm_F RX10 21 10 5 2 := ⟨by decide, _, _, _, rfl, by decide, by decide +kernel, lw_m (List.mem_of_getElem? (i := 399) rfl) rfl⟩
set_option maxRecDepth 100000 in
theorem fl_X10_24 : sm_F RX10 24 10 2 2 := ⟨by decide, _, _, _, rfl, by decide, by decide +kernel, lw_m (List.mem_of_getElem? (i := 395) rfl) rfl⟩
set_option maxRecDepth 100000 in
theorem fl_X10_28 : sm_F RX10 28 10 1 0 := ⟨by decide, _, _, _, rfl, by decide, by decide +kernel, lw_m (List.mem_of_getElem? (i := 394) rfl) rfl⟩
set_option maxRecDepth 100000 in
theorem fl_X10_32 : sm_F RX10 32 9 0 2 := ⟨by decide, _, _, _, rfl, by decide, by decide +kernel, lw_m (List.mem_of_getElem? (i := 338) rfl) rfl⟩
set_option maxRecDepth 100000 in
theorem fl_X10_38 : sm_F RX10 38 7 1 0 := ⟨by decide, _, _, _, rfl, by decide, by decide +kernel, lw_m (List.mem_of_getElem? (i := 186) rfl) rfl⟩
set_option maxRecDepth 100000 in
theorem fl_X10_47 : sm_F RX10 47 3 0 2 := ⟨by decide, _, _, _, rfl, by decide, by decide +kernel, lw_m (List.mem_of_getElem? (i := 371) rfl) rfl⟩
set_option maxRecDepth 100000 in
theorem fl_X10_52 : sm_F RX10 52 3 1 2 := ⟨by decide, _, _, _, rfl, by decide, by decide +kernel, lw_m (List.mem_of_getElem? (i := 374) rfl) rfl⟩
set_option maxRecDepth 100000 in
theorem fl_X10_71 : sm_F RX10 71 7 4 0 := ⟨by decide, _, _, _, rfl, by decide, by decide +kernel, lw_m (List.mem_of_getElem? (i := 201) rfl) rfl⟩
set_option maxRecDepth 100000 in
theorem fl_X10_87 : sm_F RX10 87 7 5 0 := ⟨by decide, _, _, _, rfl, by decide, by decide +kernel, lw_m (List.mem_of_getElem? (i := 209) rfl) rfl⟩
set_option maxRecDepth 100000 in
theorem fl_X10_9 : sm_F RX10 9 10 0 2 := ⟨by decide, _, _, _, rfl, by decide, by decide +kernel, lw_m (List.mem_of_getElem? (i := 391) rfl) rfl⟩
set_option maxRecDepth 100000 in
theorem fl_X10_90 : sm_F RX10 90 7 13 2 := ⟨by decide, _, _, _, rfl, by decide, by decide +kernel, lw_m (List.mem_of_getElem? (i := 239) rfl) rfl⟩
set_option maxRecDepth 100000 in
theorem fl_X11_101 : sm_F RX11 101 11 16 2 := ⟨by decide, _, _, _, rfl, by decide, by decide +kernel, lw_m (List.mem_of_getElem? (i := 599) rfl) rfl⟩
set_option maxRecDepth 100000 in
theorem fl_X11_105 : sm_F RX11 105 11 17 2 := ⟨by decide, _, _, _, rfl, by decide, by decide +kernel, lw_m (List.mem_of_getElem? (i := 600) rfl) rfl⟩
set_option maxRecDepth 100000 in
theorem fl_X11_110 : sm_F RX11 110 11 1 0 := ⟨by decide, _, _, _, rfl, by decide, by decide +kernel, lw_m (List.mem_of_getElem? (i := 584) rfl) rfl⟩
set_option maxRecDepth 100000 in
theorem fl_X11_124 : sm_F RX11 124 11 2 0 := ⟨by decide, _, _, _, rfl, by decide, by decide +kernel, lw_m (List.mem_of_getElem? (i := 585) rfl) rfl⟩
set_option maxRecDepth 100000 in
theorem fl_X11_13 : sm_F RX11 13 11 3 0 := ⟨by decide, _, _, _, rfl, by decide, by decide +kernel, lw_m (List.mem_of_getElem? (i := 586) rfl) rfl⟩
set_option maxRecDepth 100000 in
theorem fl_X11_143 : sm_F RX11 143 7 0 0 := ⟨by decide, _, _, _, rfl, by decide, by decide +kernel, lw_m (List.mem_of_getElem? (i := 183) rfl) rfl⟩
set_option maxRecDepth 100000 in
theorem fl_X11_150 : sm_F RX11 150 7 8 2 := ⟨by decide, _, _, _, rfl, by decide, by decide +kernel, lw_m (List.mem_of_getElem? (i := 220) rfl) rfl⟩
set_option maxRecDepth 100000 in
theorem fl_X11_154 : sm_F RX11 154 7 9 2 := ⟨by decide, _, _, _, rfl, by decide, by decide +kernel, lw_m (List.mem_of_getElem? (i := 225) rfl) rfl⟩
set_option maxRecDepth 100000 in
theorem fl_X11_161 : sm_F RX11 161 9 2 2 := ⟨by decide, _, _, _, rfl, by decide, by decide +kernel, lw_m (List.mem_of_getElem? (i := 346) rfl) rfl⟩
set_option maxRecDepth 100000 in
theorem fl_X11_170 : sm_F RX11 170 9 3 2 := ⟨by decide, _, _, _, rfl, by decide, by decide +kernel, lw_m (List.mem_of_getElem? (i := 349) rfl) rfl⟩
set_option maxRecDepth 100000 in
theorem fl_X11_176 : sm_F RX11 176 9 4 2 := ⟨by decide, _, _, _, rfl, by decide, by decide +kernel, lw_m (List.mem_of_getElem? (i := 351) rfl) rfl⟩
set_option maxRecDepth 100000 in
theorem fl_X11_178 : sm_F RX11 178 7 16 2 := ⟨by decide, _, _, _, rfl, by decide, by decide +kernel, lw_m (List.mem_of_getElem? (i := 249) rfl) rfl⟩
set_option maxRecDepth 100000 in
theorem fl_X11_204 : sm_F RX11 204 9 1 0 := ⟨by decide, _, _, _, rfl, by decide, by decide +kernel, lw_m (List.mem_of_getElem? (i := 342) rfl) rfl⟩
set_option maxRecDepth 100000 in
theorem fl_X11_221 : sm_F RX11 221 10 0 2 := ⟨by decide, _, _, _, rfl, by decide, by decide +kernel, lw_m (List.mem_of_getElem? (i := 393) rfl) rfl⟩
set_option maxRecDepth 100000 in
theorem fl_X11_231 : sm_F RX11 231 8 0 4 := ⟨by decide, _, _, _, rfl, by decide, by decide +kernel, lw_m (List.mem_of_getElem? (i := 565) rfl) rfl⟩
set_option maxRecDepth 100000 in
theorem fl_X11_242 : sm_F RX11 242 8 2 0 := ⟨by decide, _, _, _, rfl, by decide, by decide +kernel, lw_m (List.mem_of_getElem? (i := 569) rfl) rfl⟩
set_option maxRecDepth 100000 in
theorem fl_X11_245 : sm_F RX11 245 8 3 2 := ⟨by decide, _, _, _, rfl, by decide, by decide +kernel, lw_m (List.mem_of_getElem? (i := 571) rfl) rfl⟩
set_option maxRecDepth 100000 in
theorem fl_X11_253 : sm_F RX11 253 7 5 0 := ⟨by decide, _, _, _, rfl, by decide, by decide +kernel, lw_m (List.mem_of_getElem? (i := 212) rfl) rfl⟩
set_option maxRecDepth 100000 in
theorem fl_X11_27 : sm_F RX11 27 11 5 2 := ⟨by decide, _, _, _, rfl, by decide, by decide +kernel, lw_m (List.mem_of_getElem? (i := 588) rfl) rfl⟩
set_option maxRecDepth 100000 in
theorem fl_X11_287 : sm_F RX11 287 5 1 0 := ⟨by decide, _, _, _, rfl, by decide, by decide +kernel, lw_m (List.mem_of_getElem? (i := 435) rfl) rfl⟩
set_option maxRecDepth 100000 in
theorem fl_X11_290 : sm_F RX11 290 5 0 0 := ⟨by decide, _, _, _, rfl, by decide, by decide +kernel, lw_m (List.mem_of_getElem? (i := 433) rfl) rfl⟩
set_option maxRecDepth 100000 in
theorem fl_X11_310 : sm_F RX11 310 7 1 0 := ⟨by decide, _, _, _, rfl, by decide, by decide +kernel, lw_m (List.mem_of_getElem? (i := 191) rfl) rfl⟩
set_option maxRecDepth 100000 in
theorem fl_X11_345 : sm_F RX11 345 7 2 0 := ⟨by decide, _, _, _, rfl, by decide, by decide +kernel, lw_m (List.mem_of_getElem? (i := 194) rfl) rfl⟩
set_option maxRecDepth 100000 in
theorem fl_X11_36 : sm_F RX11 36 11 6 2 := ⟨by decide, _, _, _, rfl, by decide, by decide +kernel, lw_m (List.mem_of_getElem? (i := 589) rfl) rfl⟩
set_option maxRecDepth 100000 in
theorem fl_X11_362 : sm_F RX11 362 7 3 0 := ⟨by decide, _, _, _, rfl, by decide, by decide +kernel, lw_m (List.mem_of_getElem? (i := 197) rfl) rfl⟩
set_option maxRecDepth 100000 in
theorem fl_X11_374 : sm_F RX11 374 7 4 0 := ⟨by decide, _, _, _, rfl, by decide, by decide +kernel, lw_m (List.mem_of_getElem? (i := 205) rfl) rfl⟩
set_option maxRecDepth 100000 in
theorem fl_X11_396 : sm_F RX11 396 7 12 2 := ⟨by decide, _, _, _, rfl, by decide, by decide +kernel, lw_m (List.mem_of_getElem? (i := 237) rfl) rfl⟩
set_option maxRecDepth 100000 in
theorem fl_X11_40 : sm_F RX11 40 11 7 2 := ⟨by decide, _, _, _, rfl, by decide, by decide +kernel, lw_m (List.mem_of_getElem? (i := 590) rfl) rfl⟩
set_option maxRecDepth 100000 in
theorem fl_X11_446 : sm_F RX11 446 8 1 0 := ⟨by decide, _, _, _, rfl, by decide, by decide +kernel, lw_m (List.mem_of_getElem? (i := 567) rfl) rfl⟩
set_option maxRecDepth 100000 in
theorem fl_X11_46 : sm_F RX11 46 11 8 2 := ⟨by decide, _, _, _, rfl, by decide, by decide +kernel, lw_m (List.mem_of_getElem? (i := 591) rfl) rfl⟩
set_option maxRecDepth 100000 in
theorem fl_X11_55 : sm_F RX11 55 11 9 2 := ⟨by decide, _, _, _, rfl, by decide, by decide +kernel, lw_m (List.mem_of_getElem? (i := 592) rfl) rfl⟩
set_option maxRecDepth 100000 in
theorem fl_X11_64 : sm_F RX11 64 11 10 2 := ⟨by decide, _, _, _, rfl, by decide, by decide +kernel, lw_m (List.mem_of_getElem? (i := 593) rfl) rfl⟩
set_option maxRecDepth 100000 in
theorem fl_X11_73 : sm_F RX11 73 11 11 2 := ⟨by decide, _, _, _, rfl, by decide, by decide +kernel, lw_m (List.mem_of_getElem? (i := 594) rfl) rfl⟩
set_option maxRecDepth 100000 in
theorem fl_X11_80 : sm_F RX11 80 11 12 2 := ⟨by decide, _, _, _, rfl, by decide, by decide +kernel, lw_m (List.mem_of_getElem? (i := 595) rfl) rfl⟩
set_option maxRecDepth 100000 in
theorem fl_X11_87 : sm_F RX11 87 11 13 2 := ⟨by decide, _, _, _, rfl, by decide, by decide +kernel, lw_m (List.mem_of_getElem? (i := 596) rfl) rfl⟩
set_option maxRecDepth 100000 in
theorem fl_X11_9 : sm_F RX11 9 11 0 2 := ⟨by decide, _, _, _, rfl, by decide, by decide +kernel, lw_m (List.mem_of_getElem? (i := 583) rfl) rfl⟩
set_option maxRecDepth 100000 in
theorem fl_X11_93 : sm_F RX11 93 11 14 2 := ⟨by decide, _, _, _, rfl, by decide, by decide +kernel, lw_m (List.mem_of_getElem? (i := 597) rfl) rfl⟩
set_option maxRecDepth 100000 in
theorem fl_X11_97 : sm_F RX11 97 11 15 2 := ⟨by decide, _, _, _, rfl, by decide, by decide +kernel, lw_m (List.mem_of_getElem? (i := 598) rfl) rfl⟩
set_option maxRecDepth 100000 in
theorem fl_X12_115 : sm_F RX12 115 12 5 0 := ⟨by decide, _, _, _, rfl, by decide, by decide +kernel, lw_m (List.mem_of_getElem? (i := 1490) rfl) rfl⟩
set_option maxRecDepth 100000 in
theorem fl_X12_118 : sm_F RX12 118 12 7 0 := ⟨by decide, _, _, _, rfl, by decide, by decide +kernel, lw_m (List.mem_of_getElem? (i := 1492) rfl) rfl⟩
set_option maxRecDepth 100000 in
theorem fl_X12_121 : sm_F RX12 121 12 8 0 := ⟨by decide, _, _, _, rfl, by decide, by decide +kernel, lw_m (List.mem_of_getElem? (i := 1493) rfl) rfl⟩
set_option maxRecDepth 100000 in
theorem fl_X12_128 : sm_F RX12 128 12 9 0 := ⟨by decide, _, _, _, rfl, by decide, by decide +kernel, lw_m (List.mem_of_getElem? (i := 1494) rfl) rfl⟩
set_option maxRecDepth 100000 in
theorem fl_X12_13 : sm_F RX12 13 12 2 2 := ⟨by decide, _, _, _, rfl, by decide, by decide +kernel, lw_m (List.mem_of_getElem? (i := 1487) rfl) rfl⟩
set_option maxRecDepth 100000 in
theorem fl_X12_131 : sm_F RX12 131 12 10 0 := ⟨by decide, _, _, _, rfl, by decide, by decide +kernel, lw_m (List.mem_of_getElem? (i := 1495) rfl) rfl⟩
set_option maxRecDepth 100000 in
theorem fl_X12_142 : sm_F RX12 142 12 11 0 := ⟨by decide, _, _, _, rfl, by decide, by decide +kernel, lw_m (List.mem_of_getElem? (i := 1496) rfl) rfl⟩
set_option maxRecDepth 100000 in
theorem fl_X12_152 : sm_F RX12 152 12 12 0 := ⟨by decide, _, _, _, rfl, by decide, by decide +kernel, lw_m (List.mem_of_getElem? (i := 1497) rfl) rfl⟩
set_option maxRecDepth 100000 in
theorem fl_X12_16 : sm_F RX12 16 12 3 2 := ⟨by decide, _, _, _, rfl, by decide, by decide +kernel, lw_m (List.mem_of_getElem? (i := 1488) rfl) rfl⟩
set_option maxRecDepth 100000 in
theorem fl_X12_20 : sm_F RX12 20 12 4 2 := ⟨by decide, _, _, _, rfl, by decide, by decide +kernel, lw_m (List.mem_of_getElem? (i := 1489) rfl) rfl⟩
set_option maxRecDepth 100000 in
theorem fl_X12_24 : sm_F RX12 24 12 6 2 := ⟨by decide, _, _, _, rfl, by decide, by decide +kernel, lw_m (List.mem_of_getElem? (i := 1491) rfl) rfl⟩
set_option maxRecDepth 100000 in
theorem fl_X12_27 : sm_F RX12 27 12 13 0 := ⟨by decide, _, _, _, rfl, by decide, by decide +kernel, lw_m (List.mem_of_getElem? (i := 1498) rfl) rfl⟩
set_option maxRecDepth 100000 in
theorem fl_X12_297 : sm_F RX12 297 12 19 0 := ⟨by decide, _, _, _, rfl, by decide, by decide +kernel, lw_m (List.mem_of_getElem? (i := 1504) rfl) rfl⟩
set_option maxRecDepth 100000 in
theorem fl_X12_31 : sm_F RX12 31 12 14 2 := ⟨by decide, _, _, _, rfl, by decide, by decide +kernel, lw_m (List.mem_of_getElem? (i := 1499) rfl) rfl⟩
set_option maxRecDepth 100000 in
theorem fl_X12_329 : sm_F RX12 329 12 21 0 := ⟨by decide, _, _, _, rfl, by decide, by decide +kernel, lw_m (List.mem_of_getElem? (i := 1506) rfl) rfl⟩
set_option maxRecDepth 100000 in
theorem fl_X12_34 : sm_F RX12 34 12 15 2 := ⟨by decide, _, _, _, rfl, by decide, by decide +kernel, lw_m (List.mem_of_getElem? (i := 1500) rfl) rfl⟩
set_option maxRecDepth 100000 in
theorem fl_X12_37 : sm_F RX12 37 12 16 2 := ⟨by decide, _, _, _, rfl, by decide, by decide +kernel, lw_m (List.mem_of_getElem? (i := 1501) rfl) rfl⟩
set_option maxRecDepth 100000 in
theorem fl_X12_372 : sm_F RX12 372 12 22 0 := ⟨by decide, _, _, _, rfl, by decide, by decide +kernel, lw_m (List.mem_of_getElem? (i := 1507) rfl) rfl⟩
set_option maxRecDepth 100000 in
theorem fl_X12_375 : sm_F RX12 375 12 23 0 := ⟨by decide, _, _, _, rfl, by decide, by decide +kernel, lw_m (List.mem_of_getElem? (i := 1508) rfl) rfl⟩
set_option maxRecDepth 100000 in
theorem fl_X12_378 : sm_F RX12 378 12 24 0 := ⟨by decide, _, _, _, rfl, by decide, by decide +kernel, lw_m (List.mem_of_getElem? (i := 1509) rfl) rfl⟩
set_option maxRecDepth 100000 in
theorem fl_X12_381 : sm_F RX12 381 12 25 0 := ⟨by decide, _, _, _, rfl, by decide, by decide +kernel, lw_m (List.mem_of_getElem? (i := 1510) rfl) rfl⟩
set_option maxRecDepth 100000 in
theorem fl_X12_40 : sm_F RX12 40 12 17 2 := ⟨by decide, _, _, _, rfl, by decide, by decide +kernel, lw_m (List.mem_of_getElem? (i := 1502) rfl) rfl⟩
set_option maxRecDepth 100000 in
theorem fl_X12_405 : sm_F RX12 405 12 27 0 := ⟨by decide, _, _, _, rfl, by decide, by decide +kernel, lw_m (List.mem_of_getElem? (i := 1512) rfl) rfl⟩
set_option maxRecDepth 100000 in
theorem fl_X12_411 : sm_F RX12 411 12 31 0 := ⟨by decide, _, _, _, rfl, by decide, by decide +kernel, lw_m (List.mem_of_getElem? (i := 1516) rfl) rfl⟩
set_option maxRecDepth 100000 in
theorem fl_X12_414 : sm_F RX12 414 12 30 0 := ⟨by decide, _, _, _, rfl, by decide, by decide +kernel, lw_m (List.mem_of_getElem? (i := 1515) rfl) rfl⟩
set_option maxRecDepth 100000 in
theorem fl_X12_43 : sm_F RX12 43 12 18 2 := ⟨by decide, _, _, _, rfl, by decide, by decide +kernel, lw_m (List.mem_of_getElem? (i := 1503) rfl) rfl⟩
set_option maxRecDepth 100000 in
theorem fl_X12_432 : sm_F RX12 432 12 35 0 := ⟨by decide, _, _, _, rfl, by decide, by decide +kernel, lw_m (List.mem_of_getElem? (i := 1520) rfl) rfl⟩
set_option maxRecDepth 100000 in
theorem fl_X12_46 : sm_F RX12 46 12 20 2 := ⟨by decide, _, _, _, rfl, by decide, by decide +kernel, lw_m (List.mem_of_getElem? (i := 1505) rfl) rfl⟩
set_option maxRecDepth 100000 in
theorem fl_X12_49 : sm_F RX12 49 12 26 2 := ⟨by decide, _, _, _, rfl, by decide, by decide +kernel, lw_m (List.mem_of_getElem? (i := 1511) rfl) rfl⟩
set_option maxRecDepth 100000 in
theorem fl_X12_52 : sm_F RX12 52 12 28 2 := ⟨by decide, _, _, _, rfl, by decide, by decide +kernel, lw_m (List.mem_of_getElem? (i := 1513) rfl) rfl⟩
set_option maxRecDepth 100000 in
theorem fl_X12_522 : sm_F RX12 522 12 42 1 := ⟨by decide, _, _, _, rfl, by decide, by decide +kernel, lw_m (List.mem_of_getElem? (i := 1527) rfl) rfl⟩
set_option maxRecDepth 100000 in
theorem fl_X12_55 : sm_F RX12 55 12 29 2 := ⟨by decide, _, _, _, rfl, by decide, by decide +kernel, lw_m (List.mem_of_getElem? (i := 1514) rfl) rfl⟩
set_option maxRecDepth 100000 in
theorem fl_X12_58 : sm_F RX12 58 12 32 2 := ⟨by decide, _, _, _, rfl, by decide, by decide +kernel, lw_m (List.mem_of_getElem? (i := 1517) rfl) rfl⟩
set_option maxRecDepth 100000 in
theorem fl_X12_61 : sm_F RX12 61 12 33 2 := ⟨by decide, _, _, _, rfl, by decide, by decide +kernel, lw_m (List.mem_of_getElem? (i := 1518) rfl) rfl⟩
set_option maxRecDepth 100000 in
theorem fl_X12_64 : sm_F RX12 64 12 34 2 := ⟨by decide, _, _, _, rfl, by decide, by decide +kernel, lw_m (List.mem_of_getElem? (i := 1519) rfl) rfl⟩
set_option maxRecDepth 100000 in
theorem fl_X12_67 : sm_F RX12 67 12 36 2 := ⟨by decide, _, _, _, rfl, by decide, by decide +kernel, lw_m (List.mem_of_getElem? (i := 1521) rfl) rfl⟩
set_option maxRecDepth 100000 in
theorem fl_X12_70 : sm_F RX12 70 12 37 2 := ⟨by decide, _, _, _, rfl, by decide, by decide +kernel, lw_m (List.mem_of_getElem? (i := 1522) rfl) rfl⟩
set_option maxRecDepth 100000 in
theorem fl_X12_73 : sm_F RX12 73 12 38 2 := ⟨by decide, _, _, _, rfl, by decide, by decide +kernel, lw_m (List.mem_of_getElem? (i := 1523) rfl) rfl⟩
set_option maxRecDepth 100000 in
theorem fl_X12_76 : sm_F RX12 76 12 39 0 := ⟨by decide, _, _, _, rfl, by decide, by decide +kernel, lw_m (List.mem_of_getElem? (i := 1524) rfl) rfl⟩
set_option maxRecDepth 100000 in
theorem fl_X12_79 : sm_F RX12 79 12 40 0 := ⟨by decide, _, _, _, rfl, by decide, by decide +kernel, lw_m (List.mem_of_getElem? (i := 1525) rfl) rfl⟩
set_option maxRecDepth 100000 in
theorem fl_X12_82 : sm_F RX12 82 12 41 2 := ⟨by decide, _, _, _, rfl, by decide, by decide +kernel, lw_m (List.mem_of_getElem? (i := 1526) rfl) rfl⟩
set_option maxRecDepth 100000 in
theorem fl_X12_86 : sm_F RX12 86 12 43 2 := ⟨by decide, _, _, _, rfl, by decide, by decide +kernel, lw_m (List.mem_of_getElem? (i := 1528) rfl) rfl⟩
set_option maxRecDepth 100000 in
theorem fl_X12_89 : sm_F RX12 89 12 44 2 := ⟨by decide, _, _, _, rfl, by decide, by decide +kernel, lw_m (List.mem_of_getElem? (i := 1529) rfl) rfl⟩
set_option maxRecDepth 100000 in
theorem fl_X12_9 : sm_F RX12 9 12 1 2 := ⟨by decide, _, _, _, rfl, by decide, by decide +kernel, lw_m (List.mem_of_getElem? (i := 1486) rfl) rfl⟩
set_option maxRecDepth 100000 in
theorem fl_X12_92 : sm_F RX12 92 12 45 2 := ⟨by decide, _, _, _, rfl, by decide, by decide +kernel, lw_m (List.mem_of_getElem? (i := 1530) rfl) rfl⟩
set_option maxRecDepth 100000 in
theorem fl_X12_95 : sm_F RX12 95 12 46 2 := ⟨by decide, _, _, _, rfl, by decide, by decide +kernel, lw_m (List.mem_of_getElem? (i := 1531) rfl) rfl⟩
theorem kp_0_0 : 0 < 20 ∧ fc 0 0 = 2 ∧ tk 0 0 = 10 := by decide +kernel
theorem kp_1_0 : 1 < 20 ∧ fc 1 0 = 2 ∧ tk 1 0 = 3 := by decide +kernel
theorem kp_1_1 : 1 < 20 ∧ fc 1 1 = 2 ∧ tk 1 1 = 20 := by decide +kernel
theorem kp_10_0 : 10 < 20 ∧ fc 10 0 = 2 ∧ tk 10 0 = 20 := by decide +kernel
theorem kp_10_2 : 10 < 20 ∧ fc 10 2 = 2 ∧ tk 10 2 = 3 := by decide +kernel
theorem kp_10_3 : 10 < 20 ∧ fc 10 3 = 2 ∧ tk 10 3 = 20 := by decide +kernel
theorem kp_10_4 : 10 < 20 ∧ fc 10 4 = 2 ∧ tk 10 4 = 20 := by decide +kernel
theorem kp_10_5 : 10 < 20 ∧ fc 10 5 = 2 ∧ tk 10 5 = 20 := by decide +kernel
theorem kp_11_0 : 11 < 20 ∧ fc 11 0 = 2 ∧ tk 11 0 = 21 := by decide +kernel
theorem kp_11_10 : 11 < 20 ∧ fc 11 10 = 2 ∧ tk 11 10 = 0 := by decide +kernel
theorem kp_11_11 : 11 < 20 ∧ fc 11 11 = 2 ∧ tk 11 11 = 5 := by decide +kernel
theorem kp_11_12 : 11 < 20 ∧ fc 11 12 = 2 ∧ tk 11 12 = 1 := by decide +kernel
theorem kp_11_13 : 11 < 20 ∧ fc 11 13 = 2 ∧ tk 11 13 = 2 := by decide +kernel
theorem kp_11_14 : 11 < 20 ∧ fc 11 14 = 2 ∧ tk 11 14 = 25 := by decide +kernel
theorem kp_11_15 : 11 < 20 ∧ fc 11 15 = 2 ∧ tk 11 15 = 26 := by decide +kernel
theorem kp_11_16 : 11 < 20 ∧ fc 11 16 = 2 ∧ tk 11 16 = 24 := by decide +kernel
theorem kp_11_17 : 11 < 20 ∧ fc 11 17 = 2 ∧ tk 11 17 = 22 := by decide +kernel
theorem kp_11_5 : 11 < 20 ∧ fc 11 5 = 2 ∧ tk 11 5 = 7 := by decide +kernel
theorem kp_11_6 : 11 < 20 ∧ fc 11 6 = 2 ∧ tk 11 6 = 9 := by decide +kernel
theorem kp_11_7 : 11 < 20 ∧ fc 11 7 = 2 ∧ tk 11 7 = 9 := by decide +kernel
theorem kp_11_8 : 11 < 20 ∧ fc 11 8 = 2 ∧ tk 11 8 = 3 := by decide +kernel
theorem kp_11_9 : 11 < 20 ∧ fc 11 9 = 2 ∧ tk 11 9 = 10 := by decide +kernel
theorem kp_12_1 : 12 < 20 ∧ fc 12 1 = 2 ∧ tk 12 1 = 20 := by decide +kernel
theorem kp_12_14 : 12 < 20 ∧ fc 12 14 = 2 ∧ tk 12 14 = 20 := by decide +kernel
theorem kp_12_15 : 12 < 20 ∧ fc 12 15 = 2 ∧ tk 12 15 = 20 := by decide +kernel
theorem kp_12_16 : 12 < 20 ∧ fc 12 16 = 2 ∧ tk 12 16 = 20 := by decide +kernel
theorem kp_12_17 : 12 < 20 ∧ fc 12 17 = 2 ∧ tk 12 17 = 20 := by decide +kernel
theorem kp_12_18 : 12 < 20 ∧ fc 12 18 = 2 ∧ tk 12 18 = 20 := by decide +kernel
theorem kp_12_2 : 12 < 20 ∧ fc 12 2 = 2 ∧ tk 12 2 = 20 := by decide +kernel
theorem kp_12_20 : 12 < 20 ∧ fc 12 20 = 2 ∧ tk 12 20 = 20 := by decide +kernel
theorem kp_12_26 : 12 < 20 ∧ fc 12 26 = 2 ∧ tk 12 26 = 20 := by decide +kernel
theorem kp_12_28 : 12 < 20 ∧ fc 12 28 = 2 ∧ tk 12 28 = 20 := by decide +kernel
theorem kp_12_29 : 12 < 20 ∧ fc 12 29 = 2 ∧ tk 12 29 = 20 := by decide +kernel
theorem kp_12_3 : 12 < 20 ∧ fc 12 3 = 2 ∧ tk 12 3 = 22 := by decide +kernel
theorem kp_12_32 : 12 < 20 ∧ fc 12 32 = 2 ∧ tk 12 32 = 20 := by decide +kernel
theorem kp_12_33 : 12 < 20 ∧ fc 12 33 = 2 ∧ tk 12 33 = 20 := by decide +kernel
theorem kp_12_34 : 12 < 20 ∧ fc 12 34 = 2 ∧ tk 12 34 = 20 := by decide +kernel
theorem kp_12_36 : 12 < 20 ∧ fc 12 36 = 2 ∧ tk 12 36 = 20 := by decide +kernel
theorem kp_12_37 : 12 < 20 ∧ fc 12 37 = 2 ∧ tk 12 37 = 20 := by decide +kernel
theorem kp_12_38 : 12 < 20 ∧ fc 12 38 = 2 ∧ tk 12 38 = 20 := by decide +kernel
theorem kp_12_4 : 12 < 20 ∧ fc 12 4 = 2 ∧ tk 12 4 = 21 := by decide +kernel
theorem kp_12_41 : 12 < 20 ∧ fc 12 41 = 2 ∧ tk 12 41 = 23 := by decide +kernel
theorem kp_12_43 : 12 < 20 ∧ fc 12 43 = 2 ∧ tk 12 43 = 20 := by decide +kernel
theorem kp_12_44 : 12 < 20 ∧ fc 12 44 = 2 ∧ tk 12 44 = 20 := by decide +kernel
theorem kp_12_45 : 12 < 20 ∧ fc 12 45 = 2 ∧ tk 12 45 = 23 := by decide +kernel
theorem kp_12_46 : 12 < 20 ∧ fc 12 46 = 2 ∧ tk 12 46 = 23 := by decide +kernel
theorem kp_12_6 : 12 < 20 ∧ fc 12 6 = 2 ∧ tk 12 6 = 20 := by decide +kernel
theorem kp_2_0 : 2 < 20 ∧ fc 2 0 = 2 ∧ tk 2 0 = 3 := by decide +kernel
theorem kp_2_1 : 2 < 20 ∧ fc 2 1 = 2 ∧ tk 2 1 = 4 := by decide +kernel
theorem kp_2_2 : 2 < 20 ∧ fc 2 2 = 2 ∧ tk 2 2 = 4 := by decide +kernel
theorem kp_2_3 : 2 < 20 ∧ fc 2 3 = 2 ∧ tk 2 3 = 20 := by decide +kernel
theorem kp_2_4 : 2 < 20 ∧ fc 2 4 = 2 ∧ tk 2 4 = 20 := by decide +kernel
theorem kp_2_5 : 2 < 20 ∧ fc 2 5 = 2 ∧ tk 2 5 = 20 := by decide +kernel
theorem kp_3_0 : 3 < 20 ∧ fc 3 0 = 2 ∧ tk 3 0 = 20 := by decide +kernel
theorem kp_3_1 : 3 < 20 ∧ fc 3 1 = 2 ∧ tk 3 1 = 20 := by decide +kernel
theorem kp_3_2 : 3 < 20 ∧ fc 3 2 = 2 ∧ tk 3 2 = 20 := by decide +kernel
theorem kp_4_5 : 4 < 20 ∧ fc 4 5 = 2 ∧ tk 4 5 = 20 := by decide +kernel
theorem kp_4_6 : 4 < 20 ∧ fc 4 6 = 2 ∧ tk 4 6 = 20 := by decide +kernel
theorem kp_4_7 : 4 < 20 ∧ fc 4 7 = 2 ∧ tk 4 7 = 20 := by decide +kernel
theorem kp_4_8 : 4 < 20 ∧ fc 4 8 = 2 ∧ tk 4 8 = 20 := by decide +kernel
theorem kp_4_9 : 4 < 20 ∧ fc 4 9 = 2 ∧ tk 4 9 = 20 := by decide +kernel
theorem kp_5_2 : 5 < 20 ∧ fc 5 2 = 2 ∧ tk 5 2 = 7 := by decide +kernel
theorem kp_5_3 : 5 < 20 ∧ fc 5 3 = 2 ∧ tk 5 3 = 0 := by decide +kernel
theorem kp_5_4 : 5 < 20 ∧ fc 5 4 = 2 ∧ tk 5 4 = 24 := by decide +kernel
theorem kp_5_5 : 5 < 20 ∧ fc 5 5 = 2 ∧ tk 5 5 = 20 := by decide +kernel
theorem kp_5_6 : 5 < 20 ∧ fc 5 6 = 2 ∧ tk 5 6 = 20 := by decide +kernel
theorem kp_7_10 : 7 < 20 ∧ fc 7 10 = 2 ∧ tk 7 10 = 20 := by decide +kernel
theorem kp_7_11 : 7 < 20 ∧ fc 7 11 = 2 ∧ tk 7 11 = 20 := by decide +kernel
theorem kp_7_12 : 7 < 20 ∧ fc 7 12 = 2 ∧ tk 7 12 = 20 := by decide +kernel
theorem kp_7_13 : 7 < 20 ∧ fc 7 13 = 2 ∧ tk 7 13 = 20 := by decide +kernel
theorem kp_7_14 : 7 < 20 ∧ fc 7 14 = 2 ∧ tk 7 14 = 20 := by decide +kernel
theorem kp_7_15 : 7 < 20 ∧ fc 7 15 = 2 ∧ tk 7 15 = 20 := by decide +kernel
theorem kp_7_16 : 7 < 20 ∧ fc 7 16 = 2 ∧ tk 7 16 = 20 := by decide +kernel
theorem kp_7_8 : 7 < 20 ∧ fc 7 8 = 2 ∧ tk 7 8 = 20 := by decide +kernel
theorem kp_7_9 : 7 < 20 ∧ fc 7 9 = 2 ∧ tk 7 9 = 20 := by decide +kernel
theorem kp_8_3 : 8 < 20 ∧ fc 8 3 = 2 ∧ tk 8 3 = 23 := by decide +kernel
theorem kp_9_0 : 9 < 20 ∧ fc 9 0 = 2 ∧ tk 9 0 = 7 := by decide +kernel
theorem kp_9_2 : 9 < 20 ∧ fc 9 2 = 2 ∧ tk 9 2 = 20 := by decide +kernel
theorem kp_9_3 : 9 < 20 ∧ fc 9 3 = 2 ∧ tk 9 3 = 20 := by decide +kernel
theorem kp_9_4 : 9 < 20 ∧ fc 9 4 = 2 ∧ tk 9 4 = 20 := by decide +kernel
set_option maxRecDepth 100000 in
theorem ml_X0_15 : Cond.methodLink RX0 15 yX9_isAt ∈ lw_w := lw_m (List.mem_of_getElem? (i := 1006) rfl) rfl
set_option maxRecDepth 100000 in
theorem ml_X0_25 : Cond.methodLink RX0 25 yX7_weightOf ∈ lw_w := lw_m (List.mem_of_getElem? (i := 1010) rfl) rfl
set_option maxRecDepth 100000 in
theorem ml_X0_31 : Cond.methodLink RX0 31 yX7_strideOf ∈ lw_w := lw_m (List.mem_of_getElem? (i := 1014) rfl) rfl
set_option maxRecDepth 100000 in
theorem ml_X0_34 : Cond.methodLink RX0 34 yX10_seek ∈ lw_w := lw_m (List.mem_of_getElem? (i := 1018) rfl) rfl
set_option maxRecDepth 100000 in
theorem ml_X0_40 : Cond.methodLink RX0 40 yX10_wear ∈ lw_w := lw_m (List.mem_of_getElem? (i := 1019) rfl) rfl
set_option maxRecDepth 100000 in
theorem ml_X0_44 : Cond.methodLink RX0 44 yX9_settle ∈ lw_w := lw_m (List.mem_of_getElem? (i := 1023) rfl) rfl
set_option maxRecDepth 100000 in
theorem ml_X0_52 : Cond.methodLink RX0 52 yX7_isUnit ∈ lw_w := lw_m (List.mem_of_getElem? (i := 1039) rfl) rfl
set_option maxRecDepth 100000 in
theorem ml_X0_56 : Cond.methodLink RX0 56 yX0_send ∈ lw_w := lw_m (List.mem_of_getElem? (i := 1040) rfl) rfl
set_option maxRecDepth 100000 in
theorem ml_X0_60 : Cond.methodLink RX0 60 yX7_peopleOf ∈ lw_w := lw_m (List.mem_of_getElem? (i := 1041) rfl) rfl
set_option maxRecDepth 100000 in
theorem ml_X0_63 : Cond.methodLink RX0 63 yX7_comesBack ∈ lw_w := lw_m (List.mem_of_getElem? (i := 1133) rfl) rfl
set_option maxRecDepth 100000 in
theorem ml_X0_66 : Cond.methodLink RX0 66 yX0_wade ∈ lw_w := lw_m (List.mem_of_getElem? (i := 1421) rfl) rfl
set_option maxRecDepth 100000 in
theorem ml_X0_87 : Cond.methodLink RX0 87 yX9_openFor ∈ lw_w := lw_m (List.mem_of_getElem? (i := 1100) rfl) rfl
set_option maxRecDepth 100000 in
theorem ml_X0_90 : Cond.methodLink RX0 90 yX3_crosses ∈ lw_w := lw_m (List.mem_of_getElem? (i := 1101) rfl) rfl
set_option maxRecDepth 100000 in
theorem ml_X1_33 : Cond.methodLink RX1 33 yX9_openFor ∈ lw_w := lw_m (List.mem_of_getElem? (i := 1326) rfl) rfl
set_option maxRecDepth 100000 in
theorem ml_X1_37 : Cond.methodLink RX1 37 yX1_gather ∈ lw_w := lw_m (List.mem_of_getElem? (i := 1327) rfl) rfl
set_option maxRecDepth 100000 in
theorem ml_X1_49 : Cond.methodLink RX1 49 yX3_crosses ∈ lw_w := lw_m (List.mem_of_getElem? (i := 1333) rfl) rfl
set_option maxRecDepth 100000 in
theorem ml_X1_58 : Cond.methodLink RX1 58 yX9_inDoubt ∈ lw_w := lw_m (List.mem_of_getElem? (i := 1331) rfl) rfl
set_option maxRecDepth 100000 in
theorem ml_X2_104 : Cond.methodLink RX2 104 Lib.Math.min.name ∈ lw_w := lw_m (List.mem_of_getElem? (i := 1189) rfl) rfl
set_option maxRecDepth 100000 in
theorem ml_X2_110 : Cond.methodLink RX2 110 Lib.Math.max.name ∈ lw_w := lw_m (List.mem_of_getElem? (i := 1285) rfl) rfl
set_option maxRecDepth 100000 in
theorem ml_X2_113 : Cond.methodLink RX2 113 yX4_canLeave ∈ lw_w := lw_m (List.mem_of_getElem? (i := 1304) rfl) rfl
set_option maxRecDepth 100000 in
theorem ml_X2_117 : Cond.methodLink RX2 117 yX4_canEnter ∈ lw_w := lw_m (List.mem_of_getElem? (i := 1308) rfl) rfl
set_option maxRecDepth 100000 in
theorem ml_X2_126 : Cond.methodLink RX2 126 yX2_search ∈ lw_w := lw_m (List.mem_of_getElem? (i := 1172) rfl) rfl
set_option maxRecDepth 100000 in
theorem ml_X2_130 : Cond.methodLink RX2 130 yX2_narrowest ∈ lw_w := lw_m (List.mem_of_getElem? (i := 1185) rfl) rfl
set_option maxRecDepth 100000 in
theorem ml_X2_133 : Cond.methodLink RX2 133 yX2_push ∈ lw_w := lw_m (List.mem_of_getElem? (i := 1190) rfl) rfl
set_option maxRecDepth 100000 in
theorem ml_X2_143 : Cond.methodLink RX2 143 yX2_enter ∈ lw_w := lw_m (List.mem_of_getElem? (i := 1176) rfl) rfl
set_option maxRecDepth 100000 in
theorem ml_X2_149 : Cond.methodLink RX2 149 yX2_leave ∈ lw_w := lw_m (List.mem_of_getElem? (i := 1181) rfl) rfl
set_option maxRecDepth 100000 in
theorem ml_X2_158 : Cond.methodLink RX2 158 yX4_pass ∈ lw_w := lw_m (List.mem_of_getElem? (i := 1194) rfl) rfl
set_option maxRecDepth 100000 in
theorem ml_X2_39 : Cond.methodLink RX2 39 yX4_empty ∈ lw_w := lw_m (List.mem_of_getElem? (i := 1161) rfl) rfl
set_option maxRecDepth 100000 in
theorem ml_X2_57 : Cond.methodLink RX2 57 yJ7_fill_53178 ∈ lw_w := lw_m (List.mem_of_getElem? (i := 1166) rfl) rfl
set_option maxRecDepth 100000 in
theorem ml_X2_78 : Cond.methodLink RX2 78 yX9_leftOf ∈ lw_w := lw_m (List.mem_of_getElem? (i := 1167) rfl) rfl
set_option maxRecDepth 100000 in
theorem ml_X2_82 : Cond.methodLink RX2 82 yX4_takeFrom ∈ lw_w := lw_m (List.mem_of_getElem? (i := 1247) rfl) rfl
set_option maxRecDepth 100000 in
theorem ml_X2_86 : Cond.methodLink RX2 86 yX2_around ∈ lw_w := lw_m (List.mem_of_getElem? (i := 1235) rfl) rfl
set_option maxRecDepth 100000 in
theorem ml_X2_90 : Cond.methodLink RX2 90 yJ6_numberOfTrailingZeros_0f7a4 ∈ lw_w := lw_m (List.mem_of_getElem? (i := 1180) rfl) rfl
set_option maxRecDepth 100000 in
theorem ml_X3_21 : Cond.methodLink RX3 21 yJ7_fill_53178 ∈ lw_w := lw_m (List.mem_of_getElem? (i := 802) rfl) rfl
set_option maxRecDepth 100000 in
theorem ml_X3_39 : Cond.methodLink RX3 39 yX7_square ∈ lw_w := lw_m (List.mem_of_getElem? (i := 803) rfl) rfl
set_option maxRecDepth 100000 in
theorem ml_X3_43 : Cond.methodLink RX3 43 yX3_link ∈ lw_w := lw_m (List.mem_of_getElem? (i := 811) rfl) rfl
set_option maxRecDepth 100000 in
theorem ml_X3_47 : Cond.methodLink RX3 47 yJ6_numberOfTrailingZeros_0f7a4 ∈ lw_w := lw_m (List.mem_of_getElem? (i := 890) rfl) rfl
set_option maxRecDepth 100000 in
theorem ml_X3_53 : Cond.methodLink RX3 53 yX3_flood ∈ lw_w := lw_m (List.mem_of_getElem? (i := 1105) rfl) rfl
set_option maxRecDepth 100000 in
theorem ml_X4_43 : Cond.methodLink RX4 43 arraycopyName ∈ lw_w := lw_m (List.mem_of_getElem? (i := 1251) rfl) rfl
set_option maxRecDepth 100000 in
theorem ml_X4_49 : Cond.methodLink RX4 49 yJ7_fill_53178 ∈ lw_w := lw_m (List.mem_of_getElem? (i := 1165) rfl) rfl
set_option maxRecDepth 100000 in
theorem ml_X5_100 : Cond.methodLink RX5 100 yX7_mustGo ∈ lw_w := lw_m (List.mem_of_getElem? (i := 1106) rfl) rfl
set_option maxRecDepth 100000 in
theorem ml_X5_103 : Cond.methodLink RX5 103 yX7_peopleOf ∈ lw_w := lw_m (List.mem_of_getElem? (i := 1107) rfl) rfl
set_option maxRecDepth 100000 in
theorem ml_X5_106 : Cond.methodLink RX5 106 yX7_worthOf ∈ lw_w := lw_m (List.mem_of_getElem? (i := 1108) rfl) rfl
set_option maxRecDepth 100000 in
theorem ml_X5_109 : Cond.methodLink RX5 109 yX0_couldGo ∈ lw_w := lw_m (List.mem_of_getElem? (i := 1096) rfl) rfl
set_option maxRecDepth 100000 in
theorem ml_X5_113 : Cond.methodLink RX5 113 yX7_strideOf ∈ lw_w := lw_m (List.mem_of_getElem? (i := 1113) rfl) rfl
set_option maxRecDepth 100000 in
theorem ml_X5_116 : Cond.methodLink RX5 116 yX7_weightOf ∈ lw_w := lw_m (List.mem_of_getElem? (i := 1114) rfl) rfl
set_option maxRecDepth 100000 in
theorem ml_X5_44 : Cond.methodLink RX5 44 yX7_isUnit ∈ lw_w := lw_m (List.mem_of_getElem? (i := 1078) rfl) rfl
set_option maxRecDepth 100000 in
theorem ml_X5_48 : Cond.methodLink RX5 48 yX9_isAt ∈ lw_w := lw_m (List.mem_of_getElem? (i := 1079) rfl) rfl
set_option maxRecDepth 100000 in
theorem ml_X5_52 : Cond.methodLink RX5 52 yJ6_bitCount_0f7a4 ∈ lw_w := lw_m (List.mem_of_getElem? (i := 1080) rfl) rfl
set_option maxRecDepth 100000 in
theorem ml_X5_67 : Cond.methodLink RX5 67 yX9_takeFrom ∈ lw_w := lw_m (List.mem_of_getElem? (i := 1081) rfl) rfl
set_option maxRecDepth 100000 in
theorem ml_X5_71 : Cond.methodLink RX5 71 yX5_extend ∈ lw_w := lw_m (List.mem_of_getElem? (i := 1082) rfl) rfl
set_option maxRecDepth 100000 in
theorem ml_X5_75 : Cond.methodLink RX5 75 yX5_isBetter ∈ lw_w := lw_m (List.mem_of_getElem? (i := 1086) rfl) rfl
set_option maxRecDepth 100000 in
theorem ml_X5_78 : Cond.methodLink RX5 78 arraycopyName ∈ lw_w := lw_m (List.mem_of_getElem? (i := 1090) rfl) rfl
set_option maxRecDepth 100000 in
theorem ml_X5_84 : Cond.methodLink RX5 84 yX5_couldBeBetter ∈ lw_w := lw_m (List.mem_of_getElem? (i := 1091) rfl) rfl
set_option maxRecDepth 100000 in
theorem ml_X5_88 : Cond.methodLink RX5 88 yJ6_numberOfTrailingZeros_0f7a4 ∈ lw_w := lw_m (List.mem_of_getElem? (i := 1095) rfl) rfl
set_option maxRecDepth 100000 in
theorem ml_X5_91 : Cond.methodLink RX5 91 yX5_hasTwin ∈ lw_w := lw_m (List.mem_of_getElem? (i := 1109) rfl) rfl
set_option maxRecDepth 100000 in
theorem ml_X5_94 : Cond.methodLink RX5 94 yX0_send ∈ lw_w := lw_m (List.mem_of_getElem? (i := 1115) rfl) rfl
set_option maxRecDepth 100000 in
theorem ml_X6_186 : Cond.methodLink RX6 186 yX6_isLetter ∈ lw_w := lw_m (List.mem_of_getElem? (i := 669) rfl) rfl
set_option maxRecDepth 100000 in
theorem ml_X6_190 : Cond.methodLink RX6 190 yX6_isDigit ∈ lw_w := lw_m (List.mem_of_getElem? (i := 672) rfl) rfl
set_option maxRecDepth 100000 in
theorem ml_X6_22 : Cond.methodLink RX6 22 Lib.Math.min.name ∈ lw_w := lw_m (List.mem_of_getElem? (i := 658) rfl) rfl
set_option maxRecDepth 100000 in
theorem ml_X6_51 : Cond.methodLink RX6 51 yX6_advance ∈ lw_w := lw_m (List.mem_of_getElem? (i := 665) rfl) rfl
set_option maxRecDepth 100000 in
theorem ml_X6_69 : Cond.methodLink RX6 69 yX6_refuse ∈ lw_w := lw_m (List.mem_of_getElem? (i := 732) rfl) rfl
set_option maxRecDepth 100000 in
theorem ml_X7_64 : Cond.methodLink RX7 64 arraycopyName ∈ lw_w := lw_m (List.mem_of_getElem? (i := 791) rfl) rfl
set_option maxRecDepth 100000 in
theorem ml_X7_70 : Cond.methodLink RX7 70 yX7_across ∈ lw_w := lw_m (List.mem_of_getElem? (i := 807) rfl) rfl
set_option maxRecDepth 100000 in
theorem ml_X7_74 : Cond.methodLink RX7 74 yX7_square ∈ lw_w := lw_m (List.mem_of_getElem? (i := 876) rfl) rfl
set_option maxRecDepth 100000 in
theorem ml_X7_78 : Cond.methodLink RX7 78 Lib.Math.min.name ∈ lw_w := lw_m (List.mem_of_getElem? (i := 855) rfl) rfl
set_option maxRecDepth 100000 in
theorem ml_X7_83 : Cond.methodLink RX7 83 yX7_peopleOf ∈ lw_w := lw_m (List.mem_of_getElem? (i := 1064) rfl) rfl
set_option maxRecDepth 100000 in
theorem ml_X8_26 : Cond.methodLink RX8 26 yJ7_fill_d0a16 ∈ lw_w := lw_m (List.mem_of_getElem? (i := 1460) rfl) rfl
set_option maxRecDepth 100000 in
theorem ml_X9_25 : Cond.methodLink RX9 25 yJ7_fill_53178 ∈ lw_w := lw_m (List.mem_of_getElem? (i := 333) rfl) rfl
set_option maxRecDepth 100000 in
theorem ml_X9_35 : Cond.methodLink RX9 35 arraycopyName ∈ lw_w := lw_m (List.mem_of_getElem? (i := 984) rfl) rfl
set_option maxRecDepth 100000 in
theorem ml_X9_52 : Cond.methodLink RX9 52 yX9_leftOf ∈ lw_w := lw_m (List.mem_of_getElem? (i := 885) rfl) rfl
set_option maxRecDepth 100000 in
theorem ml_X9_59 : Cond.methodLink RX9 59 yX9_inDoubt ∈ lw_w := lw_m (List.mem_of_getElem? (i := 1411) rfl) rfl
set_option maxRecDepth 100000 in
theorem ml_X9_79 : Cond.methodLink RX9 79 yX7_isUnit ∈ lw_w := lw_m (List.mem_of_getElem? (i := 1059) rfl) rfl
set_option maxRecDepth 100000 in
theorem ml_X9_82 : Cond.methodLink RX9 82 yX7_mustGo ∈ lw_w := lw_m (List.mem_of_getElem? (i := 1060) rfl) rfl
set_option maxRecDepth 100000 in
theorem ml_X9_85 : Cond.methodLink RX9 85 yX9_isAt ∈ lw_w := lw_m (List.mem_of_getElem? (i := 1065) rfl) rfl
set_option maxRecDepth 100000 in
theorem ml_X9_92 : Cond.methodLink RX9 92 yX7_joins ∈ lw_w := lw_m (List.mem_of_getElem? (i := 968) rfl) rfl
set_option maxRecDepth 100000 in
theorem ml_X10_103 : Cond.methodLink RX10 103 yX10_least ∈ lw_w := lw_m (List.mem_of_getElem? (i := 947) rfl) rfl
set_option maxRecDepth 100000 in
theorem ml_X10_109 : Cond.methodLink RX10 109 Lib.Math.min.name ∈ lw_w := lw_m (List.mem_of_getElem? (i := 951) rfl) rfl
set_option maxRecDepth 100000 in
theorem ml_X10_43 : Cond.methodLink RX10 43 yX9_openFor ∈ lw_w := lw_m (List.mem_of_getElem? (i := 925) rfl) rfl
set_option maxRecDepth 100000 in
theorem ml_X10_55 : Cond.methodLink RX10 55 yX10_putReached ∈ lw_w := lw_m (List.mem_of_getElem? (i := 926) rfl) rfl
set_option maxRecDepth 100000 in
theorem ml_X10_59 : Cond.methodLink RX10 59 yX10_putCosts ∈ lw_w := lw_m (List.mem_of_getElem? (i := 932) rfl) rfl
set_option maxRecDepth 100000 in
theorem ml_X10_63 : Cond.methodLink RX10 63 yX10_spread ∈ lw_w := lw_m (List.mem_of_getElem? (i := 941) rfl) rfl
set_option maxRecDepth 100000 in
theorem ml_X10_67 : Cond.methodLink RX10 67 yX10_walk ∈ lw_w := lw_m (List.mem_of_getElem? (i := 952) rfl) rfl
set_option maxRecDepth 100000 in
theorem ml_X10_74 : Cond.methodLink RX10 74 yX10_crowd ∈ lw_w := lw_m (List.mem_of_getElem? (i := 936) rfl) rfl
set_option maxRecDepth 100000 in
theorem ml_X10_78 : Cond.methodLink RX10 78 yX9_leftOf ∈ lw_w := lw_m (List.mem_of_getElem? (i := 940) rfl) rfl
set_option maxRecDepth 100000 in
theorem ml_X10_81 : Cond.methodLink RX10 81 yJ7_fill_53178 ∈ lw_w := lw_m (List.mem_of_getElem? (i := 930) rfl) rfl
set_option maxRecDepth 100000 in
theorem ml_X10_93 : Cond.methodLink RX10 93 yX3_flood ∈ lw_w := lw_m (List.mem_of_getElem? (i := 931) rfl) rfl
set_option maxRecDepth 100000 in
theorem ml_X10_98 : Cond.methodLink RX10 98 yJ6_numberOfTrailingZeros_0f7a4 ∈ lw_w := lw_m (List.mem_of_getElem? (i := 946) rfl) rfl
set_option maxRecDepth 100000 in
theorem ml_X11_113 : Cond.methodLink RX11 113 yX11_putBytes ∈ lw_w := lw_m (List.mem_of_getElem? (i := 642) rfl) rfl
set_option maxRecDepth 100000 in
theorem ml_X11_131 : Cond.methodLink RX11 131 yX7_takeFrom ∈ lw_w := lw_m (List.mem_of_getElem? (i := 787) rfl) rfl
set_option maxRecDepth 100000 in
theorem ml_X11_137 : Cond.methodLink RX11 137 yX3_lay ∈ lw_w := lw_m (List.mem_of_getElem? (i := 798) rfl) rfl
set_option maxRecDepth 100000 in
theorem ml_X11_140 : Cond.methodLink RX11 140 yX5_forget ∈ lw_w := lw_m (List.mem_of_getElem? (i := 815) rfl) rfl
set_option maxRecDepth 100000 in
theorem ml_X11_146 : Cond.methodLink RX11 146 yX11_isStone ∈ lw_w := lw_m (List.mem_of_getElem? (i := 827) rfl) rfl
set_option maxRecDepth 100000 in
theorem ml_X11_157 : Cond.methodLink RX11 157 yX9_leftOf ∈ lw_w := lw_m (List.mem_of_getElem? (i := 831) rfl) rfl
set_option maxRecDepth 100000 in
theorem ml_X11_164 : Cond.methodLink RX11 164 yX11_knowledgeOf ∈ lw_w := lw_m (List.mem_of_getElem? (i := 835) rfl) rfl
set_option maxRecDepth 100000 in
theorem ml_X11_167 : Cond.methodLink RX11 167 yX9_inDoubt ∈ lw_w := lw_m (List.mem_of_getElem? (i := 839) rfl) rfl
set_option maxRecDepth 100000 in
theorem ml_X11_173 : Cond.methodLink RX11 173 yX11_isPerson ∈ lw_w := lw_m (List.mem_of_getElem? (i := 847) rfl) rfl
set_option maxRecDepth 100000 in
theorem ml_X11_181 : Cond.methodLink RX11 181 yX7_unitOf ∈ lw_w := lw_m (List.mem_of_getElem? (i := 851) rfl) rfl
set_option maxRecDepth 100000 in
theorem ml_X11_184 : Cond.methodLink RX11 184 yX7_isPlace ∈ lw_w := lw_m (List.mem_of_getElem? (i := 860) rfl) rfl
set_option maxRecDepth 100000 in
theorem ml_X11_187 : Cond.methodLink RX11 187 yX11_isStride ∈ lw_w := lw_m (List.mem_of_getElem? (i := 864) rfl) rfl
set_option maxRecDepth 100000 in
theorem ml_X11_190 : Cond.methodLink RX11 190 yX7_joins ∈ lw_w := lw_m (List.mem_of_getElem? (i := 872) rfl) rfl
set_option maxRecDepth 100000 in
theorem ml_X11_194 : Cond.methodLink RX11 194 yX9_openFor ∈ lw_w := lw_m (List.mem_of_getElem? (i := 881) rfl) rfl
set_option maxRecDepth 100000 in
theorem ml_X11_197 : Cond.methodLink RX11 197 yX3_flood ∈ lw_w := lw_m (List.mem_of_getElem? (i := 886) rfl) rfl
set_option maxRecDepth 100000 in
theorem ml_X11_201 : Cond.methodLink RX11 201 yX11_isHour ∈ lw_w := lw_m (List.mem_of_getElem? (i := 898) rfl) rfl
set_option maxRecDepth 100000 in
theorem ml_X11_207 : Cond.methodLink RX11 207 yX9_wash ∈ lw_w := lw_m (List.mem_of_getElem? (i := 906) rfl) rfl
set_option maxRecDepth 100000 in
theorem ml_X11_211 : Cond.methodLink RX11 211 yX11_isWeight ∈ lw_w := lw_m (List.mem_of_getElem? (i := 914) rfl) rfl
set_option maxRecDepth 100000 in
theorem ml_X11_214 : Cond.methodLink RX11 214 yX11_isWay ∈ lw_w := lw_m (List.mem_of_getElem? (i := 917) rfl) rfl
set_option maxRecDepth 100000 in
theorem ml_X11_217 : Cond.methodLink RX11 217 yX10_seek ∈ lw_w := lw_m (List.mem_of_getElem? (i := 921) rfl) rfl
set_option maxRecDepth 100000 in
theorem ml_X11_224 : Cond.methodLink RX11 224 yX9_takeStep ∈ lw_w := lw_m (List.mem_of_getElem? (i := 964) rfl) rfl
set_option maxRecDepth 100000 in
theorem ml_X11_228 : Cond.methodLink RX11 228 yX11_isSlot ∈ lw_w := lw_m (List.mem_of_getElem? (i := 973) rfl) rfl
set_option maxRecDepth 100000 in
theorem ml_X11_235 : Cond.methodLink RX11 235 yX11_stepsInThought ∈ lw_w := lw_m (List.mem_of_getElem? (i := 976) rfl) rfl
set_option maxRecDepth 100000 in
theorem ml_X11_239 : Cond.methodLink RX11 239 yX9_takeFrom ∈ lw_w := lw_m (List.mem_of_getElem? (i := 980) rfl) rfl
set_option maxRecDepth 100000 in
theorem ml_X11_249 : Cond.methodLink RX11 249 yX11_stepInThought ∈ lw_w := lw_m (List.mem_of_getElem? (i := 985) rfl) rfl
set_option maxRecDepth 100000 in
theorem ml_X11_258 : Cond.methodLink RX11 258 yX7_isUnit ∈ lw_w := lw_m (List.mem_of_getElem? (i := 998) rfl) rfl
set_option maxRecDepth 100000 in
theorem ml_X11_261 : Cond.methodLink RX11 261 yX0_send ∈ lw_w := lw_m (List.mem_of_getElem? (i := 1002) rfl) rfl
set_option maxRecDepth 100000 in
theorem ml_X11_265 : Cond.methodLink RX11 265 yX11_overInThought ∈ lw_w := lw_m (List.mem_of_getElem? (i := 1031) rfl) rfl
set_option maxRecDepth 100000 in
theorem ml_X11_268 : Cond.methodLink RX11 268 yJ6_bitCount_0f7a4 ∈ lw_w := lw_m (List.mem_of_getElem? (i := 1045) rfl) rfl
set_option maxRecDepth 100000 in
theorem ml_X11_273 : Cond.methodLink RX11 273 yX7_worthOf ∈ lw_w := lw_m (List.mem_of_getElem? (i := 1051) rfl) rfl
set_option maxRecDepth 100000 in
theorem ml_X11_276 : Cond.methodLink RX11 276 yX9_missing ∈ lw_w := lw_m (List.mem_of_getElem? (i := 1055) rfl) rfl
set_option maxRecDepth 100000 in
theorem ml_X11_279 : Cond.methodLink RX11 279 yX0_sendOver ∈ lw_w := lw_m (List.mem_of_getElem? (i := 1035) rfl) rfl
set_option maxRecDepth 100000 in
theorem ml_X11_283 : Cond.methodLink RX11 283 yX5_find ∈ lw_w := lw_m (List.mem_of_getElem? (i := 1074) rfl) rfl
set_option maxRecDepth 100000 in
theorem ml_X11_293 : Cond.methodLink RX11 293 yX5_unitAt ∈ lw_w := lw_m (List.mem_of_getElem? (i := 1116) rfl) rfl
set_option maxRecDepth 100000 in
theorem ml_X11_297 : Cond.methodLink RX11 297 yX0_sendHome ∈ lw_w := lw_m (List.mem_of_getElem? (i := 1129) rfl) rfl
set_option maxRecDepth 100000 in
theorem ml_X11_300 : Cond.methodLink RX11 300 yX9_peopleAt ∈ lw_w := lw_m (List.mem_of_getElem? (i := 1141) rfl) rfl
set_option maxRecDepth 100000 in
theorem ml_X11_303 : Cond.methodLink RX11 303 yX11_isTold ∈ lw_w := lw_m (List.mem_of_getElem? (i := 868) rfl) rfl
set_option maxRecDepth 100000 in
theorem ml_X11_307 : Cond.methodLink RX11 307 yX11_mostOf ∈ lw_w := lw_m (List.mem_of_getElem? (i := 1153) rfl) rfl
set_option maxRecDepth 100000 in
theorem ml_X11_313 : Cond.methodLink RX11 313 yX2_lay ∈ lw_w := lw_m (List.mem_of_getElem? (i := 1157) rfl) rfl
set_option maxRecDepth 100000 in
theorem ml_X11_316 : Cond.methodLink RX11 316 yX2_fill ∈ lw_w := lw_m (List.mem_of_getElem? (i := 1168) rfl) rfl
set_option maxRecDepth 100000 in
theorem ml_X11_319 : Cond.methodLink RX11 319 yX2_barring ∈ lw_w := lw_m (List.mem_of_getElem? (i := 1202) rfl) rfl
set_option maxRecDepth 100000 in
theorem ml_X11_322 : Cond.methodLink RX11 322 yX2_lift ∈ lw_w := lw_m (List.mem_of_getElem? (i := 1210) rfl) rfl
set_option maxRecDepth 100000 in
theorem ml_X11_325 : Cond.methodLink RX11 325 yX10_wear ∈ lw_w := lw_m (List.mem_of_getElem? (i := 1218) rfl) rfl
set_option maxRecDepth 100000 in
theorem ml_X11_329 : Cond.methodLink RX11 329 yX11_isLoad ∈ lw_w := lw_m (List.mem_of_getElem? (i := 1223) rfl) rfl
set_option maxRecDepth 100000 in
theorem ml_X11_332 : Cond.methodLink RX11 332 yX7_isInWater ∈ lw_w := lw_m (List.mem_of_getElem? (i := 1226) rfl) rfl
set_option maxRecDepth 100000 in
theorem ml_X11_335 : Cond.methodLink RX11 335 yX7_stoneAt ∈ lw_w := lw_m (List.mem_of_getElem? (i := 1230) rfl) rfl
set_option maxRecDepth 100000 in
theorem ml_X11_338 : Cond.methodLink RX11 338 yX2_put ∈ lw_w := lw_m (List.mem_of_getElem? (i := 1231) rfl) rfl
set_option maxRecDepth 100000 in
theorem ml_X11_342 : Cond.methodLink RX11 342 yX2_save ∈ lw_w := lw_m (List.mem_of_getElem? (i := 1243) rfl) rfl
set_option maxRecDepth 100000 in
theorem ml_X11_348 : Cond.methodLink RX11 348 yX2_stoneHelps ∈ lw_w := lw_m (List.mem_of_getElem? (i := 1252) rfl) rfl
set_option maxRecDepth 100000 in
theorem ml_X11_352 : Cond.methodLink RX11 352 yX11_mostWithOneMore ∈ lw_w := lw_m (List.mem_of_getElem? (i := 1256) rfl) rfl
set_option maxRecDepth 100000 in
theorem ml_X11_356 : Cond.methodLink RX11 356 yX2_restore ∈ lw_w := lw_m (List.mem_of_getElem? (i := 1260) rfl) rfl
set_option maxRecDepth 100000 in
theorem ml_X11_359 : Cond.methodLink RX11 359 yX11_mostMoved ∈ lw_w := lw_m (List.mem_of_getElem? (i := 1268) rfl) rfl
set_option maxRecDepth 100000 in
theorem ml_X11_365 : Cond.methodLink RX11 365 Lib.Math.min.name ∈ lw_w := lw_m (List.mem_of_getElem? (i := 1280) rfl) rfl
set_option maxRecDepth 100000 in
theorem ml_X11_370 : Cond.methodLink RX11 370 yX2_join ∈ lw_w := lw_m (List.mem_of_getElem? (i := 1281) rfl) rfl
set_option maxRecDepth 100000 in
theorem ml_X11_377 : Cond.methodLink RX11 377 yX7_placeBy ∈ lw_w := lw_m (List.mem_of_getElem? (i := 1292) rfl) rfl
set_option maxRecDepth 100000 in
theorem ml_X11_380 : Cond.methodLink RX11 380 yX11_mostWithPlank ∈ lw_w := lw_m (List.mem_of_getElem? (i := 1296) rfl) rfl
set_option maxRecDepth 100000 in
theorem ml_X11_383 : Cond.methodLink RX11 383 yX2_linkHelps ∈ lw_w := lw_m (List.mem_of_getElem? (i := 1300) rfl) rfl
set_option maxRecDepth 100000 in
theorem ml_X11_388 : Cond.methodLink RX11 388 yX1_chance ∈ lw_w := lw_m (List.mem_of_getElem? (i := 1321) rfl) rfl
set_option maxRecDepth 100000 in
theorem ml_X11_392 : Cond.methodLink RX11 392 yX11_treadOf ∈ lw_w := lw_m (List.mem_of_getElem? (i := 1338) rfl) rfl
set_option maxRecDepth 100000 in
theorem ml_X11_401 : Cond.methodLink RX11 401 yX11_priceOf ∈ lw_w := lw_m (List.mem_of_getElem? (i := 1351) rfl) rfl
set_option maxRecDepth 100000 in
theorem ml_X11_404 : Cond.methodLink RX11 404 yX11_mostAt ∈ lw_w := lw_m (List.mem_of_getElem? (i := 1363) rfl) rfl
set_option maxRecDepth 100000 in
theorem ml_X11_407 : Cond.methodLink RX11 407 yX11_wrongRows ∈ lw_w := lw_m (List.mem_of_getElem? (i := 1375) rfl) rfl
set_option maxRecDepth 100000 in
theorem ml_X11_410 : Cond.methodLink RX11 410 yX8_meets ∈ lw_w := lw_m (List.mem_of_getElem? (i := 1383) rfl) rfl
set_option maxRecDepth 100000 in
theorem ml_X11_414 : Cond.methodLink RX11 414 yX8_stones ∈ lw_w := lw_m (List.mem_of_getElem? (i := 1391) rfl) rfl
set_option maxRecDepth 100000 in
theorem ml_X11_416 : Cond.methodLink RX11 416 yX8_allBelow ∈ lw_w := lw_m (List.mem_of_getElem? (i := 1379) rfl) rfl
set_option maxRecDepth 100000 in
theorem ml_X11_419 : Cond.methodLink RX11 419 yX11_isSeed ∈ lw_w := lw_m (List.mem_of_getElem? (i := 1399) rfl) rfl
set_option maxRecDepth 100000 in
theorem ml_X11_422 : Cond.methodLink RX11 422 yX11_peopleOnDay ∈ lw_w := lw_m (List.mem_of_getElem? (i := 1403) rfl) rfl
set_option maxRecDepth 100000 in
theorem ml_X11_425 : Cond.methodLink RX11 425 yX9_drawn ∈ lw_w := lw_m (List.mem_of_getElem? (i := 1407) rfl) rfl
set_option maxRecDepth 100000 in
theorem ml_X11_428 : Cond.methodLink RX11 428 yX0_wadeOver ∈ lw_w := lw_m (List.mem_of_getElem? (i := 1417) rfl) rfl
set_option maxRecDepth 100000 in
theorem ml_X11_431 : Cond.methodLink RX11 431 yX9_stonesInDoubt ∈ lw_w := lw_m (List.mem_of_getElem? (i := 1433) rfl) rfl
set_option maxRecDepth 100000 in
theorem ml_X11_434 : Cond.methodLink RX11 434 yX11_rowsThere ∈ lw_w := lw_m (List.mem_of_getElem? (i := 1437) rfl) rfl
set_option maxRecDepth 100000 in
theorem ml_X11_437 : Cond.methodLink RX11 437 yX11_isImage ∈ lw_w := lw_m (List.mem_of_getElem? (i := 1445) rfl) rfl
set_option maxRecDepth 100000 in
theorem ml_X11_440 : Cond.methodLink RX11 440 yX8_clear ∈ lw_w := lw_m (List.mem_of_getElem? (i := 1456) rfl) rfl
set_option maxRecDepth 100000 in
theorem ml_X11_443 : Cond.methodLink RX11 443 yX8_put ∈ lw_w := lw_m (List.mem_of_getElem? (i := 1467) rfl) rfl
set_option maxRecDepth 100000 in
theorem ml_X11_449 : Cond.methodLink RX11 449 yX8_has ∈ lw_w := lw_m (List.mem_of_getElem? (i := 1475) rfl) rfl
set_option maxRecDepth 100000 in
theorem ml_X11_452 : Cond.methodLink RX11 452 arraycopyName ∈ lw_w := lw_m (List.mem_of_getElem? (i := 1479) rfl) rfl
set_option maxRecDepth 100000 in
theorem ml_X12_103 : Cond.methodLink RX12 103 yX12_in ∈ lw_w := lw_m (List.mem_of_getElem? (i := 1632) rfl) rfl
set_option maxRecDepth 100000 in
theorem ml_X12_107 : Cond.methodLink RX12 107 yX12_isRiver ∈ lw_w := lw_m (List.mem_of_getElem? (i := 1769) rfl) rfl
set_option maxRecDepth 100000 in
theorem ml_X12_111 : Cond.methodLink RX12 111 yX12_isStone ∈ lw_w := lw_m (List.mem_of_getElem? (i := 1739) rfl) rfl
set_option maxRecDepth 100000 in
theorem ml_X12_124 : Cond.methodLink RX12 124 yX12_see ∈ lw_w := lw_m (List.mem_of_getElem? (i := 1659) rfl) rfl
set_option maxRecDepth 100000 in
theorem ml_X12_146 : Cond.methodLink RX12 146 Lib.Math.min.name ∈ lw_w := lw_m (List.mem_of_getElem? (i := 1668) rfl) rfl
set_option maxRecDepth 100000 in
theorem ml_X12_155 : Cond.methodLink RX12 155 yX12_good ∈ lw_w := lw_m (List.mem_of_getElem? (i := 1669) rfl) rfl
set_option maxRecDepth 100000 in
theorem ml_X12_172 : Cond.methodLink RX12 172 yX12_advance ∈ lw_w := lw_m (List.mem_of_getElem? (i := 1655) rfl) rfl
set_option maxRecDepth 100000 in
theorem ml_X12_178 : Cond.methodLink RX12 178 yX12_errs ∈ lw_w := lw_m (List.mem_of_getElem? (i := 1692) rfl) rfl
set_option maxRecDepth 100000 in
theorem ml_X12_239 : Cond.methodLink RX12 239 yX12_ofStone ∈ lw_w := lw_m (List.mem_of_getElem? (i := 1744) rfl) rfl
set_option maxRecDepth 100000 in
theorem ml_X12_242 : Cond.methodLink RX12 242 yX12_bearsNow ∈ lw_w := lw_m (List.mem_of_getElem? (i := 1752) rfl) rfl
set_option maxRecDepth 100000 in
theorem ml_X12_245 : Cond.methodLink RX12 245 Lib.Math.max.name ∈ lw_w := lw_m (List.mem_of_getElem? (i := 1756) rfl) rfl
set_option maxRecDepth 100000 in
theorem ml_X12_250 : Cond.methodLink RX12 250 yX12_left ∈ lw_w := lw_m (List.mem_of_getElem? (i := 1748) rfl) rfl
set_option maxRecDepth 100000 in
theorem ml_X12_253 : Cond.methodLink RX12 253 yX12_isInDoubt ∈ lw_w := lw_m (List.mem_of_getElem? (i := 1757) rfl) rfl
set_option maxRecDepth 100000 in
theorem ml_X12_256 : Cond.methodLink RX12 256 yX12_acrossOf ∈ lw_w := lw_m (List.mem_of_getElem? (i := 1785) rfl) rfl
set_option maxRecDepth 100000 in
theorem ml_X12_259 : Cond.methodLink RX12 259 yX12_squares ∈ lw_w := lw_m (List.mem_of_getElem? (i := 1781) rfl) rfl
set_option maxRecDepth 100000 in
theorem ml_X12_264 : Cond.methodLink RX12 264 yX12_isPlace ∈ lw_w := lw_m (List.mem_of_getElem? (i := 1765) rfl) rfl
set_option maxRecDepth 100000 in
theorem ml_X12_267 : Cond.methodLink RX12 267 yX12_isStride ∈ lw_w := lw_m (List.mem_of_getElem? (i := 1773) rfl) rfl
set_option maxRecDepth 100000 in
theorem ml_X12_270 : Cond.methodLink RX12 270 yX12_isStep ∈ lw_w := lw_m (List.mem_of_getElem? (i := 1777) rfl) rfl
set_option maxRecDepth 100000 in
theorem ml_X12_274 : Cond.methodLink RX12 274 yX12_reachOf ∈ lw_w := lw_m (List.mem_of_getElem? (i := 1793) rfl) rfl
set_option maxRecDepth 100000 in
theorem ml_X12_279 : Cond.methodLink RX12 279 yX12_setStone ∈ lw_w := lw_m (List.mem_of_getElem? (i := 1814) rfl) rfl
set_option maxRecDepth 100000 in
theorem ml_X12_283 : Cond.methodLink RX12 283 yX12_borneAll ∈ lw_w := lw_m (List.mem_of_getElem? (i := 1806) rfl) rfl
set_option maxRecDepth 100000 in
theorem ml_X12_286 : Cond.methodLink RX12 286 yX12_freshens ∈ lw_w := lw_m (List.mem_of_getElem? (i := 1810) rfl) rfl
set_option maxRecDepth 100000 in
theorem ml_X12_289 : Cond.methodLink RX12 289 yX12_of ∈ lw_w := lw_m (List.mem_of_getElem? (i := 1836) rfl) rfl
set_option maxRecDepth 100000 in
theorem ml_X12_293 : Cond.methodLink RX12 293 yX12_isLess ∈ lw_w := lw_m (List.mem_of_getElem? (i := 1845) rfl) rfl
set_option maxRecDepth 100000 in
theorem ml_X12_300 : Cond.methodLink RX12 300 yX12_fillCosts ∈ lw_w := lw_m (List.mem_of_getElem? (i := 1832) rfl) rfl
set_option maxRecDepth 100000 in
theorem ml_X12_303 : Cond.methodLink RX12 303 yX12_fillLeft ∈ lw_w := lw_m (List.mem_of_getElem? (i := 1840) rfl) rfl
set_option maxRecDepth 100000 in
theorem ml_X12_310 : Cond.methodLink RX12 310 yX12_isAsked ∈ lw_w := lw_m (List.mem_of_getElem? (i := 1822) rfl) rfl
set_option maxRecDepth 100000 in
theorem ml_X12_313 : Cond.methodLink RX12 313 yX12_finds ∈ lw_w := lw_m (List.mem_of_getElem? (i := 1828) rfl) rfl
set_option maxRecDepth 100000 in
theorem ml_X12_316 : Cond.methodLink RX12 316 yX12_bears ∈ lw_w := lw_m (List.mem_of_getElem? (i := 1864) rfl) rfl
set_option maxRecDepth 100000 in
theorem ml_X12_319 : Cond.methodLink RX12 319 yX12_set ∈ lw_w := lw_m (List.mem_of_getElem? (i := 1868) rfl) rfl
set_option maxRecDepth 100000 in
theorem ml_X12_322 : Cond.methodLink RX12 322 yX12_isPerson ∈ lw_w := lw_m (List.mem_of_getElem? (i := 1856) rfl) rfl
set_option maxRecDepth 100000 in
theorem ml_X12_325 : Cond.methodLink RX12 325 yX12_steps ∈ lw_w := lw_m (List.mem_of_getElem? (i := 1860) rfl) rfl
set_option maxRecDepth 100000 in
theorem ml_X12_336 : Cond.methodLink RX12 336 yX12_isSlot ∈ lw_w := lw_m (List.mem_of_getElem? (i := 1876) rfl) rfl
set_option maxRecDepth 100000 in
theorem ml_X12_339 : Cond.methodLink RX12 339 yX12_thinks ∈ lw_w := lw_m (List.mem_of_getElem? (i := 1879) rfl) rfl
set_option maxRecDepth 100000 in
theorem ml_X12_342 : Cond.methodLink RX12 342 yX12_walks ∈ lw_w := lw_m (List.mem_of_getElem? (i := 1883) rfl) rfl
set_option maxRecDepth 100000 in
theorem ml_X12_345 : Cond.methodLink RX12 345 yX12_wakes ∈ lw_w := lw_m (List.mem_of_getElem? (i := 1889) rfl) rfl
set_option maxRecDepth 100000 in
theorem ml_X12_348 : Cond.methodLink RX12 348 yX12_second ∈ lw_w := lw_m (List.mem_of_getElem? (i := 1917) rfl) rfl
set_option maxRecDepth 100000 in
theorem ml_X12_351 : Cond.methodLink RX12 351 yX12_leads ∈ lw_w := lw_m (List.mem_of_getElem? (i := 1901) rfl) rfl
set_option maxRecDepth 100000 in
theorem ml_X12_354 : Cond.methodLink RX12 354 yX12_isAt ∈ lw_w := lw_m (List.mem_of_getElem? (i := 1913) rfl) rfl
set_option maxRecDepth 100000 in
theorem ml_X12_357 : Cond.methodLink RX12 357 yX12_strideOf ∈ lw_w := lw_m (List.mem_of_getElem? (i := 1925) rfl) rfl
set_option maxRecDepth 100000 in
theorem ml_X12_360 : Cond.methodLink RX12 360 yX12_sumOf ∈ lw_w := lw_m (List.mem_of_getElem? (i := 1929) rfl) rfl
set_option maxRecDepth 100000 in
theorem ml_X12_363 : Cond.methodLink RX12 363 yX12_puts ∈ lw_w := lw_m (List.mem_of_getElem? (i := 1933) rfl) rfl
set_option maxRecDepth 100000 in
theorem ml_X12_366 : Cond.methodLink RX12 366 yX12_isWay ∈ lw_w := lw_m (List.mem_of_getElem? (i := 1909) rfl) rfl
set_option maxRecDepth 100000 in
theorem ml_X12_369 : Cond.methodLink RX12 369 yX12_goes ∈ lw_w := lw_m (List.mem_of_getElem? (i := 1921) rfl) rfl
set_option maxRecDepth 100000 in
theorem ml_X12_384 : Cond.methodLink RX12 384 yX12_manyOf ∈ lw_w := lw_m (List.mem_of_getElem? (i := 1957) rfl) rfl
set_option maxRecDepth 100000 in
theorem ml_X12_387 : Cond.methodLink RX12 387 yX12_bitsOf ∈ lw_w := lw_m (List.mem_of_getElem? (i := 1961) rfl) rfl
set_option maxRecDepth 100000 in
theorem ml_X12_390 : Cond.methodLink RX12 390 yX12_clearsOver ∈ lw_w := lw_m (List.mem_of_getElem? (i := 1945) rfl) rfl
set_option maxRecDepth 100000 in
theorem ml_X12_393 : Cond.methodLink RX12 393 yX12_units ∈ lw_w := lw_m (List.mem_of_getElem? (i := 1949) rfl) rfl
set_option maxRecDepth 100000 in
theorem ml_X12_396 : Cond.methodLink RX12 396 yX12_goesOver ∈ lw_w := lw_m (List.mem_of_getElem? (i := 1953) rfl) rfl
set_option maxRecDepth 100000 in
theorem ml_X12_399 : Cond.methodLink RX12 399 yX12_allGoOver ∈ lw_w := lw_m (List.mem_of_getElem? (i := 1941) rfl) rfl
set_option maxRecDepth 100000 in
theorem ml_X12_402 : Cond.methodLink RX12 402 yX12_mustAndNot ∈ lw_w := lw_m (List.mem_of_getElem? (i := 1965) rfl) rfl
set_option maxRecDepth 100000 in
theorem ml_X12_408 : Cond.methodLink RX12 408 yX12_swaps ∈ lw_w := lw_m (List.mem_of_getElem? (i := 1990) rfl) rfl
set_option maxRecDepth 100000 in
theorem ml_X12_417 : Cond.methodLink RX12 417 yX12_nextOrder ∈ lw_w := lw_m (List.mem_of_getElem? (i := 1986) rfl) rfl
set_option maxRecDepth 100000 in
theorem ml_X12_422 : Cond.methodLink RX12 422 yX12_fillWaiting ∈ lw_w := lw_m (List.mem_of_getElem? (i := 1978) rfl) rfl
set_option maxRecDepth 100000 in
theorem ml_X12_425 : Cond.methodLink RX12 425 yX12_findsOrder ∈ lw_w := lw_m (List.mem_of_getElem? (i := 1982) rfl) rfl
set_option maxRecDepth 100000 in
theorem ml_X12_429 : Cond.methodLink RX12 429 yX12_isSomebodyHere ∈ lw_w := lw_m (List.mem_of_getElem? (i := 2007) rfl) rfl
set_option maxRecDepth 100000 in
theorem ml_X12_435 : Cond.methodLink RX12 435 yX12_addNode ∈ lw_w := lw_m (List.mem_of_getElem? (i := 2031) rfl) rfl
set_option maxRecDepth 100000 in
theorem ml_X12_438 : Cond.methodLink RX12 438 yX12_areNear ∈ lw_w := lw_m (List.mem_of_getElem? (i := 2039) rfl) rfl
set_option maxRecDepth 100000 in
theorem ml_X12_441 : Cond.methodLink RX12 441 yX12_fillRoom ∈ lw_w := lw_m (List.mem_of_getElem? (i := 2043) rfl) rfl
set_option maxRecDepth 100000 in
theorem ml_X12_444 : Cond.methodLink RX12 444 yX12_floods ∈ lw_w := lw_m (List.mem_of_getElem? (i := 2047) rfl) rfl
set_option maxRecDepth 100000 in
theorem ml_X12_447 : Cond.methodLink RX12 447 yX12_fillNodes ∈ lw_w := lw_m (List.mem_of_getElem? (i := 2027) rfl) rfl
set_option maxRecDepth 100000 in
theorem ml_X12_450 : Cond.methodLink RX12 450 yX12_flow ∈ lw_w := lw_m (List.mem_of_getElem? (i := 2035) rfl) rfl
set_option maxRecDepth 100000 in
theorem ml_X12_453 : Cond.methodLink RX12 453 yX12_isLoad ∈ lw_w := lw_m (List.mem_of_getElem? (i := 2019) rfl) rfl
set_option maxRecDepth 100000 in
theorem ml_X12_456 : Cond.methodLink RX12 456 yX12_mostOf ∈ lw_w := lw_m (List.mem_of_getElem? (i := 2023) rfl) rfl
set_option maxRecDepth 100000 in
theorem ml_X12_459 : Cond.methodLink RX12 459 yX12_isSpot ∈ lw_w := lw_m (List.mem_of_getElem? (i := 2067) rfl) rfl
set_option maxRecDepth 100000 in
theorem ml_X12_462 : Cond.methodLink RX12 462 yX12_stoneOn ∈ lw_w := lw_m (List.mem_of_getElem? (i := 2071) rfl) rfl
set_option maxRecDepth 100000 in
theorem ml_X12_465 : Cond.methodLink RX12 465 yX12_withMore ∈ lw_w := lw_m (List.mem_of_getElem? (i := 2075) rfl) rfl
set_option maxRecDepth 100000 in
theorem ml_X12_469 : Cond.methodLink RX12 469 yX12_movedOf ∈ lw_w := lw_m (List.mem_of_getElem? (i := 2087) rfl) rfl
set_option maxRecDepth 100000 in
theorem ml_X12_473 : Cond.methodLink RX12 473 yX12_nodeOf ∈ lw_w := lw_m (List.mem_of_getElem? (i := 2103) rfl) rfl
set_option maxRecDepth 100000 in
theorem ml_X12_476 : Cond.methodLink RX12 476 yX12_plankOf ∈ lw_w := lw_m (List.mem_of_getElem? (i := 2099) rfl) rfl
set_option maxRecDepth 100000 in
theorem ml_X12_483 : Cond.methodLink RX12 483 yX12_on ∈ lw_w := lw_m (List.mem_of_getElem? (i := 2123) rfl) rfl
set_option maxRecDepth 100000 in
theorem ml_X12_487 : Cond.methodLink RX12 487 Lib.MathLoose.max_long.x ∈ lw_w := lw_m (List.mem_of_getElem? (i := 2128) rfl) rfl
set_option maxRecDepth 100000 in
theorem ml_X12_490 : Cond.methodLink RX12 490 yX12_sureOf ∈ lw_w := lw_m (List.mem_of_getElem? (i := 2118) rfl) rfl
set_option maxRecDepth 100000 in
theorem ml_X12_496 : Cond.methodLink RX12 496 yX12_treadOf ∈ lw_w := lw_m (List.mem_of_getElem? (i := 2136) rfl) rfl
set_option maxRecDepth 100000 in
theorem ml_X12_500 : Cond.methodLink RX12 500 yX12_priceOf ∈ lw_w := lw_m (List.mem_of_getElem? (i := 2148) rfl) rfl
set_option maxRecDepth 100000 in
theorem ml_X12_503 : Cond.methodLink RX12 503 yX12_lateOf ∈ lw_w := lw_m (List.mem_of_getElem? (i := 2160) rfl) rfl
set_option maxRecDepth 100000 in
theorem ml_X12_508 : Cond.methodLink RX12 508 yX12_areStones ∈ lw_w := lw_m (List.mem_of_getElem? (i := 2177) rfl) rfl
set_option maxRecDepth 100000 in
theorem ml_X12_511 : Cond.methodLink RX12 511 yX12_asksTwo ∈ lw_w := lw_m (List.mem_of_getElem? (i := 2173) rfl) rfl
set_option maxRecDepth 100000 in
theorem ml_X12_514 : Cond.methodLink RX12 514 yX12_meet ∈ lw_w := lw_m (List.mem_of_getElem? (i := 2181) rfl) rfl
set_option maxRecDepth 100000 in
theorem ml_X12_517 : Cond.methodLink RX12 517 yX12_setOf ∈ lw_w := lw_m (List.mem_of_getElem? (i := 2189) rfl) rfl
set_option maxRecDepth 100000 in
theorem ml_X12_532 : Cond.methodLink RX12 532 yX12_draw ∈ lw_w := lw_m (List.mem_of_getElem? (i := 2205) rfl) rfl
set_option maxRecDepth 100000 in
theorem ml_X12_535 : Cond.methodLink RX12 535 yX12_ventures ∈ lw_w := lw_m (List.mem_of_getElem? (i := 2213) rfl) rfl
set_option maxRecDepth 100000 in
theorem ml_X12_540 : Cond.methodLink RX12 540 yX12_isSeed ∈ lw_w := lw_m (List.mem_of_getElem? (i := 2197) rfl) rfl
set_option maxRecDepth 100000 in
theorem ml_X12_543 : Cond.methodLink RX12 543 yX12_runOf ∈ lw_w := lw_m (List.mem_of_getElem? (i := 2201) rfl) rfl
set_option maxRecDepth 100000 in
theorem ml_X12_549 : Cond.methodLink RX12 549 yX12_at ∈ lw_w := lw_m (List.mem_of_getElem? (i := 2226) rfl) rfl
set_option maxRecDepth 100000 in
theorem ml_X12_551 : Cond.methodLink RX12 551 yX12_cut_ ∈ lw_w := lw_m (List.mem_of_getElem? (i := 2238) rfl) rfl
set_option maxRecDepth 100000 in
theorem fp_X1_41 : sm_FP RX1 41 1 2 0 .int := ⟨by decide, _, _, _, rfl, by decide, by decide +kernel, lw_m (List.mem_of_getElem? (i := 470) rfl) rfl, rfl, by decide +kernel⟩
set_option maxRecDepth 100000 in
theorem fp_X2_120 : sm_FP RX2 120 4 4 0 .int := ⟨by decide, _, _, _, rfl, by decide, by decide +kernel, lw_m (List.mem_of_getElem? (i := 499) rfl) rfl, rfl, by decide +kernel⟩
set_option maxRecDepth 100000 in
theorem fp_X2_123 : sm_FP RX2 123 4 3 0 .int := ⟨by decide, _, _, _, rfl, by decide, by decide +kernel, lw_m (List.mem_of_getElem? (i := 497) rfl) rfl, rfl, by decide +kernel⟩
set_option maxRecDepth 100000 in
theorem fp_X2_137 : sm_FP RX2 137 4 2 0 .int := ⟨by decide, _, _, _, rfl, by decide, by decide +kernel, lw_m (List.mem_of_getElem? (i := 495) rfl) rfl, rfl, by decide +kernel⟩
set_option maxRecDepth 100000 in
theorem fp_X2_140 : sm_FP RX2 140 2 6 0 .int := ⟨by decide, _, _, _, rfl, by decide, by decide +kernel, lw_m (List.mem_of_getElem? (i := 537) rfl) rfl, rfl, by decide +kernel⟩
set_option maxRecDepth 100000 in
theorem fp_X2_35 : sm_FP RX2 35 2 7 0 .int := ⟨by decide, _, _, _, rfl, by decide, by decide +kernel, lw_m (List.mem_of_getElem? (i := 538) rfl) rfl, rfl, by decide +kernel⟩
set_option maxRecDepth 100000 in
theorem fp_X2_47 : sm_FP RX2 47 4 0 0 .int := ⟨by decide, _, _, _, rfl, by decide, by decide +kernel, lw_m (List.mem_of_getElem? (i := 491) rfl) rfl, rfl, by decide +kernel⟩
set_option maxRecDepth 100000 in
theorem fp_X2_52 : sm_FP RX2 52 4 1 0 .int := ⟨by decide, _, _, _, rfl, by decide, by decide +kernel, lw_m (List.mem_of_getElem? (i := 493) rfl) rfl, rfl, by decide +kernel⟩
set_option maxRecDepth 100000 in
theorem fp_X4_27 : sm_FP RX4 27 4 0 0 .int := ⟨by decide, _, _, _, rfl, by decide, by decide +kernel, lw_m (List.mem_of_getElem? (i := 490) rfl) rfl, rfl, by decide +kernel⟩
set_option maxRecDepth 100000 in
theorem fp_X4_31 : sm_FP RX4 31 4 1 0 .int := ⟨by decide, _, _, _, rfl, by decide, by decide +kernel, lw_m (List.mem_of_getElem? (i := 492) rfl) rfl, rfl, by decide +kernel⟩
set_option maxRecDepth 100000 in
theorem fp_X4_34 : sm_FP RX4 34 4 2 0 .int := ⟨by decide, _, _, _, rfl, by decide, by decide +kernel, lw_m (List.mem_of_getElem? (i := 494) rfl) rfl, rfl, by decide +kernel⟩
set_option maxRecDepth 100000 in
theorem fp_X4_37 : sm_FP RX4 37 4 3 0 .int := ⟨by decide, _, _, _, rfl, by decide, by decide +kernel, lw_m (List.mem_of_getElem? (i := 496) rfl) rfl, rfl, by decide +kernel⟩
set_option maxRecDepth 100000 in
theorem fp_X4_40 : sm_FP RX4 40 4 4 0 .int := ⟨by decide, _, _, _, rfl, by decide, by decide +kernel, lw_m (List.mem_of_getElem? (i := 498) rfl) rfl, rfl, by decide +kernel⟩
set_option maxRecDepth 100000 in
theorem fp_X5_24 : sm_FP RX5 24 5 8 0 .int := ⟨by decide, _, _, _, rfl, by decide, by decide +kernel, lw_m (List.mem_of_getElem? (i := 442) rfl) rfl, rfl, by decide +kernel⟩
set_option maxRecDepth 100000 in
theorem fp_X5_58 : sm_FP RX5 58 5 7 0 .int := ⟨by decide, _, _, _, rfl, by decide, by decide +kernel, lw_m (List.mem_of_getElem? (i := 441) rfl) rfl, rfl, by decide +kernel⟩
set_option maxRecDepth 100000 in
theorem fp_X5_61 : sm_FP RX5 61 5 0 0 .int := ⟨by decide, _, _, _, rfl, by decide, by decide +kernel, lw_m (List.mem_of_getElem? (i := 432) rfl) rfl, rfl, by decide +kernel⟩
set_option maxRecDepth 100000 in
theorem fp_X5_64 : sm_FP RX5 64 5 1 0 .int := ⟨by decide, _, _, _, rfl, by decide, by decide +kernel, lw_m (List.mem_of_getElem? (i := 434) rfl) rfl, rfl, by decide +kernel⟩
set_option maxRecDepth 100000 in
theorem fp_X6_113 : sm_FP RX6 113 6 8 0 .int := ⟨by decide, _, _, _, rfl, by decide, by decide +kernel, lw_m (List.mem_of_getElem? (i := 299) rfl) rfl, rfl, by decide +kernel⟩
set_option maxRecDepth 100000 in
theorem fp_X6_173 : sm_FP RX6 173 6 5 0 .int := ⟨by decide, _, _, _, rfl, by decide, by decide +kernel, lw_m (List.mem_of_getElem? (i := 296) rfl) rfl, rfl, by decide +kernel⟩
set_option maxRecDepth 100000 in
theorem fp_X6_35 : sm_FP RX6 35 6 1 0 .int := ⟨by decide, _, _, _, rfl, by decide, by decide +kernel, lw_m (List.mem_of_getElem? (i := 290) rfl) rfl, rfl, by decide +kernel⟩
set_option maxRecDepth 100000 in
theorem fp_X6_38 : sm_FP RX6 38 6 2 0 .int := ⟨by decide, _, _, _, rfl, by decide, by decide +kernel, lw_m (List.mem_of_getElem? (i := 292) rfl) rfl, rfl, by decide +kernel⟩
set_option maxRecDepth 100000 in
theorem fp_X6_41 : sm_FP RX6 41 6 6 0 .int := ⟨by decide, _, _, _, rfl, by decide, by decide +kernel, lw_m (List.mem_of_getElem? (i := 297) rfl) rfl, rfl, by decide +kernel⟩
set_option maxRecDepth 100000 in
theorem fp_X6_54 : sm_FP RX6 54 6 7 0 .int := ⟨by decide, _, _, _, rfl, by decide, by decide +kernel, lw_m (List.mem_of_getElem? (i := 298) rfl) rfl, rfl, by decide +kernel⟩
set_option maxRecDepth 100000 in
theorem fp_X7_39 : sm_FP RX7 39 7 0 0 .int := ⟨by decide, _, _, _, rfl, by decide, by decide +kernel, lw_m (List.mem_of_getElem? (i := 181) rfl) rfl, rfl, by decide +kernel⟩
set_option maxRecDepth 100000 in
theorem fp_X7_43 : sm_FP RX7 43 7 1 0 .int := ⟨by decide, _, _, _, rfl, by decide, by decide +kernel, lw_m (List.mem_of_getElem? (i := 185) rfl) rfl, rfl, by decide +kernel⟩
set_option maxRecDepth 100000 in
theorem fp_X7_46 : sm_FP RX7 46 7 2 0 .int := ⟨by decide, _, _, _, rfl, by decide, by decide +kernel, lw_m (List.mem_of_getElem? (i := 192) rfl) rfl, rfl, by decide +kernel⟩
set_option maxRecDepth 100000 in
theorem fp_X7_49 : sm_FP RX7 49 7 3 0 .int := ⟨by decide, _, _, _, rfl, by decide, by decide +kernel, lw_m (List.mem_of_getElem? (i := 195) rfl) rfl, rfl, by decide +kernel⟩
set_option maxRecDepth 100000 in
theorem fp_X7_52 : sm_FP RX7 52 7 4 0 .int := ⟨by decide, _, _, _, rfl, by decide, by decide +kernel, lw_m (List.mem_of_getElem? (i := 198) rfl) rfl, rfl, by decide +kernel⟩
set_option maxRecDepth 100000 in
theorem fp_X7_55 : sm_FP RX7 55 7 5 0 .int := ⟨by decide, _, _, _, rfl, by decide, by decide +kernel, lw_m (List.mem_of_getElem? (i := 206) rfl) rfl, rfl, by decide +kernel⟩
set_option maxRecDepth 100000 in
theorem fp_X7_58 : sm_FP RX7 58 7 6 0 .int := ⟨by decide, _, _, _, rfl, by decide, by decide +kernel, lw_m (List.mem_of_getElem? (i := 213) rfl) rfl, rfl, by decide +kernel⟩
set_option maxRecDepth 100000 in
theorem fp_X7_61 : sm_FP RX7 61 7 7 0 .int := ⟨by decide, _, _, _, rfl, by decide, by decide +kernel, lw_m (List.mem_of_getElem? (i := 215) rfl) rfl, rfl, by decide +kernel⟩
set_option maxRecDepth 100000 in
theorem fp_X8_15 : sm_FP RX8 15 8 0 4 .boolean := ⟨by decide, _, _, _, rfl, by decide, by decide +kernel, lw_m (List.mem_of_getElem? (i := 564) rfl) rfl, rfl, by decide +kernel⟩
set_option maxRecDepth 100000 in
theorem fp_X8_19 : sm_FP RX8 19 8 1 0 .int := ⟨by decide, _, _, _, rfl, by decide, by decide +kernel, lw_m (List.mem_of_getElem? (i := 566) rfl) rfl, rfl, by decide +kernel⟩
set_option maxRecDepth 100000 in
theorem fp_X8_23 : sm_FP RX8 23 8 2 0 .int := ⟨by decide, _, _, _, rfl, by decide, by decide +kernel, lw_m (List.mem_of_getElem? (i := 568) rfl) rfl, rfl, by decide +kernel⟩
set_option maxRecDepth 100000 in
theorem fp_X9_31 : sm_FP RX9 31 9 1 0 .int := ⟨by decide, _, _, _, rfl, by decide, by decide +kernel, lw_m (List.mem_of_getElem? (i := 341) rfl) rfl, rfl, by decide +kernel⟩
set_option maxRecDepth 100000 in
theorem fp_X10_28 : sm_FP RX10 28 10 1 0 .int := ⟨by decide, _, _, _, rfl, by decide, by decide +kernel, lw_m (List.mem_of_getElem? (i := 394) rfl) rfl, rfl, by decide +kernel⟩
set_option maxRecDepth 100000 in
theorem fp_X11_110 : sm_FP RX11 110 11 1 0 .int := ⟨by decide, _, _, _, rfl, by decide, by decide +kernel, lw_m (List.mem_of_getElem? (i := 584) rfl) rfl, rfl, by decide +kernel⟩
set_option maxRecDepth 100000 in
theorem fp_X11_204 : sm_FP RX11 204 9 1 0 .int := ⟨by decide, _, _, _, rfl, by decide, by decide +kernel, lw_m (List.mem_of_getElem? (i := 342) rfl) rfl, rfl, by decide +kernel⟩
set_option maxRecDepth 100000 in
theorem fp_X12_115 : sm_FP RX12 115 12 5 0 .int := ⟨by decide, _, _, _, rfl, by decide, by decide +kernel, lw_m (List.mem_of_getElem? (i := 1490) rfl) rfl, rfl, by decide +kernel⟩
set_option maxRecDepth 100000 in
theorem fp_X12_121 : sm_FP RX12 121 12 8 0 .int := ⟨by decide, _, _, _, rfl, by decide, by decide +kernel, lw_m (List.mem_of_getElem? (i := 1493) rfl) rfl, rfl, by decide +kernel⟩
set_option maxRecDepth 100000 in
theorem fp_X12_128 : sm_FP RX12 128 12 9 0 .int := ⟨by decide, _, _, _, rfl, by decide, by decide +kernel, lw_m (List.mem_of_getElem? (i := 1494) rfl) rfl, rfl, by decide +kernel⟩
set_option maxRecDepth 100000 in
theorem fp_X12_131 : sm_FP RX12 131 12 10 0 .int := ⟨by decide, _, _, _, rfl, by decide, by decide +kernel, lw_m (List.mem_of_getElem? (i := 1495) rfl) rfl, rfl, by decide +kernel⟩
set_option maxRecDepth 100000 in
theorem fp_X12_142 : sm_FP RX12 142 12 11 0 .int := ⟨by decide, _, _, _, rfl, by decide, by decide +kernel, lw_m (List.mem_of_getElem? (i := 1496) rfl) rfl, rfl, by decide +kernel⟩
set_option maxRecDepth 100000 in
theorem fp_X12_152 : sm_FP RX12 152 12 12 0 .int := ⟨by decide, _, _, _, rfl, by decide, by decide +kernel, lw_m (List.mem_of_getElem? (i := 1497) rfl) rfl, rfl, by decide +kernel⟩
set_option maxRecDepth 100000 in
theorem fp_X12_27 : sm_FP RX12 27 12 13 0 .int := ⟨by decide, _, _, _, rfl, by decide, by decide +kernel, lw_m (List.mem_of_getElem? (i := 1498) rfl) rfl, rfl, by decide +kernel⟩
set_option maxRecDepth 100000 in
theorem fp_X12_297 : sm_FP RX12 297 12 19 0 .int := ⟨by decide, _, _, _, rfl, by decide, by decide +kernel, lw_m (List.mem_of_getElem? (i := 1504) rfl) rfl, rfl, by decide +kernel⟩
set_option maxRecDepth 100000 in
theorem fp_X12_329 : sm_FP RX12 329 12 21 0 .int := ⟨by decide, _, _, _, rfl, by decide, by decide +kernel, lw_m (List.mem_of_getElem? (i := 1506) rfl) rfl, rfl, by decide +kernel⟩
set_option maxRecDepth 100000 in
theorem fp_X12_372 : sm_FP RX12 372 12 22 0 .int := ⟨by decide, _, _, _, rfl, by decide, by decide +kernel, lw_m (List.mem_of_getElem? (i := 1507) rfl) rfl, rfl, by decide +kernel⟩
set_option maxRecDepth 100000 in
theorem fp_X12_375 : sm_FP RX12 375 12 23 0 .int := ⟨by decide, _, _, _, rfl, by decide, by decide +kernel, lw_m (List.mem_of_getElem? (i := 1508) rfl) rfl, rfl, by decide +kernel⟩
set_option maxRecDepth 100000 in
theorem fp_X12_378 : sm_FP RX12 378 12 24 0 .int := ⟨by decide, _, _, _, rfl, by decide, by decide +kernel, lw_m (List.mem_of_getElem? (i := 1509) rfl) rfl, rfl, by decide +kernel⟩
set_option maxRecDepth 100000 in
theorem fp_X12_381 : sm_FP RX12 381 12 25 0 .int := ⟨by decide, _, _, _, rfl, by decide, by decide +kernel, lw_m (List.mem_of_getElem? (i := 1510) rfl) rfl, rfl, by decide +kernel⟩
set_option maxRecDepth 100000 in
theorem fp_X12_405 : sm_FP RX12 405 12 27 0 .int := ⟨by decide, _, _, _, rfl, by decide, by decide +kernel, lw_m (List.mem_of_getElem? (i := 1512) rfl) rfl, rfl, by decide +kernel⟩
set_option maxRecDepth 100000 in
theorem fp_X12_411 : sm_FP RX12 411 12 31 0 .int := ⟨by decide, _, _, _, rfl, by decide, by decide +kernel, lw_m (List.mem_of_getElem? (i := 1516) rfl) rfl, rfl, by decide +kernel⟩
set_option maxRecDepth 100000 in
theorem fp_X12_414 : sm_FP RX12 414 12 30 0 .int := ⟨by decide, _, _, _, rfl, by decide, by decide +kernel, lw_m (List.mem_of_getElem? (i := 1515) rfl) rfl, rfl, by decide +kernel⟩
set_option maxRecDepth 100000 in
theorem fp_X12_432 : sm_FP RX12 432 12 35 0 .int := ⟨by decide, _, _, _, rfl, by decide, by decide +kernel, lw_m (List.mem_of_getElem? (i := 1520) rfl) rfl, rfl, by decide +kernel⟩
set_option maxRecDepth 100000 in
theorem fp_X12_522 : sm_FP RX12 522 12 42 1 .long := ⟨by decide, _, _, _, rfl, by decide, by decide +kernel, lw_m (List.mem_of_getElem? (i := 1527) rfl) rfl, rfl, by decide +kernel⟩
set_option maxRecDepth 100000 in
theorem fp_X12_76 : sm_FP RX12 76 12 39 0 .int := ⟨by decide, _, _, _, rfl, by decide, by decide +kernel, lw_m (List.mem_of_getElem? (i := 1524) rfl) rfl, rfl, by decide +kernel⟩
set_option maxRecDepth 100000 in
theorem fp_X12_79 : sm_FP RX12 79 12 40 0 .int := ⟨by decide, _, _, _, rfl, by decide, by decide +kernel, lw_m (List.mem_of_getElem? (i := 1525) rfl) rfl, rfl, by decide +kernel⟩
theorem sw12_out {x : Int32} (h0 : ¬ x = (0 : Int32)) (h1 : ¬ x = (1 : Int32)) (h2 : ¬ x = (2 : Int32)) (h3 : ¬ x = (3 : Int32)) (h4 : ¬ x = (4 : Int32)) (h5 : ¬ x = (5 : Int32)) (h6 : ¬ x = (6 : Int32)) (h7 : ¬ x = (7 : Int32)) (h8 : ¬ x = (8 : Int32)) (h9 : ¬ x = (9 : Int32)) (h10 : ¬ x = (10 : Int32)) (h11 : ¬ x = (11 : Int32)) : x.toInt < 0 ∨ 11 < x.toInt := by
  have e : ∀ k : Int32, ¬ x = k → ¬ x.toInt = k.toInt := fun k h z => h (Int32.toInt_inj.mp z)
  have g0 := e _ h0
  rw [show (0 : Int32).toInt = (0 : Int) from by decide] at g0
  have g1 := e _ h1
  rw [show (1 : Int32).toInt = (1 : Int) from by decide] at g1
  have g2 := e _ h2
  rw [show (2 : Int32).toInt = (2 : Int) from by decide] at g2
  have g3 := e _ h3
  rw [show (3 : Int32).toInt = (3 : Int) from by decide] at g3
  have g4 := e _ h4
  rw [show (4 : Int32).toInt = (4 : Int) from by decide] at g4
  have g5 := e _ h5
  rw [show (5 : Int32).toInt = (5 : Int) from by decide] at g5
  have g6 := e _ h6
  rw [show (6 : Int32).toInt = (6 : Int) from by decide] at g6
  have g7 := e _ h7
  rw [show (7 : Int32).toInt = (7 : Int) from by decide] at g7
  have g8 := e _ h8
  rw [show (8 : Int32).toInt = (8 : Int) from by decide] at g8
  have g9 := e _ h9
  rw [show (9 : Int32).toInt = (9 : Int) from by decide] at g9
  have g10 := e _ h10
  rw [show (10 : Int32).toInt = (10 : Int) from by decide] at g10
  have g11 := e _ h11
  rw [show (11 : Int32).toInt = (11 : Int) from by decide] at g11
  omega
theorem sw3_out {x : Int32} (h0 : ¬ x = (0 : Int32)) (h1 : ¬ x = (1 : Int32)) (h2 : ¬ x = (2 : Int32)) : x.toInt < 0 ∨ 2 < x.toInt := by
  have e : ∀ k : Int32, ¬ x = k → ¬ x.toInt = k.toInt := fun k h z => h (Int32.toInt_inj.mp z)
  have g0 := e _ h0
  rw [show (0 : Int32).toInt = (0 : Int) from by decide] at g0
  have g1 := e _ h1
  rw [show (1 : Int32).toInt = (1 : Int) from by decide] at g1
  have g2 := e _ h2
  rw [show (2 : Int32).toInt = (2 : Int) from by decide] at g2
  omega
theorem sw5_out {x : Int32} (h0 : ¬ x = (0 : Int32)) (h1 : ¬ x = (1 : Int32)) (h2 : ¬ x = (2 : Int32)) (h3 : ¬ x = (3 : Int32)) (h4 : ¬ x = (4 : Int32)) : x.toInt < 0 ∨ 4 < x.toInt := by
  have e : ∀ k : Int32, ¬ x = k → ¬ x.toInt = k.toInt := fun k h z => h (Int32.toInt_inj.mp z)
  have g0 := e _ h0
  rw [show (0 : Int32).toInt = (0 : Int) from by decide] at g0
  have g1 := e _ h1
  rw [show (1 : Int32).toInt = (1 : Int) from by decide] at g1
  have g2 := e _ h2
  rw [show (2 : Int32).toInt = (2 : Int) from by decide] at g2
  have g3 := e _ h3
  rw [show (3 : Int32).toInt = (3 : Int) from by decide] at g3
  have g4 := e _ h4
  rw [show (4 : Int32).toInt = (4 : Int) from by decide] at g4
  omega
