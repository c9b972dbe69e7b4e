abbrev cX0_init : ByteArray := prog_2_method_1_code
def yX0_init : MethodName := ⟨RX0, "<init>", "(LBearsTwo$Ways;)V"⟩
abbrev cX0_send : ByteArray := prog_2_method_2_code
def yX0_send : MethodName := ⟨RX0, "send", "(LBearsTwo$Scene;II)I"⟩
abbrev cX0_sendOver : ByteArray := prog_2_method_3_code
def yX0_sendOver : MethodName := ⟨RX0, "sendOver", "(LBearsTwo$Scene;I)I"⟩
abbrev cX0_sendHome : ByteArray := prog_2_method_4_code
def yX0_sendHome : MethodName := ⟨RX0, "sendHome", "(LBearsTwo$Scene;I)I"⟩
abbrev cX0_wadeOver : ByteArray := prog_2_method_5_code
def yX0_wadeOver : MethodName := ⟨RX0, "wadeOver", "(LBearsTwo$Scene;II)I"⟩
abbrev cX0_wade : ByteArray := prog_2_method_6_code
def yX0_wade : MethodName := ⟨RX0, "wade", "(LBearsTwo$Scene;III)Z"⟩
abbrev cX0_couldGo : ByteArray := prog_2_method_7_code
def yX0_couldGo : MethodName := ⟨RX0, "couldGo", "(LBearsTwo$Scene;I)Z"⟩
abbrev cX1_init : ByteArray := prog_3_method_1_code
def yX1_init : MethodName := ⟨RX1, "<init>", "(LBearsTwo$Links;)V"⟩
abbrev cX1_chance : ByteArray := prog_3_method_2_code
def yX1_chance : MethodName := ⟨RX1, "chance", "(LBearsTwo$Scene;II)J"⟩
abbrev cX1_gather : ByteArray := prog_3_method_3_code
def yX1_gather : MethodName := ⟨RX1, "gather", "(LBearsTwo$Scene;II)V"⟩
abbrev cX2_init : ByteArray := prog_4_method_1_code
def yX2_init : MethodName := ⟨RX2, "<init>", "(LBearsTwo$Links;)V"⟩
abbrev cX2_lay : ByteArray := prog_4_method_2_code
def yX2_lay : MethodName := ⟨RX2, "lay", "(LBearsTwo$Scene;II)V"⟩
abbrev cX2_save : ByteArray := prog_4_method_3_code
def yX2_save : MethodName := ⟨RX2, "save", "()V"⟩
abbrev cX2_restore : ByteArray := prog_4_method_4_code
def yX2_restore : MethodName := ⟨RX2, "restore", "()V"⟩
abbrev cX2_lift : ByteArray := prog_4_method_5_code
def yX2_lift : MethodName := ⟨RX2, "lift", "(I)V"⟩
abbrev cX2_put : ByteArray := prog_4_method_6_code
def yX2_put : MethodName := ⟨RX2, "put", "(LBearsTwo$River;IIII)V"⟩
abbrev cX2_around : ByteArray := prog_4_method_7_code
def yX2_around : MethodName := ⟨RX2, "around", "(LBearsTwo$River;II)I"⟩
abbrev cX2_join : ByteArray := prog_4_method_8_code
def yX2_join : MethodName := ⟨RX2, "join", "(II)V"⟩
abbrev cX2_linkHelps : ByteArray := prog_4_method_9_code
def yX2_linkHelps : MethodName := ⟨RX2, "linkHelps", "(II)Z"⟩
abbrev cX2_stoneHelps : ByteArray := prog_4_method_10_code
def yX2_stoneHelps : MethodName := ⟨RX2, "stoneHelps", "(LBearsTwo$River;II)Z"⟩
abbrev cX2_fill : ByteArray := prog_4_method_11_code
def yX2_fill : MethodName := ⟨RX2, "fill", "()I"⟩
abbrev cX2_barring : ByteArray := prog_4_method_12_code
def yX2_barring : MethodName := ⟨RX2, "barring", "()I"⟩
abbrev cX2_search : ByteArray := prog_4_method_13_code
def yX2_search : MethodName := ⟨RX2, "search", "()I"⟩
abbrev cX2_enter : ByteArray := prog_4_method_14_code
def yX2_enter : MethodName := ⟨RX2, "enter", "(II)V"⟩
abbrev cX2_leave : ByteArray := prog_4_method_15_code
def yX2_leave : MethodName := ⟨RX2, "leave", "(II)V"⟩
abbrev cX2_narrowest : ByteArray := prog_4_method_16_code
def yX2_narrowest : MethodName := ⟨RX2, "narrowest", "(I)I"⟩
abbrev cX2_push : ByteArray := prog_4_method_17_code
def yX2_push : MethodName := ⟨RX2, "push", "(II)V"⟩
abbrev cX3_init : ByteArray := prog_5_method_1_code
def yX3_init : MethodName := ⟨RX3, "<init>", "()V"⟩
abbrev cX3_lay : ByteArray := prog_5_method_2_code
def yX3_lay : MethodName := ⟨RX3, "lay", "(LBearsTwo$River;)V"⟩
abbrev cX3_link : ByteArray := prog_5_method_3_code
def yX3_link : MethodName := ⟨RX3, "link", "(III)V"⟩
abbrev cX3_flood : ByteArray := prog_5_method_4_code
def yX3_flood : MethodName := ⟨RX3, "flood", "(II)I"⟩
abbrev cX3_crosses : ByteArray := prog_5_method_5_code
def yX3_crosses : MethodName := ⟨RX3, "crosses", "(II)Z"⟩
abbrev cX4_init : ByteArray := prog_6_method_1_code
def yX4_init : MethodName := ⟨RX4, "<init>", "()V"⟩
abbrev cX4_takeFrom : ByteArray := prog_6_method_2_code
def yX4_takeFrom : MethodName := ⟨RX4, "takeFrom", "(LBearsTwo$Net;)V"⟩
abbrev cX4_empty : ByteArray := prog_6_method_3_code
def yX4_empty : MethodName := ⟨RX4, "empty", "()V"⟩
abbrev cX4_canLeave : ByteArray := prog_6_method_4_code
def yX4_canLeave : MethodName := ⟨RX4, "canLeave", "(I)Z"⟩
abbrev cX4_canEnter : ByteArray := prog_6_method_5_code
def yX4_canEnter : MethodName := ⟨RX4, "canEnter", "(I)Z"⟩
abbrev cX4_pass : ByteArray := prog_6_method_6_code
def yX4_pass : MethodName := ⟨RX4, "pass", "(III)V"⟩
abbrev cX5_init : ByteArray := prog_7_method_1_code
def yX5_init : MethodName := ⟨RX5, "<init>", "(LBearsTwo$Crossing;LBearsTwo$River;)V"⟩
abbrev cX5_forget : ByteArray := prog_7_method_2_code
def yX5_forget : MethodName := ⟨RX5, "forget", "()V"⟩
abbrev cX5_find : ByteArray := prog_7_method_3_code
def yX5_find : MethodName := ⟨RX5, "find", "(LBearsTwo$Scene;I)Z"⟩
abbrev cX5_unitAt : ByteArray := prog_7_method_4_code
def yX5_unitAt : MethodName := ⟨RX5, "unitAt", "(I)I"⟩
abbrev cX5_extend : ByteArray := prog_7_method_5_code
def yX5_extend : MethodName := ⟨RX5, "extend", "(IIIII)V"⟩
abbrev cX5_isBetter : ByteArray := prog_7_method_6_code
def yX5_isBetter : MethodName := ⟨RX5, "isBetter", "(II)Z"⟩
abbrev cX5_couldBeBetter : ByteArray := prog_7_method_7_code
def yX5_couldBeBetter : MethodName := ⟨RX5, "couldBeBetter", "(LBearsTwo$Scene;III)Z"⟩
abbrev cX5_hasTwin : ByteArray := prog_7_method_8_code
def yX5_hasTwin : MethodName := ⟨RX5, "hasTwin", "(II)Z"⟩
abbrev cX6_init : ByteArray := prog_8_method_1_code
def yX6_init : MethodName := ⟨RX6, "<init>", "()V"⟩
abbrev cX6_readAll : ByteArray := prog_8_method_2_code
def yX6_readAll : MethodName := ⟨RX6, "readAll", "([BI)V"⟩
abbrev cX6_readLine : ByteArray := prog_8_method_3_code
def yX6_readLine : MethodName := ⟨RX6, "readLine", "()V"⟩
abbrev cX6_readWater : ByteArray := prog_8_method_4_code
def yX6_readWater : MethodName := ⟨RX6, "readWater", "()V"⟩
abbrev cX6_readStone : ByteArray := prog_8_method_5_code
def yX6_readStone : MethodName := ⟨RX6, "readStone", "()V"⟩
abbrev cX6_readPerson : ByteArray := prog_8_method_6_code
def yX6_readPerson : MethodName := ⟨RX6, "readPerson", "()V"⟩
abbrev cX6_readHand : ByteArray := prog_8_method_7_code
def yX6_readHand : MethodName := ⟨RX6, "readHand", "(I)V"⟩
abbrev cX6_readPlank : ByteArray := prog_8_method_8_code
def yX6_readPlank : MethodName := ⟨RX6, "readPlank", "()V"⟩
abbrev cX6_readPair : ByteArray := prog_8_method_9_code
def yX6_readPair : MethodName := ⟨RX6, "readPair", "(Ljava/lang/String;II)I"⟩
abbrev cX6_readFlag : ByteArray := prog_8_method_10_code
def yX6_readFlag : MethodName := ⟨RX6, "readFlag", "(Ljava/lang/String;)Z"⟩
abbrev cX6_readNumber : ByteArray := prog_8_method_11_code
def yX6_readNumber : MethodName := ⟨RX6, "readNumber", "(II)I"⟩
abbrev cX6_refuse : ByteArray := prog_8_method_12_code
def yX6_refuse : MethodName := ⟨RX6, "refuse", "(I)V"⟩
abbrev cX6_isWord : ByteArray := prog_8_method_13_code
def yX6_isWord : MethodName := ⟨RX6, "isWord", "(Ljava/lang/String;)Z"⟩
abbrev cX6_advance : ByteArray := prog_8_method_14_code
def yX6_advance : MethodName := ⟨RX6, "advance", "()V"⟩
abbrev cX6_isLetter : ByteArray := prog_8_method_15_code
def yX6_isLetter : MethodName := ⟨RX6, "isLetter", "(B)Z"⟩
abbrev cX6_isDigit : ByteArray := prog_8_method_16_code
def yX6_isDigit : MethodName := ⟨RX6, "isDigit", "(B)Z"⟩
abbrev cX7_init : ByteArray := prog_9_method_1_code
def yX7_init : MethodName := ⟨RX7, "<init>", "()V"⟩
abbrev cX7_clear : ByteArray := prog_9_method_2_code
def yX7_clear : MethodName := ⟨RX7, "clear", "()V"⟩
abbrev cX7_takeFrom : ByteArray := prog_9_method_3_code
def yX7_takeFrom : MethodName := ⟨RX7, "takeFrom", "(LBearsTwo$River;)V"⟩
abbrev cX7_isPlace : ByteArray := prog_9_method_4_code
def yX7_isPlace : MethodName := ⟨RX7, "isPlace", "(I)Z"⟩
abbrev cX7_placeBy : ByteArray := prog_9_method_5_code
def yX7_placeBy : MethodName := ⟨RX7, "placeBy", "(I)I"⟩
abbrev cX7_isInWater : ByteArray := prog_9_method_6_code
def yX7_isInWater : MethodName := ⟨RX7, "isInWater", "(II)Z"⟩
abbrev cX7_stoneAt : ByteArray := prog_9_method_7_code
def yX7_stoneAt : MethodName := ⟨RX7, "stoneAt", "(II)I"⟩
abbrev cX7_across : ByteArray := prog_9_method_8_code
def yX7_across : MethodName := ⟨RX7, "across", "(I)I"⟩
abbrev cX7_square : ByteArray := prog_9_method_9_code
def yX7_square : MethodName := ⟨RX7, "square", "(II)I"⟩
abbrev cX7_joins : ByteArray := prog_9_method_10_code
def yX7_joins : MethodName := ⟨RX7, "joins", "(III)Z"⟩
abbrev cX7_isUnit : ByteArray := prog_9_method_11_code
def yX7_isUnit : MethodName := ⟨RX7, "isUnit", "(I)Z"⟩
abbrev cX7_unitOf : ByteArray := prog_9_method_12_code
def yX7_unitOf : MethodName := ⟨RX7, "unitOf", "(I)I"⟩
abbrev cX7_peopleOf : ByteArray := prog_9_method_13_code
def yX7_peopleOf : MethodName := ⟨RX7, "peopleOf", "(I)I"⟩
abbrev cX7_strideOf : ByteArray := prog_9_method_14_code
def yX7_strideOf : MethodName := ⟨RX7, "strideOf", "(I)I"⟩
abbrev cX7_weightOf : ByteArray := prog_9_method_15_code
def yX7_weightOf : MethodName := ⟨RX7, "weightOf", "(I)I"⟩
abbrev cX7_mustGo : ByteArray := prog_9_method_16_code
def yX7_mustGo : MethodName := ⟨RX7, "mustGo", "(I)Z"⟩
abbrev cX7_comesBack : ByteArray := prog_9_method_17_code
def yX7_comesBack : MethodName := ⟨RX7, "comesBack", "(I)Z"⟩
abbrev cX7_worthOf : ByteArray := prog_9_method_18_code
def yX7_worthOf : MethodName := ⟨RX7, "worthOf", "(I)I"⟩
abbrev cX8_init : ByteArray := prog_10_method_1_code
def yX8_init : MethodName := ⟨RX8, "<init>", "()V"⟩
abbrev cX8_clear : ByteArray := prog_10_method_2_code
def yX8_clear : MethodName := ⟨RX8, "clear", "(II)V"⟩
abbrev cX8_put : ByteArray := prog_10_method_3_code
def yX8_put : MethodName := ⟨RX8, "put", "(IJ)Z"⟩
abbrev cX8_has : ByteArray := prog_10_method_4_code
def yX8_has : MethodName := ⟨RX8, "has", "(II)Z"⟩
abbrev cX8_allBelow : ByteArray := prog_10_method_5_code
def yX8_allBelow : MethodName := ⟨RX8, "allBelow", "(I)Z"⟩
abbrev cX8_stones : ByteArray := prog_10_method_6_code
def yX8_stones : MethodName := ⟨RX8, "stones", "()I"⟩
abbrev cX8_meets : ByteArray := prog_10_method_7_code
def yX8_meets : MethodName := ⟨RX8, "meets", "(LBearsTwo$Row;I)Z"⟩
abbrev cX9_init : ByteArray := prog_11_method_1_code
def yX9_init : MethodName := ⟨RX9, "<init>", "(LBearsTwo$River;)V"⟩
abbrev cX9_begin : ByteArray := prog_11_method_2_code
def yX9_begin : MethodName := ⟨RX9, "begin", "()V"⟩
abbrev cX9_takeFrom : ByteArray := prog_11_method_3_code
def yX9_takeFrom : MethodName := ⟨RX9, "takeFrom", "(LBearsTwo$Scene;)V"⟩
abbrev cX9_wash : ByteArray := prog_11_method_4_code
def yX9_wash : MethodName := ⟨RX9, "wash", "()I"⟩
abbrev cX9_leftOf : ByteArray := prog_11_method_5_code
def yX9_leftOf : MethodName := ⟨RX9, "leftOf", "(I)I"⟩
abbrev cX9_openFor : ByteArray := prog_11_method_6_code
def yX9_openFor : MethodName := ⟨RX9, "openFor", "(I)I"⟩
abbrev cX9_inDoubt : ByteArray := prog_11_method_7_code
def yX9_inDoubt : MethodName := ⟨RX9, "inDoubt", "(I)Z"⟩
abbrev cX9_stonesInDoubt : ByteArray := prog_11_method_8_code
def yX9_stonesInDoubt : MethodName := ⟨RX9, "stonesInDoubt", "()I"⟩
abbrev cX9_drawn : ByteArray := prog_11_method_9_code
def yX9_drawn : MethodName := ⟨RX9, "drawn", "(I)I"⟩
abbrev cX9_peopleAt : ByteArray := prog_11_method_10_code
def yX9_peopleAt : MethodName := ⟨RX9, "peopleAt", "(I)I"⟩
abbrev cX9_isAt : ByteArray := prog_11_method_11_code
def yX9_isAt : MethodName := ⟨RX9, "isAt", "(II)Z"⟩
abbrev cX9_settle : ByteArray := prog_11_method_12_code
def yX9_settle : MethodName := ⟨RX9, "settle", "(II)V"⟩
abbrev cX9_missing : ByteArray := prog_11_method_13_code
def yX9_missing : MethodName := ⟨RX9, "missing", "()I"⟩
abbrev cX9_takeStep : ByteArray := prog_11_method_14_code
def yX9_takeStep : MethodName := ⟨RX9, "takeStep", "(II)Z"⟩
abbrev cX10_init : ByteArray := prog_12_method_1_code
def yX10_init : MethodName := ⟨RX10, "<init>", "(LBearsTwo$Links;)V"⟩
abbrev cX10_seek : ByteArray := prog_12_method_2_code
def yX10_seek : MethodName := ⟨RX10, "seek", "(LBearsTwo$Scene;IIII)I"⟩
abbrev cX10_putCosts : ByteArray := prog_12_method_3_code
def yX10_putCosts : MethodName := ⟨RX10, "putCosts", "(LBearsTwo$Scene;I)V"⟩
abbrev cX10_putReached : ByteArray := prog_12_method_4_code
def yX10_putReached : MethodName := ⟨RX10, "putReached", "(LBearsTwo$River;I)V"⟩
abbrev cX10_crowd : ByteArray := prog_12_method_5_code
def yX10_crowd : MethodName := ⟨RX10, "crowd", "(LBearsTwo$River;I)I"⟩
abbrev cX10_spread : ByteArray := prog_12_method_6_code
def yX10_spread : MethodName := ⟨RX10, "spread", "(IIII)V"⟩
abbrev cX10_least : ByteArray := prog_12_method_7_code
def yX10_least : MethodName := ⟨RX10, "least", "(I)I"⟩
abbrev cX10_walk : ByteArray := prog_12_method_8_code
def yX10_walk : MethodName := ⟨RX10, "walk", "(III)V"⟩
abbrev cX10_wear : ByteArray := prog_12_method_9_code
def yX10_wear : MethodName := ⟨RX10, "wear", "(LBearsTwo$Scene;I)V"⟩
abbrev cX11_init : ByteArray := prog_1_method_1_code
def yX11_init : MethodName := ⟨RX11, "<init>", "()V"⟩
abbrev cX11_feed : ByteArray := prog_1_method_2_code
def yX11_feed : MethodName := ⟨RX11, "feed", "(IIIII)I"⟩
abbrev cX11_putBytes : ByteArray := prog_1_method_3_code
def yX11_putBytes : MethodName := ⟨RX11, "putBytes", "(I)V"⟩
abbrev cX11_end : ByteArray := prog_1_method_4_code
def yX11_end : MethodName := ⟨RX11, "end", "(I)I"⟩
abbrev cX11_river : ByteArray := prog_1_method_5_code
def yX11_river : MethodName := ⟨RX11, "river", "()I"⟩
abbrev cX11_fault : ByteArray := prog_1_method_6_code
def yX11_fault : MethodName := ⟨RX11, "fault", "(I)I"⟩
abbrev cX11_stone : ByteArray := prog_1_method_7_code
def yX11_stone : MethodName := ⟨RX11, "stone", "(II)I"⟩
abbrev cX11_knowledgeOf : ByteArray := prog_1_method_8_code
def yX11_knowledgeOf : MethodName := ⟨RX11, "knowledgeOf", "(I)I"⟩
abbrev cX11_person : ByteArray := prog_1_method_9_code
def yX11_person : MethodName := ⟨RX11, "person", "(II)I"⟩
abbrev cX11_may : ByteArray := prog_1_method_10_code
def yX11_may : MethodName := ⟨RX11, "may", "(III)I"⟩
abbrev cX11_reach : ByteArray := prog_1_method_11_code
def yX11_reach : MethodName := ⟨RX11, "reach", "(I)I"⟩
abbrev cX11_hour : ByteArray := prog_1_method_12_code
def yX11_hour : MethodName := ⟨RX11, "hour", "(I)I"⟩
abbrev cX11_fresh : ByteArray := prog_1_method_13_code
def yX11_fresh : MethodName := ⟨RX11, "fresh", "()I"⟩
abbrev cX11_length : ByteArray := prog_1_method_14_code
def yX11_length : MethodName := ⟨RX11, "length", "(III)I"⟩
abbrev cX11_path : ByteArray := prog_1_method_15_code
def yX11_path : MethodName := ⟨RX11, "path", "(IIII)I"⟩
abbrev cX11_step : ByteArray := prog_1_method_16_code
def yX11_step : MethodName := ⟨RX11, "step", "(II)I"⟩
abbrev cX11_judge : ByteArray := prog_1_method_17_code
def yX11_judge : MethodName := ⟨RX11, "judge", "(I)I"⟩
abbrev cX11_ends : ByteArray := prog_1_method_18_code
def yX11_ends : MethodName := ⟨RX11, "ends", "(II)I"⟩
abbrev cX11_stepsInThought : ByteArray := prog_1_method_19_code
def yX11_stepsInThought : MethodName := ⟨RX11, "stepsInThought", "(LBearsTwo$Row;)I"⟩
abbrev cX11_stepInThought : ByteArray := prog_1_method_20_code
def yX11_stepInThought : MethodName := ⟨RX11, "stepInThought", "(JJ)Z"⟩
abbrev cX11_go : ByteArray := prog_1_method_21_code
def yX11_go : MethodName := ⟨RX11, "go", "(II)I"⟩
abbrev cX11_over : ByteArray := prog_1_method_22_code
def yX11_over : MethodName := ⟨RX11, "over", "(II)I"⟩
abbrev cX11_overInThought : ByteArray := prog_1_method_23_code
def yX11_overInThought : MethodName := ⟨RX11, "overInThought", "(I)I"⟩
abbrev cX11_all : ByteArray := prog_1_method_24_code
def yX11_all : MethodName := ⟨RX11, "all", "(I)I"⟩
abbrev cX11_order : ByteArray := prog_1_method_25_code
def yX11_order : MethodName := ⟨RX11, "order", "(II)I"⟩
abbrev cX11_gap : ByteArray := prog_1_method_26_code
def yX11_gap : MethodName := ⟨RX11, "gap", "(I)I"⟩
abbrev cX11_home : ByteArray := prog_1_method_27_code
def yX11_home : MethodName := ⟨RX11, "home", "(I)I"⟩
abbrev cX11_days : ByteArray := prog_1_method_28_code
def yX11_days : MethodName := ⟨RX11, "days", "(I)I"⟩
abbrev cX11_best : ByteArray := prog_1_method_29_code
def yX11_best : MethodName := ⟨RX11, "best", "()I"⟩
abbrev cX11_most : ByteArray := prog_1_method_30_code
def yX11_most : MethodName := ⟨RX11, "most", "(II)I"⟩
abbrev cX11_mostOf : ByteArray := prog_1_method_31_code
def yX11_mostOf : MethodName := ⟨RX11, "mostOf", "(LBearsTwo$Scene;II)I"⟩
abbrev cX11_cut : ByteArray := prog_1_method_32_code
def yX11_cut : MethodName := ⟨RX11, "cut", "(II)I"⟩
abbrev cX11_bars : ByteArray := prog_1_method_33_code
def yX11_bars : MethodName := ⟨RX11, "bars", "(III)I"⟩
abbrev cX11_alike : ByteArray := prog_1_method_34_code
def yX11_alike : MethodName := ⟨RX11, "alike", "(III)I"⟩
abbrev cX11_more : ByteArray := prog_1_method_35_code
def yX11_more : MethodName := ⟨RX11, "more", "(IIII)I"⟩
abbrev cX11_where : ByteArray := prog_1_method_36_code
def yX11_where : MethodName := ⟨RX11, "where", "(II)I"⟩
abbrev cX11_mostWithOneMore : ByteArray := prog_1_method_37_code
def yX11_mostWithOneMore : MethodName := ⟨RX11, "mostWithOneMore", "(III)I"⟩
abbrev cX11_moved : ByteArray := prog_1_method_38_code
def yX11_moved : MethodName := ⟨RX11, "moved", "(III)I"⟩
abbrev cX11_mostMoved : ByteArray := prog_1_method_39_code
def yX11_mostMoved : MethodName := ⟨RX11, "mostMoved", "(III)I"⟩
abbrev cX11_move : ByteArray := prog_1_method_40_code
def yX11_move : MethodName := ⟨RX11, "move", "(II)I"⟩
abbrev cX11_plank : ByteArray := prog_1_method_41_code
def yX11_plank : MethodName := ⟨RX11, "plank", "(III)I"⟩
abbrev cX11_planks : ByteArray := prog_1_method_42_code
def yX11_planks : MethodName := ⟨RX11, "planks", "(I)I"⟩
abbrev cX11_mostWithPlank : ByteArray := prog_1_method_43_code
def yX11_mostWithPlank : MethodName := ⟨RX11, "mostWithPlank", "(III)I"⟩
abbrev cX11_know : ByteArray := prog_1_method_44_code
def yX11_know : MethodName := ⟨RX11, "know", "(IZ)I"⟩
abbrev cX11_sure : ByteArray := prog_1_method_45_code
def yX11_sure : MethodName := ⟨RX11, "sure", "(II)J"⟩
abbrev cX11_tread : ByteArray := prog_1_method_46_code
def yX11_tread : MethodName := ⟨RX11, "tread", "(III)J"⟩
abbrev cX11_treadOf : ByteArray := prog_1_method_47_code
def yX11_treadOf : MethodName := ⟨RX11, "treadOf", "(III)J"⟩
abbrev cX11_first : ByteArray := prog_1_method_48_code
def yX11_first : MethodName := ⟨RX11, "first", "(II)I"⟩
abbrev cX11_price : ByteArray := prog_1_method_49_code
def yX11_price : MethodName := ⟨RX11, "price", "(III)I"⟩
abbrev cX11_priceOf : ByteArray := prog_1_method_50_code
def yX11_priceOf : MethodName := ⟨RX11, "priceOf", "(III)I"⟩
abbrev cX11_keep : ByteArray := prog_1_method_51_code
def yX11_keep : MethodName := ⟨RX11, "keep", "(II)I"⟩
abbrev cX11_late : ByteArray := prog_1_method_52_code
def yX11_late : MethodName := ⟨RX11, "late", "(II)I"⟩
abbrev cX11_mostAt : ByteArray := prog_1_method_53_code
def yX11_mostAt : MethodName := ⟨RX11, "mostAt", "(II)I"⟩
abbrev cX11_noon : ByteArray := prog_1_method_54_code
def yX11_noon : MethodName := ⟨RX11, "noon", "(II)I"⟩
abbrev cX11_waits : ByteArray := prog_1_method_55_code
def yX11_waits : MethodName := ⟨RX11, "waits", "(II)I"⟩
abbrev cX11_cross : ByteArray := prog_1_method_56_code
def yX11_cross : MethodName := ⟨RX11, "cross", "(II)I"⟩
abbrev cX11_wrongRows : ByteArray := prog_1_method_57_code
def yX11_wrongRows : MethodName := ⟨RX11, "wrongRows", "(II)I"⟩
abbrev cX11_run : ByteArray := prog_1_method_58_code
def yX11_run : MethodName := ⟨RX11, "run", "(II)I"⟩
abbrev cX11_peopleOnDay : ByteArray := prog_1_method_59_code
def yX11_peopleOnDay : MethodName := ⟨RX11, "peopleOnDay", "(II)I"⟩
abbrev cX11_runs : ByteArray := prog_1_method_60_code
def yX11_runs : MethodName := ⟨RX11, "runs", "(IIII)I"⟩
abbrev cX11_count : ByteArray := prog_1_method_61_code
def yX11_count : MethodName := ⟨RX11, "count", "(I)I"⟩
abbrev cX11_rowsThere : ByteArray := prog_1_method_62_code
def yX11_rowsThere : MethodName := ⟨RX11, "rowsThere", "()I"⟩
abbrev cX11_image : ByteArray := prog_1_method_63_code
def yX11_image : MethodName := ⟨RX11, "image", "(I)I"⟩
abbrev cX11_back : ByteArray := prog_1_method_64_code
def yX11_back : MethodName := ⟨RX11, "back", "(I)I"⟩
abbrev cX11_row : ByteArray := prog_1_method_65_code
def yX11_row : MethodName := ⟨RX11, "row", "(III)I"⟩
abbrev cX11_write : ByteArray := prog_1_method_66_code
def yX11_write : MethodName := ⟨RX11, "write", "(IIJ)I"⟩
abbrev cX11_paste : ByteArray := prog_1_method_67_code
def yX11_paste : MethodName := ⟨RX11, "paste", "(IIIII)I"⟩
abbrev cX11_isTold : ByteArray := prog_1_method_68_code
def yX11_isTold : MethodName := ⟨RX11, "isTold", "()Z"⟩
abbrev cX11_isStone : ByteArray := prog_1_method_69_code
def yX11_isStone : MethodName := ⟨RX11, "isStone", "(I)Z"⟩
abbrev cX11_isPerson : ByteArray := prog_1_method_70_code
def yX11_isPerson : MethodName := ⟨RX11, "isPerson", "(I)Z"⟩
abbrev cX11_isStride : ByteArray := prog_1_method_71_code
def yX11_isStride : MethodName := ⟨RX11, "isStride", "(I)Z"⟩
abbrev cX11_isWay : ByteArray := prog_1_method_72_code
def yX11_isWay : MethodName := ⟨RX11, "isWay", "(I)Z"⟩
abbrev cX11_isHour : ByteArray := prog_1_method_73_code
def yX11_isHour : MethodName := ⟨RX11, "isHour", "(I)Z"⟩
abbrev cX11_isWeight : ByteArray := prog_1_method_74_code
def yX11_isWeight : MethodName := ⟨RX11, "isWeight", "(I)Z"⟩
abbrev cX11_isLoad : ByteArray := prog_1_method_75_code
def yX11_isLoad : MethodName := ⟨RX11, "isLoad", "(I)Z"⟩
abbrev cX11_isSeed : ByteArray := prog_1_method_76_code
def yX11_isSeed : MethodName := ⟨RX11, "isSeed", "(I)Z"⟩
abbrev cX11_isSlot : ByteArray := prog_1_method_77_code
def yX11_isSlot : MethodName := ⟨RX11, "isSlot", "(I)Z"⟩
abbrev cX11_isImage : ByteArray := prog_1_method_78_code
def yX11_isImage : MethodName := ⟨RX11, "isImage", "(I)Z"⟩
abbrev cX12_init : ByteArray := prog_14_method_1_code
def yX12_init : MethodName := ⟨RX12, "<init>", "()V"⟩
abbrev cX12_in : ByteArray := prog_14_method_3_code
def yX12_in : MethodName := ⟨RX12, "in", "(JJJ)Z"⟩
abbrev cX12_image : ByteArray := prog_14_method_4_code
def yX12_image : MethodName := ⟨RX12, "image", "(I)I"⟩
abbrev cX12_back : ByteArray := prog_14_method_5_code
def yX12_back : MethodName := ⟨RX12, "back", "(I)I"⟩
abbrev cX12_isRiver : ByteArray := prog_14_method_6_code
def yX12_isRiver : MethodName := ⟨RX12, "isRiver", "()Z"⟩
abbrev cX12_ofStone : ByteArray := prog_14_method_7_code
def yX12_ofStone : MethodName := ⟨RX12, "ofStone", "(II)I"⟩
abbrev cX12_setStone : ByteArray := prog_14_method_8_code
def yX12_setStone : MethodName := ⟨RX12, "setStone", "(III)V"⟩
abbrev cX12_of : ByteArray := prog_14_method_9_code
def yX12_of : MethodName := ⟨RX12, "of", "(II)I"⟩
abbrev cX12_set : ByteArray := prog_14_method_10_code
def yX12_set : MethodName := ⟨RX12, "set", "(III)V"⟩
abbrev cX12_isStone : ByteArray := prog_14_method_11_code
def yX12_isStone : MethodName := ⟨RX12, "isStone", "(I)Z"⟩
abbrev cX12_isPerson : ByteArray := prog_14_method_12_code
def yX12_isPerson : MethodName := ⟨RX12, "isPerson", "(I)Z"⟩
abbrev cX12_isPlace : ByteArray := prog_14_method_13_code
def yX12_isPlace : MethodName := ⟨RX12, "isPlace", "(I)Z"⟩
abbrev cX12_feed : ByteArray := prog_14_method_14_code
def yX12_feed : MethodName := ⟨RX12, "feed", "(IIIII)I"⟩
abbrev cX12_end : ByteArray := prog_14_method_15_code
def yX12_end : MethodName := ⟨RX12, "end", "(I)I"⟩
abbrev cX12_see : ByteArray := prog_14_method_16_code
def yX12_see : MethodName := ⟨RX12, "see", "(I)I"⟩
abbrev cX12_advance : ByteArray := prog_14_method_17_code
def yX12_advance : MethodName := ⟨RX12, "advance", "()V"⟩
abbrev cX12_good : ByteArray := prog_14_method_18_code
def yX12_good : MethodName := ⟨RX12, "good", "()Z"⟩
abbrev cX12_errs : ByteArray := prog_14_method_19_code
def yX12_errs : MethodName := ⟨RX12, "errs", "(I)V"⟩
abbrev cX12_is : ByteArray := prog_14_method_20_code
def yX12_is : MethodName := ⟨RX12, "is", "(Ljava/lang/String;)Z"⟩
abbrev cX12_takes : ByteArray := prog_14_method_21_code
def yX12_takes : MethodName := ⟨RX12, "takes", "(Ljava/lang/String;)Z"⟩
abbrev cX12_needs : ByteArray := prog_14_method_22_code
def yX12_needs : MethodName := ⟨RX12, "needs", "(Ljava/lang/String;)V"⟩
abbrev cX12_number : ByteArray := prog_14_method_23_code
def yX12_number : MethodName := ⟨RX12, "number", "(II)I"⟩
abbrev cX12_told : ByteArray := prog_14_method_24_code
def yX12_told : MethodName := ⟨RX12, "told", "(Ljava/lang/String;II)I"⟩
abbrev cX12_fault : ByteArray := prog_14_method_25_code
def yX12_fault : MethodName := ⟨RX12, "fault", "(I)I"⟩
abbrev cX12_freshOn : ByteArray := prog_14_method_26_code
def yX12_freshOn : MethodName := ⟨RX12, "freshOn", "(II)I"⟩
abbrev cX12_readStone : ByteArray := prog_14_method_27_code
def yX12_readStone : MethodName := ⟨RX12, "readStone", "()V"⟩
abbrev cX12_readPerson : ByteArray := prog_14_method_28_code
def yX12_readPerson : MethodName := ⟨RX12, "readPerson", "()V"⟩
abbrev cX12_readNext : ByteArray := prog_14_method_29_code
def yX12_readNext : MethodName := ⟨RX12, "readNext", "()V"⟩
abbrev cX12_readLine : ByteArray := prog_14_method_30_code
def yX12_readLine : MethodName := ⟨RX12, "readLine", "()V"⟩
abbrev cX12_river : ByteArray := prog_14_method_31_code
def yX12_river : MethodName := ⟨RX12, "river", "()I"⟩
abbrev cX12_bearsNow : ByteArray := prog_14_method_32_code
def yX12_bearsNow : MethodName := ⟨RX12, "bearsNow", "(I)I"⟩
abbrev cX12_left : ByteArray := prog_14_method_33_code
def yX12_left : MethodName := ⟨RX12, "left", "(I)I"⟩
abbrev cX12_isInDoubt : ByteArray := prog_14_method_34_code
def yX12_isInDoubt : MethodName := ⟨RX12, "isInDoubt", "(I)Z"⟩
abbrev cX12_stone : ByteArray := prog_14_method_35_code
def yX12_stone : MethodName := ⟨RX12, "stone", "(II)I"⟩
abbrev cX12_acrossOf : ByteArray := prog_14_method_36_code
def yX12_acrossOf : MethodName := ⟨RX12, "acrossOf", "(I)I"⟩
abbrev cX12_squares : ByteArray := prog_14_method_37_code
def yX12_squares : MethodName := ⟨RX12, "squares", "(II)I"⟩
abbrev cX12_isStep : ByteArray := prog_14_method_38_code
def yX12_isStep : MethodName := ⟨RX12, "isStep", "(III)Z"⟩
abbrev cX12_isStride : ByteArray := prog_14_method_39_code
def yX12_isStride : MethodName := ⟨RX12, "isStride", "(I)Z"⟩
abbrev cX12_may : ByteArray := prog_14_method_40_code
def yX12_may : MethodName := ⟨RX12, "may", "(III)I"⟩
abbrev cX12_reachOf : ByteArray := prog_14_method_41_code
def yX12_reachOf : MethodName := ⟨RX12, "reachOf", "(I)I"⟩
abbrev cX12_reach : ByteArray := prog_14_method_42_code
def yX12_reach : MethodName := ⟨RX12, "reach", "(I)I"⟩
abbrev cX12_hour : ByteArray := prog_14_method_43_code
def yX12_hour : MethodName := ⟨RX12, "hour", "(I)I"⟩
abbrev cX12_borneAll : ByteArray := prog_14_method_44_code
def yX12_borneAll : MethodName := ⟨RX12, "borneAll", "()I"⟩
abbrev cX12_freshens : ByteArray := prog_14_method_45_code
def yX12_freshens : MethodName := ⟨RX12, "freshens", "()V"⟩
abbrev cX12_fresh : ByteArray := prog_14_method_46_code
def yX12_fresh : MethodName := ⟨RX12, "fresh", "()I"⟩
abbrev cX12_fillCosts : ByteArray := prog_14_method_47_code
def yX12_fillCosts : MethodName := ⟨RX12, "fillCosts", "(I)V"⟩
abbrev cX12_isLess : ByteArray := prog_14_method_48_code
def yX12_isLess : MethodName := ⟨RX12, "isLess", "(IIII)Z"⟩
abbrev cX12_fillLeft : ByteArray := prog_14_method_49_code
def yX12_fillLeft : MethodName := ⟨RX12, "fillLeft", "(III)V"⟩
abbrev cX12_finds : ByteArray := prog_14_method_50_code
def yX12_finds : MethodName := ⟨RX12, "finds", "(IIII)Z"⟩
abbrev cX12_isAsked : ByteArray := prog_14_method_51_code
def yX12_isAsked : MethodName := ⟨RX12, "isAsked", "(III)Z"⟩
abbrev cX12_length : ByteArray := prog_14_method_52_code
def yX12_length : MethodName := ⟨RX12, "length", "(III)I"⟩
abbrev cX12_path : ByteArray := prog_14_method_53_code
def yX12_path : MethodName := ⟨RX12, "path", "(IIII)I"⟩
abbrev cX12_bears : ByteArray := prog_14_method_54_code
def yX12_bears : MethodName := ⟨RX12, "bears", "(II)V"⟩
abbrev cX12_steps : ByteArray := prog_14_method_55_code
def yX12_steps : MethodName := ⟨RX12, "steps", "(II)Z"⟩
abbrev cX12_step : ByteArray := prog_14_method_56_code
def yX12_step : MethodName := ⟨RX12, "step", "(II)I"⟩
abbrev cX12_thinks : ByteArray := prog_14_method_57_code
def yX12_thinks : MethodName := ⟨RX12, "thinks", "()V"⟩
abbrev cX12_wakes : ByteArray := prog_14_method_58_code
def yX12_wakes : MethodName := ⟨RX12, "wakes", "()V"⟩
abbrev cX12_walks : ByteArray := prog_14_method_59_code
def yX12_walks : MethodName := ⟨RX12, "walks", "(I)I"⟩
abbrev cX12_judge : ByteArray := prog_14_method_60_code
def yX12_judge : MethodName := ⟨RX12, "judge", "(I)I"⟩
abbrev cX12_ends : ByteArray := prog_14_method_61_code
def yX12_ends : MethodName := ⟨RX12, "ends", "(II)I"⟩
abbrev cX12_leads : ByteArray := prog_14_method_62_code
def yX12_leads : MethodName := ⟨RX12, "leads", "(I)Z"⟩
abbrev cX12_units : ByteArray := prog_14_method_63_code
def yX12_units : MethodName := ⟨RX12, "units", "()I"⟩
abbrev cX12_second : ByteArray := prog_14_method_64_code
def yX12_second : MethodName := ⟨RX12, "second", "(I)I"⟩
abbrev cX12_sumOf : ByteArray := prog_14_method_65_code
def yX12_sumOf : MethodName := ⟨RX12, "sumOf", "(II)I"⟩
abbrev cX12_strideOf : ByteArray := prog_14_method_66_code
def yX12_strideOf : MethodName := ⟨RX12, "strideOf", "(I)I"⟩
abbrev cX12_manyOf : ByteArray := prog_14_method_67_code
def yX12_manyOf : MethodName := ⟨RX12, "manyOf", "(I)I"⟩
abbrev cX12_bitsOf : ByteArray := prog_14_method_68_code
def yX12_bitsOf : MethodName := ⟨RX12, "bitsOf", "(I)I"⟩
abbrev cX12_isAt : ByteArray := prog_14_method_69_code
def yX12_isAt : MethodName := ⟨RX12, "isAt", "(II)Z"⟩
abbrev cX12_puts : ByteArray := prog_14_method_70_code
def yX12_puts : MethodName := ⟨RX12, "puts", "(II)V"⟩
abbrev cX12_person : ByteArray := prog_14_method_71_code
def yX12_person : MethodName := ⟨RX12, "person", "(II)I"⟩
abbrev cX12_goes : ByteArray := prog_14_method_72_code
def yX12_goes : MethodName := ⟨RX12, "goes", "(III)Z"⟩
abbrev cX12_isWay : ByteArray := prog_14_method_73_code
def yX12_isWay : MethodName := ⟨RX12, "isWay", "(I)Z"⟩
abbrev cX12_go : ByteArray := prog_14_method_74_code
def yX12_go : MethodName := ⟨RX12, "go", "(II)I"⟩
abbrev cX12_clearsOver : ByteArray := prog_14_method_75_code
def yX12_clearsOver : MethodName := ⟨RX12, "clearsOver", "()V"⟩
abbrev cX12_goesOver : ByteArray := prog_14_method_76_code
def yX12_goesOver : MethodName := ⟨RX12, "goesOver", "(II)V"⟩
abbrev cX12_allGoOver : ByteArray := prog_14_method_77_code
def yX12_allGoOver : MethodName := ⟨RX12, "allGoOver", "(I)V"⟩
abbrev cX12_mustAndNot : ByteArray := prog_14_method_78_code
def yX12_mustAndNot : MethodName := ⟨RX12, "mustAndNot", "()I"⟩
abbrev cX12_over : ByteArray := prog_14_method_79_code
def yX12_over : MethodName := ⟨RX12, "over", "(II)I"⟩
abbrev cX12_all : ByteArray := prog_14_method_80_code
def yX12_all : MethodName := ⟨RX12, "all", "(I)I"⟩
abbrev cX12_fillWaiting : ByteArray := prog_14_method_81_code
def yX12_fillWaiting : MethodName := ⟨RX12, "fillWaiting", "()V"⟩
abbrev cX12_swaps : ByteArray := prog_14_method_82_code
def yX12_swaps : MethodName := ⟨RX12, "swaps", "(II)V"⟩
abbrev cX12_nextOrder : ByteArray := prog_14_method_83_code
def yX12_nextOrder : MethodName := ⟨RX12, "nextOrder", "()Z"⟩
abbrev cX12_findsOrder : ByteArray := prog_14_method_84_code
def yX12_findsOrder : MethodName := ⟨RX12, "findsOrder", "(I)V"⟩
abbrev cX12_order : ByteArray := prog_14_method_85_code
def yX12_order : MethodName := ⟨RX12, "order", "(II)I"⟩
abbrev cX12_gap : ByteArray := prog_14_method_86_code
def yX12_gap : MethodName := ⟨RX12, "gap", "(I)I"⟩
abbrev cX12_home : ByteArray := prog_14_method_87_code
def yX12_home : MethodName := ⟨RX12, "home", "(I)I"⟩
abbrev cX12_isSomebodyHere : ByteArray := prog_14_method_88_code
def yX12_isSomebodyHere : MethodName := ⟨RX12, "isSomebodyHere", "()Z"⟩
abbrev cX12_days : ByteArray := prog_14_method_89_code
def yX12_days : MethodName := ⟨RX12, "days", "(I)I"⟩
abbrev cX12_best : ByteArray := prog_14_method_90_code
def yX12_best : MethodName := ⟨RX12, "best", "()I"⟩
abbrev cX12_fillNodes : ByteArray := prog_14_method_91_code
def yX12_fillNodes : MethodName := ⟨RX12, "fillNodes", "(I)V"⟩
abbrev cX12_addNode : ByteArray := prog_14_method_92_code
def yX12_addNode : MethodName := ⟨RX12, "addNode", "(III)V"⟩
abbrev cX12_areNear : ByteArray := prog_14_method_93_code
def yX12_areNear : MethodName := ⟨RX12, "areNear", "(III)Z"⟩
abbrev cX12_fillRoom : ByteArray := prog_14_method_94_code
def yX12_fillRoom : MethodName := ⟨RX12, "fillRoom", "(I)V"⟩
abbrev cX12_floods : ByteArray := prog_14_method_95_code
def yX12_floods : MethodName := ⟨RX12, "floods", "()Z"⟩
abbrev cX12_flow : ByteArray := prog_14_method_96_code
def yX12_flow : MethodName := ⟨RX12, "flow", "(I)I"⟩
abbrev cX12_mostOf : ByteArray := prog_14_method_97_code
def yX12_mostOf : MethodName := ⟨RX12, "mostOf", "(II)I"⟩
abbrev cX12_isLoad : ByteArray := prog_14_method_98_code
def yX12_isLoad : MethodName := ⟨RX12, "isLoad", "(II)Z"⟩
abbrev cX12_most : ByteArray := prog_14_method_99_code
def yX12_most : MethodName := ⟨RX12, "most", "(II)I"⟩
abbrev cX12_cut : ByteArray := prog_14_method_100_code
def yX12_cut : MethodName := ⟨RX12, "cut", "(II)I"⟩
abbrev cX12_bars : ByteArray := prog_14_method_101_code
def yX12_bars : MethodName := ⟨RX12, "bars", "(III)I"⟩
abbrev cX12_alike : ByteArray := prog_14_method_102_code
def yX12_alike : MethodName := ⟨RX12, "alike", "(III)I"⟩
abbrev cX12_stoneOn : ByteArray := prog_14_method_103_code
def yX12_stoneOn : MethodName := ⟨RX12, "stoneOn", "(II)I"⟩
abbrev cX12_isSpot : ByteArray := prog_14_method_104_code
def yX12_isSpot : MethodName := ⟨RX12, "isSpot", "(II)Z"⟩
abbrev cX12_withMore : ByteArray := prog_14_method_105_code
def yX12_withMore : MethodName := ⟨RX12, "withMore", "(IIII)I"⟩
abbrev cX12_more : ByteArray := prog_14_method_106_code
def yX12_more : MethodName := ⟨RX12, "more", "(IIII)I"⟩
abbrev cX12_where : ByteArray := prog_14_method_107_code
def yX12_where : MethodName := ⟨RX12, "where", "(II)I"⟩
abbrev cX12_movedOf : ByteArray := prog_14_method_108_code
def yX12_movedOf : MethodName := ⟨RX12, "movedOf", "(III)I"⟩
abbrev cX12_moved : ByteArray := prog_14_method_109_code
def yX12_moved : MethodName := ⟨RX12, "moved", "(III)I"⟩
abbrev cX12_move : ByteArray := prog_14_method_110_code
def yX12_move : MethodName := ⟨RX12, "move", "(II)I"⟩
abbrev cX12_nodeOf : ByteArray := prog_14_method_111_code
def yX12_nodeOf : MethodName := ⟨RX12, "nodeOf", "(I)I"⟩
abbrev cX12_plankOf : ByteArray := prog_14_method_112_code
def yX12_plankOf : MethodName := ⟨RX12, "plankOf", "(III)I"⟩
abbrev cX12_plank : ByteArray := prog_14_method_113_code
def yX12_plank : MethodName := ⟨RX12, "plank", "(III)I"⟩
abbrev cX12_planks : ByteArray := prog_14_method_114_code
def yX12_planks : MethodName := ⟨RX12, "planks", "(I)I"⟩
abbrev cX12_know : ByteArray := prog_14_method_115_code
def yX12_know : MethodName := ⟨RX12, "know", "(IZ)I"⟩
abbrev cX12_on : ByteArray := prog_14_method_116_code
def yX12_on : MethodName := ⟨RX12, "on", "(IIJ)J"⟩
abbrev cX12_sureOf : ByteArray := prog_14_method_117_code
def yX12_sureOf : MethodName := ⟨RX12, "sureOf", "(II)J"⟩
abbrev cX12_sure : ByteArray := prog_14_method_118_code
def yX12_sure : MethodName := ⟨RX12, "sure", "(II)J"⟩
abbrev cX12_treadOf : ByteArray := prog_14_method_119_code
def yX12_treadOf : MethodName := ⟨RX12, "treadOf", "(III)J"⟩
abbrev cX12_tread : ByteArray := prog_14_method_120_code
def yX12_tread : MethodName := ⟨RX12, "tread", "(III)J"⟩
abbrev cX12_first : ByteArray := prog_14_method_121_code
def yX12_first : MethodName := ⟨RX12, "first", "(II)I"⟩
abbrev cX12_priceOf : ByteArray := prog_14_method_122_code
def yX12_priceOf : MethodName := ⟨RX12, "priceOf", "(III)I"⟩
abbrev cX12_price : ByteArray := prog_14_method_123_code
def yX12_price : MethodName := ⟨RX12, "price", "(III)I"⟩
abbrev cX12_keep : ByteArray := prog_14_method_124_code
def yX12_keep : MethodName := ⟨RX12, "keep", "(II)I"⟩
abbrev cX12_lateOf : ByteArray := prog_14_method_125_code
def yX12_lateOf : MethodName := ⟨RX12, "lateOf", "(II)I"⟩
abbrev cX12_late : ByteArray := prog_14_method_126_code
def yX12_late : MethodName := ⟨RX12, "late", "(II)I"⟩
abbrev cX12_noon : ByteArray := prog_14_method_127_code
def yX12_noon : MethodName := ⟨RX12, "noon", "(II)I"⟩
abbrev cX12_areStones : ByteArray := prog_14_method_128_code
def yX12_areStones : MethodName := ⟨RX12, "areStones", "(I)Z"⟩
abbrev cX12_asksTwo : ByteArray := prog_14_method_129_code
def yX12_asksTwo : MethodName := ⟨RX12, "asksTwo", "(II)I"⟩
abbrev cX12_meet : ByteArray := prog_14_method_130_code
def yX12_meet : MethodName := ⟨RX12, "meet", "(III)Z"⟩
abbrev cX12_waits : ByteArray := prog_14_method_131_code
def yX12_waits : MethodName := ⟨RX12, "waits", "(II)I"⟩
abbrev cX12_setOf : ByteArray := prog_14_method_132_code
def yX12_setOf : MethodName := ⟨RX12, "setOf", "(I)I"⟩
abbrev cX12_cross : ByteArray := prog_14_method_133_code
def yX12_cross : MethodName := ⟨RX12, "cross", "(II)I"⟩
abbrev cX12_draw : ByteArray := prog_14_method_134_code
def yX12_draw : MethodName := ⟨RX12, "draw", "()I"⟩
abbrev cX12_ventures : ByteArray := prog_14_method_135_code
def yX12_ventures : MethodName := ⟨RX12, "ventures", "(III)V"⟩
abbrev cX12_runOf : ByteArray := prog_14_method_136_code
def yX12_runOf : MethodName := ⟨RX12, "runOf", "(JI)I"⟩
abbrev cX12_isSeed : ByteArray := prog_14_method_137_code
def yX12_isSeed : MethodName := ⟨RX12, "isSeed", "(I)Z"⟩
abbrev cX12_run : ByteArray := prog_14_method_138_code
def yX12_run : MethodName := ⟨RX12, "run", "(II)I"⟩
abbrev cX12_runs : ByteArray := prog_14_method_139_code
def yX12_runs : MethodName := ⟨RX12, "runs", "(IIII)I"⟩
abbrev cX12_at : ByteArray := prog_14_method_140_code
def yX12_at : MethodName := ⟨RX12, "at", "(I)I"⟩
abbrev cX12_count : ByteArray := prog_14_method_141_code
def yX12_count : MethodName := ⟨RX12, "count", "(I)I"⟩
abbrev cX12_isSlot : ByteArray := prog_14_method_142_code
def yX12_isSlot : MethodName := ⟨RX12, "isSlot", "(I)Z"⟩
abbrev cX12_cut_ : ByteArray := prog_14_method_143_code
def yX12_cut_ : MethodName := ⟨RX12, "cut", "(JI)J"⟩
abbrev cX12_row : ByteArray := prog_14_method_144_code
def yX12_row : MethodName := ⟨RX12, "row", "(III)I"⟩
abbrev cX12_write : ByteArray := prog_14_method_145_code
def yX12_write : MethodName := ⟨RX12, "write", "(IIJ)I"⟩
abbrev cX12_paste : ByteArray := prog_14_method_146_code
def yX12_paste : MethodName := ⟨RX12, "paste", "(IIIII)I"⟩
abbrev cJ6_numberOfTrailingZeros_0f7a4 : ByteArray := prog_15_method_48_code
def yJ6_numberOfTrailingZeros_0f7a4 : MethodName := ⟨"java/lang/Integer", "numberOfTrailingZeros", "(I)I"⟩
abbrev cJ6_bitCount_0f7a4 : ByteArray := prog_15_method_49_code
def yJ6_bitCount_0f7a4 : MethodName := ⟨"java/lang/Integer", "bitCount", "(I)I"⟩
abbrev cJ9_max_7cf53 : ByteArray := prog_16_method_65_code
def yJ9_max_7cf53 : MethodName := ⟨"java/lang/Math", "max", "(II)I"⟩
abbrev cJ9_max_f86c9 : ByteArray := prog_16_method_66_code
def yJ9_max_f86c9 : MethodName := ⟨"java/lang/Math", "max", "(JJ)J"⟩
abbrev cJ9_min_7cf53 : ByteArray := prog_16_method_69_code
def yJ9_min_7cf53 : MethodName := ⟨"java/lang/Math", "min", "(II)I"⟩
abbrev cJ0_length_8abf5 : ByteArray := prog_17_method_54_code
def yJ0_length_8abf5 : MethodName := ⟨"java/lang/String", "length", "()I"⟩
abbrev cJ0_charAt_5068e : ByteArray := prog_17_method_56_code
def yJ0_charAt_5068e : MethodName := ⟨"java/lang/String", "charAt", "(I)C"⟩
abbrev cJ0_coder_7d493 : ByteArray := prog_17_method_152_code
def yJ0_coder_7d493 : MethodName := ⟨"java/lang/String", "coder", "()B"⟩
abbrev cJ0_isLatin1_aae02 : ByteArray := prog_17_method_154_code
def yJ0_isLatin1_aae02 : MethodName := ⟨"java/lang/String", "isLatin1", "()Z"⟩
abbrev cJ0_checkIndex_df160 : ByteArray := prog_17_method_155_code
def yJ0_checkIndex_df160 : MethodName := ⟨"java/lang/String", "checkIndex", "(II)V"⟩
abbrev cJ1_charAt_3b067 : ByteArray := prog_18_method_2_code
def yJ1_charAt_3b067 : MethodName := ⟨"java/lang/StringLatin1", "charAt", "([BI)C"⟩
abbrev cJ2_getChar_3b067 : ByteArray := prog_19_method_5_code
def yJ2_getChar_3b067 : MethodName := ⟨"java/lang/StringUTF16", "getChar", "([BI)C"⟩
abbrev cJ2_length_9d52b : ByteArray := prog_19_method_6_code
def yJ2_length_9d52b : MethodName := ⟨"java/lang/StringUTF16", "length", "([B)I"⟩
abbrev cJ2_charAt_3b067 : ByteArray := prog_19_method_83_code
def yJ2_charAt_3b067 : MethodName := ⟨"java/lang/StringUTF16", "charAt", "([BI)C"⟩
abbrev cJ2_checkIndex_2214a : ByteArray := prog_19_method_91_code
def yJ2_checkIndex_2214a : MethodName := ⟨"java/lang/StringUTF16", "checkIndex", "(I[B)V"⟩
abbrev cJ7_fill_d0a16 : ByteArray := prog_21_method_101_code
def yJ7_fill_d0a16 : MethodName := ⟨"java/util/Arrays", "fill", "([JJ)V"⟩
abbrev cJ7_fill_53178 : ByteArray := prog_21_method_103_code
def yJ7_fill_53178 : MethodName := ⟨"java/util/Arrays", "fill", "([II)V"⟩
abbrev cJ3_checkIndex_8e157 : ByteArray := prog_22_method_11_code
def yJ3_checkIndex_8e157 : MethodName := ⟨"jdk/internal/util/Preconditions", "checkIndex", "(IILjava/util/function/BiFunction;)I"⟩
theorem nh_X11 : RX11 ≠ "java/lang/invoke/MethodHandle" ∧ RX11 ≠ "java/lang/invoke/VarHandle" := by decide +kernel
theorem nh_X0 : RX0 ≠ "java/lang/invoke/MethodHandle" ∧ RX0 ≠ "java/lang/invoke/VarHandle" := by decide +kernel
theorem nh_X1 : RX1 ≠ "java/lang/invoke/MethodHandle" ∧ RX1 ≠ "java/lang/invoke/VarHandle" := by decide +kernel
theorem nh_X2 : RX2 ≠ "java/lang/invoke/MethodHandle" ∧ RX2 ≠ "java/lang/invoke/VarHandle" := by decide +kernel
theorem nh_X3 : RX3 ≠ "java/lang/invoke/MethodHandle" ∧ RX3 ≠ "java/lang/invoke/VarHandle" := by decide +kernel
theorem nh_X4 : RX4 ≠ "java/lang/invoke/MethodHandle" ∧ RX4 ≠ "java/lang/invoke/VarHandle" := by decide +kernel
theorem nh_X5 : RX5 ≠ "java/lang/invoke/MethodHandle" ∧ RX5 ≠ "java/lang/invoke/VarHandle" := by decide +kernel
theorem nh_X6 : RX6 ≠ "java/lang/invoke/MethodHandle" ∧ RX6 ≠ "java/lang/invoke/VarHandle" := by decide +kernel
theorem nh_X7 : RX7 ≠ "java/lang/invoke/MethodHandle" ∧ RX7 ≠ "java/lang/invoke/VarHandle" := by decide +kernel
theorem nh_X8 : RX8 ≠ "java/lang/invoke/MethodHandle" ∧ RX8 ≠ "java/lang/invoke/VarHandle" := by decide +kernel
theorem nh_X9 : RX9 ≠ "java/lang/invoke/MethodHandle" ∧ RX9 ≠ "java/lang/invoke/VarHandle" := by decide +kernel
theorem nh_X10 : RX10 ≠ "java/lang/invoke/MethodHandle" ∧ RX10 ≠ "java/lang/invoke/VarHandle" := by decide +kernel
theorem nh_X12 : RX12 ≠ "java/lang/invoke/MethodHandle" ∧ RX12 ≠ "java/lang/invoke/VarHandle" := by decide +kernel
theorem nh_J6 : "java/lang/Integer" ≠ "java/lang/invoke/MethodHandle" ∧ "java/lang/Integer" ≠ "java/lang/invoke/VarHandle" := by decide +kernel
theorem nh_J7 : "java/util/Arrays" ≠ "java/lang/invoke/MethodHandle" ∧ "java/util/Arrays" ≠ "java/lang/invoke/VarHandle" := by decide +kernel
theorem pm___I_154 : (parseMethodDescriptor "()I").map (fun d => d.parameters.length) = some 0 := by decide +kernel
theorem pm___V_167 : (parseMethodDescriptor "()V").map (fun d => d.parameters.length) = some 0 := by decide +kernel
theorem pm___Z_171 : (parseMethodDescriptor "()Z").map (fun d => d.parameters.length) = some 0 := by decide +kernel
theorem pm__B_Z_237 : (parseMethodDescriptor "(B)Z").map (fun d => d.parameters.length) = some 1 := by decide +kernel
theorem pm__I_I_227 : (parseMethodDescriptor "(I)I").map (fun d => d.parameters.length) = some 1 := by decide +kernel
theorem pm__I_V_240 : (parseMethodDescriptor "(I)V").map (fun d => d.parameters.length) = some 1 := by decide +kernel
theorem pm__I_Z_244 : (parseMethodDescriptor "(I)Z").map (fun d => d.parameters.length) = some 1 := by decide +kernel
theorem pm__II_I_300 : (parseMethodDescriptor "(II)I").map (fun d => d.parameters.length) = some 2 := by decide +kernel
theorem pm__II_J_301 : (parseMethodDescriptor "(II)J").map (fun d => d.parameters.length) = some 2 := by decide +kernel
theorem pm__II_V_313 : (parseMethodDescriptor "(II)V").map (fun d => d.parameters.length) = some 2 := by decide +kernel
theorem pm__II_Z_317 : (parseMethodDescriptor "(II)Z").map (fun d => d.parameters.length) = some 2 := by decide +kernel
theorem pm__III_I_373 : (parseMethodDescriptor "(III)I").map (fun d => d.parameters.length) = some 3 := by decide +kernel
theorem pm__III_J_374 : (parseMethodDescriptor "(III)J").map (fun d => d.parameters.length) = some 3 := by decide +kernel
theorem pm__III_V_386 : (parseMethodDescriptor "(III)V").map (fun d => d.parameters.length) = some 3 := by decide +kernel
theorem pm__III_Z_390 : (parseMethodDescriptor "(III)Z").map (fun d => d.parameters.length) = some 3 := by decide +kernel
theorem pm__IIII_I_446 : (parseMethodDescriptor "(IIII)I").map (fun d => d.parameters.length) = some 4 := by decide +kernel
theorem pm__IIII_V_459 : (parseMethodDescriptor "(IIII)V").map (fun d => d.parameters.length) = some 4 := by decide +kernel
theorem pm__IIII_Z_463 : (parseMethodDescriptor "(IIII)Z").map (fun d => d.parameters.length) = some 4 := by decide +kernel
theorem pm__IIIII_I_519 : (parseMethodDescriptor "(IIIII)I").map (fun d => d.parameters.length) = some 5 := by decide +kernel
theorem pm__IIIII_V_532 : (parseMethodDescriptor "(IIIII)V").map (fun d => d.parameters.length) = some 5 := by decide +kernel
theorem pm__IIJ_I_374 : (parseMethodDescriptor "(IIJ)I").map (fun d => d.parameters.length) = some 3 := by decide +kernel
theorem pm__IIJ_J_375 : (parseMethodDescriptor "(IIJ)J").map (fun d => d.parameters.length) = some 3 := by decide +kernel
theorem pm__IJ_Z_318 : (parseMethodDescriptor "(IJ)Z").map (fun d => d.parameters.length) = some 2 := by decide +kernel
theorem pm__IZ_I_317 : (parseMethodDescriptor "(IZ)I").map (fun d => d.parameters.length) = some 2 := by decide +kernel
theorem pm__JI_I_301 : (parseMethodDescriptor "(JI)I").map (fun d => d.parameters.length) = some 2 := by decide +kernel
theorem pm__JI_J_302 : (parseMethodDescriptor "(JI)J").map (fun d => d.parameters.length) = some 2 := by decide +kernel
theorem pm__JJ_Z_319 : (parseMethodDescriptor "(JJ)Z").map (fun d => d.parameters.length) = some 2 := by decide +kernel
theorem pm__JJJ_Z_393 : (parseMethodDescriptor "(JJJ)Z").map (fun d => d.parameters.length) = some 3 := by decide +kernel
theorem pm__L_Net__V_440 : (parseMethodDescriptor "(LBearsTwo$Net;)V").map (fun d => d.parameters.length) = some 1 := by decide +kernel
theorem pm__L_River__V_665 : (parseMethodDescriptor "(LBearsTwo$River;)V").map (fun d => d.parameters.length) = some 1 := by decide +kernel
theorem pm__L_River_I_I_725 : (parseMethodDescriptor "(LBearsTwo$River;I)I").map (fun d => d.parameters.length) = some 2 := by decide +kernel
theorem pm__L_River_I_V_738 : (parseMethodDescriptor "(LBearsTwo$River;I)V").map (fun d => d.parameters.length) = some 2 := by decide +kernel
theorem pm__L_River_II_I_798 : (parseMethodDescriptor "(LBearsTwo$River;II)I").map (fun d => d.parameters.length) = some 3 := by decide +kernel
theorem pm__L_River_II_Z_815 : (parseMethodDescriptor "(LBearsTwo$River;II)Z").map (fun d => d.parameters.length) = some 3 := by decide +kernel
theorem pm__L_River_IIII_V_957 : (parseMethodDescriptor "(LBearsTwo$River;IIII)V").map (fun d => d.parameters.length) = some 5 := by decide +kernel
theorem pm__L_Row__I_444 : (parseMethodDescriptor "(LBearsTwo$Row;)I").map (fun d => d.parameters.length) = some 1 := by decide +kernel
theorem pm__L_Row_I_Z_534 : (parseMethodDescriptor "(LBearsTwo$Row;I)Z").map (fun d => d.parameters.length) = some 2 := by decide +kernel
theorem pm__L_Scene__V_639 : (parseMethodDescriptor "(LBearsTwo$Scene;)V").map (fun d => d.parameters.length) = some 1 := by decide +kernel
theorem pm__L_Scene_I_I_699 : (parseMethodDescriptor "(LBearsTwo$Scene;I)I").map (fun d => d.parameters.length) = some 2 := by decide +kernel
theorem pm__L_Scene_I_V_712 : (parseMethodDescriptor "(LBearsTwo$Scene;I)V").map (fun d => d.parameters.length) = some 2 := by decide +kernel
theorem pm__L_Scene_I_Z_716 : (parseMethodDescriptor "(LBearsTwo$Scene;I)Z").map (fun d => d.parameters.length) = some 2 := by decide +kernel
theorem pm__L_Scene_II_I_772 : (parseMethodDescriptor "(LBearsTwo$Scene;II)I").map (fun d => d.parameters.length) = some 3 := by decide +kernel
theorem pm__L_Scene_II_J_773 : (parseMethodDescriptor "(LBearsTwo$Scene;II)J").map (fun d => d.parameters.length) = some 3 := by decide +kernel
theorem pm__L_Scene_II_V_785 : (parseMethodDescriptor "(LBearsTwo$Scene;II)V").map (fun d => d.parameters.length) = some 3 := by decide +kernel
theorem pm__L_Scene_III_Z_862 : (parseMethodDescriptor "(LBearsTwo$Scene;III)Z").map (fun d => d.parameters.length) = some 4 := by decide +kernel
theorem pm__L_Scene_IIII_I_918 : (parseMethodDescriptor "(LBearsTwo$Scene;IIII)I").map (fun d => d.parameters.length) = some 5 := by decide +kernel
theorem pm__LString__V_863 : (parseMethodDescriptor "(Ljava/lang/String;)V").map (fun d => d.parameters.length) = some 1 := by decide +kernel
theorem pm__LString__Z_867 : (parseMethodDescriptor "(Ljava/lang/String;)Z").map (fun d => d.parameters.length) = some 1 := by decide +kernel
theorem pm__LString_II_I_996 : (parseMethodDescriptor "(Ljava/lang/String;II)I").map (fun d => d.parameters.length) = some 3 := by decide +kernel
theorem pm___BI_V_397 : (parseMethodDescriptor "([BI)V").map (fun d => d.parameters.length) = some 2 := by decide +kernel
theorem pm___II_V_404 : (parseMethodDescriptor "([II)V").map (fun d => d.parameters.length) = some 2 := by decide +kernel
theorem pm___JJ_V_406 : (parseMethodDescriptor "([JJ)V").map (fun d => d.parameters.length) = some 2 := by decide +kernel
theorem co_X1_31 : Cond.constantLong RX1 31 (1000000000 : Int64) ∈ lw_w := lw_m (lt5 (List.mem_of_getElem? (i := 226) rfl)) rfl
theorem co_X1_47 : Cond.constantLong RX1 47 (100 : Int64) ∈ lw_w := lw_m (lt5 (List.mem_of_getElem? (i := 233) rfl)) rfl
theorem co_X9_63 : Cond.constantLong RX9 63 (1103515245 : Int64) ∈ lw_w := lw_m (lt6 (List.mem_of_getElem? (i := 73) rfl)) rfl
theorem co_X9_65 : Cond.constantLong RX9 65 (12345 : Int64) ∈ lw_w := lw_m (lt6 (List.mem_of_getElem? (i := 74) rfl)) rfl
theorem co_X9_67 : Cond.constantLong RX9 67 (2147483648 : Int64) ∈ lw_w := lw_m (lt6 (List.mem_of_getElem? (i := 75) rfl)) rfl
theorem co_X9_69 : Cond.constantLong RX9 69 (65536 : Int64) ∈ lw_w := lw_m (lt6 (List.mem_of_getElem? (i := 76) rfl)) rfl
theorem co_X9_71 : Cond.constantLong RX9 71 (100 : Int64) ∈ lw_w := lw_m (lt6 (List.mem_of_getElem? (i := 77) rfl)) rfl
theorem co_X10_97 : Cond.constant RX10 97 (1048576 : Int32) ∈ lw_w := lw_m (lt4 (List.mem_of_getElem? (i := 86) rfl)) rfl
theorem co_X11_256 : Cond.constantLong RX11 256 (99 : Int64) ∈ lw_w := lw_m (lt4 (List.mem_of_getElem? (i := 130) rfl)) rfl
theorem co_X11_296 : Cond.constant RX11 296 (-1000000 : Int32) ∈ lw_w := lw_m (lt5 (List.mem_of_getElem? (i := 25) rfl)) rfl
theorem co_X11_386 : Cond.constantLong RX11 386 (-2 : Int64) ∈ lw_w := lw_m (lt5 (List.mem_of_getElem? (i := 221) rfl)) rfl
theorem co_X11_399 : Cond.constantLong RX11 399 (100 : Int64) ∈ lw_w := lw_m (lt6 (List.mem_of_getElem? (i := 3) rfl)) rfl
theorem co_X11_458 : Cond.constant RX11 458 (2000000000 : Int32) ∈ lw_w := lw_m (lt6 (List.mem_of_getElem? (i := 63) rfl)) rfl
theorem co_X12_101 : Cond.constantLong RX12 101 (2 : Int64) ∈ lw_w := lw_m (lt7 (List.mem_of_getElem? (i := 52) rfl)) rfl
theorem co_X12_134 : Cond.constantLong RX12 134 (97 : Int64) ∈ lw_w := lw_m (lt7 (List.mem_of_getElem? (i := 84) rfl)) rfl
theorem co_X12_136 : Cond.constantLong RX12 136 (122 : Int64) ∈ lw_w := lw_m (lt7 (List.mem_of_getElem? (i := 85) rfl)) rfl
theorem co_X12_138 : Cond.constantLong RX12 138 (48 : Int64) ∈ lw_w := lw_m (lt7 (List.mem_of_getElem? (i := 86) rfl)) rfl
theorem co_X12_140 : Cond.constantLong RX12 140 (57 : Int64) ∈ lw_w := lw_m (lt7 (List.mem_of_getElem? (i := 87) rfl)) rfl
theorem co_X12_145 : Cond.constant RX12 145 (99999 : Int32) ∈ lw_w := lw_m (lt7 (List.mem_of_getElem? (i := 88) rfl)) rfl
theorem co_X12_248 : Cond.constantLong RX12 248 (4 : Int64) ∈ lw_w := lw_m (lt7 (List.mem_of_getElem? (i := 164) rfl)) rfl
theorem co_X12_262 : Cond.constantLong RX12 262 (9 : Int64) ∈ lw_w := lw_m (lt7 (List.mem_of_getElem? (i := 197) rfl)) rfl
theorem co_X12_277 : Cond.constantLong RX12 277 (23 : Int64) ∈ lw_w := lw_m (lt7 (List.mem_of_getElem? (i := 222) rfl)) rfl
theorem co_X12_292 : Cond.constant RX12 292 (1000000 : Int32) ∈ lw_w := lw_m (lt8 (List.mem_of_getElem? (i := 25) rfl)) rfl
theorem co_X12_306 : Cond.constantLong RX12 306 (6 : Int64) ∈ lw_w := lw_m (lt8 (List.mem_of_getElem? (i := 7) rfl)) rfl
theorem co_X12_308 : Cond.constantLong RX12 308 (3 : Int64) ∈ lw_w := lw_m (lt8 (List.mem_of_getElem? (i := 8) rfl)) rfl
theorem co_X12_332 : Cond.constantLong RX12 332 (8 : Int64) ∈ lw_w := lw_m (lt8 (List.mem_of_getElem? (i := 68) rfl)) rfl
theorem co_X12_334 : Cond.constantLong RX12 334 (99 : Int64) ∈ lw_w := lw_m (lt8 (List.mem_of_getElem? (i := 69) rfl)) rfl
theorem co_X12_420 : Cond.constantLong RX12 420 (7 : Int64) ∈ lw_w := lw_m (lt8 (List.mem_of_getElem? (i := 158) rfl)) rfl
theorem co_X12_428 : Cond.constant RX12 428 (-1000000 : Int32) ∈ lw_w := lw_m (lt8 (List.mem_of_getElem? (i := 179) rfl)) rfl
theorem co_X12_479 : Cond.constantLong RX12 479 (100 : Int64) ∈ lw_w := lw_m (lt9 (List.mem_of_getElem? (i := 68) rfl)) rfl
theorem co_X12_481 : Cond.constantLong RX12 481 (1000000000 : Int64) ∈ lw_w := lw_m (lt9 (List.mem_of_getElem? (i := 63) rfl)) rfl
theorem co_X12_494 : Cond.constantLong RX12 494 (-2 : Int64) ∈ lw_w := lw_m (lt9 (List.mem_of_getElem? (i := 72) rfl)) rfl
theorem co_X12_506 : Cond.constantLong RX12 506 (999 : Int64) ∈ lw_w := lw_m (lt9 (List.mem_of_getElem? (i := 109) rfl)) rfl
theorem co_X12_520 : Cond.constantLong RX12 520 (1103515245 : Int64) ∈ lw_w := lw_m (lt9 (List.mem_of_getElem? (i := 150) rfl)) rfl
theorem co_X12_526 : Cond.constantLong RX12 526 (12345 : Int64) ∈ lw_w := lw_m (lt9 (List.mem_of_getElem? (i := 151) rfl)) rfl
theorem co_X12_528 : Cond.constantLong RX12 528 (2147483648 : Int64) ∈ lw_w := lw_m (lt9 (List.mem_of_getElem? (i := 152) rfl)) rfl
theorem co_X12_530 : Cond.constantLong RX12 530 (65536 : Int64) ∈ lw_w := lw_m (lt9 (List.mem_of_getElem? (i := 153) rfl)) rfl
theorem co_X12_538 : Cond.constantLong RX12 538 (2000000000 : Int64) ∈ lw_w := lw_m (lt9 (List.mem_of_getElem? (i := 141) rfl)) rfl
theorem co_X12_547 : Cond.constantLong RX12 547 (60 : Int64) ∈ lw_w := lw_m (lt9 (List.mem_of_getElem? (i := 162) rfl)) rfl
theorem co_J6_264 : Cond.constant "java/lang/Integer" 264 (65536 : Int32) ∈ lw_w := lw_m (lt4 (List.mem_of_getElem? (i := 34) rfl)) rfl
theorem co_J6_265 : Cond.constant "java/lang/Integer" 265 (1431655765 : Int32) ∈ lw_w := lw_m (lt4 (List.mem_of_getElem? (i := 189) rfl)) rfl
theorem co_J6_266 : Cond.constant "java/lang/Integer" 266 (858993459 : Int32) ∈ lw_w := lw_m (lt4 (List.mem_of_getElem? (i := 190) rfl)) rfl
theorem co_J6_267 : Cond.constant "java/lang/Integer" 267 (252645135 : Int32) ∈ lw_w := lw_m (lt4 (List.mem_of_getElem? (i := 191) rfl)) rfl
theorem fl_X0_21 : sm_F RX0 21 9 0 2 := ⟨by decide, _, _, _, rfl, by decide, by decide +kernel, lw_m (lt1 (List.mem_of_getElem? (i := 200) rfl)) rfl⟩
theorem fl_X0_48 : sm_F RX0 48 7 5 0 := ⟨by decide, _, _, _, rfl, by decide, by decide +kernel, lw_m (lt1 (List.mem_of_getElem? (i := 68) rfl)) rfl⟩
theorem fl_X0_70 : sm_F RX0 70 10 0 2 := ⟨by decide, _, _, _, rfl, by decide, by decide +kernel, lw_m (lt2 (List.mem_of_getElem? (i := 13) rfl)) rfl⟩
theorem fl_X0_74 : sm_F RX0 74 9 2 2 := ⟨by decide, _, _, _, rfl, by decide, by decide +kernel, lw_m (lt1 (List.mem_of_getElem? (i := 206) rfl)) rfl⟩
theorem fl_X0_77 : sm_F RX0 77 7 10 2 := ⟨by decide, _, _, _, rfl, by decide, by decide +kernel, lw_m (lt1 (List.mem_of_getElem? (i := 90) rfl)) rfl⟩
theorem fl_X0_80 : sm_F RX0 80 7 1 0 := ⟨by decide, _, _, _, rfl, by decide, by decide +kernel, lw_m (lt1 (List.mem_of_getElem? (i := 51) rfl)) rfl⟩
-- nest X0 83
theorem fl_X0_9 : sm_F RX0 9 0 0 2 := ⟨by decide, _, _, _, rfl, by decide, by decide +kernel, lw_m (lt2 (List.mem_of_getElem? (i := 40) rfl)) rfl⟩
theorem fl_X1_11 : sm_F RX1 11 1 1 2 := ⟨by decide, _, _, _, rfl, by decide, by decide +kernel, lw_m (lt2 (List.mem_of_getElem? (i := 90) rfl)) rfl⟩
theorem fl_X1_15 : sm_F RX1 15 1 0 2 := ⟨by decide, _, _, _, rfl, by decide, by decide +kernel, lw_m (lt2 (List.mem_of_getElem? (i := 89) rfl)) rfl⟩
theorem fl_X1_19 : sm_F RX1 19 9 0 2 := ⟨by decide, _, _, _, rfl, by decide, by decide +kernel, lw_m (lt1 (List.mem_of_getElem? (i := 198) rfl)) rfl⟩
theorem fl_X1_25 : sm_F RX1 25 7 1 0 := ⟨by decide, _, _, _, rfl, by decide, by decide +kernel, lw_m (lt1 (List.mem_of_getElem? (i := 45) rfl)) rfl⟩
theorem fl_X1_41 : sm_F RX1 41 1 2 0 := ⟨by decide, _, _, _, rfl, by decide, by decide +kernel, lw_m (lt2 (List.mem_of_getElem? (i := 91) rfl)) rfl⟩
theorem fl_X1_44 : sm_F RX1 44 7 12 2 := ⟨by decide, _, _, _, rfl, by decide, by decide +kernel, lw_m (lt1 (List.mem_of_getElem? (i := 95) rfl)) rfl⟩
theorem fl_X1_55 : sm_F RX1 55 7 4 0 := ⟨by decide, _, _, _, rfl, by decide, by decide +kernel, lw_m (lt1 (List.mem_of_getElem? (i := 63) rfl)) rfl⟩
theorem fl_X1_62 : sm_F RX1 62 9 2 2 := ⟨by decide, _, _, _, rfl, by decide, by decide +kernel, lw_m (lt1 (List.mem_of_getElem? (i := 205) rfl)) rfl⟩
theorem fl_X2_101 : sm_F RX2 101 7 9 2 := ⟨by decide, _, _, _, rfl, by decide, by decide +kernel, lw_m (lt1 (List.mem_of_getElem? (i := 85) rfl)) rfl⟩
theorem fl_X2_120 : sm_F RX2 120 4 4 0 := ⟨by decide, _, _, _, rfl, by decide, by decide +kernel, lw_m (lt2 (List.mem_of_getElem? (i := 120) rfl)) rfl⟩
theorem fl_X2_123 : sm_F RX2 123 4 3 0 := ⟨by decide, _, _, _, rfl, by decide, by decide +kernel, lw_m (lt2 (List.mem_of_getElem? (i := 118) rfl)) rfl⟩
theorem fl_X2_137 : sm_F RX2 137 4 2 0 := ⟨by decide, _, _, _, rfl, by decide, by decide +kernel, lw_m (lt2 (List.mem_of_getElem? (i := 116) rfl)) rfl⟩
theorem fl_X2_14 : sm_F RX2 14 2 1 2 := ⟨by decide, _, _, _, rfl, by decide, by decide +kernel, lw_m (lt2 (List.mem_of_getElem? (i := 153) rfl)) rfl⟩
theorem fl_X2_140 : sm_F RX2 140 2 6 0 := ⟨by decide, _, _, _, rfl, by decide, by decide +kernel, lw_m (lt2 (List.mem_of_getElem? (i := 158) rfl)) rfl⟩
theorem fl_X2_146 : sm_F RX2 146 4 7 2 := ⟨by decide, _, _, _, rfl, by decide, by decide +kernel, lw_m (lt2 (List.mem_of_getElem? (i := 126) rfl)) rfl⟩
theorem fl_X2_152 : sm_F RX2 152 4 9 2 := ⟨by decide, _, _, _, rfl, by decide, by decide +kernel, lw_m (lt2 (List.mem_of_getElem? (i := 130) rfl)) rfl⟩
theorem fl_X2_155 : sm_F RX2 155 4 8 2 := ⟨by decide, _, _, _, rfl, by decide, by decide +kernel, lw_m (lt2 (List.mem_of_getElem? (i := 128) rfl)) rfl⟩
theorem fl_X2_18 : sm_F RX2 18 2 2 2 := ⟨by decide, _, _, _, rfl, by decide, by decide +kernel, lw_m (lt2 (List.mem_of_getElem? (i := 154) rfl)) rfl⟩
theorem fl_X2_21 : sm_F RX2 21 2 3 2 := ⟨by decide, _, _, _, rfl, by decide, by decide +kernel, lw_m (lt2 (List.mem_of_getElem? (i := 155) rfl)) rfl⟩
theorem fl_X2_25 : sm_F RX2 25 2 4 2 := ⟨by decide, _, _, _, rfl, by decide, by decide +kernel, lw_m (lt2 (List.mem_of_getElem? (i := 156) rfl)) rfl⟩
theorem fl_X2_28 : sm_F RX2 28 2 5 2 := ⟨by decide, _, _, _, rfl, by decide, by decide +kernel, lw_m (lt2 (List.mem_of_getElem? (i := 157) rfl)) rfl⟩
theorem fl_X2_31 : sm_F RX2 31 2 0 2 := ⟨by decide, _, _, _, rfl, by decide, by decide +kernel, lw_m (lt2 (List.mem_of_getElem? (i := 152) rfl)) rfl⟩
theorem fl_X2_35 : sm_F RX2 35 2 7 0 := ⟨by decide, _, _, _, rfl, by decide, by decide +kernel, lw_m (lt2 (List.mem_of_getElem? (i := 159) rfl)) rfl⟩
theorem fl_X2_42 : sm_F RX2 42 3 0 2 := ⟨by decide, _, _, _, rfl, by decide, by decide +kernel, lw_m (lt1 (List.mem_of_getElem? (i := 231) rfl)) rfl⟩
theorem fl_X2_47 : sm_F RX2 47 4 0 0 := ⟨by decide, _, _, _, rfl, by decide, by decide +kernel, lw_m (lt2 (List.mem_of_getElem? (i := 112) rfl)) rfl⟩
theorem fl_X2_49 : sm_F RX2 49 3 1 2 := ⟨by decide, _, _, _, rfl, by decide, by decide +kernel, lw_m (lt1 (List.mem_of_getElem? (i := 234) rfl)) rfl⟩
theorem fl_X2_52 : sm_F RX2 52 4 1 0 := ⟨by decide, _, _, _, rfl, by decide, by decide +kernel, lw_m (lt2 (List.mem_of_getElem? (i := 114) rfl)) rfl⟩
theorem fl_X2_54 : sm_F RX2 54 4 5 2 := ⟨by decide, _, _, _, rfl, by decide, by decide +kernel, lw_m (lt2 (List.mem_of_getElem? (i := 122) rfl)) rfl⟩
theorem fl_X2_63 : sm_F RX2 63 4 6 2 := ⟨by decide, _, _, _, rfl, by decide, by decide +kernel, lw_m (lt2 (List.mem_of_getElem? (i := 124) rfl)) rfl⟩
theorem fl_X2_66 : sm_F RX2 66 9 0 2 := ⟨by decide, _, _, _, rfl, by decide, by decide +kernel, lw_m (lt1 (List.mem_of_getElem? (i := 201) rfl)) rfl⟩
theorem fl_X2_72 : sm_F RX2 72 7 4 0 := ⟨by decide, _, _, _, rfl, by decide, by decide +kernel, lw_m (lt1 (List.mem_of_getElem? (i := 61) rfl)) rfl⟩
theorem fl_X2_77 : sm_F RX2 77 3 2 2 := ⟨by decide, _, _, _, rfl, by decide, by decide +kernel, lw_m (lt1 (List.mem_of_getElem? (i := 237) rfl)) rfl⟩
theorem fl_X2_95 : sm_F RX2 95 7 1 0 := ⟨by decide, _, _, _, rfl, by decide, by decide +kernel, lw_m (lt1 (List.mem_of_getElem? (i := 50) rfl)) rfl⟩
theorem fl_X2_98 : sm_F RX2 98 7 8 2 := ⟨by decide, _, _, _, rfl, by decide, by decide +kernel, lw_m (lt1 (List.mem_of_getElem? (i := 80) rfl)) rfl⟩
theorem fl_X3_15 : sm_F RX3 15 3 1 2 := ⟨by decide, _, _, _, rfl, by decide, by decide +kernel, lw_m (lt1 (List.mem_of_getElem? (i := 233) rfl)) rfl⟩
theorem fl_X3_18 : sm_F RX3 18 3 2 2 := ⟨by decide, _, _, _, rfl, by decide, by decide +kernel, lw_m (lt1 (List.mem_of_getElem? (i := 236) rfl)) rfl⟩
theorem fl_X3_27 : sm_F RX3 27 7 4 0 := ⟨by decide, _, _, _, rfl, by decide, by decide +kernel, lw_m (lt1 (List.mem_of_getElem? (i := 60) rfl)) rfl⟩
theorem fl_X3_33 : sm_F RX3 33 7 9 2 := ⟨by decide, _, _, _, rfl, by decide, by decide +kernel, lw_m (lt1 (List.mem_of_getElem? (i := 83) rfl)) rfl⟩
theorem fl_X3_36 : sm_F RX3 36 7 1 0 := ⟨by decide, _, _, _, rfl, by decide, by decide +kernel, lw_m (lt1 (List.mem_of_getElem? (i := 48) rfl)) rfl⟩
theorem fl_X3_9 : sm_F RX3 9 3 0 2 := ⟨by decide, _, _, _, rfl, by decide, by decide +kernel, lw_m (lt1 (List.mem_of_getElem? (i := 230) rfl)) rfl⟩
theorem fl_X4_11 : sm_F RX4 11 4 5 2 := ⟨by decide, _, _, _, rfl, by decide, by decide +kernel, lw_m (lt2 (List.mem_of_getElem? (i := 121) rfl)) rfl⟩
theorem fl_X4_15 : sm_F RX4 15 4 6 2 := ⟨by decide, _, _, _, rfl, by decide, by decide +kernel, lw_m (lt2 (List.mem_of_getElem? (i := 123) rfl)) rfl⟩
theorem fl_X4_18 : sm_F RX4 18 4 7 2 := ⟨by decide, _, _, _, rfl, by decide, by decide +kernel, lw_m (lt2 (List.mem_of_getElem? (i := 125) rfl)) rfl⟩
theorem fl_X4_21 : sm_F RX4 21 4 8 2 := ⟨by decide, _, _, _, rfl, by decide, by decide +kernel, lw_m (lt2 (List.mem_of_getElem? (i := 127) rfl)) rfl⟩
theorem fl_X4_24 : sm_F RX4 24 4 9 2 := ⟨by decide, _, _, _, rfl, by decide, by decide +kernel, lw_m (lt2 (List.mem_of_getElem? (i := 129) rfl)) rfl⟩
theorem fl_X4_27 : sm_F RX4 27 4 0 0 := ⟨by decide, _, _, _, rfl, by decide, by decide +kernel, lw_m (lt2 (List.mem_of_getElem? (i := 111) rfl)) rfl⟩
theorem fl_X4_31 : sm_F RX4 31 4 1 0 := ⟨by decide, _, _, _, rfl, by decide, by decide +kernel, lw_m (lt2 (List.mem_of_getElem? (i := 113) rfl)) rfl⟩
theorem fl_X4_34 : sm_F RX4 34 4 2 0 := ⟨by decide, _, _, _, rfl, by decide, by decide +kernel, lw_m (lt2 (List.mem_of_getElem? (i := 115) rfl)) rfl⟩
theorem fl_X4_37 : sm_F RX4 37 4 3 0 := ⟨by decide, _, _, _, rfl, by decide, by decide +kernel, lw_m (lt2 (List.mem_of_getElem? (i := 117) rfl)) rfl⟩
theorem fl_X4_40 : sm_F RX4 40 4 4 0 := ⟨by decide, _, _, _, rfl, by decide, by decide +kernel, lw_m (lt2 (List.mem_of_getElem? (i := 119) rfl)) rfl⟩
theorem fl_X5_13 : sm_F RX5 13 5 4 2 := ⟨by decide, _, _, _, rfl, by decide, by decide +kernel, lw_m (lt2 (List.mem_of_getElem? (i := 59) rfl)) rfl⟩
theorem fl_X5_17 : sm_F RX5 17 5 5 2 := ⟨by decide, _, _, _, rfl, by decide, by decide +kernel, lw_m (lt2 (List.mem_of_getElem? (i := 60) rfl)) rfl⟩
theorem fl_X5_21 : sm_F RX5 21 5 6 2 := ⟨by decide, _, _, _, rfl, by decide, by decide +kernel, lw_m (lt2 (List.mem_of_getElem? (i := 61) rfl)) rfl⟩
theorem fl_X5_24 : sm_F RX5 24 5 8 0 := ⟨by decide, _, _, _, rfl, by decide, by decide +kernel, lw_m (lt2 (List.mem_of_getElem? (i := 63) rfl)) rfl⟩
theorem fl_X5_28 : sm_F RX5 28 5 3 2 := ⟨by decide, _, _, _, rfl, by decide, by decide +kernel, lw_m (lt2 (List.mem_of_getElem? (i := 58) rfl)) rfl⟩
theorem fl_X5_32 : sm_F RX5 32 5 2 2 := ⟨by decide, _, _, _, rfl, by decide, by decide +kernel, lw_m (lt2 (List.mem_of_getElem? (i := 57) rfl)) rfl⟩
theorem fl_X5_39 : sm_F RX5 39 7 5 0 := ⟨by decide, _, _, _, rfl, by decide, by decide +kernel, lw_m (lt1 (List.mem_of_getElem? (i := 69) rfl)) rfl⟩
theorem fl_X5_58 : sm_F RX5 58 5 7 0 := ⟨by decide, _, _, _, rfl, by decide, by decide +kernel, lw_m (lt2 (List.mem_of_getElem? (i := 62) rfl)) rfl⟩
theorem fl_X5_61 : sm_F RX5 61 5 0 0 := ⟨by decide, _, _, _, rfl, by decide, by decide +kernel, lw_m (lt2 (List.mem_of_getElem? (i := 53) rfl)) rfl⟩
theorem fl_X5_64 : sm_F RX5 64 5 1 0 := ⟨by decide, _, _, _, rfl, by decide, by decide +kernel, lw_m (lt2 (List.mem_of_getElem? (i := 55) rfl)) rfl⟩
theorem fl_X6_101 : sm_F RX6 101 7 2 0 := ⟨by decide, _, _, _, rfl, by decide, by decide +kernel, lw_m (lt1 (List.mem_of_getElem? (i := 54) rfl)) rfl⟩
theorem fl_X6_104 : sm_F RX6 104 7 4 0 := ⟨by decide, _, _, _, rfl, by decide, by decide +kernel, lw_m (lt1 (List.mem_of_getElem? (i := 64) rfl)) rfl⟩
theorem fl_X6_107 : sm_F RX6 107 7 8 2 := ⟨by decide, _, _, _, rfl, by decide, by decide +kernel, lw_m (lt1 (List.mem_of_getElem? (i := 79) rfl)) rfl⟩
theorem fl_X6_113 : sm_F RX6 113 6 8 0 := ⟨by decide, _, _, _, rfl, by decide, by decide +kernel, lw_m (lt1 (List.mem_of_getElem? (i := 160) rfl)) rfl⟩
theorem fl_X6_119 : sm_F RX6 119 7 9 2 := ⟨by decide, _, _, _, rfl, by decide, by decide +kernel, lw_m (lt1 (List.mem_of_getElem? (i := 84) rfl)) rfl⟩
theorem fl_X6_12 : sm_F RX6 12 6 0 2 := ⟨by decide, _, _, _, rfl, by decide, by decide +kernel, lw_m (lt1 (List.mem_of_getElem? (i := 149) rfl)) rfl⟩
theorem fl_X6_125 : sm_F RX6 125 7 10 2 := ⟨by decide, _, _, _, rfl, by decide, by decide +kernel, lw_m (lt1 (List.mem_of_getElem? (i := 89) rfl)) rfl⟩
theorem fl_X6_129 : sm_F RX6 129 7 11 2 := ⟨by decide, _, _, _, rfl, by decide, by decide +kernel, lw_m (lt1 (List.mem_of_getElem? (i := 93) rfl)) rfl⟩
theorem fl_X6_135 : sm_F RX6 135 7 12 2 := ⟨by decide, _, _, _, rfl, by decide, by decide +kernel, lw_m (lt1 (List.mem_of_getElem? (i := 96) rfl)) rfl⟩
theorem fl_X6_137 : sm_F RX6 137 7 5 0 := ⟨by decide, _, _, _, rfl, by decide, by decide +kernel, lw_m (lt1 (List.mem_of_getElem? (i := 71) rfl)) rfl⟩
theorem fl_X6_140 : sm_F RX6 140 7 13 2 := ⟨by decide, _, _, _, rfl, by decide, by decide +kernel, lw_m (lt1 (List.mem_of_getElem? (i := 101) rfl)) rfl⟩
theorem fl_X6_144 : sm_F RX6 144 7 14 2 := ⟨by decide, _, _, _, rfl, by decide, by decide +kernel, lw_m (lt1 (List.mem_of_getElem? (i := 104) rfl)) rfl⟩
theorem fl_X6_148 : sm_F RX6 148 7 15 2 := ⟨by decide, _, _, _, rfl, by decide, by decide +kernel, lw_m (lt1 (List.mem_of_getElem? (i := 107) rfl)) rfl⟩
theorem fl_X6_152 : sm_F RX6 152 7 6 0 := ⟨by decide, _, _, _, rfl, by decide, by decide +kernel, lw_m (lt1 (List.mem_of_getElem? (i := 75) rfl)) rfl⟩
theorem fl_X6_159 : sm_F RX6 159 7 7 0 := ⟨by decide, _, _, _, rfl, by decide, by decide +kernel, lw_m (lt1 (List.mem_of_getElem? (i := 77) rfl)) rfl⟩
theorem fl_X6_164 : sm_F RX6 164 7 16 2 := ⟨by decide, _, _, _, rfl, by decide, by decide +kernel, lw_m (lt1 (List.mem_of_getElem? (i := 109) rfl)) rfl⟩
theorem fl_X6_173 : sm_F RX6 173 6 5 0 := ⟨by decide, _, _, _, rfl, by decide, by decide +kernel, lw_m (lt1 (List.mem_of_getElem? (i := 157) rfl)) rfl⟩
theorem fl_X6_18 : sm_F RX6 18 6 3 3 := ⟨by decide, _, _, _, rfl, by decide, by decide +kernel, lw_m (lt1 (List.mem_of_getElem? (i := 155) rfl)) rfl⟩
theorem fl_X6_28 : sm_F RX6 28 6 4 0 := ⟨by decide, _, _, _, rfl, by decide, by decide +kernel, lw_m (lt1 (List.mem_of_getElem? (i := 156) rfl)) rfl⟩
theorem fl_X6_35 : sm_F RX6 35 6 1 0 := ⟨by decide, _, _, _, rfl, by decide, by decide +kernel, lw_m (lt1 (List.mem_of_getElem? (i := 151) rfl)) rfl⟩
theorem fl_X6_41 : sm_F RX6 41 6 6 0 := ⟨by decide, _, _, _, rfl, by decide, by decide +kernel, lw_m (lt1 (List.mem_of_getElem? (i := 158) rfl)) rfl⟩
theorem fl_X6_44 : sm_F RX6 44 6 9 0 := ⟨by decide, _, _, _, rfl, by decide, by decide +kernel, lw_m (lt1 (List.mem_of_getElem? (i := 161) rfl)) rfl⟩
theorem fl_X6_47 : sm_F RX6 47 6 10 4 := ⟨by decide, _, _, _, rfl, by decide, by decide +kernel, lw_m (lt1 (List.mem_of_getElem? (i := 162) rfl)) rfl⟩
theorem fl_X6_54 : sm_F RX6 54 6 7 0 := ⟨by decide, _, _, _, rfl, by decide, by decide +kernel, lw_m (lt1 (List.mem_of_getElem? (i := 159) rfl)) rfl⟩
theorem fl_X6_60 : sm_F RX6 60 7 0 0 := ⟨by decide, _, _, _, rfl, by decide, by decide +kernel, lw_m (lt1 (List.mem_of_getElem? (i := 43) rfl)) rfl⟩
theorem fl_X6_97 : sm_F RX6 97 7 1 0 := ⟨by decide, _, _, _, rfl, by decide, by decide +kernel, lw_m (lt1 (List.mem_of_getElem? (i := 49) rfl)) rfl⟩
theorem fl_X7_15 : sm_F RX7 15 7 9 2 := ⟨by decide, _, _, _, rfl, by decide, by decide +kernel, lw_m (lt1 (List.mem_of_getElem? (i := 82) rfl)) rfl⟩
theorem fl_X7_18 : sm_F RX7 18 7 10 2 := ⟨by decide, _, _, _, rfl, by decide, by decide +kernel, lw_m (lt1 (List.mem_of_getElem? (i := 87) rfl)) rfl⟩
theorem fl_X7_21 : sm_F RX7 21 7 11 2 := ⟨by decide, _, _, _, rfl, by decide, by decide +kernel, lw_m (lt1 (List.mem_of_getElem? (i := 91) rfl)) rfl⟩
theorem fl_X7_24 : sm_F RX7 24 7 12 2 := ⟨by decide, _, _, _, rfl, by decide, by decide +kernel, lw_m (lt1 (List.mem_of_getElem? (i := 94) rfl)) rfl⟩
theorem fl_X7_27 : sm_F RX7 27 7 13 2 := ⟨by decide, _, _, _, rfl, by decide, by decide +kernel, lw_m (lt1 (List.mem_of_getElem? (i := 99) rfl)) rfl⟩
theorem fl_X7_30 : sm_F RX7 30 7 14 2 := ⟨by decide, _, _, _, rfl, by decide, by decide +kernel, lw_m (lt1 (List.mem_of_getElem? (i := 103) rfl)) rfl⟩
theorem fl_X7_33 : sm_F RX7 33 7 15 2 := ⟨by decide, _, _, _, rfl, by decide, by decide +kernel, lw_m (lt1 (List.mem_of_getElem? (i := 106) rfl)) rfl⟩
theorem fl_X7_36 : sm_F RX7 36 7 16 2 := ⟨by decide, _, _, _, rfl, by decide, by decide +kernel, lw_m (lt1 (List.mem_of_getElem? (i := 108) rfl)) rfl⟩
theorem fl_X7_39 : sm_F RX7 39 7 0 0 := ⟨by decide, _, _, _, rfl, by decide, by decide +kernel, lw_m (lt1 (List.mem_of_getElem? (i := 42) rfl)) rfl⟩
theorem fl_X7_43 : sm_F RX7 43 7 1 0 := ⟨by decide, _, _, _, rfl, by decide, by decide +kernel, lw_m (lt1 (List.mem_of_getElem? (i := 46) rfl)) rfl⟩
theorem fl_X7_46 : sm_F RX7 46 7 2 0 := ⟨by decide, _, _, _, rfl, by decide, by decide +kernel, lw_m (lt1 (List.mem_of_getElem? (i := 53) rfl)) rfl⟩
theorem fl_X7_49 : sm_F RX7 49 7 3 0 := ⟨by decide, _, _, _, rfl, by decide, by decide +kernel, lw_m (lt1 (List.mem_of_getElem? (i := 56) rfl)) rfl⟩
theorem fl_X7_52 : sm_F RX7 52 7 4 0 := ⟨by decide, _, _, _, rfl, by decide, by decide +kernel, lw_m (lt1 (List.mem_of_getElem? (i := 59) rfl)) rfl⟩
theorem fl_X7_55 : sm_F RX7 55 7 5 0 := ⟨by decide, _, _, _, rfl, by decide, by decide +kernel, lw_m (lt1 (List.mem_of_getElem? (i := 67) rfl)) rfl⟩
theorem fl_X7_58 : sm_F RX7 58 7 6 0 := ⟨by decide, _, _, _, rfl, by decide, by decide +kernel, lw_m (lt1 (List.mem_of_getElem? (i := 74) rfl)) rfl⟩
theorem fl_X7_61 : sm_F RX7 61 7 7 0 := ⟨by decide, _, _, _, rfl, by decide, by decide +kernel, lw_m (lt1 (List.mem_of_getElem? (i := 76) rfl)) rfl⟩
theorem fl_X7_9 : sm_F RX7 9 7 8 2 := ⟨by decide, _, _, _, rfl, by decide, by decide +kernel, lw_m (lt1 (List.mem_of_getElem? (i := 78) rfl)) rfl⟩
theorem fl_X8_19 : sm_F RX8 19 8 1 0 := ⟨by decide, _, _, _, rfl, by decide, by decide +kernel, lw_m (lt2 (List.mem_of_getElem? (i := 187) rfl)) rfl⟩
theorem fl_X8_23 : sm_F RX8 23 8 2 0 := ⟨by decide, _, _, _, rfl, by decide, by decide +kernel, lw_m (lt2 (List.mem_of_getElem? (i := 189) rfl)) rfl⟩
theorem fl_X8_9 : sm_F RX8 9 8 3 2 := ⟨by decide, _, _, _, rfl, by decide, by decide +kernel, lw_m (lt2 (List.mem_of_getElem? (i := 191) rfl)) rfl⟩
theorem fl_X9_15 : sm_F RX9 15 9 3 2 := ⟨by decide, _, _, _, rfl, by decide, by decide +kernel, lw_m (lt1 (List.mem_of_getElem? (i := 209) rfl)) rfl⟩
theorem fl_X9_18 : sm_F RX9 18 9 4 2 := ⟨by decide, _, _, _, rfl, by decide, by decide +kernel, lw_m (lt1 (List.mem_of_getElem? (i := 211) rfl)) rfl⟩
theorem fl_X9_21 : sm_F RX9 21 9 0 2 := ⟨by decide, _, _, _, rfl, by decide, by decide +kernel, lw_m (lt1 (List.mem_of_getElem? (i := 197) rfl)) rfl⟩
theorem fl_X9_31 : sm_F RX9 31 9 1 0 := ⟨by decide, _, _, _, rfl, by decide, by decide +kernel, lw_m (lt1 (List.mem_of_getElem? (i := 202) rfl)) rfl⟩
theorem fl_X9_41 : sm_F RX9 41 7 11 2 := ⟨by decide, _, _, _, rfl, by decide, by decide +kernel, lw_m (lt1 (List.mem_of_getElem? (i := 92) rfl)) rfl⟩
theorem fl_X9_46 : sm_F RX9 46 7 10 2 := ⟨by decide, _, _, _, rfl, by decide, by decide +kernel, lw_m (lt1 (List.mem_of_getElem? (i := 88) rfl)) rfl⟩
theorem fl_X9_49 : sm_F RX9 49 7 4 0 := ⟨by decide, _, _, _, rfl, by decide, by decide +kernel, lw_m (lt1 (List.mem_of_getElem? (i := 65) rfl)) rfl⟩
theorem fl_X9_56 : sm_F RX9 56 7 12 2 := ⟨by decide, _, _, _, rfl, by decide, by decide +kernel, lw_m (lt1 (List.mem_of_getElem? (i := 97) rfl)) rfl⟩
theorem fl_X9_73 : sm_F RX9 73 7 5 0 := ⟨by decide, _, _, _, rfl, by decide, by decide +kernel, lw_m (lt1 (List.mem_of_getElem? (i := 72) rfl)) rfl⟩
theorem fl_X9_76 : sm_F RX9 76 7 16 2 := ⟨by decide, _, _, _, rfl, by decide, by decide +kernel, lw_m (lt1 (List.mem_of_getElem? (i := 111) rfl)) rfl⟩
theorem fl_X9_89 : sm_F RX9 89 7 13 2 := ⟨by decide, _, _, _, rfl, by decide, by decide +kernel, lw_m (lt1 (List.mem_of_getElem? (i := 102) rfl)) rfl⟩
theorem fl_X9_9 : sm_F RX9 9 9 2 2 := ⟨by decide, _, _, _, rfl, by decide, by decide +kernel, lw_m (lt1 (List.mem_of_getElem? (i := 204) rfl)) rfl⟩
theorem fl_X9_96 : sm_F RX9 96 7 14 2 := ⟨by decide, _, _, _, rfl, by decide, by decide +kernel, lw_m (lt1 (List.mem_of_getElem? (i := 105) rfl)) rfl⟩
theorem fl_X10_106 : sm_F RX10 106 3 2 2 := ⟨by decide, _, _, _, rfl, by decide, by decide +kernel, lw_m (lt1 (List.mem_of_getElem? (i := 238) rfl)) rfl⟩
theorem fl_X10_114 : sm_F RX10 114 9 2 2 := ⟨by decide, _, _, _, rfl, by decide, by decide +kernel, lw_m (lt1 (List.mem_of_getElem? (i := 208) rfl)) rfl⟩
theorem fl_X10_15 : sm_F RX10 15 10 3 2 := ⟨by decide, _, _, _, rfl, by decide, by decide +kernel, lw_m (lt2 (List.mem_of_getElem? (i := 18) rfl)) rfl⟩
theorem fl_X10_18 : sm_F RX10 18 10 4 2 := ⟨by decide, _, _, _, rfl, by decide, by decide +kernel, lw_m (lt2 (List.mem_of_getElem? (i := 19) rfl)) rfl⟩
theorem fl_X10_21 : sm_F RX10 21 10 5 2 := ⟨by decide, _, _, _, rfl, by decide, by decide +kernel, lw_m (lt2 (List.mem_of_getElem? (i := 20) rfl)) rfl⟩
theorem fl_X10_24 : sm_F RX10 24 10 2 2 := ⟨by decide, _, _, _, rfl, by decide, by decide +kernel, lw_m (lt2 (List.mem_of_getElem? (i := 16) rfl)) rfl⟩
theorem fl_X10_28 : sm_F RX10 28 10 1 0 := ⟨by decide, _, _, _, rfl, by decide, by decide +kernel, lw_m (lt2 (List.mem_of_getElem? (i := 15) rfl)) rfl⟩
theorem fl_X10_32 : sm_F RX10 32 9 0 2 := ⟨by decide, _, _, _, rfl, by decide, by decide +kernel, lw_m (lt1 (List.mem_of_getElem? (i := 199) rfl)) rfl⟩
theorem fl_X10_38 : sm_F RX10 38 7 1 0 := ⟨by decide, _, _, _, rfl, by decide, by decide +kernel, lw_m (lt1 (List.mem_of_getElem? (i := 47) rfl)) rfl⟩
theorem fl_X10_47 : sm_F RX10 47 3 0 2 := ⟨by decide, _, _, _, rfl, by decide, by decide +kernel, lw_m (lt1 (List.mem_of_getElem? (i := 232) rfl)) rfl⟩
theorem fl_X10_52 : sm_F RX10 52 3 1 2 := ⟨by decide, _, _, _, rfl, by decide, by decide +kernel, lw_m (lt1 (List.mem_of_getElem? (i := 235) rfl)) rfl⟩
theorem fl_X10_71 : sm_F RX10 71 7 4 0 := ⟨by decide, _, _, _, rfl, by decide, by decide +kernel, lw_m (lt1 (List.mem_of_getElem? (i := 62) rfl)) rfl⟩
theorem fl_X10_87 : sm_F RX10 87 7 5 0 := ⟨by decide, _, _, _, rfl, by decide, by decide +kernel, lw_m (lt1 (List.mem_of_getElem? (i := 70) rfl)) rfl⟩
theorem fl_X10_9 : sm_F RX10 9 10 0 2 := ⟨by decide, _, _, _, rfl, by decide, by decide +kernel, lw_m (lt2 (List.mem_of_getElem? (i := 12) rfl)) rfl⟩
theorem fl_X10_90 : sm_F RX10 90 7 13 2 := ⟨by decide, _, _, _, rfl, by decide, by decide +kernel, lw_m (lt1 (List.mem_of_getElem? (i := 100) rfl)) rfl⟩
theorem fl_X11_101 : sm_F RX11 101 11 16 2 := ⟨by decide, _, _, _, rfl, by decide, by decide +kernel, lw_m (lt2 (List.mem_of_getElem? (i := 220) rfl)) rfl⟩
theorem fl_X11_105 : sm_F RX11 105 11 17 2 := ⟨by decide, _, _, _, rfl, by decide, by decide +kernel, lw_m (lt2 (List.mem_of_getElem? (i := 221) rfl)) rfl⟩
theorem fl_X11_110 : sm_F RX11 110 11 1 0 := ⟨by decide, _, _, _, rfl, by decide, by decide +kernel, lw_m (lt2 (List.mem_of_getElem? (i := 205) rfl)) rfl⟩
theorem fl_X11_121 : sm_F RX11 121 6 1 0 := ⟨by decide, _, _, _, rfl, by decide, by decide +kernel, lw_m (lt1 (List.mem_of_getElem? (i := 152) rfl)) rfl⟩
theorem fl_X11_124 : sm_F RX11 124 11 2 0 := ⟨by decide, _, _, _, rfl, by decide, by decide +kernel, lw_m (lt2 (List.mem_of_getElem? (i := 206) rfl)) rfl⟩
theorem fl_X11_127 : sm_F RX11 127 6 2 0 := ⟨by decide, _, _, _, rfl, by decide, by decide +kernel, lw_m (lt1 (List.mem_of_getElem? (i := 154) rfl)) rfl⟩
theorem fl_X11_13 : sm_F RX11 13 11 3 0 := ⟨by decide, _, _, _, rfl, by decide, by decide +kernel, lw_m (lt2 (List.mem_of_getElem? (i := 207) rfl)) rfl⟩
theorem fl_X11_130 : sm_F RX11 130 6 0 2 := ⟨by decide, _, _, _, rfl, by decide, by decide +kernel, lw_m (lt1 (List.mem_of_getElem? (i := 150) rfl)) rfl⟩
theorem fl_X11_143 : sm_F RX11 143 7 0 0 := ⟨by decide, _, _, _, rfl, by decide, by decide +kernel, lw_m (lt1 (List.mem_of_getElem? (i := 44) rfl)) rfl⟩
theorem fl_X11_150 : sm_F RX11 150 7 8 2 := ⟨by decide, _, _, _, rfl, by decide, by decide +kernel, lw_m (lt1 (List.mem_of_getElem? (i := 81) rfl)) rfl⟩
theorem fl_X11_154 : sm_F RX11 154 7 9 2 := ⟨by decide, _, _, _, rfl, by decide, by decide +kernel, lw_m (lt1 (List.mem_of_getElem? (i := 86) rfl)) rfl⟩
theorem fl_X11_161 : sm_F RX11 161 9 2 2 := ⟨by decide, _, _, _, rfl, by decide, by decide +kernel, lw_m (lt1 (List.mem_of_getElem? (i := 207) rfl)) rfl⟩
theorem fl_X11_170 : sm_F RX11 170 9 3 2 := ⟨by decide, _, _, _, rfl, by decide, by decide +kernel, lw_m (lt1 (List.mem_of_getElem? (i := 210) rfl)) rfl⟩
theorem fl_X11_176 : sm_F RX11 176 9 4 2 := ⟨by decide, _, _, _, rfl, by decide, by decide +kernel, lw_m (lt1 (List.mem_of_getElem? (i := 212) rfl)) rfl⟩
theorem fl_X11_178 : sm_F RX11 178 7 16 2 := ⟨by decide, _, _, _, rfl, by decide, by decide +kernel, lw_m (lt1 (List.mem_of_getElem? (i := 110) rfl)) rfl⟩
theorem fl_X11_20 : sm_F RX11 20 11 4 2 := ⟨by decide, _, _, _, rfl, by decide, by decide +kernel, lw_m (lt2 (List.mem_of_getElem? (i := 208) rfl)) rfl⟩
theorem fl_X11_204 : sm_F RX11 204 9 1 0 := ⟨by decide, _, _, _, rfl, by decide, by decide +kernel, lw_m (lt1 (List.mem_of_getElem? (i := 203) rfl)) rfl⟩
theorem fl_X11_221 : sm_F RX11 221 10 0 2 := ⟨by decide, _, _, _, rfl, by decide, by decide +kernel, lw_m (lt2 (List.mem_of_getElem? (i := 14) rfl)) rfl⟩
theorem fl_X11_231 : sm_F RX11 231 8 0 4 := ⟨by decide, _, _, _, rfl, by decide, by decide +kernel, lw_m (lt2 (List.mem_of_getElem? (i := 186) rfl)) rfl⟩
theorem fl_X11_242 : sm_F RX11 242 8 2 0 := ⟨by decide, _, _, _, rfl, by decide, by decide +kernel, lw_m (lt2 (List.mem_of_getElem? (i := 190) rfl)) rfl⟩
theorem fl_X11_245 : sm_F RX11 245 8 3 2 := ⟨by decide, _, _, _, rfl, by decide, by decide +kernel, lw_m (lt2 (List.mem_of_getElem? (i := 192) rfl)) rfl⟩
theorem fl_X11_253 : sm_F RX11 253 7 5 0 := ⟨by decide, _, _, _, rfl, by decide, by decide +kernel, lw_m (lt1 (List.mem_of_getElem? (i := 73) rfl)) rfl⟩
theorem fl_X11_27 : sm_F RX11 27 11 5 2 := ⟨by decide, _, _, _, rfl, by decide, by decide +kernel, lw_m (lt2 (List.mem_of_getElem? (i := 209) rfl)) rfl⟩
theorem fl_X11_287 : sm_F RX11 287 5 1 0 := ⟨by decide, _, _, _, rfl, by decide, by decide +kernel, lw_m (lt2 (List.mem_of_getElem? (i := 56) rfl)) rfl⟩
theorem fl_X11_290 : sm_F RX11 290 5 0 0 := ⟨by decide, _, _, _, rfl, by decide, by decide +kernel, lw_m (lt2 (List.mem_of_getElem? (i := 54) rfl)) rfl⟩
theorem fl_X11_310 : sm_F RX11 310 7 1 0 := ⟨by decide, _, _, _, rfl, by decide, by decide +kernel, lw_m (lt1 (List.mem_of_getElem? (i := 52) rfl)) rfl⟩
theorem fl_X11_345 : sm_F RX11 345 7 2 0 := ⟨by decide, _, _, _, rfl, by decide, by decide +kernel, lw_m (lt1 (List.mem_of_getElem? (i := 55) rfl)) rfl⟩
theorem fl_X11_36 : sm_F RX11 36 11 6 2 := ⟨by decide, _, _, _, rfl, by decide, by decide +kernel, lw_m (lt2 (List.mem_of_getElem? (i := 210) rfl)) rfl⟩
theorem fl_X11_362 : sm_F RX11 362 7 3 0 := ⟨by decide, _, _, _, rfl, by decide, by decide +kernel, lw_m (lt1 (List.mem_of_getElem? (i := 58) rfl)) rfl⟩
theorem fl_X11_374 : sm_F RX11 374 7 4 0 := ⟨by decide, _, _, _, rfl, by decide, by decide +kernel, lw_m (lt1 (List.mem_of_getElem? (i := 66) rfl)) rfl⟩
theorem fl_X11_396 : sm_F RX11 396 7 12 2 := ⟨by decide, _, _, _, rfl, by decide, by decide +kernel, lw_m (lt1 (List.mem_of_getElem? (i := 98) rfl)) rfl⟩
theorem fl_X11_40 : sm_F RX11 40 11 7 2 := ⟨by decide, _, _, _, rfl, by decide, by decide +kernel, lw_m (lt2 (List.mem_of_getElem? (i := 211) rfl)) rfl⟩
theorem fl_X11_446 : sm_F RX11 446 8 1 0 := ⟨by decide, _, _, _, rfl, by decide, by decide +kernel, lw_m (lt2 (List.mem_of_getElem? (i := 188) rfl)) rfl⟩
theorem fl_X11_46 : sm_F RX11 46 11 8 2 := ⟨by decide, _, _, _, rfl, by decide, by decide +kernel, lw_m (lt2 (List.mem_of_getElem? (i := 212) rfl)) rfl⟩
theorem fl_X11_55 : sm_F RX11 55 11 9 2 := ⟨by decide, _, _, _, rfl, by decide, by decide +kernel, lw_m (lt2 (List.mem_of_getElem? (i := 213) rfl)) rfl⟩
theorem fl_X11_64 : sm_F RX11 64 11 10 2 := ⟨by decide, _, _, _, rfl, by decide, by decide +kernel, lw_m (lt2 (List.mem_of_getElem? (i := 214) rfl)) rfl⟩
theorem fl_X11_73 : sm_F RX11 73 11 11 2 := ⟨by decide, _, _, _, rfl, by decide, by decide +kernel, lw_m (lt2 (List.mem_of_getElem? (i := 215) rfl)) rfl⟩
theorem fl_X11_80 : sm_F RX11 80 11 12 2 := ⟨by decide, _, _, _, rfl, by decide, by decide +kernel, lw_m (lt2 (List.mem_of_getElem? (i := 216) rfl)) rfl⟩
theorem fl_X11_87 : sm_F RX11 87 11 13 2 := ⟨by decide, _, _, _, rfl, by decide, by decide +kernel, lw_m (lt2 (List.mem_of_getElem? (i := 217) rfl)) rfl⟩
theorem fl_X11_9 : sm_F RX11 9 11 0 2 := ⟨by decide, _, _, _, rfl, by decide, by decide +kernel, lw_m (lt2 (List.mem_of_getElem? (i := 204) rfl)) rfl⟩
theorem fl_X11_93 : sm_F RX11 93 11 14 2 := ⟨by decide, _, _, _, rfl, by decide, by decide +kernel, lw_m (lt2 (List.mem_of_getElem? (i := 218) rfl)) rfl⟩
theorem fl_X11_97 : sm_F RX11 97 11 15 2 := ⟨by decide, _, _, _, rfl, by decide, by decide +kernel, lw_m (lt2 (List.mem_of_getElem? (i := 219) rfl)) rfl⟩
theorem fl_X12_115 : sm_F RX12 115 12 5 0 := ⟨by decide, _, _, _, rfl, by decide, by decide +kernel, lw_m (lt6 (List.mem_of_getElem? (i := 151) rfl)) rfl⟩
theorem fl_X12_118 : sm_F RX12 118 12 7 0 := ⟨by decide, _, _, _, rfl, by decide, by decide +kernel, lw_m (lt6 (List.mem_of_getElem? (i := 153) rfl)) rfl⟩
theorem fl_X12_121 : sm_F RX12 121 12 8 0 := ⟨by decide, _, _, _, rfl, by decide, by decide +kernel, lw_m (lt6 (List.mem_of_getElem? (i := 154) rfl)) rfl⟩
theorem fl_X12_128 : sm_F RX12 128 12 9 0 := ⟨by decide, _, _, _, rfl, by decide, by decide +kernel, lw_m (lt6 (List.mem_of_getElem? (i := 155) rfl)) rfl⟩
theorem fl_X12_13 : sm_F RX12 13 12 2 2 := ⟨by decide, _, _, _, rfl, by decide, by decide +kernel, lw_m (lt6 (List.mem_of_getElem? (i := 148) rfl)) rfl⟩
theorem fl_X12_131 : sm_F RX12 131 12 10 0 := ⟨by decide, _, _, _, rfl, by decide, by decide +kernel, lw_m (lt6 (List.mem_of_getElem? (i := 156) rfl)) rfl⟩
theorem fl_X12_142 : sm_F RX12 142 12 11 0 := ⟨by decide, _, _, _, rfl, by decide, by decide +kernel, lw_m (lt6 (List.mem_of_getElem? (i := 157) rfl)) rfl⟩
theorem fl_X12_152 : sm_F RX12 152 12 12 0 := ⟨by decide, _, _, _, rfl, by decide, by decide +kernel, lw_m (lt6 (List.mem_of_getElem? (i := 158) rfl)) rfl⟩
theorem fl_X12_16 : sm_F RX12 16 12 3 2 := ⟨by decide, _, _, _, rfl, by decide, by decide +kernel, lw_m (lt6 (List.mem_of_getElem? (i := 149) rfl)) rfl⟩
theorem fl_X12_20 : sm_F RX12 20 12 4 2 := ⟨by decide, _, _, _, rfl, by decide, by decide +kernel, lw_m (lt6 (List.mem_of_getElem? (i := 150) rfl)) rfl⟩
theorem fl_X12_24 : sm_F RX12 24 12 6 2 := ⟨by decide, _, _, _, rfl, by decide, by decide +kernel, lw_m (lt6 (List.mem_of_getElem? (i := 152) rfl)) rfl⟩
theorem fl_X12_27 : sm_F RX12 27 12 13 0 := ⟨by decide, _, _, _, rfl, by decide, by decide +kernel, lw_m (lt6 (List.mem_of_getElem? (i := 159) rfl)) rfl⟩
theorem fl_X12_297 : sm_F RX12 297 12 19 0 := ⟨by decide, _, _, _, rfl, by decide, by decide +kernel, lw_m (lt6 (List.mem_of_getElem? (i := 165) rfl)) rfl⟩
theorem fl_X12_31 : sm_F RX12 31 12 14 2 := ⟨by decide, _, _, _, rfl, by decide, by decide +kernel, lw_m (lt6 (List.mem_of_getElem? (i := 160) rfl)) rfl⟩
theorem fl_X12_329 : sm_F RX12 329 12 21 0 := ⟨by decide, _, _, _, rfl, by decide, by decide +kernel, lw_m (lt6 (List.mem_of_getElem? (i := 167) rfl)) rfl⟩
theorem fl_X12_34 : sm_F RX12 34 12 15 2 := ⟨by decide, _, _, _, rfl, by decide, by decide +kernel, lw_m (lt6 (List.mem_of_getElem? (i := 161) rfl)) rfl⟩
theorem fl_X12_37 : sm_F RX12 37 12 16 2 := ⟨by decide, _, _, _, rfl, by decide, by decide +kernel, lw_m (lt6 (List.mem_of_getElem? (i := 162) rfl)) rfl⟩
theorem fl_X12_372 : sm_F RX12 372 12 22 0 := ⟨by decide, _, _, _, rfl, by decide, by decide +kernel, lw_m (lt6 (List.mem_of_getElem? (i := 168) rfl)) rfl⟩
theorem fl_X12_375 : sm_F RX12 375 12 23 0 := ⟨by decide, _, _, _, rfl, by decide, by decide +kernel, lw_m (lt6 (List.mem_of_getElem? (i := 169) rfl)) rfl⟩
theorem fl_X12_378 : sm_F RX12 378 12 24 0 := ⟨by decide, _, _, _, rfl, by decide, by decide +kernel, lw_m (lt6 (List.mem_of_getElem? (i := 170) rfl)) rfl⟩
theorem fl_X12_381 : sm_F RX12 381 12 25 0 := ⟨by decide, _, _, _, rfl, by decide, by decide +kernel, lw_m (lt6 (List.mem_of_getElem? (i := 171) rfl)) rfl⟩
theorem fl_X12_40 : sm_F RX12 40 12 17 2 := ⟨by decide, _, _, _, rfl, by decide, by decide +kernel, lw_m (lt6 (List.mem_of_getElem? (i := 163) rfl)) rfl⟩
theorem fl_X12_405 : sm_F RX12 405 12 27 0 := ⟨by decide, _, _, _, rfl, by decide, by decide +kernel, lw_m (lt6 (List.mem_of_getElem? (i := 173) rfl)) rfl⟩
theorem fl_X12_411 : sm_F RX12 411 12 31 0 := ⟨by decide, _, _, _, rfl, by decide, by decide +kernel, lw_m (lt6 (List.mem_of_getElem? (i := 177) rfl)) rfl⟩
theorem fl_X12_414 : sm_F RX12 414 12 30 0 := ⟨by decide, _, _, _, rfl, by decide, by decide +kernel, lw_m (lt6 (List.mem_of_getElem? (i := 176) rfl)) rfl⟩
theorem fl_X12_43 : sm_F RX12 43 12 18 2 := ⟨by decide, _, _, _, rfl, by decide, by decide +kernel, lw_m (lt6 (List.mem_of_getElem? (i := 164) rfl)) rfl⟩
theorem fl_X12_432 : sm_F RX12 432 12 35 0 := ⟨by decide, _, _, _, rfl, by decide, by decide +kernel, lw_m (lt6 (List.mem_of_getElem? (i := 181) rfl)) rfl⟩
theorem fl_X12_46 : sm_F RX12 46 12 20 2 := ⟨by decide, _, _, _, rfl, by decide, by decide +kernel, lw_m (lt6 (List.mem_of_getElem? (i := 166) rfl)) rfl⟩
theorem fl_X12_49 : sm_F RX12 49 12 26 2 := ⟨by decide, _, _, _, rfl, by decide, by decide +kernel, lw_m (lt6 (List.mem_of_getElem? (i := 172) rfl)) rfl⟩
theorem fl_X12_52 : sm_F RX12 52 12 28 2 := ⟨by decide, _, _, _, rfl, by decide, by decide +kernel, lw_m (lt6 (List.mem_of_getElem? (i := 174) rfl)) rfl⟩
theorem fl_X12_522 : sm_F RX12 522 12 42 1 := ⟨by decide, _, _, _, rfl, by decide, by decide +kernel, lw_m (lt6 (List.mem_of_getElem? (i := 188) rfl)) rfl⟩
theorem fl_X12_55 : sm_F RX12 55 12 29 2 := ⟨by decide, _, _, _, rfl, by decide, by decide +kernel, lw_m (lt6 (List.mem_of_getElem? (i := 175) rfl)) rfl⟩
theorem fl_X12_58 : sm_F RX12 58 12 32 2 := ⟨by decide, _, _, _, rfl, by decide, by decide +kernel, lw_m (lt6 (List.mem_of_getElem? (i := 178) rfl)) rfl⟩
theorem fl_X12_61 : sm_F RX12 61 12 33 2 := ⟨by decide, _, _, _, rfl, by decide, by decide +kernel, lw_m (lt6 (List.mem_of_getElem? (i := 179) rfl)) rfl⟩
theorem fl_X12_64 : sm_F RX12 64 12 34 2 := ⟨by decide, _, _, _, rfl, by decide, by decide +kernel, lw_m (lt6 (List.mem_of_getElem? (i := 180) rfl)) rfl⟩
theorem fl_X12_67 : sm_F RX12 67 12 36 2 := ⟨by decide, _, _, _, rfl, by decide, by decide +kernel, lw_m (lt6 (List.mem_of_getElem? (i := 182) rfl)) rfl⟩
theorem fl_X12_70 : sm_F RX12 70 12 37 2 := ⟨by decide, _, _, _, rfl, by decide, by decide +kernel, lw_m (lt6 (List.mem_of_getElem? (i := 183) rfl)) rfl⟩
theorem fl_X12_73 : sm_F RX12 73 12 38 2 := ⟨by decide, _, _, _, rfl, by decide, by decide +kernel, lw_m (lt6 (List.mem_of_getElem? (i := 184) rfl)) rfl⟩
theorem fl_X12_76 : sm_F RX12 76 12 39 0 := ⟨by decide, _, _, _, rfl, by decide, by decide +kernel, lw_m (lt6 (List.mem_of_getElem? (i := 185) rfl)) rfl⟩
theorem fl_X12_79 : sm_F RX12 79 12 40 0 := ⟨by decide, _, _, _, rfl, by decide, by decide +kernel, lw_m (lt6 (List.mem_of_getElem? (i := 186) rfl)) rfl⟩
theorem fl_X12_82 : sm_F RX12 82 12 41 2 := ⟨by decide, _, _, _, rfl, by decide, by decide +kernel, lw_m (lt6 (List.mem_of_getElem? (i := 187) rfl)) rfl⟩
theorem fl_X12_86 : sm_F RX12 86 12 43 2 := ⟨by decide, _, _, _, rfl, by decide, by decide +kernel, lw_m (lt6 (List.mem_of_getElem? (i := 189) rfl)) rfl⟩
theorem fl_X12_89 : sm_F RX12 89 12 44 2 := ⟨by decide, _, _, _, rfl, by decide, by decide +kernel, lw_m (lt6 (List.mem_of_getElem? (i := 190) rfl)) rfl⟩
theorem fl_X12_9 : sm_F RX12 9 12 1 2 := ⟨by decide, _, _, _, rfl, by decide, by decide +kernel, lw_m (lt6 (List.mem_of_getElem? (i := 147) rfl)) rfl⟩
theorem fl_X12_92 : sm_F RX12 92 12 45 2 := ⟨by decide, _, _, _, rfl, by decide, by decide +kernel, lw_m (lt6 (List.mem_of_getElem? (i := 191) rfl)) rfl⟩
theorem fl_X12_95 : sm_F RX12 95 12 46 2 := ⟨by decide, _, _, _, rfl, by decide, by decide +kernel, lw_m (lt6 (List.mem_of_getElem? (i := 192) rfl)) rfl⟩
theorem kp_0_0 : 0 < 20 ∧ fc 0 0 = 2 ∧ tk 0 0 = 10 := by decide +kernel
theorem kp_1_0 : 1 < 20 ∧ fc 1 0 = 2 ∧ tk 1 0 = 3 := by decide +kernel
theorem kp_1_1 : 1 < 20 ∧ fc 1 1 = 2 ∧ tk 1 1 = 20 := by decide +kernel
theorem kp_10_0 : 10 < 20 ∧ fc 10 0 = 2 ∧ tk 10 0 = 20 := by decide +kernel
theorem kp_10_2 : 10 < 20 ∧ fc 10 2 = 2 ∧ tk 10 2 = 3 := by decide +kernel
theorem kp_10_3 : 10 < 20 ∧ fc 10 3 = 2 ∧ tk 10 3 = 20 := by decide +kernel
theorem kp_10_4 : 10 < 20 ∧ fc 10 4 = 2 ∧ tk 10 4 = 20 := by decide +kernel
theorem kp_10_5 : 10 < 20 ∧ fc 10 5 = 2 ∧ tk 10 5 = 20 := by decide +kernel
theorem kp_11_0 : 11 < 20 ∧ fc 11 0 = 2 ∧ tk 11 0 = 21 := by decide +kernel
theorem kp_11_10 : 11 < 20 ∧ fc 11 10 = 2 ∧ tk 11 10 = 0 := by decide +kernel
theorem kp_11_11 : 11 < 20 ∧ fc 11 11 = 2 ∧ tk 11 11 = 5 := by decide +kernel
theorem kp_11_12 : 11 < 20 ∧ fc 11 12 = 2 ∧ tk 11 12 = 1 := by decide +kernel
theorem kp_11_13 : 11 < 20 ∧ fc 11 13 = 2 ∧ tk 11 13 = 2 := by decide +kernel
theorem kp_11_14 : 11 < 20 ∧ fc 11 14 = 2 ∧ tk 11 14 = 25 := by decide +kernel
theorem kp_11_15 : 11 < 20 ∧ fc 11 15 = 2 ∧ tk 11 15 = 26 := by decide +kernel
theorem kp_11_16 : 11 < 20 ∧ fc 11 16 = 2 ∧ tk 11 16 = 24 := by decide +kernel
theorem kp_11_17 : 11 < 20 ∧ fc 11 17 = 2 ∧ tk 11 17 = 22 := by decide +kernel
theorem kp_11_4 : 11 < 20 ∧ fc 11 4 = 2 ∧ tk 11 4 = 6 := by decide +kernel
theorem kp_11_5 : 11 < 20 ∧ fc 11 5 = 2 ∧ tk 11 5 = 7 := by decide +kernel
theorem kp_11_6 : 11 < 20 ∧ fc 11 6 = 2 ∧ tk 11 6 = 9 := by decide +kernel
theorem kp_11_7 : 11 < 20 ∧ fc 11 7 = 2 ∧ tk 11 7 = 9 := by decide +kernel
theorem kp_11_8 : 11 < 20 ∧ fc 11 8 = 2 ∧ tk 11 8 = 3 := by decide +kernel
theorem kp_11_9 : 11 < 20 ∧ fc 11 9 = 2 ∧ tk 11 9 = 10 := by decide +kernel
theorem kp_12_1 : 12 < 20 ∧ fc 12 1 = 2 ∧ tk 12 1 = 20 := by decide +kernel
theorem kp_12_14 : 12 < 20 ∧ fc 12 14 = 2 ∧ tk 12 14 = 20 := by decide +kernel
theorem kp_12_15 : 12 < 20 ∧ fc 12 15 = 2 ∧ tk 12 15 = 20 := by decide +kernel
theorem kp_12_16 : 12 < 20 ∧ fc 12 16 = 2 ∧ tk 12 16 = 20 := by decide +kernel
theorem kp_12_17 : 12 < 20 ∧ fc 12 17 = 2 ∧ tk 12 17 = 20 := by decide +kernel
theorem kp_12_18 : 12 < 20 ∧ fc 12 18 = 2 ∧ tk 12 18 = 20 := by decide +kernel
theorem kp_12_2 : 12 < 20 ∧ fc 12 2 = 2 ∧ tk 12 2 = 20 := by decide +kernel
theorem kp_12_20 : 12 < 20 ∧ fc 12 20 = 2 ∧ tk 12 20 = 20 := by decide +kernel
theorem kp_12_26 : 12 < 20 ∧ fc 12 26 = 2 ∧ tk 12 26 = 20 := by decide +kernel
theorem kp_12_28 : 12 < 20 ∧ fc 12 28 = 2 ∧ tk 12 28 = 20 := by decide +kernel
theorem kp_12_29 : 12 < 20 ∧ fc 12 29 = 2 ∧ tk 12 29 = 20 := by decide +kernel
theorem kp_12_3 : 12 < 20 ∧ fc 12 3 = 2 ∧ tk 12 3 = 22 := by decide +kernel
theorem kp_12_32 : 12 < 20 ∧ fc 12 32 = 2 ∧ tk 12 32 = 20 := by decide +kernel
theorem kp_12_33 : 12 < 20 ∧ fc 12 33 = 2 ∧ tk 12 33 = 20 := by decide +kernel
theorem kp_12_34 : 12 < 20 ∧ fc 12 34 = 2 ∧ tk 12 34 = 20 := by decide +kernel
theorem kp_12_36 : 12 < 20 ∧ fc 12 36 = 2 ∧ tk 12 36 = 20 := by decide +kernel
theorem kp_12_37 : 12 < 20 ∧ fc 12 37 = 2 ∧ tk 12 37 = 20 := by decide +kernel
theorem kp_12_38 : 12 < 20 ∧ fc 12 38 = 2 ∧ tk 12 38 = 20 := by decide +kernel
theorem kp_12_4 : 12 < 20 ∧ fc 12 4 = 2 ∧ tk 12 4 = 21 := by decide +kernel
theorem kp_12_41 : 12 < 20 ∧ fc 12 41 = 2 ∧ tk 12 41 = 23 := by decide +kernel
theorem kp_12_43 : 12 < 20 ∧ fc 12 43 = 2 ∧ tk 12 43 = 20 := by decide +kernel
theorem kp_12_44 : 12 < 20 ∧ fc 12 44 = 2 ∧ tk 12 44 = 20 := by decide +kernel
theorem kp_12_45 : 12 < 20 ∧ fc 12 45 = 2 ∧ tk 12 45 = 23 := by decide +kernel
theorem kp_12_46 : 12 < 20 ∧ fc 12 46 = 2 ∧ tk 12 46 = 23 := by decide +kernel
theorem kp_12_6 : 12 < 20 ∧ fc 12 6 = 2 ∧ tk 12 6 = 20 := by decide +kernel
theorem kp_2_0 : 2 < 20 ∧ fc 2 0 = 2 ∧ tk 2 0 = 3 := by decide +kernel
theorem kp_2_1 : 2 < 20 ∧ fc 2 1 = 2 ∧ tk 2 1 = 4 := by decide +kernel
theorem kp_2_2 : 2 < 20 ∧ fc 2 2 = 2 ∧ tk 2 2 = 4 := by decide +kernel
theorem kp_2_3 : 2 < 20 ∧ fc 2 3 = 2 ∧ tk 2 3 = 20 := by decide +kernel
theorem kp_2_4 : 2 < 20 ∧ fc 2 4 = 2 ∧ tk 2 4 = 20 := by decide +kernel
theorem kp_2_5 : 2 < 20 ∧ fc 2 5 = 2 ∧ tk 2 5 = 20 := by decide +kernel
theorem kp_3_0 : 3 < 20 ∧ fc 3 0 = 2 ∧ tk 3 0 = 20 := by decide +kernel
theorem kp_3_1 : 3 < 20 ∧ fc 3 1 = 2 ∧ tk 3 1 = 20 := by decide +kernel
theorem kp_3_2 : 3 < 20 ∧ fc 3 2 = 2 ∧ tk 3 2 = 20 := by decide +kernel
theorem kp_4_5 : 4 < 20 ∧ fc 4 5 = 2 ∧ tk 4 5 = 20 := by decide +kernel
theorem kp_4_6 : 4 < 20 ∧ fc 4 6 = 2 ∧ tk 4 6 = 20 := by decide +kernel
theorem kp_4_7 : 4 < 20 ∧ fc 4 7 = 2 ∧ tk 4 7 = 20 := by decide +kernel
theorem kp_4_8 : 4 < 20 ∧ fc 4 8 = 2 ∧ tk 4 8 = 20 := by decide +kernel
theorem kp_4_9 : 4 < 20 ∧ fc 4 9 = 2 ∧ tk 4 9 = 20 := by decide +kernel
theorem kp_5_2 : 5 < 20 ∧ fc 5 2 = 2 ∧ tk 5 2 = 7 := by decide +kernel
theorem kp_5_3 : 5 < 20 ∧ fc 5 3 = 2 ∧ tk 5 3 = 0 := by decide +kernel
theorem kp_5_4 : 5 < 20 ∧ fc 5 4 = 2 ∧ tk 5 4 = 24 := by decide +kernel
theorem kp_5_5 : 5 < 20 ∧ fc 5 5 = 2 ∧ tk 5 5 = 20 := by decide +kernel
theorem kp_5_6 : 5 < 20 ∧ fc 5 6 = 2 ∧ tk 5 6 = 20 := by decide +kernel
theorem kp_6_0 : 6 < 20 ∧ fc 6 0 = 2 ∧ tk 6 0 = 7 := by decide +kernel
theorem kp_7_10 : 7 < 20 ∧ fc 7 10 = 2 ∧ tk 7 10 = 20 := by decide +kernel
theorem kp_7_11 : 7 < 20 ∧ fc 7 11 = 2 ∧ tk 7 11 = 20 := by decide +kernel
theorem kp_7_12 : 7 < 20 ∧ fc 7 12 = 2 ∧ tk 7 12 = 20 := by decide +kernel
theorem kp_7_13 : 7 < 20 ∧ fc 7 13 = 2 ∧ tk 7 13 = 20 := by decide +kernel
theorem kp_7_14 : 7 < 20 ∧ fc 7 14 = 2 ∧ tk 7 14 = 20 := by decide +kernel
theorem kp_7_15 : 7 < 20 ∧ fc 7 15 = 2 ∧ tk 7 15 = 20 := by decide +kernel
theorem kp_7_16 : 7 < 20 ∧ fc 7 16 = 2 ∧ tk 7 16 = 20 := by decide +kernel
theorem kp_7_8 : 7 < 20 ∧ fc 7 8 = 2 ∧ tk 7 8 = 20 := by decide +kernel
theorem kp_7_9 : 7 < 20 ∧ fc 7 9 = 2 ∧ tk 7 9 = 20 := by decide +kernel
theorem kp_8_3 : 8 < 20 ∧ fc 8 3 = 2 ∧ tk 8 3 = 23 := by decide +kernel
theorem kp_9_0 : 9 < 20 ∧ fc 9 0 = 2 ∧ tk 9 0 = 7 := by decide +kernel
theorem kp_9_2 : 9 < 20 ∧ fc 9 2 = 2 ∧ tk 9 2 = 20 := by decide +kernel
theorem kp_9_3 : 9 < 20 ∧ fc 9 3 = 2 ∧ tk 9 3 = 20 := by decide +kernel
theorem kp_9_4 : 9 < 20 ∧ fc 9 4 = 2 ∧ tk 9 4 = 20 := by decide +kernel
theorem ml_X0_15 : Cond.methodLink RX0 15 yX9_isAt ∈ lw_w := lw_m (lt4 (List.mem_of_getElem? (i := 147) rfl)) rfl
theorem ml_X0_25 : Cond.methodLink RX0 25 yX7_weightOf ∈ lw_w := lw_m (lt4 (List.mem_of_getElem? (i := 151) rfl)) rfl
theorem ml_X0_31 : Cond.methodLink RX0 31 yX7_strideOf ∈ lw_w := lw_m (lt4 (List.mem_of_getElem? (i := 155) rfl)) rfl
theorem ml_X0_34 : Cond.methodLink RX0 34 yX10_seek ∈ lw_w := lw_m (lt4 (List.mem_of_getElem? (i := 159) rfl)) rfl
theorem ml_X0_40 : Cond.methodLink RX0 40 yX10_wear ∈ lw_w := lw_m (lt4 (List.mem_of_getElem? (i := 160) rfl)) rfl
theorem ml_X0_44 : Cond.methodLink RX0 44 yX9_settle ∈ lw_w := lw_m (lt4 (List.mem_of_getElem? (i := 164) rfl)) rfl
theorem ml_X0_52 : Cond.methodLink RX0 52 yX7_isUnit ∈ lw_w := lw_m (lt4 (List.mem_of_getElem? (i := 180) rfl)) rfl
theorem ml_X0_56 : Cond.methodLink RX0 56 yX0_send ∈ lw_w := lw_m (lt4 (List.mem_of_getElem? (i := 181) rfl)) rfl
theorem ml_X0_60 : Cond.methodLink RX0 60 yX7_peopleOf ∈ lw_w := lw_m (lt4 (List.mem_of_getElem? (i := 182) rfl)) rfl
theorem ml_X0_63 : Cond.methodLink RX0 63 yX7_comesBack ∈ lw_w := lw_m (lt5 (List.mem_of_getElem? (i := 34) rfl)) rfl
theorem ml_X0_66 : Cond.methodLink RX0 66 yX0_wade ∈ lw_w := lw_m (lt6 (List.mem_of_getElem? (i := 82) rfl)) rfl
theorem ml_X0_87 : Cond.methodLink RX0 87 yX9_openFor ∈ lw_w := lw_m (lt5 (List.mem_of_getElem? (i := 1) rfl)) rfl
theorem ml_X0_90 : Cond.methodLink RX0 90 yX3_crosses ∈ lw_w := lw_m (lt5 (List.mem_of_getElem? (i := 2) rfl)) rfl
theorem ml_X1_33 : Cond.methodLink RX1 33 yX9_openFor ∈ lw_w := lw_m (lt5 (List.mem_of_getElem? (i := 227) rfl)) rfl
theorem ml_X1_37 : Cond.methodLink RX1 37 yX1_gather ∈ lw_w := lw_m (lt5 (List.mem_of_getElem? (i := 228) rfl)) rfl
theorem ml_X1_49 : Cond.methodLink RX1 49 yX3_crosses ∈ lw_w := lw_m (lt5 (List.mem_of_getElem? (i := 234) rfl)) rfl
theorem ml_X1_58 : Cond.methodLink RX1 58 yX9_inDoubt ∈ lw_w := lw_m (lt5 (List.mem_of_getElem? (i := 232) rfl)) rfl
theorem ml_X2_104 : Cond.methodLink RX2 104 Lib.Math.min.name ∈ lw_w := lw_m (lt5 (List.mem_of_getElem? (i := 90) rfl)) rfl
theorem ml_X2_110 : Cond.methodLink RX2 110 Lib.Math.max.name ∈ lw_w := lw_m (lt5 (List.mem_of_getElem? (i := 186) rfl)) rfl
theorem ml_X2_113 : Cond.methodLink RX2 113 yX4_canLeave ∈ lw_w := lw_m (lt5 (List.mem_of_getElem? (i := 205) rfl)) rfl
theorem ml_X2_117 : Cond.methodLink RX2 117 yX4_canEnter ∈ lw_w := lw_m (lt5 (List.mem_of_getElem? (i := 209) rfl)) rfl
theorem ml_X2_126 : Cond.methodLink RX2 126 yX2_search ∈ lw_w := lw_m (lt5 (List.mem_of_getElem? (i := 73) rfl)) rfl
theorem ml_X2_130 : Cond.methodLink RX2 130 yX2_narrowest ∈ lw_w := lw_m (lt5 (List.mem_of_getElem? (i := 86) rfl)) rfl
theorem ml_X2_133 : Cond.methodLink RX2 133 yX2_push ∈ lw_w := lw_m (lt5 (List.mem_of_getElem? (i := 91) rfl)) rfl
theorem ml_X2_143 : Cond.methodLink RX2 143 yX2_enter ∈ lw_w := lw_m (lt5 (List.mem_of_getElem? (i := 77) rfl)) rfl
theorem ml_X2_149 : Cond.methodLink RX2 149 yX2_leave ∈ lw_w := lw_m (lt5 (List.mem_of_getElem? (i := 82) rfl)) rfl
theorem ml_X2_158 : Cond.methodLink RX2 158 yX4_pass ∈ lw_w := lw_m (lt5 (List.mem_of_getElem? (i := 95) rfl)) rfl
theorem ml_X2_39 : Cond.methodLink RX2 39 yX4_empty ∈ lw_w := lw_m (lt5 (List.mem_of_getElem? (i := 62) rfl)) rfl
theorem ml_X2_57 : Cond.methodLink RX2 57 yJ7_fill_53178 ∈ lw_w := lw_m (lt5 (List.mem_of_getElem? (i := 67) rfl)) rfl
theorem ml_X2_78 : Cond.methodLink RX2 78 yX9_leftOf ∈ lw_w := lw_m (lt5 (List.mem_of_getElem? (i := 68) rfl)) rfl
theorem ml_X2_82 : Cond.methodLink RX2 82 yX4_takeFrom ∈ lw_w := lw_m (lt5 (List.mem_of_getElem? (i := 148) rfl)) rfl
theorem ml_X2_86 : Cond.methodLink RX2 86 yX2_around ∈ lw_w := lw_m (lt5 (List.mem_of_getElem? (i := 136) rfl)) rfl
theorem ml_X2_90 : Cond.methodLink RX2 90 yJ6_numberOfTrailingZeros_0f7a4 ∈ lw_w := lw_m (lt5 (List.mem_of_getElem? (i := 81) rfl)) rfl
theorem ml_X3_21 : Cond.methodLink RX3 21 yJ7_fill_53178 ∈ lw_w := lw_m (lt3 (List.mem_of_getElem? (i := 183) rfl)) rfl
theorem ml_X3_39 : Cond.methodLink RX3 39 yX7_square ∈ lw_w := lw_m (lt3 (List.mem_of_getElem? (i := 184) rfl)) rfl
theorem ml_X3_43 : Cond.methodLink RX3 43 yX3_link ∈ lw_w := lw_m (lt3 (List.mem_of_getElem? (i := 192) rfl)) rfl
theorem ml_X3_47 : Cond.methodLink RX3 47 yJ6_numberOfTrailingZeros_0f7a4 ∈ lw_w := lw_m (lt4 (List.mem_of_getElem? (i := 31) rfl)) rfl
theorem ml_X3_53 : Cond.methodLink RX3 53 yX3_flood ∈ lw_w := lw_m (lt5 (List.mem_of_getElem? (i := 6) rfl)) rfl
theorem ml_X4_43 : Cond.methodLink RX4 43 arraycopyName ∈ lw_w := lw_m (lt5 (List.mem_of_getElem? (i := 152) rfl)) rfl
theorem ml_X4_49 : Cond.methodLink RX4 49 yJ7_fill_53178 ∈ lw_w := lw_m (lt5 (List.mem_of_getElem? (i := 66) rfl)) rfl
theorem ml_X5_100 : Cond.methodLink RX5 100 yX7_mustGo ∈ lw_w := lw_m (lt5 (List.mem_of_getElem? (i := 7) rfl)) rfl
theorem ml_X5_103 : Cond.methodLink RX5 103 yX7_peopleOf ∈ lw_w := lw_m (lt5 (List.mem_of_getElem? (i := 8) rfl)) rfl
theorem ml_X5_106 : Cond.methodLink RX5 106 yX7_worthOf ∈ lw_w := lw_m (lt5 (List.mem_of_getElem? (i := 9) rfl)) rfl
theorem ml_X5_109 : Cond.methodLink RX5 109 yX0_couldGo ∈ lw_w := lw_m (lt4 (List.mem_of_getElem? (i := 237) rfl)) rfl
theorem ml_X5_113 : Cond.methodLink RX5 113 yX7_strideOf ∈ lw_w := lw_m (lt5 (List.mem_of_getElem? (i := 14) rfl)) rfl
theorem ml_X5_116 : Cond.methodLink RX5 116 yX7_weightOf ∈ lw_w := lw_m (lt5 (List.mem_of_getElem? (i := 15) rfl)) rfl
theorem ml_X5_44 : Cond.methodLink RX5 44 yX7_isUnit ∈ lw_w := lw_m (lt4 (List.mem_of_getElem? (i := 219) rfl)) rfl
theorem ml_X5_48 : Cond.methodLink RX5 48 yX9_isAt ∈ lw_w := lw_m (lt4 (List.mem_of_getElem? (i := 220) rfl)) rfl
theorem ml_X5_52 : Cond.methodLink RX5 52 yJ6_bitCount_0f7a4 ∈ lw_w := lw_m (lt4 (List.mem_of_getElem? (i := 221) rfl)) rfl
theorem ml_X5_67 : Cond.methodLink RX5 67 yX9_takeFrom ∈ lw_w := lw_m (lt4 (List.mem_of_getElem? (i := 222) rfl)) rfl
theorem ml_X5_71 : Cond.methodLink RX5 71 yX5_extend ∈ lw_w := lw_m (lt4 (List.mem_of_getElem? (i := 223) rfl)) rfl
theorem ml_X5_75 : Cond.methodLink RX5 75 yX5_isBetter ∈ lw_w := lw_m (lt4 (List.mem_of_getElem? (i := 227) rfl)) rfl
theorem ml_X5_78 : Cond.methodLink RX5 78 arraycopyName ∈ lw_w := lw_m (lt4 (List.mem_of_getElem? (i := 231) rfl)) rfl
theorem ml_X5_84 : Cond.methodLink RX5 84 yX5_couldBeBetter ∈ lw_w := lw_m (lt4 (List.mem_of_getElem? (i := 232) rfl)) rfl
theorem ml_X5_88 : Cond.methodLink RX5 88 yJ6_numberOfTrailingZeros_0f7a4 ∈ lw_w := lw_m (lt4 (List.mem_of_getElem? (i := 236) rfl)) rfl
theorem ml_X5_91 : Cond.methodLink RX5 91 yX5_hasTwin ∈ lw_w := lw_m (lt5 (List.mem_of_getElem? (i := 10) rfl)) rfl
theorem ml_X5_94 : Cond.methodLink RX5 94 yX0_send ∈ lw_w := lw_m (lt5 (List.mem_of_getElem? (i := 16) rfl)) rfl
theorem ml_X6_116 : Cond.methodLink RX6 116 yX7_stoneAt ∈ lw_w := lw_m (lt3 (List.mem_of_getElem? (i := 141) rfl)) rfl
theorem ml_X6_122 : Cond.methodLink RX6 122 yX6_readNumber ∈ lw_w := lw_m (lt3 (List.mem_of_getElem? (i := 130) rfl)) rfl
theorem ml_X6_156 : Cond.methodLink RX6 156 yX6_readFlag ∈ lw_w := lw_m (lt3 (List.mem_of_getElem? (i := 126) rfl)) rfl
theorem ml_X6_168 : Cond.methodLink RX6 168 yX6_readHand ∈ lw_w := lw_m (lt3 (List.mem_of_getElem? (i := 159) rfl)) rfl
theorem ml_X6_176 : Cond.methodLink RX6 176 yJ0_length_8abf5 ∈ lw_w := lw_m (lt3 (List.mem_of_getElem? (i := 65) rfl)) rfl
theorem ml_X6_182 : Cond.methodLink RX6 182 yJ0_charAt_5068e ∈ lw_w := lw_m (lt3 (List.mem_of_getElem? (i := 75) rfl)) rfl
theorem ml_X6_186 : Cond.methodLink RX6 186 yX6_isLetter ∈ lw_w := lw_m (lt3 (List.mem_of_getElem? (i := 50) rfl)) rfl
theorem ml_X6_190 : Cond.methodLink RX6 190 yX6_isDigit ∈ lw_w := lw_m (lt3 (List.mem_of_getElem? (i := 53) rfl)) rfl
theorem ml_X6_22 : Cond.methodLink RX6 22 Lib.Math.min.name ∈ lw_w := lw_m (lt3 (List.mem_of_getElem? (i := 39) rfl)) rfl
theorem ml_X6_32 : Cond.methodLink RX6 32 yX7_clear ∈ lw_w := lw_m (lt3 (List.mem_of_getElem? (i := 42) rfl)) rfl
theorem ml_X6_51 : Cond.methodLink RX6 51 yX6_advance ∈ lw_w := lw_m (lt3 (List.mem_of_getElem? (i := 46) rfl)) rfl
theorem ml_X6_57 : Cond.methodLink RX6 57 yX6_readLine ∈ lw_w := lw_m (lt3 (List.mem_of_getElem? (i := 56) rfl)) rfl
theorem ml_X6_65 : Cond.methodLink RX6 65 yX6_isWord ∈ lw_w := lw_m (lt3 (List.mem_of_getElem? (i := 61) rfl)) rfl
theorem ml_X6_69 : Cond.methodLink RX6 69 yX6_refuse ∈ lw_w := lw_m (lt3 (List.mem_of_getElem? (i := 113) rfl)) rfl
theorem ml_X6_73 : Cond.methodLink RX6 73 yX6_readWater ∈ lw_w := lw_m (lt3 (List.mem_of_getElem? (i := 117) rfl)) rfl
theorem ml_X6_78 : Cond.methodLink RX6 78 yX6_readStone ∈ lw_w := lw_m (lt3 (List.mem_of_getElem? (i := 136) rfl)) rfl
theorem ml_X6_83 : Cond.methodLink RX6 83 yX6_readPerson ∈ lw_w := lw_m (lt3 (List.mem_of_getElem? (i := 149) rfl)) rfl
theorem ml_X6_88 : Cond.methodLink RX6 88 yX6_readPlank ∈ lw_w := lw_m (lt3 (List.mem_of_getElem? (i := 164) rfl)) rfl
theorem ml_X6_93 : Cond.methodLink RX6 93 yX6_readPair ∈ lw_w := lw_m (lt3 (List.mem_of_getElem? (i := 122) rfl)) rfl
theorem ml_X7_64 : Cond.methodLink RX7 64 arraycopyName ∈ lw_w := lw_m (lt3 (List.mem_of_getElem? (i := 172) rfl)) rfl
theorem ml_X7_70 : Cond.methodLink RX7 70 yX7_across ∈ lw_w := lw_m (lt3 (List.mem_of_getElem? (i := 188) rfl)) rfl
theorem ml_X7_74 : Cond.methodLink RX7 74 yX7_square ∈ lw_w := lw_m (lt4 (List.mem_of_getElem? (i := 17) rfl)) rfl
theorem ml_X7_78 : Cond.methodLink RX7 78 Lib.Math.min.name ∈ lw_w := lw_m (lt3 (List.mem_of_getElem? (i := 236) rfl)) rfl
theorem ml_X7_83 : Cond.methodLink RX7 83 yX7_peopleOf ∈ lw_w := lw_m (lt4 (List.mem_of_getElem? (i := 205) rfl)) rfl
theorem ml_X8_26 : Cond.methodLink RX8 26 yJ7_fill_d0a16 ∈ lw_w := lw_m (lt6 (List.mem_of_getElem? (i := 121) rfl)) rfl
theorem ml_X9_25 : Cond.methodLink RX9 25 yJ7_fill_53178 ∈ lw_w := lw_m (lt1 (List.mem_of_getElem? (i := 194) rfl)) rfl
theorem ml_X9_35 : Cond.methodLink RX9 35 arraycopyName ∈ lw_w := lw_m (lt4 (List.mem_of_getElem? (i := 125) rfl)) rfl
theorem ml_X9_52 : Cond.methodLink RX9 52 yX9_leftOf ∈ lw_w := lw_m (lt4 (List.mem_of_getElem? (i := 26) rfl)) rfl
theorem ml_X9_59 : Cond.methodLink RX9 59 yX9_inDoubt ∈ lw_w := lw_m (lt6 (List.mem_of_getElem? (i := 72) rfl)) rfl
theorem ml_X9_79 : Cond.methodLink RX9 79 yX7_isUnit ∈ lw_w := lw_m (lt4 (List.mem_of_getElem? (i := 200) rfl)) rfl
theorem ml_X9_82 : Cond.methodLink RX9 82 yX7_mustGo ∈ lw_w := lw_m (lt4 (List.mem_of_getElem? (i := 201) rfl)) rfl
theorem ml_X9_85 : Cond.methodLink RX9 85 yX9_isAt ∈ lw_w := lw_m (lt4 (List.mem_of_getElem? (i := 206) rfl)) rfl
theorem ml_X9_92 : Cond.methodLink RX9 92 yX7_joins ∈ lw_w := lw_m (lt4 (List.mem_of_getElem? (i := 109) rfl)) rfl
theorem ml_X10_103 : Cond.methodLink RX10 103 yX10_least ∈ lw_w := lw_m (lt4 (List.mem_of_getElem? (i := 88) rfl)) rfl
theorem ml_X10_109 : Cond.methodLink RX10 109 Lib.Math.min.name ∈ lw_w := lw_m (lt4 (List.mem_of_getElem? (i := 92) rfl)) rfl
theorem ml_X10_43 : Cond.methodLink RX10 43 yX9_openFor ∈ lw_w := lw_m (lt4 (List.mem_of_getElem? (i := 66) rfl)) rfl
theorem ml_X10_55 : Cond.methodLink RX10 55 yX10_putReached ∈ lw_w := lw_m (lt4 (List.mem_of_getElem? (i := 67) rfl)) rfl
theorem ml_X10_59 : Cond.methodLink RX10 59 yX10_putCosts ∈ lw_w := lw_m (lt4 (List.mem_of_getElem? (i := 73) rfl)) rfl
theorem ml_X10_63 : Cond.methodLink RX10 63 yX10_spread ∈ lw_w := lw_m (lt4 (List.mem_of_getElem? (i := 82) rfl)) rfl
theorem ml_X10_67 : Cond.methodLink RX10 67 yX10_walk ∈ lw_w := lw_m (lt4 (List.mem_of_getElem? (i := 93) rfl)) rfl
theorem ml_X10_74 : Cond.methodLink RX10 74 yX10_crowd ∈ lw_w := lw_m (lt4 (List.mem_of_getElem? (i := 77) rfl)) rfl
theorem ml_X10_78 : Cond.methodLink RX10 78 yX9_leftOf ∈ lw_w := lw_m (lt4 (List.mem_of_getElem? (i := 81) rfl)) rfl
theorem ml_X10_81 : Cond.methodLink RX10 81 yJ7_fill_53178 ∈ lw_w := lw_m (lt4 (List.mem_of_getElem? (i := 71) rfl)) rfl
theorem ml_X10_93 : Cond.methodLink RX10 93 yX3_flood ∈ lw_w := lw_m (lt4 (List.mem_of_getElem? (i := 72) rfl)) rfl
theorem ml_X10_98 : Cond.methodLink RX10 98 yJ6_numberOfTrailingZeros_0f7a4 ∈ lw_w := lw_m (lt4 (List.mem_of_getElem? (i := 87) rfl)) rfl
theorem ml_X11_113 : Cond.methodLink RX11 113 yX11_putBytes ∈ lw_w := lw_m (lt3 (List.mem_of_getElem? (i := 23) rfl)) rfl
theorem ml_X11_117 : Cond.methodLink RX11 117 yX6_readAll ∈ lw_w := lw_m (lt3 (List.mem_of_getElem? (i := 35) rfl)) rfl
theorem ml_X11_131 : Cond.methodLink RX11 131 yX7_takeFrom ∈ lw_w := lw_m (lt3 (List.mem_of_getElem? (i := 168) rfl)) rfl
theorem ml_X11_134 : Cond.methodLink RX11 134 yX9_begin ∈ lw_w := lw_m (lt3 (List.mem_of_getElem? (i := 175) rfl)) rfl
theorem ml_X11_137 : Cond.methodLink RX11 137 yX3_lay ∈ lw_w := lw_m (lt3 (List.mem_of_getElem? (i := 179) rfl)) rfl
theorem ml_X11_140 : Cond.methodLink RX11 140 yX5_forget ∈ lw_w := lw_m (lt3 (List.mem_of_getElem? (i := 196) rfl)) rfl
theorem ml_X11_146 : Cond.methodLink RX11 146 yX11_isStone ∈ lw_w := lw_m (lt3 (List.mem_of_getElem? (i := 208) rfl)) rfl
theorem ml_X11_157 : Cond.methodLink RX11 157 yX9_leftOf ∈ lw_w := lw_m (lt3 (List.mem_of_getElem? (i := 212) rfl)) rfl
theorem ml_X11_164 : Cond.methodLink RX11 164 yX11_knowledgeOf ∈ lw_w := lw_m (lt3 (List.mem_of_getElem? (i := 216) rfl)) rfl
theorem ml_X11_167 : Cond.methodLink RX11 167 yX9_inDoubt ∈ lw_w := lw_m (lt3 (List.mem_of_getElem? (i := 220) rfl)) rfl
theorem ml_X11_173 : Cond.methodLink RX11 173 yX11_isPerson ∈ lw_w := lw_m (lt3 (List.mem_of_getElem? (i := 228) rfl)) rfl
theorem ml_X11_181 : Cond.methodLink RX11 181 yX7_unitOf ∈ lw_w := lw_m (lt3 (List.mem_of_getElem? (i := 232) rfl)) rfl
theorem ml_X11_184 : Cond.methodLink RX11 184 yX7_isPlace ∈ lw_w := lw_m (lt4 (List.mem_of_getElem? (i := 1) rfl)) rfl
theorem ml_X11_187 : Cond.methodLink RX11 187 yX11_isStride ∈ lw_w := lw_m (lt4 (List.mem_of_getElem? (i := 5) rfl)) rfl
theorem ml_X11_190 : Cond.methodLink RX11 190 yX7_joins ∈ lw_w := lw_m (lt4 (List.mem_of_getElem? (i := 13) rfl)) rfl
theorem ml_X11_194 : Cond.methodLink RX11 194 yX9_openFor ∈ lw_w := lw_m (lt4 (List.mem_of_getElem? (i := 22) rfl)) rfl
theorem ml_X11_197 : Cond.methodLink RX11 197 yX3_flood ∈ lw_w := lw_m (lt4 (List.mem_of_getElem? (i := 27) rfl)) rfl
theorem ml_X11_201 : Cond.methodLink RX11 201 yX11_isHour ∈ lw_w := lw_m (lt4 (List.mem_of_getElem? (i := 39) rfl)) rfl
theorem ml_X11_207 : Cond.methodLink RX11 207 yX9_wash ∈ lw_w := lw_m (lt4 (List.mem_of_getElem? (i := 47) rfl)) rfl
theorem ml_X11_211 : Cond.methodLink RX11 211 yX11_isWeight ∈ lw_w := lw_m (lt4 (List.mem_of_getElem? (i := 55) rfl)) rfl
theorem ml_X11_214 : Cond.methodLink RX11 214 yX11_isWay ∈ lw_w := lw_m (lt4 (List.mem_of_getElem? (i := 58) rfl)) rfl
theorem ml_X11_217 : Cond.methodLink RX11 217 yX10_seek ∈ lw_w := lw_m (lt4 (List.mem_of_getElem? (i := 62) rfl)) rfl
theorem ml_X11_224 : Cond.methodLink RX11 224 yX9_takeStep ∈ lw_w := lw_m (lt4 (List.mem_of_getElem? (i := 105) rfl)) rfl
theorem ml_X11_228 : Cond.methodLink RX11 228 yX11_isSlot ∈ lw_w := lw_m (lt4 (List.mem_of_getElem? (i := 114) rfl)) rfl
theorem ml_X11_235 : Cond.methodLink RX11 235 yX11_stepsInThought ∈ lw_w := lw_m (lt4 (List.mem_of_getElem? (i := 117) rfl)) rfl
theorem ml_X11_239 : Cond.methodLink RX11 239 yX9_takeFrom ∈ lw_w := lw_m (lt4 (List.mem_of_getElem? (i := 121) rfl)) rfl
theorem ml_X11_249 : Cond.methodLink RX11 249 yX11_stepInThought ∈ lw_w := lw_m (lt4 (List.mem_of_getElem? (i := 126) rfl)) rfl
theorem ml_X11_258 : Cond.methodLink RX11 258 yX7_isUnit ∈ lw_w := lw_m (lt4 (List.mem_of_getElem? (i := 139) rfl)) rfl
theorem ml_X11_261 : Cond.methodLink RX11 261 yX0_send ∈ lw_w := lw_m (lt4 (List.mem_of_getElem? (i := 143) rfl)) rfl
theorem ml_X11_265 : Cond.methodLink RX11 265 yX11_overInThought ∈ lw_w := lw_m (lt4 (List.mem_of_getElem? (i := 172) rfl)) rfl
theorem ml_X11_268 : Cond.methodLink RX11 268 yJ6_bitCount_0f7a4 ∈ lw_w := lw_m (lt4 (List.mem_of_getElem? (i := 186) rfl)) rfl
theorem ml_X11_273 : Cond.methodLink RX11 273 yX7_worthOf ∈ lw_w := lw_m (lt4 (List.mem_of_getElem? (i := 192) rfl)) rfl
theorem ml_X11_276 : Cond.methodLink RX11 276 yX9_missing ∈ lw_w := lw_m (lt4 (List.mem_of_getElem? (i := 196) rfl)) rfl
theorem ml_X11_279 : Cond.methodLink RX11 279 yX0_sendOver ∈ lw_w := lw_m (lt4 (List.mem_of_getElem? (i := 176) rfl)) rfl
theorem ml_X11_283 : Cond.methodLink RX11 283 yX5_find ∈ lw_w := lw_m (lt4 (List.mem_of_getElem? (i := 215) rfl)) rfl
theorem ml_X11_293 : Cond.methodLink RX11 293 yX5_unitAt ∈ lw_w := lw_m (lt5 (List.mem_of_getElem? (i := 17) rfl)) rfl
theorem ml_X11_297 : Cond.methodLink RX11 297 yX0_sendHome ∈ lw_w := lw_m (lt5 (List.mem_of_getElem? (i := 30) rfl)) rfl
theorem ml_X11_300 : Cond.methodLink RX11 300 yX9_peopleAt ∈ lw_w := lw_m (lt5 (List.mem_of_getElem? (i := 42) rfl)) rfl
theorem ml_X11_303 : Cond.methodLink RX11 303 yX11_isTold ∈ lw_w := lw_m (lt4 (List.mem_of_getElem? (i := 9) rfl)) rfl
theorem ml_X11_307 : Cond.methodLink RX11 307 yX11_mostOf ∈ lw_w := lw_m (lt5 (List.mem_of_getElem? (i := 54) rfl)) rfl
theorem ml_X11_313 : Cond.methodLink RX11 313 yX2_lay ∈ lw_w := lw_m (lt5 (List.mem_of_getElem? (i := 58) rfl)) rfl
theorem ml_X11_316 : Cond.methodLink RX11 316 yX2_fill ∈ lw_w := lw_m (lt5 (List.mem_of_getElem? (i := 69) rfl)) rfl
theorem ml_X11_319 : Cond.methodLink RX11 319 yX2_barring ∈ lw_w := lw_m (lt5 (List.mem_of_getElem? (i := 103) rfl)) rfl
theorem ml_X11_322 : Cond.methodLink RX11 322 yX2_lift ∈ lw_w := lw_m (lt5 (List.mem_of_getElem? (i := 111) rfl)) rfl
theorem ml_X11_325 : Cond.methodLink RX11 325 yX10_wear ∈ lw_w := lw_m (lt5 (List.mem_of_getElem? (i := 119) rfl)) rfl
theorem ml_X11_329 : Cond.methodLink RX11 329 yX11_isLoad ∈ lw_w := lw_m (lt5 (List.mem_of_getElem? (i := 124) rfl)) rfl
theorem ml_X11_332 : Cond.methodLink RX11 332 yX7_isInWater ∈ lw_w := lw_m (lt5 (List.mem_of_getElem? (i := 127) rfl)) rfl
theorem ml_X11_335 : Cond.methodLink RX11 335 yX7_stoneAt ∈ lw_w := lw_m (lt5 (List.mem_of_getElem? (i := 131) rfl)) rfl
theorem ml_X11_338 : Cond.methodLink RX11 338 yX2_put ∈ lw_w := lw_m (lt5 (List.mem_of_getElem? (i := 132) rfl)) rfl
theorem ml_X11_342 : Cond.methodLink RX11 342 yX2_save ∈ lw_w := lw_m (lt5 (List.mem_of_getElem? (i := 144) rfl)) rfl
theorem ml_X11_348 : Cond.methodLink RX11 348 yX2_stoneHelps ∈ lw_w := lw_m (lt5 (List.mem_of_getElem? (i := 153) rfl)) rfl
theorem ml_X11_352 : Cond.methodLink RX11 352 yX11_mostWithOneMore ∈ lw_w := lw_m (lt5 (List.mem_of_getElem? (i := 157) rfl)) rfl
theorem ml_X11_356 : Cond.methodLink RX11 356 yX2_restore ∈ lw_w := lw_m (lt5 (List.mem_of_getElem? (i := 161) rfl)) rfl
theorem ml_X11_359 : Cond.methodLink RX11 359 yX11_mostMoved ∈ lw_w := lw_m (lt5 (List.mem_of_getElem? (i := 169) rfl)) rfl
theorem ml_X11_365 : Cond.methodLink RX11 365 Lib.Math.min.name ∈ lw_w := lw_m (lt5 (List.mem_of_getElem? (i := 181) rfl)) rfl
theorem ml_X11_370 : Cond.methodLink RX11 370 yX2_join ∈ lw_w := lw_m (lt5 (List.mem_of_getElem? (i := 182) rfl)) rfl
theorem ml_X11_377 : Cond.methodLink RX11 377 yX7_placeBy ∈ lw_w := lw_m (lt5 (List.mem_of_getElem? (i := 193) rfl)) rfl
theorem ml_X11_380 : Cond.methodLink RX11 380 yX11_mostWithPlank ∈ lw_w := lw_m (lt5 (List.mem_of_getElem? (i := 197) rfl)) rfl
theorem ml_X11_383 : Cond.methodLink RX11 383 yX2_linkHelps ∈ lw_w := lw_m (lt5 (List.mem_of_getElem? (i := 201) rfl)) rfl
theorem ml_X11_388 : Cond.methodLink RX11 388 yX1_chance ∈ lw_w := lw_m (lt5 (List.mem_of_getElem? (i := 222) rfl)) rfl
theorem ml_X11_392 : Cond.methodLink RX11 392 yX11_treadOf ∈ lw_w := lw_m (lt5 (List.mem_of_getElem? (i := 239) rfl)) rfl
theorem ml_X11_401 : Cond.methodLink RX11 401 yX11_priceOf ∈ lw_w := lw_m (lt6 (List.mem_of_getElem? (i := 12) rfl)) rfl
theorem ml_X11_404 : Cond.methodLink RX11 404 yX11_mostAt ∈ lw_w := lw_m (lt6 (List.mem_of_getElem? (i := 24) rfl)) rfl
theorem ml_X11_407 : Cond.methodLink RX11 407 yX11_wrongRows ∈ lw_w := lw_m (lt6 (List.mem_of_getElem? (i := 36) rfl)) rfl
theorem ml_X11_410 : Cond.methodLink RX11 410 yX8_meets ∈ lw_w := lw_m (lt6 (List.mem_of_getElem? (i := 44) rfl)) rfl
theorem ml_X11_414 : Cond.methodLink RX11 414 yX8_stones ∈ lw_w := lw_m (lt6 (List.mem_of_getElem? (i := 52) rfl)) rfl
theorem ml_X11_416 : Cond.methodLink RX11 416 yX8_allBelow ∈ lw_w := lw_m (lt6 (List.mem_of_getElem? (i := 40) rfl)) rfl
theorem ml_X11_419 : Cond.methodLink RX11 419 yX11_isSeed ∈ lw_w := lw_m (lt6 (List.mem_of_getElem? (i := 60) rfl)) rfl
theorem ml_X11_422 : Cond.methodLink RX11 422 yX11_peopleOnDay ∈ lw_w := lw_m (lt6 (List.mem_of_getElem? (i := 64) rfl)) rfl
theorem ml_X11_425 : Cond.methodLink RX11 425 yX9_drawn ∈ lw_w := lw_m (lt6 (List.mem_of_getElem? (i := 68) rfl)) rfl
theorem ml_X11_428 : Cond.methodLink RX11 428 yX0_wadeOver ∈ lw_w := lw_m (lt6 (List.mem_of_getElem? (i := 78) rfl)) rfl
theorem ml_X11_431 : Cond.methodLink RX11 431 yX9_stonesInDoubt ∈ lw_w := lw_m (lt6 (List.mem_of_getElem? (i := 94) rfl)) rfl
theorem ml_X11_434 : Cond.methodLink RX11 434 yX11_rowsThere ∈ lw_w := lw_m (lt6 (List.mem_of_getElem? (i := 98) rfl)) rfl
theorem ml_X11_437 : Cond.methodLink RX11 437 yX11_isImage ∈ lw_w := lw_m (lt6 (List.mem_of_getElem? (i := 106) rfl)) rfl
theorem ml_X11_440 : Cond.methodLink RX11 440 yX8_clear ∈ lw_w := lw_m (lt6 (List.mem_of_getElem? (i := 117) rfl)) rfl
theorem ml_X11_443 : Cond.methodLink RX11 443 yX8_put ∈ lw_w := lw_m (lt6 (List.mem_of_getElem? (i := 128) rfl)) rfl
theorem ml_X11_449 : Cond.methodLink RX11 449 yX8_has ∈ lw_w := lw_m (lt6 (List.mem_of_getElem? (i := 136) rfl)) rfl
theorem ml_X11_452 : Cond.methodLink RX11 452 arraycopyName ∈ lw_w := lw_m (lt6 (List.mem_of_getElem? (i := 140) rfl)) rfl
theorem ml_X12_103 : Cond.methodLink RX12 103 yX12_in ∈ lw_w := lw_m (lt7 (List.mem_of_getElem? (i := 53) rfl)) rfl
theorem ml_X12_107 : Cond.methodLink RX12 107 yX12_isRiver ∈ lw_w := lw_m (lt7 (List.mem_of_getElem? (i := 190) rfl)) rfl
theorem ml_X12_111 : Cond.methodLink RX12 111 yX12_isStone ∈ lw_w := lw_m (lt7 (List.mem_of_getElem? (i := 160) rfl)) rfl
theorem ml_X12_124 : Cond.methodLink RX12 124 yX12_see ∈ lw_w := lw_m (lt7 (List.mem_of_getElem? (i := 80) rfl)) rfl
theorem ml_X12_146 : Cond.methodLink RX12 146 Lib.Math.min.name ∈ lw_w := lw_m (lt7 (List.mem_of_getElem? (i := 89) rfl)) rfl
theorem ml_X12_155 : Cond.methodLink RX12 155 yX12_good ∈ lw_w := lw_m (lt7 (List.mem_of_getElem? (i := 90) rfl)) rfl
theorem ml_X12_158 : Cond.methodLink RX12 158 yJ0_length_8abf5 ∈ lw_w := lw_m (lt7 (List.mem_of_getElem? (i := 111) rfl)) rfl
theorem ml_X12_164 : Cond.methodLink RX12 164 yJ0_charAt_5068e ∈ lw_w := lw_m (lt7 (List.mem_of_getElem? (i := 112) rfl)) rfl
theorem ml_X12_168 : Cond.methodLink RX12 168 yX12_is ∈ lw_w := lw_m (lt7 (List.mem_of_getElem? (i := 107) rfl)) rfl
theorem ml_X12_172 : Cond.methodLink RX12 172 yX12_advance ∈ lw_w := lw_m (lt7 (List.mem_of_getElem? (i := 76) rfl)) rfl
theorem ml_X12_175 : Cond.methodLink RX12 175 yX12_takes ∈ lw_w := lw_m (lt7 (List.mem_of_getElem? (i := 103) rfl)) rfl
theorem ml_X12_178 : Cond.methodLink RX12 178 yX12_errs ∈ lw_w := lw_m (lt7 (List.mem_of_getElem? (i := 113) rfl)) rfl
theorem ml_X12_182 : Cond.methodLink RX12 182 yX12_needs ∈ lw_w := lw_m (lt7 (List.mem_of_getElem? (i := 99) rfl)) rfl
theorem ml_X12_186 : Cond.methodLink RX12 186 yX12_number ∈ lw_w := lw_m (lt7 (List.mem_of_getElem? (i := 122) rfl)) rfl
theorem ml_X12_190 : Cond.methodLink RX12 190 yX12_told ∈ lw_w := lw_m (lt7 (List.mem_of_getElem? (i := 118) rfl)) rfl
theorem ml_X12_194 : Cond.methodLink RX12 194 yX12_freshOn ∈ lw_w := lw_m (lt7 (List.mem_of_getElem? (i := 139) rfl)) rfl
theorem ml_X12_221 : Cond.methodLink RX12 221 yX12_readStone ∈ lw_w := lw_m (lt7 (List.mem_of_getElem? (i := 134) rfl)) rfl
theorem ml_X12_224 : Cond.methodLink RX12 224 yX12_readPerson ∈ lw_w := lw_m (lt7 (List.mem_of_getElem? (i := 146) rfl)) rfl
theorem ml_X12_233 : Cond.methodLink RX12 233 yX12_readNext ∈ lw_w := lw_m (lt7 (List.mem_of_getElem? (i := 127) rfl)) rfl
theorem ml_X12_236 : Cond.methodLink RX12 236 yX12_readLine ∈ lw_w := lw_m (lt7 (List.mem_of_getElem? (i := 94) rfl)) rfl
theorem ml_X12_239 : Cond.methodLink RX12 239 yX12_ofStone ∈ lw_w := lw_m (lt7 (List.mem_of_getElem? (i := 165) rfl)) rfl
theorem ml_X12_242 : Cond.methodLink RX12 242 yX12_bearsNow ∈ lw_w := lw_m (lt7 (List.mem_of_getElem? (i := 173) rfl)) rfl
theorem ml_X12_245 : Cond.methodLink RX12 245 Lib.Math.max.name ∈ lw_w := lw_m (lt7 (List.mem_of_getElem? (i := 177) rfl)) rfl
theorem ml_X12_250 : Cond.methodLink RX12 250 yX12_left ∈ lw_w := lw_m (lt7 (List.mem_of_getElem? (i := 169) rfl)) rfl
theorem ml_X12_253 : Cond.methodLink RX12 253 yX12_isInDoubt ∈ lw_w := lw_m (lt7 (List.mem_of_getElem? (i := 178) rfl)) rfl
theorem ml_X12_256 : Cond.methodLink RX12 256 yX12_acrossOf ∈ lw_w := lw_m (lt7 (List.mem_of_getElem? (i := 206) rfl)) rfl
theorem ml_X12_259 : Cond.methodLink RX12 259 yX12_squares ∈ lw_w := lw_m (lt7 (List.mem_of_getElem? (i := 202) rfl)) rfl
theorem ml_X12_264 : Cond.methodLink RX12 264 yX12_isPlace ∈ lw_w := lw_m (lt7 (List.mem_of_getElem? (i := 186) rfl)) rfl
theorem ml_X12_267 : Cond.methodLink RX12 267 yX12_isStride ∈ lw_w := lw_m (lt7 (List.mem_of_getElem? (i := 194) rfl)) rfl
theorem ml_X12_270 : Cond.methodLink RX12 270 yX12_isStep ∈ lw_w := lw_m (lt7 (List.mem_of_getElem? (i := 198) rfl)) rfl
theorem ml_X12_274 : Cond.methodLink RX12 274 yX12_reachOf ∈ lw_w := lw_m (lt7 (List.mem_of_getElem? (i := 214) rfl)) rfl
theorem ml_X12_279 : Cond.methodLink RX12 279 yX12_setStone ∈ lw_w := lw_m (lt7 (List.mem_of_getElem? (i := 235) rfl)) rfl
theorem ml_X12_283 : Cond.methodLink RX12 283 yX12_borneAll ∈ lw_w := lw_m (lt7 (List.mem_of_getElem? (i := 227) rfl)) rfl
theorem ml_X12_286 : Cond.methodLink RX12 286 yX12_freshens ∈ lw_w := lw_m (lt7 (List.mem_of_getElem? (i := 231) rfl)) rfl
theorem ml_X12_289 : Cond.methodLink RX12 289 yX12_of ∈ lw_w := lw_m (lt8 (List.mem_of_getElem? (i := 17) rfl)) rfl
theorem ml_X12_293 : Cond.methodLink RX12 293 yX12_isLess ∈ lw_w := lw_m (lt8 (List.mem_of_getElem? (i := 26) rfl)) rfl
theorem ml_X12_300 : Cond.methodLink RX12 300 yX12_fillCosts ∈ lw_w := lw_m (lt8 (List.mem_of_getElem? (i := 13) rfl)) rfl
theorem ml_X12_303 : Cond.methodLink RX12 303 yX12_fillLeft ∈ lw_w := lw_m (lt8 (List.mem_of_getElem? (i := 21) rfl)) rfl
theorem ml_X12_310 : Cond.methodLink RX12 310 yX12_isAsked ∈ lw_w := lw_m (lt8 (List.mem_of_getElem? (i := 3) rfl)) rfl
theorem ml_X12_313 : Cond.methodLink RX12 313 yX12_finds ∈ lw_w := lw_m (lt8 (List.mem_of_getElem? (i := 9) rfl)) rfl
theorem ml_X12_316 : Cond.methodLink RX12 316 yX12_bears ∈ lw_w := lw_m (lt8 (List.mem_of_getElem? (i := 45) rfl)) rfl
theorem ml_X12_319 : Cond.methodLink RX12 319 yX12_set ∈ lw_w := lw_m (lt8 (List.mem_of_getElem? (i := 49) rfl)) rfl
theorem ml_X12_322 : Cond.methodLink RX12 322 yX12_isPerson ∈ lw_w := lw_m (lt8 (List.mem_of_getElem? (i := 37) rfl)) rfl
theorem ml_X12_325 : Cond.methodLink RX12 325 yX12_steps ∈ lw_w := lw_m (lt8 (List.mem_of_getElem? (i := 41) rfl)) rfl
theorem ml_X12_336 : Cond.methodLink RX12 336 yX12_isSlot ∈ lw_w := lw_m (lt8 (List.mem_of_getElem? (i := 57) rfl)) rfl
theorem ml_X12_339 : Cond.methodLink RX12 339 yX12_thinks ∈ lw_w := lw_m (lt8 (List.mem_of_getElem? (i := 60) rfl)) rfl
theorem ml_X12_342 : Cond.methodLink RX12 342 yX12_walks ∈ lw_w := lw_m (lt8 (List.mem_of_getElem? (i := 64) rfl)) rfl
theorem ml_X12_345 : Cond.methodLink RX12 345 yX12_wakes ∈ lw_w := lw_m (lt8 (List.mem_of_getElem? (i := 70) rfl)) rfl
theorem ml_X12_348 : Cond.methodLink RX12 348 yX12_second ∈ lw_w := lw_m (lt8 (List.mem_of_getElem? (i := 98) rfl)) rfl
theorem ml_X12_351 : Cond.methodLink RX12 351 yX12_leads ∈ lw_w := lw_m (lt8 (List.mem_of_getElem? (i := 82) rfl)) rfl
theorem ml_X12_354 : Cond.methodLink RX12 354 yX12_isAt ∈ lw_w := lw_m (lt8 (List.mem_of_getElem? (i := 94) rfl)) rfl
theorem ml_X12_357 : Cond.methodLink RX12 357 yX12_strideOf ∈ lw_w := lw_m (lt8 (List.mem_of_getElem? (i := 106) rfl)) rfl
theorem ml_X12_360 : Cond.methodLink RX12 360 yX12_sumOf ∈ lw_w := lw_m (lt8 (List.mem_of_getElem? (i := 110) rfl)) rfl
theorem ml_X12_363 : Cond.methodLink RX12 363 yX12_puts ∈ lw_w := lw_m (lt8 (List.mem_of_getElem? (i := 114) rfl)) rfl
theorem ml_X12_366 : Cond.methodLink RX12 366 yX12_isWay ∈ lw_w := lw_m (lt8 (List.mem_of_getElem? (i := 90) rfl)) rfl
theorem ml_X12_369 : Cond.methodLink RX12 369 yX12_goes ∈ lw_w := lw_m (lt8 (List.mem_of_getElem? (i := 102) rfl)) rfl
theorem ml_X12_384 : Cond.methodLink RX12 384 yX12_manyOf ∈ lw_w := lw_m (lt8 (List.mem_of_getElem? (i := 138) rfl)) rfl
theorem ml_X12_387 : Cond.methodLink RX12 387 yX12_bitsOf ∈ lw_w := lw_m (lt8 (List.mem_of_getElem? (i := 142) rfl)) rfl
theorem ml_X12_390 : Cond.methodLink RX12 390 yX12_clearsOver ∈ lw_w := lw_m (lt8 (List.mem_of_getElem? (i := 126) rfl)) rfl
theorem ml_X12_393 : Cond.methodLink RX12 393 yX12_units ∈ lw_w := lw_m (lt8 (List.mem_of_getElem? (i := 130) rfl)) rfl
theorem ml_X12_396 : Cond.methodLink RX12 396 yX12_goesOver ∈ lw_w := lw_m (lt8 (List.mem_of_getElem? (i := 134) rfl)) rfl
theorem ml_X12_399 : Cond.methodLink RX12 399 yX12_allGoOver ∈ lw_w := lw_m (lt8 (List.mem_of_getElem? (i := 122) rfl)) rfl
theorem ml_X12_402 : Cond.methodLink RX12 402 yX12_mustAndNot ∈ lw_w := lw_m (lt8 (List.mem_of_getElem? (i := 146) rfl)) rfl
theorem ml_X12_408 : Cond.methodLink RX12 408 yX12_swaps ∈ lw_w := lw_m (lt8 (List.mem_of_getElem? (i := 171) rfl)) rfl
theorem ml_X12_417 : Cond.methodLink RX12 417 yX12_nextOrder ∈ lw_w := lw_m (lt8 (List.mem_of_getElem? (i := 167) rfl)) rfl
theorem ml_X12_422 : Cond.methodLink RX12 422 yX12_fillWaiting ∈ lw_w := lw_m (lt8 (List.mem_of_getElem? (i := 159) rfl)) rfl
theorem ml_X12_425 : Cond.methodLink RX12 425 yX12_findsOrder ∈ lw_w := lw_m (lt8 (List.mem_of_getElem? (i := 163) rfl)) rfl
theorem ml_X12_429 : Cond.methodLink RX12 429 yX12_isSomebodyHere ∈ lw_w := lw_m (lt8 (List.mem_of_getElem? (i := 188) rfl)) rfl
theorem ml_X12_435 : Cond.methodLink RX12 435 yX12_addNode ∈ lw_w := lw_m (lt8 (List.mem_of_getElem? (i := 212) rfl)) rfl
theorem ml_X12_438 : Cond.methodLink RX12 438 yX12_areNear ∈ lw_w := lw_m (lt8 (List.mem_of_getElem? (i := 220) rfl)) rfl
theorem ml_X12_441 : Cond.methodLink RX12 441 yX12_fillRoom ∈ lw_w := lw_m (lt8 (List.mem_of_getElem? (i := 224) rfl)) rfl
theorem ml_X12_444 : Cond.methodLink RX12 444 yX12_floods ∈ lw_w := lw_m (lt8 (List.mem_of_getElem? (i := 228) rfl)) rfl
theorem ml_X12_447 : Cond.methodLink RX12 447 yX12_fillNodes ∈ lw_w := lw_m (lt8 (List.mem_of_getElem? (i := 208) rfl)) rfl
theorem ml_X12_450 : Cond.methodLink RX12 450 yX12_flow ∈ lw_w := lw_m (lt8 (List.mem_of_getElem? (i := 216) rfl)) rfl
theorem ml_X12_453 : Cond.methodLink RX12 453 yX12_isLoad ∈ lw_w := lw_m (lt8 (List.mem_of_getElem? (i := 200) rfl)) rfl
theorem ml_X12_456 : Cond.methodLink RX12 456 yX12_mostOf ∈ lw_w := lw_m (lt8 (List.mem_of_getElem? (i := 204) rfl)) rfl
theorem ml_X12_459 : Cond.methodLink RX12 459 yX12_isSpot ∈ lw_w := lw_m (lt9 (List.mem_of_getElem? (i := 8) rfl)) rfl
theorem ml_X12_462 : Cond.methodLink RX12 462 yX12_stoneOn ∈ lw_w := lw_m (lt9 (List.mem_of_getElem? (i := 12) rfl)) rfl
theorem ml_X12_465 : Cond.methodLink RX12 465 yX12_withMore ∈ lw_w := lw_m (lt9 (List.mem_of_getElem? (i := 16) rfl)) rfl
theorem ml_X12_469 : Cond.methodLink RX12 469 yX12_movedOf ∈ lw_w := lw_m (lt9 (List.mem_of_getElem? (i := 28) rfl)) rfl
theorem ml_X12_473 : Cond.methodLink RX12 473 yX12_nodeOf ∈ lw_w := lw_m (lt9 (List.mem_of_getElem? (i := 44) rfl)) rfl
theorem ml_X12_476 : Cond.methodLink RX12 476 yX12_plankOf ∈ lw_w := lw_m (lt9 (List.mem_of_getElem? (i := 40) rfl)) rfl
theorem ml_X12_483 : Cond.methodLink RX12 483 yX12_on ∈ lw_w := lw_m (lt9 (List.mem_of_getElem? (i := 64) rfl)) rfl
theorem ml_X12_487 : Cond.methodLink RX12 487 Lib.MathLoose.max_long.x ∈ lw_w := lw_m (lt9 (List.mem_of_getElem? (i := 69) rfl)) rfl
theorem ml_X12_490 : Cond.methodLink RX12 490 yX12_sureOf ∈ lw_w := lw_m (lt9 (List.mem_of_getElem? (i := 59) rfl)) rfl
theorem ml_X12_496 : Cond.methodLink RX12 496 yX12_treadOf ∈ lw_w := lw_m (lt9 (List.mem_of_getElem? (i := 77) rfl)) rfl
theorem ml_X12_500 : Cond.methodLink RX12 500 yX12_priceOf ∈ lw_w := lw_m (lt9 (List.mem_of_getElem? (i := 89) rfl)) rfl
theorem ml_X12_503 : Cond.methodLink RX12 503 yX12_lateOf ∈ lw_w := lw_m (lt9 (List.mem_of_getElem? (i := 101) rfl)) rfl
theorem ml_X12_508 : Cond.methodLink RX12 508 yX12_areStones ∈ lw_w := lw_m (lt9 (List.mem_of_getElem? (i := 118) rfl)) rfl
theorem ml_X12_511 : Cond.methodLink RX12 511 yX12_asksTwo ∈ lw_w := lw_m (lt9 (List.mem_of_getElem? (i := 114) rfl)) rfl
theorem ml_X12_514 : Cond.methodLink RX12 514 yX12_meet ∈ lw_w := lw_m (lt9 (List.mem_of_getElem? (i := 122) rfl)) rfl
theorem ml_X12_517 : Cond.methodLink RX12 517 yX12_setOf ∈ lw_w := lw_m (lt9 (List.mem_of_getElem? (i := 130) rfl)) rfl
theorem ml_X12_532 : Cond.methodLink RX12 532 yX12_draw ∈ lw_w := lw_m (lt9 (List.mem_of_getElem? (i := 146) rfl)) rfl
theorem ml_X12_535 : Cond.methodLink RX12 535 yX12_ventures ∈ lw_w := lw_m (lt9 (List.mem_of_getElem? (i := 154) rfl)) rfl
theorem ml_X12_540 : Cond.methodLink RX12 540 yX12_isSeed ∈ lw_w := lw_m (lt9 (List.mem_of_getElem? (i := 138) rfl)) rfl
theorem ml_X12_543 : Cond.methodLink RX12 543 yX12_runOf ∈ lw_w := lw_m (lt9 (List.mem_of_getElem? (i := 142) rfl)) rfl
theorem ml_X12_549 : Cond.methodLink RX12 549 yX12_at ∈ lw_w := lw_m (lt9 (List.mem_of_getElem? (i := 167) rfl)) rfl
theorem ml_X12_551 : Cond.methodLink RX12 551 yX12_cut_ ∈ lw_w := lw_m (lt9 (List.mem_of_getElem? (i := 179) rfl)) rfl
theorem fp_X1_41 : sm_FP RX1 41 1 2 0 .int := ⟨by decide, _, _, _, rfl, by decide, by decide +kernel, lw_m (lt2 (List.mem_of_getElem? (i := 91) rfl)) rfl, rfl, by decide +kernel⟩
theorem fp_X2_120 : sm_FP RX2 120 4 4 0 .int := ⟨by decide, _, _, _, rfl, by decide, by decide +kernel, lw_m (lt2 (List.mem_of_getElem? (i := 120) rfl)) rfl, rfl, by decide +kernel⟩
theorem fp_X2_123 : sm_FP RX2 123 4 3 0 .int := ⟨by decide, _, _, _, rfl, by decide, by decide +kernel, lw_m (lt2 (List.mem_of_getElem? (i := 118) rfl)) rfl, rfl, by decide +kernel⟩
theorem fp_X2_137 : sm_FP RX2 137 4 2 0 .int := ⟨by decide, _, _, _, rfl, by decide, by decide +kernel, lw_m (lt2 (List.mem_of_getElem? (i := 116) rfl)) rfl, rfl, by decide +kernel⟩
theorem fp_X2_140 : sm_FP RX2 140 2 6 0 .int := ⟨by decide, _, _, _, rfl, by decide, by decide +kernel, lw_m (lt2 (List.mem_of_getElem? (i := 158) rfl)) rfl, rfl, by decide +kernel⟩
theorem fp_X2_35 : sm_FP RX2 35 2 7 0 .int := ⟨by decide, _, _, _, rfl, by decide, by decide +kernel, lw_m (lt2 (List.mem_of_getElem? (i := 159) rfl)) rfl, rfl, by decide +kernel⟩
theorem fp_X2_47 : sm_FP RX2 47 4 0 0 .int := ⟨by decide, _, _, _, rfl, by decide, by decide +kernel, lw_m (lt2 (List.mem_of_getElem? (i := 112) rfl)) rfl, rfl, by decide +kernel⟩
theorem fp_X2_52 : sm_FP RX2 52 4 1 0 .int := ⟨by decide, _, _, _, rfl, by decide, by decide +kernel, lw_m (lt2 (List.mem_of_getElem? (i := 114) rfl)) rfl, rfl, by decide +kernel⟩
theorem fp_X4_27 : sm_FP RX4 27 4 0 0 .int := ⟨by decide, _, _, _, rfl, by decide, by decide +kernel, lw_m (lt2 (List.mem_of_getElem? (i := 111) rfl)) rfl, rfl, by decide +kernel⟩
theorem fp_X4_31 : sm_FP RX4 31 4 1 0 .int := ⟨by decide, _, _, _, rfl, by decide, by decide +kernel, lw_m (lt2 (List.mem_of_getElem? (i := 113) rfl)) rfl, rfl, by decide +kernel⟩
theorem fp_X4_34 : sm_FP RX4 34 4 2 0 .int := ⟨by decide, _, _, _, rfl, by decide, by decide +kernel, lw_m (lt2 (List.mem_of_getElem? (i := 115) rfl)) rfl, rfl, by decide +kernel⟩
theorem fp_X4_37 : sm_FP RX4 37 4 3 0 .int := ⟨by decide, _, _, _, rfl, by decide, by decide +kernel, lw_m (lt2 (List.mem_of_getElem? (i := 117) rfl)) rfl, rfl, by decide +kernel⟩
theorem fp_X4_40 : sm_FP RX4 40 4 4 0 .int := ⟨by decide, _, _, _, rfl, by decide, by decide +kernel, lw_m (lt2 (List.mem_of_getElem? (i := 119) rfl)) rfl, rfl, by decide +kernel⟩
theorem fp_X5_24 : sm_FP RX5 24 5 8 0 .int := ⟨by decide, _, _, _, rfl, by decide, by decide +kernel, lw_m (lt2 (List.mem_of_getElem? (i := 63) rfl)) rfl, rfl, by decide +kernel⟩
theorem fp_X5_58 : sm_FP RX5 58 5 7 0 .int := ⟨by decide, _, _, _, rfl, by decide, by decide +kernel, lw_m (lt2 (List.mem_of_getElem? (i := 62) rfl)) rfl, rfl, by decide +kernel⟩
theorem fp_X5_61 : sm_FP RX5 61 5 0 0 .int := ⟨by decide, _, _, _, rfl, by decide, by decide +kernel, lw_m (lt2 (List.mem_of_getElem? (i := 53) rfl)) rfl, rfl, by decide +kernel⟩
theorem fp_X5_64 : sm_FP RX5 64 5 1 0 .int := ⟨by decide, _, _, _, rfl, by decide, by decide +kernel, lw_m (lt2 (List.mem_of_getElem? (i := 55) rfl)) rfl, rfl, by decide +kernel⟩
theorem fp_X6_101 : sm_FP RX6 101 7 2 0 .int := ⟨by decide, _, _, _, rfl, by decide, by decide +kernel, lw_m (lt1 (List.mem_of_getElem? (i := 54) rfl)) rfl, rfl, by decide +kernel⟩
theorem fp_X6_104 : sm_FP RX6 104 7 4 0 .int := ⟨by decide, _, _, _, rfl, by decide, by decide +kernel, lw_m (lt1 (List.mem_of_getElem? (i := 64) rfl)) rfl, rfl, by decide +kernel⟩
theorem fp_X6_113 : sm_FP RX6 113 6 8 0 .int := ⟨by decide, _, _, _, rfl, by decide, by decide +kernel, lw_m (lt1 (List.mem_of_getElem? (i := 160) rfl)) rfl, rfl, by decide +kernel⟩
theorem fp_X6_137 : sm_FP RX6 137 7 5 0 .int := ⟨by decide, _, _, _, rfl, by decide, by decide +kernel, lw_m (lt1 (List.mem_of_getElem? (i := 71) rfl)) rfl, rfl, by decide +kernel⟩
theorem fp_X6_152 : sm_FP RX6 152 7 6 0 .int := ⟨by decide, _, _, _, rfl, by decide, by decide +kernel, lw_m (lt1 (List.mem_of_getElem? (i := 75) rfl)) rfl, rfl, by decide +kernel⟩
theorem fp_X6_159 : sm_FP RX6 159 7 7 0 .int := ⟨by decide, _, _, _, rfl, by decide, by decide +kernel, lw_m (lt1 (List.mem_of_getElem? (i := 77) rfl)) rfl, rfl, by decide +kernel⟩
theorem fp_X6_171 : sm_FP RX6 171 7 3 0 .int := ⟨by decide, _, _, _, rfl, by decide, by decide +kernel, lw_m (lt1 (List.mem_of_getElem? (i := 57) rfl)) rfl, rfl, by decide +kernel⟩
theorem fp_X6_173 : sm_FP RX6 173 6 5 0 .int := ⟨by decide, _, _, _, rfl, by decide, by decide +kernel, lw_m (lt1 (List.mem_of_getElem? (i := 157) rfl)) rfl, rfl, by decide +kernel⟩
theorem fp_X6_18 : sm_FP RX6 18 6 3 3 (.array .byte) := ⟨by decide, _, _, _, rfl, by decide, by decide +kernel, lw_m (lt1 (List.mem_of_getElem? (i := 155) rfl)) rfl, rfl, by decide +kernel⟩
theorem fp_X6_28 : sm_FP RX6 28 6 4 0 .int := ⟨by decide, _, _, _, rfl, by decide, by decide +kernel, lw_m (lt1 (List.mem_of_getElem? (i := 156) rfl)) rfl, rfl, by decide +kernel⟩
theorem fp_X6_35 : sm_FP RX6 35 6 1 0 .int := ⟨by decide, _, _, _, rfl, by decide, by decide +kernel, lw_m (lt1 (List.mem_of_getElem? (i := 151) rfl)) rfl, rfl, by decide +kernel⟩
theorem fp_X6_38 : sm_FP RX6 38 6 2 0 .int := ⟨by decide, _, _, _, rfl, by decide, by decide +kernel, lw_m (lt1 (List.mem_of_getElem? (i := 153) rfl)) rfl, rfl, by decide +kernel⟩
theorem fp_X6_41 : sm_FP RX6 41 6 6 0 .int := ⟨by decide, _, _, _, rfl, by decide, by decide +kernel, lw_m (lt1 (List.mem_of_getElem? (i := 158) rfl)) rfl, rfl, by decide +kernel⟩
theorem fp_X6_44 : sm_FP RX6 44 6 9 0 .int := ⟨by decide, _, _, _, rfl, by decide, by decide +kernel, lw_m (lt1 (List.mem_of_getElem? (i := 161) rfl)) rfl, rfl, by decide +kernel⟩
theorem fp_X6_47 : sm_FP RX6 47 6 10 4 .boolean := ⟨by decide, _, _, _, rfl, by decide, by decide +kernel, lw_m (lt1 (List.mem_of_getElem? (i := 162) rfl)) rfl, rfl, by decide +kernel⟩
theorem fp_X6_54 : sm_FP RX6 54 6 7 0 .int := ⟨by decide, _, _, _, rfl, by decide, by decide +kernel, lw_m (lt1 (List.mem_of_getElem? (i := 159) rfl)) rfl, rfl, by decide +kernel⟩
theorem fp_X6_60 : sm_FP RX6 60 7 0 0 .int := ⟨by decide, _, _, _, rfl, by decide, by decide +kernel, lw_m (lt1 (List.mem_of_getElem? (i := 43) rfl)) rfl, rfl, by decide +kernel⟩
theorem fp_X6_97 : sm_FP RX6 97 7 1 0 .int := ⟨by decide, _, _, _, rfl, by decide, by decide +kernel, lw_m (lt1 (List.mem_of_getElem? (i := 49) rfl)) rfl, rfl, by decide +kernel⟩
theorem fp_X7_39 : sm_FP RX7 39 7 0 0 .int := ⟨by decide, _, _, _, rfl, by decide, by decide +kernel, lw_m (lt1 (List.mem_of_getElem? (i := 42) rfl)) rfl, rfl, by decide +kernel⟩
theorem fp_X7_43 : sm_FP RX7 43 7 1 0 .int := ⟨by decide, _, _, _, rfl, by decide, by decide +kernel, lw_m (lt1 (List.mem_of_getElem? (i := 46) rfl)) rfl, rfl, by decide +kernel⟩
theorem fp_X7_46 : sm_FP RX7 46 7 2 0 .int := ⟨by decide, _, _, _, rfl, by decide, by decide +kernel, lw_m (lt1 (List.mem_of_getElem? (i := 53) rfl)) rfl, rfl, by decide +kernel⟩
theorem fp_X7_49 : sm_FP RX7 49 7 3 0 .int := ⟨by decide, _, _, _, rfl, by decide, by decide +kernel, lw_m (lt1 (List.mem_of_getElem? (i := 56) rfl)) rfl, rfl, by decide +kernel⟩
theorem fp_X7_52 : sm_FP RX7 52 7 4 0 .int := ⟨by decide, _, _, _, rfl, by decide, by decide +kernel, lw_m (lt1 (List.mem_of_getElem? (i := 59) rfl)) rfl, rfl, by decide +kernel⟩
theorem fp_X7_55 : sm_FP RX7 55 7 5 0 .int := ⟨by decide, _, _, _, rfl, by decide, by decide +kernel, lw_m (lt1 (List.mem_of_getElem? (i := 67) rfl)) rfl, rfl, by decide +kernel⟩
theorem fp_X7_58 : sm_FP RX7 58 7 6 0 .int := ⟨by decide, _, _, _, rfl, by decide, by decide +kernel, lw_m (lt1 (List.mem_of_getElem? (i := 74) rfl)) rfl, rfl, by decide +kernel⟩
theorem fp_X7_61 : sm_FP RX7 61 7 7 0 .int := ⟨by decide, _, _, _, rfl, by decide, by decide +kernel, lw_m (lt1 (List.mem_of_getElem? (i := 76) rfl)) rfl, rfl, by decide +kernel⟩
theorem fp_X8_15 : sm_FP RX8 15 8 0 4 .boolean := ⟨by decide, _, _, _, rfl, by decide, by decide +kernel, lw_m (lt2 (List.mem_of_getElem? (i := 185) rfl)) rfl, rfl, by decide +kernel⟩
theorem fp_X8_19 : sm_FP RX8 19 8 1 0 .int := ⟨by decide, _, _, _, rfl, by decide, by decide +kernel, lw_m (lt2 (List.mem_of_getElem? (i := 187) rfl)) rfl, rfl, by decide +kernel⟩
theorem fp_X8_23 : sm_FP RX8 23 8 2 0 .int := ⟨by decide, _, _, _, rfl, by decide, by decide +kernel, lw_m (lt2 (List.mem_of_getElem? (i := 189) rfl)) rfl, rfl, by decide +kernel⟩
theorem fp_X9_31 : sm_FP RX9 31 9 1 0 .int := ⟨by decide, _, _, _, rfl, by decide, by decide +kernel, lw_m (lt1 (List.mem_of_getElem? (i := 202) rfl)) rfl, rfl, by decide +kernel⟩
theorem fp_X10_28 : sm_FP RX10 28 10 1 0 .int := ⟨by decide, _, _, _, rfl, by decide, by decide +kernel, lw_m (lt2 (List.mem_of_getElem? (i := 15) rfl)) rfl, rfl, by decide +kernel⟩
theorem fp_X11_110 : sm_FP RX11 110 11 1 0 .int := ⟨by decide, _, _, _, rfl, by decide, by decide +kernel, lw_m (lt2 (List.mem_of_getElem? (i := 205) rfl)) rfl, rfl, by decide +kernel⟩
theorem fp_X11_124 : sm_FP RX11 124 11 2 0 .int := ⟨by decide, _, _, _, rfl, by decide, by decide +kernel, lw_m (lt2 (List.mem_of_getElem? (i := 206) rfl)) rfl, rfl, by decide +kernel⟩
theorem fp_X11_13 : sm_FP RX11 13 11 3 0 .int := ⟨by decide, _, _, _, rfl, by decide, by decide +kernel, lw_m (lt2 (List.mem_of_getElem? (i := 207) rfl)) rfl, rfl, by decide +kernel⟩
theorem fp_X11_204 : sm_FP RX11 204 9 1 0 .int := ⟨by decide, _, _, _, rfl, by decide, by decide +kernel, lw_m (lt1 (List.mem_of_getElem? (i := 203) rfl)) rfl, rfl, by decide +kernel⟩
theorem fp_X12_115 : sm_FP RX12 115 12 5 0 .int := ⟨by decide, _, _, _, rfl, by decide, by decide +kernel, lw_m (lt6 (List.mem_of_getElem? (i := 151) rfl)) rfl, rfl, by decide +kernel⟩
theorem fp_X12_118 : sm_FP RX12 118 12 7 0 .int := ⟨by decide, _, _, _, rfl, by decide, by decide +kernel, lw_m (lt6 (List.mem_of_getElem? (i := 153) rfl)) rfl, rfl, by decide +kernel⟩
theorem fp_X12_121 : sm_FP RX12 121 12 8 0 .int := ⟨by decide, _, _, _, rfl, by decide, by decide +kernel, lw_m (lt6 (List.mem_of_getElem? (i := 154) rfl)) rfl, rfl, by decide +kernel⟩
theorem fp_X12_128 : sm_FP RX12 128 12 9 0 .int := ⟨by decide, _, _, _, rfl, by decide, by decide +kernel, lw_m (lt6 (List.mem_of_getElem? (i := 155) rfl)) rfl, rfl, by decide +kernel⟩
theorem fp_X12_131 : sm_FP RX12 131 12 10 0 .int := ⟨by decide, _, _, _, rfl, by decide, by decide +kernel, lw_m (lt6 (List.mem_of_getElem? (i := 156) rfl)) rfl, rfl, by decide +kernel⟩
theorem fp_X12_142 : sm_FP RX12 142 12 11 0 .int := ⟨by decide, _, _, _, rfl, by decide, by decide +kernel, lw_m (lt6 (List.mem_of_getElem? (i := 157) rfl)) rfl, rfl, by decide +kernel⟩
theorem fp_X12_152 : sm_FP RX12 152 12 12 0 .int := ⟨by decide, _, _, _, rfl, by decide, by decide +kernel, lw_m (lt6 (List.mem_of_getElem? (i := 158) rfl)) rfl, rfl, by decide +kernel⟩
theorem fp_X12_27 : sm_FP RX12 27 12 13 0 .int := ⟨by decide, _, _, _, rfl, by decide, by decide +kernel, lw_m (lt6 (List.mem_of_getElem? (i := 159) rfl)) rfl, rfl, by decide +kernel⟩
theorem fp_X12_297 : sm_FP RX12 297 12 19 0 .int := ⟨by decide, _, _, _, rfl, by decide, by decide +kernel, lw_m (lt6 (List.mem_of_getElem? (i := 165) rfl)) rfl, rfl, by decide +kernel⟩
theorem fp_X12_329 : sm_FP RX12 329 12 21 0 .int := ⟨by decide, _, _, _, rfl, by decide, by decide +kernel, lw_m (lt6 (List.mem_of_getElem? (i := 167) rfl)) rfl, rfl, by decide +kernel⟩
theorem fp_X12_372 : sm_FP RX12 372 12 22 0 .int := ⟨by decide, _, _, _, rfl, by decide, by decide +kernel, lw_m (lt6 (List.mem_of_getElem? (i := 168) rfl)) rfl, rfl, by decide +kernel⟩
theorem fp_X12_375 : sm_FP RX12 375 12 23 0 .int := ⟨by decide, _, _, _, rfl, by decide, by decide +kernel, lw_m (lt6 (List.mem_of_getElem? (i := 169) rfl)) rfl, rfl, by decide +kernel⟩
theorem fp_X12_378 : sm_FP RX12 378 12 24 0 .int := ⟨by decide, _, _, _, rfl, by decide, by decide +kernel, lw_m (lt6 (List.mem_of_getElem? (i := 170) rfl)) rfl, rfl, by decide +kernel⟩
theorem fp_X12_381 : sm_FP RX12 381 12 25 0 .int := ⟨by decide, _, _, _, rfl, by decide, by decide +kernel, lw_m (lt6 (List.mem_of_getElem? (i := 171) rfl)) rfl, rfl, by decide +kernel⟩
theorem fp_X12_405 : sm_FP RX12 405 12 27 0 .int := ⟨by decide, _, _, _, rfl, by decide, by decide +kernel, lw_m (lt6 (List.mem_of_getElem? (i := 173) rfl)) rfl, rfl, by decide +kernel⟩
theorem fp_X12_411 : sm_FP RX12 411 12 31 0 .int := ⟨by decide, _, _, _, rfl, by decide, by decide +kernel, lw_m (lt6 (List.mem_of_getElem? (i := 177) rfl)) rfl, rfl, by decide +kernel⟩
theorem fp_X12_414 : sm_FP RX12 414 12 30 0 .int := ⟨by decide, _, _, _, rfl, by decide, by decide +kernel, lw_m (lt6 (List.mem_of_getElem? (i := 176) rfl)) rfl, rfl, by decide +kernel⟩
theorem fp_X12_432 : sm_FP RX12 432 12 35 0 .int := ⟨by decide, _, _, _, rfl, by decide, by decide +kernel, lw_m (lt6 (List.mem_of_getElem? (i := 181) rfl)) rfl, rfl, by decide +kernel⟩
theorem fp_X12_522 : sm_FP RX12 522 12 42 1 .long := ⟨by decide, _, _, _, rfl, by decide, by decide +kernel, lw_m (lt6 (List.mem_of_getElem? (i := 188) rfl)) rfl, rfl, by decide +kernel⟩
theorem fp_X12_76 : sm_FP RX12 76 12 39 0 .int := ⟨by decide, _, _, _, rfl, by decide, by decide +kernel, lw_m (lt6 (List.mem_of_getElem? (i := 185) rfl)) rfl, rfl, by decide +kernel⟩
theorem fp_X12_79 : sm_FP RX12 79 12 40 0 .int := ⟨by decide, _, _, _, rfl, by decide, by decide +kernel, lw_m (lt6 (List.mem_of_getElem? (i := 186) rfl)) rfl, rfl, by decide +kernel⟩
theorem sc_X6_111 : (RX6, 111, "at", 4) ∈ strT := by decide +kernel
theorem sc_X6_128 : (RX6, 128, "bears", 5) ∈ strT := by decide +kernel
theorem sc_X6_132 : (RX6, 132, "sinks", 6) ∈ strT := by decide +kernel
theorem sc_X6_133 : (RX6, 133, "doubt", 7) ∈ strT := by decide +kernel
theorem sc_X6_143 : (RX6, 143, "stride", 9) ∈ strT := by decide +kernel
theorem sc_X6_147 : (RX6, 147, "weight", 10) ∈ strT := by decide +kernel
theorem sc_X6_151 : (RX6, 151, "worth", 11) ∈ strT := by decide +kernel
theorem sc_X6_155 : (RX6, 155, "must", 12) ∈ strT := by decide +kernel
theorem sc_X6_162 : (RX6, 162, "back", 13) ∈ strT := by decide +kernel
theorem sc_X6_167 : (RX6, 167, "hand", 14) ∈ strT := by decide +kernel
theorem sc_X6_63 : (RX6, 63, "river", 0) ∈ strT := by decide +kernel
theorem sc_X6_76 : (RX6, 76, "stone", 3) ∈ strT := by decide +kernel
theorem sc_X6_81 : (RX6, 81, "person", 8) ∈ strT := by decide +kernel
theorem sc_X6_86 : (RX6, 86, "plank", 15) ∈ strT := by decide +kernel
theorem sc_X6_91 : (RX6, 91, "wide", 1) ∈ strT := by decide +kernel
theorem sc_X6_99 : (RX6, 99, "long", 2) ∈ strT := by decide +kernel
theorem sc_X12_189 : (RX12, 189, "at", 4) ∈ strT := by decide +kernel
theorem sc_X12_197 : (RX12, 197, "bears", 5) ∈ strT := by decide +kernel
theorem sc_X12_199 : (RX12, 199, "sinks", 6) ∈ strT := by decide +kernel
theorem sc_X12_201 : (RX12, 201, "doubt", 7) ∈ strT := by decide +kernel
theorem sc_X12_203 : (RX12, 203, "stride", 9) ∈ strT := by decide +kernel
theorem sc_X12_205 : (RX12, 205, "weight", 10) ∈ strT := by decide +kernel
theorem sc_X12_207 : (RX12, 207, "worth", 11) ∈ strT := by decide +kernel
theorem sc_X12_209 : (RX12, 209, "must", 12) ∈ strT := by decide +kernel
theorem sc_X12_211 : (RX12, 211, "back", 13) ∈ strT := by decide +kernel
theorem sc_X12_213 : (RX12, 213, "hand", 14) ∈ strT := by decide +kernel
theorem sc_X12_215 : (RX12, 215, "stone", 3) ∈ strT := by decide +kernel
theorem sc_X12_217 : (RX12, 217, "person", 8) ∈ strT := by decide +kernel
theorem sc_X12_219 : (RX12, 219, "plank", 15) ∈ strT := by decide +kernel
theorem sc_X12_227 : (RX12, 227, "river", 0) ∈ strT := by decide +kernel
theorem sc_X12_229 : (RX12, 229, "wide", 1) ∈ strT := by decide +kernel
theorem sc_X12_231 : (RX12, 231, "long", 2) ∈ strT := by decide +kernel
theorem sw12_out {x : Int32} (h0 : ¬ x = (0 : Int32)) (h1 : ¬ x = (1 : Int32)) (h2 : ¬ x = (2 : Int32)) (h3 : ¬ x = (3 : Int32)) (h4 : ¬ x = (4 : Int32)) (h5 : ¬ x = (5 : Int32)) (h6 : ¬ x = (6 : Int32)) (h7 : ¬ x = (7 : Int32)) (h8 : ¬ x = (8 : Int32)) (h9 : ¬ x = (9 : Int32)) (h10 : ¬ x = (10 : Int32)) (h11 : ¬ x = (11 : Int32)) : x.toInt < 0 ∨ 11 < x.toInt := by
  have e : ∀ k : Int32, ¬ x = k → ¬ x.toInt = k.toInt := fun k h z => h (Int32.toInt_inj.mp z)
  have g0 := e _ h0
  rw [show (0 : Int32).toInt = (0 : Int) from by decide] at g0
  have g1 := e _ h1
  rw [show (1 : Int32).toInt = (1 : Int) from by decide] at g1
  have g2 := e _ h2
  rw [show (2 : Int32).toInt = (2 : Int) from by decide] at g2
  have g3 := e _ h3
  rw [show (3 : Int32).toInt = (3 : Int) from by decide] at g3
  have g4 := e _ h4
  rw [show (4 : Int32).toInt = (4 : Int) from by decide] at g4
  have g5 := e _ h5
  rw [show (5 : Int32).toInt = (5 : Int) from by decide] at g5
  have g6 := e _ h6
  rw [show (6 : Int32).toInt = (6 : Int) from by decide] at g6
  have g7 := e _ h7
  rw [show (7 : Int32).toInt = (7 : Int) from by decide] at g7
  have g8 := e _ h8
  rw [show (8 : Int32).toInt = (8 : Int) from by decide] at g8
  have g9 := e _ h9
  rw [show (9 : Int32).toInt = (9 : Int) from by decide] at g9
  have g10 := e _ h10
  rw [show (10 : Int32).toInt = (10 : Int) from by decide] at g10
  have g11 := e _ h11
  rw [show (11 : Int32).toInt = (11 : Int) from by decide] at g11
  omega
theorem sw3_out {x : Int32} (h0 : ¬ x = (0 : Int32)) (h1 : ¬ x = (1 : Int32)) (h2 : ¬ x = (2 : Int32)) : x.toInt < 0 ∨ 2 < x.toInt := by
  have e : ∀ k : Int32, ¬ x = k → ¬ x.toInt = k.toInt := fun k h z => h (Int32.toInt_inj.mp z)
  have g0 := e _ h0
  rw [show (0 : Int32).toInt = (0 : Int) from by decide] at g0
  have g1 := e _ h1
  rw [show (1 : Int32).toInt = (1 : Int) from by decide] at g1
  have g2 := e _ h2
  rw [show (2 : Int32).toInt = (2 : Int) from by decide] at g2
  omega
theorem sw5_out {x : Int32} (h0 : ¬ x = (0 : Int32)) (h1 : ¬ x = (1 : Int32)) (h2 : ¬ x = (2 : Int32)) (h3 : ¬ x = (3 : Int32)) (h4 : ¬ x = (4 : Int32)) : x.toInt < 0 ∨ 4 < x.toInt := by
  have e : ∀ k : Int32, ¬ x = k → ¬ x.toInt = k.toInt := fun k h z => h (Int32.toInt_inj.mp z)
  have g0 := e _ h0
  rw [show (0 : Int32).toInt = (0 : Int) from by decide] at g0
  have g1 := e _ h1
  rw [show (1 : Int32).toInt = (1 : Int) from by decide] at g1
  have g2 := e _ h2
  rw [show (2 : Int32).toInt = (2 : Int) from by decide] at g2
  have g3 := e _ h3
  rw [show (3 : Int32).toInt = (3 : Int) from by decide] at g3
  have g4 := e _ h4
  rw [show (4 : Int32).toInt = (4 : Int) from by decide] at g4
  omega
set_option maxRecDepth 100000 in
theorem ysJ6_bitCount_0f7a4 : sm_YS yJ6_bitCount_0f7a4 cJ6_bitCount_0f7a4 1 (some .int) 1 := ⟨⟨lw_m (lt4 (List.mem_of_getElem? (i := 188) rfl)) rfl, lw_m (lt1 (List.mem_of_getElem? (i := 21) rfl)) rfl, nh_J6.1, nh_J6.2, pm__I_I_227⟩, lw_m (lt4 (List.mem_of_getElem? (i := 187) rfl)) rfl⟩
set_option maxRecDepth 100000 in
theorem ysJ6_numberOfTrailingZeros_0f7a4 : sm_YS yJ6_numberOfTrailingZeros_0f7a4 cJ6_numberOfTrailingZeros_0f7a4 2 (some .int) 1 := ⟨⟨lw_m (lt4 (List.mem_of_getElem? (i := 33) rfl)) rfl, lw_m (lt1 (List.mem_of_getElem? (i := 21) rfl)) rfl, nh_J6.1, nh_J6.2, pm__I_I_227⟩, lw_m (lt4 (List.mem_of_getElem? (i := 32) rfl)) rfl⟩
set_option maxRecDepth 100000 in
theorem ysJ7_fill_53178 : sm_YS yJ7_fill_53178 cJ7_fill_53178 4 none 2 := ⟨⟨lw_m (lt1 (List.mem_of_getElem? (i := 196) rfl)) rfl, lw_m (lt1 (List.mem_of_getElem? (i := 5) rfl)) rfl, nh_J7.1, nh_J7.2, pm___II_V_404⟩, lw_m (lt1 (List.mem_of_getElem? (i := 195) rfl)) rfl⟩
set_option maxRecDepth 100000 in
theorem ysJ7_fill_d0a16 : sm_YS yJ7_fill_d0a16 cJ7_fill_d0a16 5 none 2 := ⟨⟨lw_m (lt6 (List.mem_of_getElem? (i := 123) rfl)) rfl, lw_m (lt1 (List.mem_of_getElem? (i := 5) rfl)) rfl, nh_J7.1, nh_J7.2, pm___JJ_V_406⟩, lw_m (lt6 (List.mem_of_getElem? (i := 122) rfl)) rfl⟩
set_option maxRecDepth 100000 in
theorem yvX3_flood : sm_YV yX3_flood cX3_flood 8 (some .int) 2 := ⟨⟨lw_m (lt4 (List.mem_of_getElem? (i := 30) rfl)) rfl, lw_m (lt1 (List.mem_of_getElem? (i := 6) rfl)) rfl, nh_X3.1, nh_X3.2, pm__II_I_300⟩, lw_m (lt4 (List.mem_of_getElem? (i := 28) rfl)) rfl, lw_m (lt4 (List.mem_of_getElem? (i := 29) rfl)) rfl⟩
set_option maxRecDepth 100000 in
theorem yvX3_crosses : sm_YV yX3_crosses cX3_crosses 3 (some .boolean) 2 := ⟨⟨lw_m (lt5 (List.mem_of_getElem? (i := 5) rfl)) rfl, lw_m (lt1 (List.mem_of_getElem? (i := 6) rfl)) rfl, nh_X3.1, nh_X3.2, pm__II_Z_317⟩, lw_m (lt5 (List.mem_of_getElem? (i := 3) rfl)) rfl, lw_m (lt5 (List.mem_of_getElem? (i := 4) rfl)) rfl⟩
set_option maxRecDepth 100000 in
theorem yvX7_strideOf : sm_YV yX7_strideOf cX7_strideOf 2 (some .int) 1 := ⟨⟨lw_m (lt4 (List.mem_of_getElem? (i := 158) rfl)) rfl, lw_m (lt1 (List.mem_of_getElem? (i := 3) rfl)) rfl, nh_X7.1, nh_X7.2, pm__I_I_227⟩, lw_m (lt4 (List.mem_of_getElem? (i := 156) rfl)) rfl, lw_m (lt4 (List.mem_of_getElem? (i := 157) rfl)) rfl⟩
set_option maxRecDepth 100000 in
theorem yvX7_weightOf : sm_YV yX7_weightOf cX7_weightOf 2 (some .int) 1 := ⟨⟨lw_m (lt4 (List.mem_of_getElem? (i := 154) rfl)) rfl, lw_m (lt1 (List.mem_of_getElem? (i := 3) rfl)) rfl, nh_X7.1, nh_X7.2, pm__I_I_227⟩, lw_m (lt4 (List.mem_of_getElem? (i := 152) rfl)) rfl, lw_m (lt4 (List.mem_of_getElem? (i := 153) rfl)) rfl⟩
set_option maxRecDepth 100000 in
theorem yvX9_leftOf : sm_YV yX9_leftOf cX9_leftOf 3 (some .int) 1 := ⟨⟨lw_m (lt3 (List.mem_of_getElem? (i := 215) rfl)) rfl, lw_m (lt1 (List.mem_of_getElem? (i := 4) rfl)) rfl, nh_X9.1, nh_X9.2, pm__I_I_227⟩, lw_m (lt3 (List.mem_of_getElem? (i := 213) rfl)) rfl, lw_m (lt3 (List.mem_of_getElem? (i := 214) rfl)) rfl⟩
set_option maxRecDepth 100000 in
theorem yvX9_openFor : sm_YV yX9_openFor cX9_openFor 4 (some .int) 1 := ⟨⟨lw_m (lt4 (List.mem_of_getElem? (i := 25) rfl)) rfl, lw_m (lt1 (List.mem_of_getElem? (i := 4) rfl)) rfl, nh_X9.1, nh_X9.2, pm__I_I_227⟩, lw_m (lt4 (List.mem_of_getElem? (i := 23) rfl)) rfl, lw_m (lt4 (List.mem_of_getElem? (i := 24) rfl)) rfl⟩
set_option maxRecDepth 100000 in
theorem yvX0_couldGo : sm_YV yX0_couldGo cX0_couldGo 4 (some .boolean) 2 := ⟨⟨lw_m (lt5 (List.mem_of_getElem? (i := 0) rfl)) rfl, lw_m (lt1 (List.mem_of_getElem? (i := 8) rfl)) rfl, nh_X0.1, nh_X0.2, pm__L_Scene_I_Z_716⟩, lw_m (lt4 (List.mem_of_getElem? (i := 238) rfl)) rfl, lw_m (lt4 (List.mem_of_getElem? (i := 239) rfl)) rfl⟩
set_option maxRecDepth 100000 in
theorem yvX10_crowd : sm_YV yX10_crowd cX10_crowd 5 (some .int) 2 := ⟨⟨lw_m (lt4 (List.mem_of_getElem? (i := 80) rfl)) rfl, lw_m (lt1 (List.mem_of_getElem? (i := 7) rfl)) rfl, nh_X10.1, nh_X10.2, pm__L_River_I_I_725⟩, lw_m (lt4 (List.mem_of_getElem? (i := 79) rfl)) rfl, lw_m (lps2 (q := (⟨"BearsTwo$Ways", "crowd", "(LBearsTwo$River;I)I"⟩, 6)) (List.mem_of_getElem? (i := 8) rfl)) rfl⟩
set_option maxRecDepth 100000 in
theorem yvX10_putCosts : sm_YV yX10_putCosts cX10_putCosts 5 none 2 := ⟨⟨lw_m (lt4 (List.mem_of_getElem? (i := 76) rfl)) rfl, lw_m (lt1 (List.mem_of_getElem? (i := 7) rfl)) rfl, nh_X10.1, nh_X10.2, pm__L_Scene_I_V_712⟩, lw_m (lt4 (List.mem_of_getElem? (i := 75) rfl)) rfl, lw_m (lps2 (q := (⟨"BearsTwo$Ways", "putCosts", "(LBearsTwo$Scene;I)V"⟩, 6)) (List.mem_of_getElem? (i := 7) rfl)) rfl⟩
set_option maxRecDepth 100000 in
theorem yvX10_putReached : sm_YV yX10_putReached cX10_putReached 5 none 2 := ⟨⟨lw_m (lt4 (List.mem_of_getElem? (i := 70) rfl)) rfl, lw_m (lt1 (List.mem_of_getElem? (i := 7) rfl)) rfl, nh_X10.1, nh_X10.2, pm__L_River_I_V_738⟩, lw_m (lt4 (List.mem_of_getElem? (i := 69) rfl)) rfl, lw_m (lps2 (q := (⟨"BearsTwo$Ways", "putReached", "(LBearsTwo$River;I)V"⟩, 6)) (List.mem_of_getElem? (i := 6) rfl)) rfl⟩
set_option maxRecDepth 100000 in
theorem yvX10_least : sm_YV yX10_least cX10_least 6 (some .int) 1 := ⟨⟨lw_m (lt4 (List.mem_of_getElem? (i := 91) rfl)) rfl, lw_m (lt1 (List.mem_of_getElem? (i := 7) rfl)) rfl, nh_X10.1, nh_X10.2, pm__I_I_227⟩, lw_m (lt4 (List.mem_of_getElem? (i := 90) rfl)) rfl, lw_m (lps2 (q := (⟨"BearsTwo$Ways", "least", "(I)I"⟩, 6)) (List.mem_of_getElem? (i := 10) rfl)) rfl⟩
set_option maxRecDepth 100000 in
theorem yvX10_spread : sm_YV yX10_spread cX10_spread 12 none 4 := ⟨⟨lw_m (lt4 (List.mem_of_getElem? (i := 85) rfl)) rfl, lw_m (lt1 (List.mem_of_getElem? (i := 7) rfl)) rfl, nh_X10.1, nh_X10.2, pm__IIII_V_459⟩, lw_m (lt4 (List.mem_of_getElem? (i := 84) rfl)) rfl, lw_m (lps2 (q := (⟨"BearsTwo$Ways", "spread", "(IIII)V"⟩, 6)) (List.mem_of_getElem? (i := 9) rfl)) rfl⟩
set_option maxRecDepth 100000 in
theorem yvX10_walk : sm_YV yX10_walk cX10_walk 5 none 3 := ⟨⟨lw_m (lt4 (List.mem_of_getElem? (i := 96) rfl)) rfl, lw_m (lt1 (List.mem_of_getElem? (i := 7) rfl)) rfl, nh_X10.1, nh_X10.2, pm__III_V_386⟩, lw_m (lt4 (List.mem_of_getElem? (i := 95) rfl)) rfl, lw_m (lps2 (q := (⟨"BearsTwo$Ways", "walk", "(III)V"⟩, 6)) (List.mem_of_getElem? (i := 11) rfl)) rfl⟩
set_option maxRecDepth 100000 in
theorem yvX10_seek : sm_YV yX10_seek cX10_seek 9 (some .int) 5 := ⟨⟨lw_m (lt4 (List.mem_of_getElem? (i := 65) rfl)) rfl, lw_m (lt1 (List.mem_of_getElem? (i := 7) rfl)) rfl, nh_X10.1, nh_X10.2, pm__L_Scene_IIII_I_918⟩, lw_m (lt4 (List.mem_of_getElem? (i := 63) rfl)) rfl, lw_m (lt4 (List.mem_of_getElem? (i := 64) rfl)) rfl⟩
set_option maxRecDepth 100000 in
theorem yvX10_wear : sm_YV yX10_wear cX10_wear 4 none 2 := ⟨⟨lw_m (lt4 (List.mem_of_getElem? (i := 163) rfl)) rfl, lw_m (lt1 (List.mem_of_getElem? (i := 7) rfl)) rfl, nh_X10.1, nh_X10.2, pm__L_Scene_I_V_712⟩, lw_m (lt4 (List.mem_of_getElem? (i := 161) rfl)) rfl, lw_m (lt4 (List.mem_of_getElem? (i := 162) rfl)) rfl⟩
set_option maxRecDepth 100000 in
theorem yvX9_isAt : sm_YV yX9_isAt cX9_isAt 4 (some .boolean) 2 := ⟨⟨lw_m (lt4 (List.mem_of_getElem? (i := 150) rfl)) rfl, lw_m (lt1 (List.mem_of_getElem? (i := 4) rfl)) rfl, nh_X9.1, nh_X9.2, pm__II_Z_317⟩, lw_m (lt4 (List.mem_of_getElem? (i := 148) rfl)) rfl, lw_m (lt4 (List.mem_of_getElem? (i := 149) rfl)) rfl⟩
set_option maxRecDepth 100000 in
theorem yvX9_settle : sm_YV yX9_settle cX9_settle 3 none 2 := ⟨⟨lw_m (lt4 (List.mem_of_getElem? (i := 167) rfl)) rfl, lw_m (lt1 (List.mem_of_getElem? (i := 4) rfl)) rfl, nh_X9.1, nh_X9.2, pm__II_V_313⟩, lw_m (lt4 (List.mem_of_getElem? (i := 165) rfl)) rfl, lw_m (lt4 (List.mem_of_getElem? (i := 166) rfl)) rfl⟩
set_option maxRecDepth 100000 in
theorem yvX0_send : sm_YV yX0_send cX0_send 7 (some .int) 3 := ⟨⟨lw_m (lt4 (List.mem_of_getElem? (i := 146) rfl)) rfl, lw_m (lt1 (List.mem_of_getElem? (i := 8) rfl)) rfl, nh_X0.1, nh_X0.2, pm__L_Scene_II_I_772⟩, lw_m (lt4 (List.mem_of_getElem? (i := 144) rfl)) rfl, lw_m (lt4 (List.mem_of_getElem? (i := 145) rfl)) rfl⟩
set_option maxRecDepth 100000 in
theorem yvX7_peopleOf : sm_YV yX7_peopleOf cX7_peopleOf 2 (some .int) 1 := ⟨⟨lw_m (lt4 (List.mem_of_getElem? (i := 185) rfl)) rfl, lw_m (lt1 (List.mem_of_getElem? (i := 3) rfl)) rfl, nh_X7.1, nh_X7.2, pm__I_I_227⟩, lw_m (lt4 (List.mem_of_getElem? (i := 183) rfl)) rfl, lw_m (lt4 (List.mem_of_getElem? (i := 184) rfl)) rfl⟩
set_option maxRecDepth 100000 in
theorem yvX7_comesBack : sm_YV yX7_comesBack cX7_comesBack 2 (some .boolean) 1 := ⟨⟨lw_m (lt5 (List.mem_of_getElem? (i := 37) rfl)) rfl, lw_m (lt1 (List.mem_of_getElem? (i := 3) rfl)) rfl, nh_X7.1, nh_X7.2, pm__I_Z_244⟩, lw_m (lt5 (List.mem_of_getElem? (i := 35) rfl)) rfl, lw_m (lt5 (List.mem_of_getElem? (i := 36) rfl)) rfl⟩
set_option maxRecDepth 100000 in
theorem yvX7_isUnit : sm_YV yX7_isUnit cX7_isUnit 2 (some .boolean) 1 := ⟨⟨lw_m (lt4 (List.mem_of_getElem? (i := 142) rfl)) rfl, lw_m (lt1 (List.mem_of_getElem? (i := 3) rfl)) rfl, nh_X7.1, nh_X7.2, pm__I_Z_244⟩, lw_m (lt4 (List.mem_of_getElem? (i := 140) rfl)) rfl, lw_m (lt4 (List.mem_of_getElem? (i := 141) rfl)) rfl⟩
set_option maxRecDepth 100000 in
theorem yvX0_sendHome : sm_YV yX0_sendHome cX0_sendHome 5 (some .int) 2 := ⟨⟨lw_m (lt5 (List.mem_of_getElem? (i := 33) rfl)) rfl, lw_m (lt1 (List.mem_of_getElem? (i := 8) rfl)) rfl, nh_X0.1, nh_X0.2, pm__L_Scene_I_I_699⟩, lw_m (lt5 (List.mem_of_getElem? (i := 31) rfl)) rfl, lw_m (lt5 (List.mem_of_getElem? (i := 32) rfl)) rfl⟩
set_option maxRecDepth 100000 in
theorem yvX0_sendOver : sm_YV yX0_sendOver cX0_sendOver 5 (some .int) 2 := ⟨⟨lw_m (lt4 (List.mem_of_getElem? (i := 179) rfl)) rfl, lw_m (lt1 (List.mem_of_getElem? (i := 8) rfl)) rfl, nh_X0.1, nh_X0.2, pm__L_Scene_I_I_699⟩, lw_m (lt4 (List.mem_of_getElem? (i := 177) rfl)) rfl, lw_m (lt4 (List.mem_of_getElem? (i := 178) rfl)) rfl⟩
set_option maxRecDepth 100000 in
theorem yvX0_wade : sm_YV yX0_wade cX0_wade 9 (some .boolean) 4 := ⟨⟨lw_m (lt6 (List.mem_of_getElem? (i := 85) rfl)) rfl, lw_m (lt1 (List.mem_of_getElem? (i := 8) rfl)) rfl, nh_X0.1, nh_X0.2, pm__L_Scene_III_Z_862⟩, lw_m (lt6 (List.mem_of_getElem? (i := 84) rfl)) rfl, lw_m (lps4 (q := (⟨"BearsTwo$Crossing", "wade", "(LBearsTwo$Scene;III)Z"⟩, 1)) (List.mem_of_getElem? (i := 3) rfl)) rfl⟩
set_option maxRecDepth 100000 in
theorem yvX0_wadeOver : sm_YV yX0_wadeOver cX0_wadeOver 6 (some .int) 3 := ⟨⟨lw_m (lt6 (List.mem_of_getElem? (i := 81) rfl)) rfl, lw_m (lt1 (List.mem_of_getElem? (i := 8) rfl)) rfl, nh_X0.1, nh_X0.2, pm__L_Scene_II_I_772⟩, lw_m (lt6 (List.mem_of_getElem? (i := 79) rfl)) rfl, lw_m (lt6 (List.mem_of_getElem? (i := 80) rfl)) rfl⟩
set_option maxRecDepth 100000 in
theorem yvX11_isTold : sm_YV yX11_isTold cX11_isTold 1 (some .boolean) 0 := ⟨⟨lw_m (lt4 (List.mem_of_getElem? (i := 12) rfl)) rfl, lw_m (lt1 (List.mem_of_getElem? (i := 1) rfl)) rfl, nh_X11.1, nh_X11.2, pm___Z_171⟩, lw_m (lt4 (List.mem_of_getElem? (i := 11) rfl)) rfl, lw_m (lps2 (q := (⟨"BearsTwo", "isTold", "()Z"⟩, 18)) (List.mem_of_getElem? (i := 3) rfl)) rfl⟩
set_option maxRecDepth 100000 in
theorem yvX11_isStride : sm_YV yX11_isStride cX11_isStride 2 (some .boolean) 1 := ⟨⟨lw_m (lt4 (List.mem_of_getElem? (i := 8) rfl)) rfl, lw_m (lt1 (List.mem_of_getElem? (i := 1) rfl)) rfl, nh_X11.1, nh_X11.2, pm__I_Z_244⟩, lw_m (lt4 (List.mem_of_getElem? (i := 7) rfl)) rfl, lw_m (lps2 (q := (⟨"BearsTwo", "isStride", "(I)Z"⟩, 18)) (List.mem_of_getElem? (i := 2) rfl)) rfl⟩
set_option maxRecDepth 100000 in
theorem yvX11_isWay : sm_YV yX11_isWay cX11_isWay 2 (some .boolean) 1 := ⟨⟨lw_m (lt4 (List.mem_of_getElem? (i := 61) rfl)) rfl, lw_m (lt1 (List.mem_of_getElem? (i := 1) rfl)) rfl, nh_X11.1, nh_X11.2, pm__I_Z_244⟩, lw_m (lt4 (List.mem_of_getElem? (i := 60) rfl)) rfl, lw_m (lps2 (q := (⟨"BearsTwo", "isWay", "(I)Z"⟩, 18)) (List.mem_of_getElem? (i := 5) rfl)) rfl⟩
set_option maxRecDepth 100000 in
theorem ysX11_isWeight : sm_YS yX11_isWeight cX11_isWeight 1 (some .boolean) 1 := ⟨⟨lw_m (lt4 (List.mem_of_getElem? (i := 57) rfl)) rfl, lw_m (lt1 (List.mem_of_getElem? (i := 1) rfl)) rfl, nh_X11.1, nh_X11.2, pm__I_Z_244⟩, lw_m (lt4 (List.mem_of_getElem? (i := 56) rfl)) rfl⟩
set_option maxRecDepth 100000 in
theorem yvX9_takeFrom : sm_YV yX9_takeFrom cX9_takeFrom 2 none 1 := ⟨⟨lw_m (lt4 (List.mem_of_getElem? (i := 124) rfl)) rfl, lw_m (lt1 (List.mem_of_getElem? (i := 4) rfl)) rfl, nh_X9.1, nh_X9.2, pm__L_Scene__V_639⟩, lw_m (lt4 (List.mem_of_getElem? (i := 122) rfl)) rfl, lw_m (lt4 (List.mem_of_getElem? (i := 123) rfl)) rfl⟩
set_option maxRecDepth 100000 in
theorem yvX11_alike : sm_YV yX11_alike cX11_alike 5 (some .int) 3 := ⟨⟨lw_m (lt5 (List.mem_of_getElem? (i := 118) rfl)) rfl, lw_m (lt1 (List.mem_of_getElem? (i := 1) rfl)) rfl, nh_X11.1, nh_X11.2, pm__III_I_373⟩, lw_m (lt5 (List.mem_of_getElem? (i := 116) rfl)) rfl, lw_m (lt5 (List.mem_of_getElem? (i := 117) rfl)) rfl⟩
set_option maxRecDepth 100000 in
theorem yvX5_forget : sm_YV yX5_forget cX5_forget 1 none 0 := ⟨⟨lw_m (lt3 (List.mem_of_getElem? (i := 199) rfl)) rfl, lw_m (lt1 (List.mem_of_getElem? (i := 9) rfl)) rfl, nh_X5.1, nh_X5.2, pm___V_167⟩, lw_m (lt3 (List.mem_of_getElem? (i := 197) rfl)) rfl, lw_m (lt3 (List.mem_of_getElem? (i := 198) rfl)) rfl⟩
set_option maxRecDepth 100000 in
theorem yvX11_all : sm_YV yX11_all cX11_all 2 (some .int) 1 := ⟨⟨lw_m (lt4 (List.mem_of_getElem? (i := 210) rfl)) rfl, lw_m (lt1 (List.mem_of_getElem? (i := 1) rfl)) rfl, nh_X11.1, nh_X11.2, pm__I_I_227⟩, lw_m (lt4 (List.mem_of_getElem? (i := 208) rfl)) rfl, lw_m (lt4 (List.mem_of_getElem? (i := 209) rfl)) rfl⟩
set_option maxRecDepth 100000 in
theorem ysX11_isImage : sm_YS yX11_isImage cX11_isImage 1 (some .boolean) 1 := ⟨⟨lw_m (lt6 (List.mem_of_getElem? (i := 108) rfl)) rfl, lw_m (lt1 (List.mem_of_getElem? (i := 1) rfl)) rfl, nh_X11.1, nh_X11.2, pm__I_Z_244⟩, lw_m (lt6 (List.mem_of_getElem? (i := 107) rfl)) rfl⟩
set_option maxRecDepth 100000 in
theorem yvX3_link : sm_YV yX3_link cX3_link 5 none 3 := ⟨⟨lw_m (lt3 (List.mem_of_getElem? (i := 195) rfl)) rfl, lw_m (lt1 (List.mem_of_getElem? (i := 6) rfl)) rfl, nh_X3.1, nh_X3.2, pm__III_V_386⟩, lw_m (lt3 (List.mem_of_getElem? (i := 194) rfl)) rfl, lw_m (lps1 (q := (⟨"BearsTwo$Links", "link", "(III)V"⟩, 3)) (List.mem_of_getElem? (i := 14) rfl)) rfl⟩
set_option maxRecDepth 100000 in
theorem yvX7_across : sm_YV yX7_across cX7_across 2 (some .int) 1 := ⟨⟨lw_m (lt3 (List.mem_of_getElem? (i := 191) rfl)) rfl, lw_m (lt1 (List.mem_of_getElem? (i := 3) rfl)) rfl, nh_X7.1, nh_X7.2, pm__I_I_227⟩, lw_m (lt3 (List.mem_of_getElem? (i := 190) rfl)) rfl, lw_m (lps1 (q := (⟨"BearsTwo$River", "across", "(I)I"⟩, 17)) (List.mem_of_getElem? (i := 13) rfl)) rfl⟩
set_option maxRecDepth 100000 in
theorem yvX7_square : sm_YV yX7_square cX7_square 5 (some .int) 2 := ⟨⟨lw_m (lt3 (List.mem_of_getElem? (i := 187) rfl)) rfl, lw_m (lt1 (List.mem_of_getElem? (i := 3) rfl)) rfl, nh_X7.1, nh_X7.2, pm__II_I_300⟩, lw_m (lt3 (List.mem_of_getElem? (i := 185) rfl)) rfl, lw_m (lt3 (List.mem_of_getElem? (i := 186) rfl)) rfl⟩
set_option maxRecDepth 100000 in
theorem yvX3_lay : sm_YV yX3_lay cX3_lay 5 none 1 := ⟨⟨lw_m (lt3 (List.mem_of_getElem? (i := 182) rfl)) rfl, lw_m (lt1 (List.mem_of_getElem? (i := 6) rfl)) rfl, nh_X3.1, nh_X3.2, pm__L_River__V_665⟩, lw_m (lt3 (List.mem_of_getElem? (i := 180) rfl)) rfl, lw_m (lt3 (List.mem_of_getElem? (i := 181) rfl)) rfl⟩
set_option maxRecDepth 100000 in
theorem yvX7_takeFrom : sm_YV yX7_takeFrom cX7_takeFrom 2 none 1 := ⟨⟨lw_m (lt3 (List.mem_of_getElem? (i := 171) rfl)) rfl, lw_m (lt1 (List.mem_of_getElem? (i := 3) rfl)) rfl, nh_X7.1, nh_X7.2, pm__L_River__V_665⟩, lw_m (lt3 (List.mem_of_getElem? (i := 169) rfl)) rfl, lw_m (lt3 (List.mem_of_getElem? (i := 170) rfl)) rfl⟩
set_option maxRecDepth 100000 in
theorem yvX11_back : sm_YV yX11_back cX11_back 2 (some .int) 1 := ⟨⟨lw_m (lt6 (List.mem_of_getElem? (i := 112) rfl)) rfl, lw_m (lt1 (List.mem_of_getElem? (i := 1) rfl)) rfl, nh_X11.1, nh_X11.2, pm__I_I_227⟩, lw_m (lt6 (List.mem_of_getElem? (i := 110) rfl)) rfl, lw_m (lt6 (List.mem_of_getElem? (i := 111) rfl)) rfl⟩
set_option maxRecDepth 100000 in
theorem yvX11_isStone : sm_YV yX11_isStone cX11_isStone 2 (some .boolean) 1 := ⟨⟨lw_m (lt3 (List.mem_of_getElem? (i := 211) rfl)) rfl, lw_m (lt1 (List.mem_of_getElem? (i := 1) rfl)) rfl, nh_X11.1, nh_X11.2, pm__I_Z_244⟩, lw_m (lt3 (List.mem_of_getElem? (i := 210) rfl)) rfl, lw_m (lps1 (q := (⟨"BearsTwo", "isStone", "(I)Z"⟩, 18)) (List.mem_of_getElem? (i := 15) rfl)) rfl⟩
set_option maxRecDepth 100000 in
theorem yvX2_narrowest : sm_YV yX2_narrowest cX2_narrowest 7 (some .int) 1 := ⟨⟨lw_m (lt5 (List.mem_of_getElem? (i := 89) rfl)) rfl, lw_m (lt1 (List.mem_of_getElem? (i := 11) rfl)) rfl, nh_X2.1, nh_X2.2, pm__I_I_227⟩, lw_m (lt5 (List.mem_of_getElem? (i := 88) rfl)) rfl, lw_m (lps3 (q := (⟨"BearsTwo$Flow", "narrowest", "(I)I"⟩, 8)) (List.mem_of_getElem? (i := 7) rfl)) rfl⟩
set_option maxRecDepth 100000 in
theorem yvX4_pass : sm_YV yX4_pass cX4_pass 5 none 3 := ⟨⟨lw_m (lt5 (List.mem_of_getElem? (i := 98) rfl)) rfl, lw_m (lt1 (List.mem_of_getElem? (i := 12) rfl)) rfl, nh_X4.1, nh_X4.2, pm__III_V_386⟩, lw_m (lt5 (List.mem_of_getElem? (i := 96) rfl)) rfl, lw_m (lt5 (List.mem_of_getElem? (i := 97) rfl)) rfl⟩
set_option maxRecDepth 100000 in
theorem yvX2_push : sm_YV yX2_push cX2_push 7 none 2 := ⟨⟨lw_m (lt5 (List.mem_of_getElem? (i := 94) rfl)) rfl, lw_m (lt1 (List.mem_of_getElem? (i := 11) rfl)) rfl, nh_X2.1, nh_X2.2, pm__II_V_313⟩, lw_m (lt5 (List.mem_of_getElem? (i := 93) rfl)) rfl, lw_m (lps3 (q := (⟨"BearsTwo$Flow", "push", "(II)V"⟩, 8)) (List.mem_of_getElem? (i := 8) rfl)) rfl⟩
set_option maxRecDepth 100000 in
theorem yvX2_enter : sm_YV yX2_enter cX2_enter 6 none 2 := ⟨⟨lw_m (lt5 (List.mem_of_getElem? (i := 80) rfl)) rfl, lw_m (lt1 (List.mem_of_getElem? (i := 11) rfl)) rfl, nh_X2.1, nh_X2.2, pm__II_V_313⟩, lw_m (lt5 (List.mem_of_getElem? (i := 79) rfl)) rfl, lw_m (lps3 (q := (⟨"BearsTwo$Flow", "enter", "(II)V"⟩, 8)) (List.mem_of_getElem? (i := 5) rfl)) rfl⟩
set_option maxRecDepth 100000 in
theorem yvX2_leave : sm_YV yX2_leave cX2_leave 6 none 2 := ⟨⟨lw_m (lt5 (List.mem_of_getElem? (i := 85) rfl)) rfl, lw_m (lt1 (List.mem_of_getElem? (i := 11) rfl)) rfl, nh_X2.1, nh_X2.2, pm__II_V_313⟩, lw_m (lt5 (List.mem_of_getElem? (i := 84) rfl)) rfl, lw_m (lps3 (q := (⟨"BearsTwo$Flow", "leave", "(II)V"⟩, 8)) (List.mem_of_getElem? (i := 6) rfl)) rfl⟩
set_option maxRecDepth 100000 in
theorem yvX2_search : sm_YV yX2_search cX2_search 3 (some .int) 0 := ⟨⟨lw_m (lt5 (List.mem_of_getElem? (i := 76) rfl)) rfl, lw_m (lt1 (List.mem_of_getElem? (i := 11) rfl)) rfl, nh_X2.1, nh_X2.2, pm___I_154⟩, lw_m (lt5 (List.mem_of_getElem? (i := 75) rfl)) rfl, lw_m (lps3 (q := (⟨"BearsTwo$Flow", "search", "()I"⟩, 8)) (List.mem_of_getElem? (i := 4) rfl)) rfl⟩
set_option maxRecDepth 100000 in
theorem yvX2_fill : sm_YV yX2_fill cX2_fill 4 (some .int) 0 := ⟨⟨lw_m (lt5 (List.mem_of_getElem? (i := 72) rfl)) rfl, lw_m (lt1 (List.mem_of_getElem? (i := 11) rfl)) rfl, nh_X2.1, nh_X2.2, pm___I_154⟩, lw_m (lt5 (List.mem_of_getElem? (i := 70) rfl)) rfl, lw_m (lt5 (List.mem_of_getElem? (i := 71) rfl)) rfl⟩
set_option maxRecDepth 100000 in
theorem yvX4_empty : sm_YV yX4_empty cX4_empty 1 none 0 := ⟨⟨lw_m (lt5 (List.mem_of_getElem? (i := 65) rfl)) rfl, lw_m (lt1 (List.mem_of_getElem? (i := 12) rfl)) rfl, nh_X4.1, nh_X4.2, pm___V_167⟩, lw_m (lt5 (List.mem_of_getElem? (i := 63) rfl)) rfl, lw_m (lt5 (List.mem_of_getElem? (i := 64) rfl)) rfl⟩
set_option maxRecDepth 100000 in
theorem yvX2_lay : sm_YV yX2_lay cX2_lay 5 none 3 := ⟨⟨lw_m (lt5 (List.mem_of_getElem? (i := 61) rfl)) rfl, lw_m (lt1 (List.mem_of_getElem? (i := 11) rfl)) rfl, nh_X2.1, nh_X2.2, pm__L_Scene_II_V_785⟩, lw_m (lt5 (List.mem_of_getElem? (i := 59) rfl)) rfl, lw_m (lt5 (List.mem_of_getElem? (i := 60) rfl)) rfl⟩
set_option maxRecDepth 100000 in
theorem yvX11_mostOf : sm_YV yX11_mostOf cX11_mostOf 4 (some .int) 3 := ⟨⟨lw_m (lt5 (List.mem_of_getElem? (i := 57) rfl)) rfl, lw_m (lt1 (List.mem_of_getElem? (i := 1) rfl)) rfl, nh_X11.1, nh_X11.2, pm__L_Scene_II_I_772⟩, lw_m (lt5 (List.mem_of_getElem? (i := 56) rfl)) rfl, lw_m (lps3 (q := (⟨"BearsTwo", "mostOf", "(LBearsTwo$Scene;II)I"⟩, 18)) (List.mem_of_getElem? (i := 3) rfl)) rfl⟩
set_option maxRecDepth 100000 in
theorem yvX2_lift : sm_YV yX2_lift cX2_lift 4 none 1 := ⟨⟨lw_m (lt5 (List.mem_of_getElem? (i := 114) rfl)) rfl, lw_m (lt1 (List.mem_of_getElem? (i := 11) rfl)) rfl, nh_X2.1, nh_X2.2, pm__I_V_240⟩, lw_m (lt5 (List.mem_of_getElem? (i := 112) rfl)) rfl, lw_m (lt5 (List.mem_of_getElem? (i := 113) rfl)) rfl⟩
set_option maxRecDepth 100000 in
theorem yvX11_bars : sm_YV yX11_bars cX11_bars 5 (some .int) 3 := ⟨⟨lw_m (lt5 (List.mem_of_getElem? (i := 110) rfl)) rfl, lw_m (lt1 (List.mem_of_getElem? (i := 1) rfl)) rfl, nh_X11.1, nh_X11.2, pm__III_I_373⟩, lw_m (lt5 (List.mem_of_getElem? (i := 108) rfl)) rfl, lw_m (lt5 (List.mem_of_getElem? (i := 109) rfl)) rfl⟩
set_option maxRecDepth 100000 in
theorem yvX11_overInThought : sm_YV yX11_overInThought cX11_overInThought 2 (some .int) 1 := ⟨⟨lw_m (lt4 (List.mem_of_getElem? (i := 175) rfl)) rfl, lw_m (lt1 (List.mem_of_getElem? (i := 1) rfl)) rfl, nh_X11.1, nh_X11.2, pm__I_I_227⟩, lw_m (lt4 (List.mem_of_getElem? (i := 174) rfl)) rfl, lw_m (lps2 (q := (⟨"BearsTwo", "overInThought", "(I)I"⟩, 18)) (List.mem_of_getElem? (i := 14) rfl)) rfl⟩
set_option maxRecDepth 100000 in
theorem yvX7_worthOf : sm_YV yX7_worthOf cX7_worthOf 4 (some .int) 1 := ⟨⟨lw_m (lt4 (List.mem_of_getElem? (i := 195) rfl)) rfl, lw_m (lt1 (List.mem_of_getElem? (i := 3) rfl)) rfl, nh_X7.1, nh_X7.2, pm__I_I_227⟩, lw_m (lt4 (List.mem_of_getElem? (i := 193) rfl)) rfl, lw_m (lt4 (List.mem_of_getElem? (i := 194) rfl)) rfl⟩
set_option maxRecDepth 100000 in
theorem yvX11_best : sm_YV yX11_best cX11_best 5 (some .int) 0 := ⟨⟨lw_m (lt5 (List.mem_of_getElem? (i := 49) rfl)) rfl, lw_m (lt1 (List.mem_of_getElem? (i := 1) rfl)) rfl, nh_X11.1, nh_X11.2, pm___I_154⟩, lw_m (lt5 (List.mem_of_getElem? (i := 47) rfl)) rfl, lw_m (lt5 (List.mem_of_getElem? (i := 48) rfl)) rfl⟩
set_option maxRecDepth 100000 in
theorem yvX11_rowsThere : sm_YV yX11_rowsThere cX11_rowsThere 3 (some .int) 0 := ⟨⟨lw_m (lt6 (List.mem_of_getElem? (i := 101) rfl)) rfl, lw_m (lt1 (List.mem_of_getElem? (i := 1) rfl)) rfl, nh_X11.1, nh_X11.2, pm___I_154⟩, lw_m (lt6 (List.mem_of_getElem? (i := 100) rfl)) rfl, lw_m (lps4 (q := (⟨"BearsTwo", "rowsThere", "()I"⟩, 18)) (List.mem_of_getElem? (i := 4) rfl)) rfl⟩
set_option maxRecDepth 100000 in
theorem yvX9_peopleAt : sm_YV yX9_peopleAt cX9_peopleAt 4 (some .int) 1 := ⟨⟨lw_m (lt5 (List.mem_of_getElem? (i := 45) rfl)) rfl, lw_m (lt1 (List.mem_of_getElem? (i := 4) rfl)) rfl, nh_X9.1, nh_X9.2, pm__I_I_227⟩, lw_m (lt5 (List.mem_of_getElem? (i := 43) rfl)) rfl, lw_m (lt5 (List.mem_of_getElem? (i := 44) rfl)) rfl⟩
set_option maxRecDepth 100000 in
theorem yvX9_inDoubt : sm_YV yX9_inDoubt cX9_inDoubt 2 (some .boolean) 1 := ⟨⟨lw_m (lt3 (List.mem_of_getElem? (i := 223) rfl)) rfl, lw_m (lt1 (List.mem_of_getElem? (i := 4) rfl)) rfl, nh_X9.1, nh_X9.2, pm__I_Z_244⟩, lw_m (lt3 (List.mem_of_getElem? (i := 221) rfl)) rfl, lw_m (lt3 (List.mem_of_getElem? (i := 222) rfl)) rfl⟩
set_option maxRecDepth 100000 in
theorem yvX9_stonesInDoubt : sm_YV yX9_stonesInDoubt cX9_stonesInDoubt 3 (some .int) 0 := ⟨⟨lw_m (lt6 (List.mem_of_getElem? (i := 97) rfl)) rfl, lw_m (lt1 (List.mem_of_getElem? (i := 4) rfl)) rfl, nh_X9.1, nh_X9.2, pm___I_154⟩, lw_m (lt6 (List.mem_of_getElem? (i := 95) rfl)) rfl, lw_m (lt6 (List.mem_of_getElem? (i := 96) rfl)) rfl⟩
set_option maxRecDepth 100000 in
theorem yvX11_count : sm_YV yX11_count cX11_count 2 (some .int) 1 := ⟨⟨lw_m (lt6 (List.mem_of_getElem? (i := 93) rfl)) rfl, lw_m (lt1 (List.mem_of_getElem? (i := 1) rfl)) rfl, nh_X11.1, nh_X11.2, pm__I_I_227⟩, lw_m (lt6 (List.mem_of_getElem? (i := 91) rfl)) rfl, lw_m (lt6 (List.mem_of_getElem? (i := 92) rfl)) rfl⟩
set_option maxRecDepth 100000 in
theorem ysX11_isSlot : sm_YS yX11_isSlot cX11_isSlot 1 (some .boolean) 1 := ⟨⟨lw_m (lt4 (List.mem_of_getElem? (i := 116) rfl)) rfl, lw_m (lt1 (List.mem_of_getElem? (i := 1) rfl)) rfl, nh_X11.1, nh_X11.2, pm__I_Z_244⟩, lw_m (lt4 (List.mem_of_getElem? (i := 115) rfl)) rfl⟩
set_option maxRecDepth 100000 in
theorem yvX8_allBelow : sm_YV yX8_allBelow cX8_allBelow 3 (some .boolean) 1 := ⟨⟨lw_m (lt6 (List.mem_of_getElem? (i := 43) rfl)) rfl, lw_m (lt1 (List.mem_of_getElem? (i := 13) rfl)) rfl, nh_X8.1, nh_X8.2, pm__I_Z_244⟩, lw_m (lt6 (List.mem_of_getElem? (i := 41) rfl)) rfl, lw_m (lt6 (List.mem_of_getElem? (i := 42) rfl)) rfl⟩
set_option maxRecDepth 100000 in
theorem yvX11_wrongRows : sm_YV yX11_wrongRows cX11_wrongRows 4 (some .int) 2 := ⟨⟨lw_m (lt6 (List.mem_of_getElem? (i := 39) rfl)) rfl, lw_m (lt1 (List.mem_of_getElem? (i := 1) rfl)) rfl, nh_X11.1, nh_X11.2, pm__II_I_300⟩, lw_m (lt6 (List.mem_of_getElem? (i := 38) rfl)) rfl, lw_m (lps4 (q := (⟨"BearsTwo", "wrongRows", "(II)I"⟩, 18)) (List.mem_of_getElem? (i := 1) rfl)) rfl⟩
set_option maxRecDepth 100000 in
theorem yvX8_stones : sm_YV yX8_stones cX8_stones 3 (some .int) 0 := ⟨⟨lw_m (lt6 (List.mem_of_getElem? (i := 55) rfl)) rfl, lw_m (lt1 (List.mem_of_getElem? (i := 13) rfl)) rfl, nh_X8.1, nh_X8.2, pm___I_154⟩, lw_m (lt6 (List.mem_of_getElem? (i := 53) rfl)) rfl, lw_m (lt6 (List.mem_of_getElem? (i := 54) rfl)) rfl⟩
set_option maxRecDepth 100000 in
theorem yvX11_cross : sm_YV yX11_cross cX11_cross 4 (some .int) 2 := ⟨⟨lw_m (lt6 (List.mem_of_getElem? (i := 51) rfl)) rfl, lw_m (lt1 (List.mem_of_getElem? (i := 1) rfl)) rfl, nh_X11.1, nh_X11.2, pm__II_I_300⟩, lw_m (lt6 (List.mem_of_getElem? (i := 49) rfl)) rfl, lw_m (lt6 (List.mem_of_getElem? (i := 50) rfl)) rfl⟩
set_option maxRecDepth 100000 in
theorem yvX2_barring : sm_YV yX2_barring cX2_barring 1 (some .int) 0 := ⟨⟨lw_m (lt5 (List.mem_of_getElem? (i := 106) rfl)) rfl, lw_m (lt1 (List.mem_of_getElem? (i := 11) rfl)) rfl, nh_X2.1, nh_X2.2, pm___I_154⟩, lw_m (lt5 (List.mem_of_getElem? (i := 104) rfl)) rfl, lw_m (lt5 (List.mem_of_getElem? (i := 105) rfl)) rfl⟩
set_option maxRecDepth 100000 in
theorem yvX11_cut : sm_YV yX11_cut cX11_cut 3 (some .int) 2 := ⟨⟨lw_m (lt5 (List.mem_of_getElem? (i := 102) rfl)) rfl, lw_m (lt1 (List.mem_of_getElem? (i := 1) rfl)) rfl, nh_X11.1, nh_X11.2, pm__II_I_300⟩, lw_m (lt5 (List.mem_of_getElem? (i := 100) rfl)) rfl, lw_m (lt5 (List.mem_of_getElem? (i := 101) rfl)) rfl⟩
set_option maxRecDepth 100000 in
theorem yvX9_wash : sm_YV yX9_wash cX9_wash 3 (some .int) 0 := ⟨⟨lw_m (lt4 (List.mem_of_getElem? (i := 50) rfl)) rfl, lw_m (lt1 (List.mem_of_getElem? (i := 4) rfl)) rfl, nh_X9.1, nh_X9.2, pm___I_154⟩, lw_m (lt4 (List.mem_of_getElem? (i := 48) rfl)) rfl, lw_m (lt4 (List.mem_of_getElem? (i := 49) rfl)) rfl⟩
set_option maxRecDepth 100000 in
theorem yvX11_days : sm_YV yX11_days cX11_days 3 (some .int) 1 := ⟨⟨lw_m (lt5 (List.mem_of_getElem? (i := 41) rfl)) rfl, lw_m (lt1 (List.mem_of_getElem? (i := 1) rfl)) rfl, nh_X11.1, nh_X11.2, pm__I_I_227⟩, lw_m (lt5 (List.mem_of_getElem? (i := 39) rfl)) rfl, lw_m (lt5 (List.mem_of_getElem? (i := 40) rfl)) rfl⟩
set_option maxRecDepth 100000 in
theorem yvX11_end : sm_YV yX11_end cX11_end 2 (some .int) 1 := ⟨⟨lw_m (lt3 (List.mem_of_getElem? (i := 30) rfl)) rfl, lw_m (lt1 (List.mem_of_getElem? (i := 1) rfl)) rfl, nh_X11.1, nh_X11.2, pm__I_I_227⟩, lw_m (lt3 (List.mem_of_getElem? (i := 28) rfl)) rfl, lw_m (lt3 (List.mem_of_getElem? (i := 29) rfl)) rfl⟩
set_option maxRecDepth 100000 in
theorem yvX11_isPerson : sm_YV yX11_isPerson cX11_isPerson 2 (some .boolean) 1 := ⟨⟨lw_m (lt3 (List.mem_of_getElem? (i := 231) rfl)) rfl, lw_m (lt1 (List.mem_of_getElem? (i := 1) rfl)) rfl, nh_X11.1, nh_X11.2, pm__I_Z_244⟩, lw_m (lt3 (List.mem_of_getElem? (i := 230) rfl)) rfl, lw_m (lps2 (q := (⟨"BearsTwo", "isPerson", "(I)Z"⟩, 18)) (List.mem_of_getElem? (i := 1) rfl)) rfl⟩
set_option maxRecDepth 100000 in
theorem yvX7_isPlace : sm_YV yX7_isPlace cX7_isPlace 2 (some .boolean) 1 := ⟨⟨lw_m (lt4 (List.mem_of_getElem? (i := 4) rfl)) rfl, lw_m (lt1 (List.mem_of_getElem? (i := 3) rfl)) rfl, nh_X7.1, nh_X7.2, pm__I_Z_244⟩, lw_m (lt4 (List.mem_of_getElem? (i := 2) rfl)) rfl, lw_m (lt4 (List.mem_of_getElem? (i := 3) rfl)) rfl⟩
set_option maxRecDepth 100000 in
theorem yvX7_joins : sm_YV yX7_joins cX7_joins 4 (some .boolean) 3 := ⟨⟨lw_m (lt4 (List.mem_of_getElem? (i := 16) rfl)) rfl, lw_m (lt1 (List.mem_of_getElem? (i := 3) rfl)) rfl, nh_X7.1, nh_X7.2, pm__III_Z_390⟩, lw_m (lt4 (List.mem_of_getElem? (i := 14) rfl)) rfl, lw_m (lt4 (List.mem_of_getElem? (i := 15) rfl)) rfl⟩
set_option maxRecDepth 100000 in
theorem yvX9_takeStep : sm_YV yX9_takeStep cX9_takeStep 3 (some .boolean) 2 := ⟨⟨lw_m (lt4 (List.mem_of_getElem? (i := 108) rfl)) rfl, lw_m (lt1 (List.mem_of_getElem? (i := 4) rfl)) rfl, nh_X9.1, nh_X9.2, pm__II_Z_317⟩, lw_m (lt4 (List.mem_of_getElem? (i := 106) rfl)) rfl, lw_m (lt4 (List.mem_of_getElem? (i := 107) rfl)) rfl⟩
set_option maxRecDepth 100000 in
theorem yvX11_stepInThought : sm_YV yX11_stepInThought cX11_stepInThought 5 (some .boolean) 2 := ⟨⟨lw_m (lt4 (List.mem_of_getElem? (i := 129) rfl)) rfl, lw_m (lt1 (List.mem_of_getElem? (i := 1) rfl)) rfl, nh_X11.1, nh_X11.2, pm__JJ_Z_319⟩, lw_m (lt4 (List.mem_of_getElem? (i := 128) rfl)) rfl, lw_m (lps2 (q := (⟨"BearsTwo", "stepInThought", "(JJ)Z"⟩, 18)) (List.mem_of_getElem? (i := 13) rfl)) rfl⟩
set_option maxRecDepth 100000 in
theorem yvX11_stepsInThought : sm_YV yX11_stepsInThought cX11_stepsInThought 4 (some .int) 1 := ⟨⟨lw_m (lt4 (List.mem_of_getElem? (i := 120) rfl)) rfl, lw_m (lt1 (List.mem_of_getElem? (i := 1) rfl)) rfl, nh_X11.1, nh_X11.2, pm__L_Row__I_444⟩, lw_m (lt4 (List.mem_of_getElem? (i := 119) rfl)) rfl, lw_m (lps2 (q := (⟨"BearsTwo", "stepsInThought", "(LBearsTwo$Row;)I"⟩, 18)) (List.mem_of_getElem? (i := 12) rfl)) rfl⟩
set_option maxRecDepth 100000 in
theorem yvX11_ends : sm_YV yX11_ends cX11_ends 3 (some .int) 2 := ⟨⟨lw_m (lt4 (List.mem_of_getElem? (i := 134) rfl)) rfl, lw_m (lt1 (List.mem_of_getElem? (i := 1) rfl)) rfl, nh_X11.1, nh_X11.2, pm__II_I_300⟩, lw_m (lt4 (List.mem_of_getElem? (i := 132) rfl)) rfl, lw_m (lt4 (List.mem_of_getElem? (i := 133) rfl)) rfl⟩
set_option maxRecDepth 100000 in
theorem yvX11_fault : sm_YV yX11_fault cX11_fault 2 (some .int) 1 := ⟨⟨lw_m (lt3 (List.mem_of_getElem? (i := 203) rfl)) rfl, lw_m (lt1 (List.mem_of_getElem? (i := 1) rfl)) rfl, nh_X11.1, nh_X11.2, pm__I_I_227⟩, lw_m (lt3 (List.mem_of_getElem? (i := 201) rfl)) rfl, lw_m (lt3 (List.mem_of_getElem? (i := 202) rfl)) rfl⟩
set_option maxRecDepth 100000 in
theorem yvX11_putBytes : sm_YV yX11_putBytes cX11_putBytes 3 none 1 := ⟨⟨lw_m (lt3 (List.mem_of_getElem? (i := 26) rfl)) rfl, lw_m (lt1 (List.mem_of_getElem? (i := 1) rfl)) rfl, nh_X11.1, nh_X11.2, pm__I_V_240⟩, lw_m (lt3 (List.mem_of_getElem? (i := 25) rfl)) rfl, lw_m (lps1 (q := (⟨"BearsTwo", "putBytes", "(I)V"⟩, 18)) (List.mem_of_getElem? (i := 0) rfl)) rfl⟩
set_option maxRecDepth 100000 in
theorem yvX11_feed : sm_YV yX11_feed cX11_feed 6 (some .int) 5 := ⟨⟨lw_m (lt3 (List.mem_of_getElem? (i := 22) rfl)) rfl, lw_m (lt1 (List.mem_of_getElem? (i := 1) rfl)) rfl, nh_X11.1, nh_X11.2, pm__IIIII_I_519⟩, lw_m (lt3 (List.mem_of_getElem? (i := 20) rfl)) rfl, lw_m (lt3 (List.mem_of_getElem? (i := 21) rfl)) rfl⟩
set_option maxRecDepth 100000 in
theorem yvX1_gather : sm_YV yX1_gather cX1_gather 5 none 3 := ⟨⟨lw_m (lt5 (List.mem_of_getElem? (i := 231) rfl)) rfl, lw_m (lt1 (List.mem_of_getElem? (i := 10) rfl)) rfl, nh_X1.1, nh_X1.2, pm__L_Scene_II_V_785⟩, lw_m (lt5 (List.mem_of_getElem? (i := 230) rfl)) rfl, lw_m (lps3 (q := (⟨"BearsTwo$Doubts", "gather", "(LBearsTwo$Scene;II)V"⟩, 3)) (List.mem_of_getElem? (i := 13) rfl)) rfl⟩
set_option maxRecDepth 100000 in
theorem yvX1_chance : sm_YV yX1_chance cX1_chance 12 (some .long) 3 := ⟨⟨lw_m (lt5 (List.mem_of_getElem? (i := 225) rfl)) rfl, lw_m (lt1 (List.mem_of_getElem? (i := 10) rfl)) rfl, nh_X1.1, nh_X1.2, pm__L_Scene_II_J_773⟩, lw_m (lt5 (List.mem_of_getElem? (i := 223) rfl)) rfl, lw_m (lt5 (List.mem_of_getElem? (i := 224) rfl)) rfl⟩
set_option maxRecDepth 100000 in
theorem yvX11_treadOf : sm_YV yX11_treadOf cX11_treadOf 9 (some .long) 3 := ⟨⟨lw_m (lt6 (List.mem_of_getElem? (i := 2) rfl)) rfl, lw_m (lt1 (List.mem_of_getElem? (i := 1) rfl)) rfl, nh_X11.1, nh_X11.2, pm__III_J_374⟩, lw_m (lt6 (List.mem_of_getElem? (i := 1) rfl)) rfl, lw_m (lps3 (q := (⟨"BearsTwo", "treadOf", "(III)J"⟩, 18)) (List.mem_of_getElem? (i := 14) rfl)) rfl⟩
set_option maxRecDepth 100000 in
theorem yvX11_first : sm_YV yX11_first cX11_first 9 (some .int) 2 := ⟨⟨lw_m (lt6 (List.mem_of_getElem? (i := 7) rfl)) rfl, lw_m (lt1 (List.mem_of_getElem? (i := 1) rfl)) rfl, nh_X11.1, nh_X11.2, pm__II_I_300⟩, lw_m (lt6 (List.mem_of_getElem? (i := 5) rfl)) rfl, lw_m (lt6 (List.mem_of_getElem? (i := 6) rfl)) rfl⟩
set_option maxRecDepth 100000 in
theorem yvX11_fresh : sm_YV yX11_fresh cX11_fresh 1 (some .int) 0 := ⟨⟨lw_m (lt4 (List.mem_of_getElem? (i := 46) rfl)) rfl, lw_m (lt1 (List.mem_of_getElem? (i := 1) rfl)) rfl, nh_X11.1, nh_X11.2, pm___I_154⟩, lw_m (lt4 (List.mem_of_getElem? (i := 44) rfl)) rfl, lw_m (lt4 (List.mem_of_getElem? (i := 45) rfl)) rfl⟩
set_option maxRecDepth 100000 in
theorem yvX5_isBetter : sm_YV yX5_isBetter cX5_isBetter 3 (some .boolean) 2 := ⟨⟨lw_m (lt4 (List.mem_of_getElem? (i := 230) rfl)) rfl, lw_m (lt1 (List.mem_of_getElem? (i := 9) rfl)) rfl, nh_X5.1, nh_X5.2, pm__II_Z_317⟩, lw_m (lt4 (List.mem_of_getElem? (i := 229) rfl)) rfl, lw_m (lps3 (q := (⟨"BearsTwo$Orders", "isBetter", "(II)Z"⟩, 9)) (List.mem_of_getElem? (i := 0) rfl)) rfl⟩
set_option maxRecDepth 100000 in
theorem yvX7_mustGo : sm_YV yX7_mustGo cX7_mustGo 2 (some .boolean) 1 := ⟨⟨lw_m (lt4 (List.mem_of_getElem? (i := 204) rfl)) rfl, lw_m (lt1 (List.mem_of_getElem? (i := 3) rfl)) rfl, nh_X7.1, nh_X7.2, pm__I_Z_244⟩, lw_m (lt4 (List.mem_of_getElem? (i := 202) rfl)) rfl, lw_m (lt4 (List.mem_of_getElem? (i := 203) rfl)) rfl⟩
set_option maxRecDepth 100000 in
theorem yvX5_couldBeBetter : sm_YV yX5_couldBeBetter cX5_couldBeBetter 9 (some .boolean) 4 := ⟨⟨lw_m (lt4 (List.mem_of_getElem? (i := 235) rfl)) rfl, lw_m (lt1 (List.mem_of_getElem? (i := 9) rfl)) rfl, nh_X5.1, nh_X5.2, pm__L_Scene_III_Z_862⟩, lw_m (lt4 (List.mem_of_getElem? (i := 234) rfl)) rfl, lw_m (lps3 (q := (⟨"BearsTwo$Orders", "couldBeBetter", "(LBearsTwo$Scene;III)Z"⟩, 9)) (List.mem_of_getElem? (i := 1) rfl)) rfl⟩
set_option maxRecDepth 100000 in
theorem yvX5_hasTwin : sm_YV yX5_hasTwin cX5_hasTwin 4 (some .boolean) 2 := ⟨⟨lw_m (lt5 (List.mem_of_getElem? (i := 13) rfl)) rfl, lw_m (lt1 (List.mem_of_getElem? (i := 9) rfl)) rfl, nh_X5.1, nh_X5.2, pm__II_Z_317⟩, lw_m (lt5 (List.mem_of_getElem? (i := 12) rfl)) rfl, lw_m (lps3 (q := (⟨"BearsTwo$Orders", "hasTwin", "(II)Z"⟩, 9)) (List.mem_of_getElem? (i := 2) rfl)) rfl⟩
set_option maxRecDepth 100000 in
theorem yvX5_extend : sm_YV yX5_extend cX5_extend 10 none 5 := ⟨⟨lw_m (lt4 (List.mem_of_getElem? (i := 226) rfl)) rfl, lw_m (lt1 (List.mem_of_getElem? (i := 9) rfl)) rfl, nh_X5.1, nh_X5.2, pm__IIIII_V_532⟩, lw_m (lt4 (List.mem_of_getElem? (i := 225) rfl)) rfl, lw_m (lps2 (q := (⟨"BearsTwo$Orders", "extend", "(IIIII)V"⟩, 9)) (List.mem_of_getElem? (i := 15) rfl)) rfl⟩
set_option maxRecDepth 100000 in
theorem yvX5_find : sm_YV yX5_find cX5_find 5 (some .boolean) 2 := ⟨⟨lw_m (lt4 (List.mem_of_getElem? (i := 218) rfl)) rfl, lw_m (lt1 (List.mem_of_getElem? (i := 9) rfl)) rfl, nh_X5.1, nh_X5.2, pm__L_Scene_I_Z_716⟩, lw_m (lt4 (List.mem_of_getElem? (i := 216) rfl)) rfl, lw_m (lt4 (List.mem_of_getElem? (i := 217) rfl)) rfl⟩
set_option maxRecDepth 100000 in
theorem yvX11_gap : sm_YV yX11_gap cX11_gap 2 (some .int) 1 := ⟨⟨lw_m (lt5 (List.mem_of_getElem? (i := 24) rfl)) rfl, lw_m (lt1 (List.mem_of_getElem? (i := 1) rfl)) rfl, nh_X11.1, nh_X11.2, pm__I_I_227⟩, lw_m (lt5 (List.mem_of_getElem? (i := 22) rfl)) rfl, lw_m (lt5 (List.mem_of_getElem? (i := 23) rfl)) rfl⟩
set_option maxRecDepth 100000 in
theorem yvX11_go : sm_YV yX11_go cX11_go 4 (some .int) 2 := ⟨⟨lw_m (lt4 (List.mem_of_getElem? (i := 138) rfl)) rfl, lw_m (lt1 (List.mem_of_getElem? (i := 1) rfl)) rfl, nh_X11.1, nh_X11.2, pm__II_I_300⟩, lw_m (lt4 (List.mem_of_getElem? (i := 136) rfl)) rfl, lw_m (lt4 (List.mem_of_getElem? (i := 137) rfl)) rfl⟩
set_option maxRecDepth 100000 in
theorem yvX11_home : sm_YV yX11_home cX11_home 2 (some .int) 1 := ⟨⟨lw_m (lt5 (List.mem_of_getElem? (i := 29) rfl)) rfl, lw_m (lt1 (List.mem_of_getElem? (i := 1) rfl)) rfl, nh_X11.1, nh_X11.2, pm__I_I_227⟩, lw_m (lt5 (List.mem_of_getElem? (i := 27) rfl)) rfl, lw_m (lt5 (List.mem_of_getElem? (i := 28) rfl)) rfl⟩
set_option maxRecDepth 100000 in
theorem yvX11_isHour : sm_YV yX11_isHour cX11_isHour 2 (some .boolean) 1 := ⟨⟨lw_m (lt4 (List.mem_of_getElem? (i := 42) rfl)) rfl, lw_m (lt1 (List.mem_of_getElem? (i := 1) rfl)) rfl, nh_X11.1, nh_X11.2, pm__I_Z_244⟩, lw_m (lt4 (List.mem_of_getElem? (i := 41) rfl)) rfl, lw_m (lps2 (q := (⟨"BearsTwo", "isHour", "(I)Z"⟩, 18)) (List.mem_of_getElem? (i := 4) rfl)) rfl⟩
set_option maxRecDepth 100000 in
theorem yvX11_hour : sm_YV yX11_hour cX11_hour 3 (some .int) 1 := ⟨⟨lw_m (lt4 (List.mem_of_getElem? (i := 38) rfl)) rfl, lw_m (lt1 (List.mem_of_getElem? (i := 1) rfl)) rfl, nh_X11.1, nh_X11.2, pm__I_I_227⟩, lw_m (lt4 (List.mem_of_getElem? (i := 36) rfl)) rfl, lw_m (lt4 (List.mem_of_getElem? (i := 37) rfl)) rfl⟩
set_option maxRecDepth 100000 in
theorem yvX11_image : sm_YV yX11_image cX11_image 2 (some .int) 1 := ⟨⟨lw_m (lt6 (List.mem_of_getElem? (i := 105) rfl)) rfl, lw_m (lt1 (List.mem_of_getElem? (i := 1) rfl)) rfl, nh_X11.1, nh_X11.2, pm__I_I_227⟩, lw_m (lt6 (List.mem_of_getElem? (i := 103) rfl)) rfl, lw_m (lt6 (List.mem_of_getElem? (i := 104) rfl)) rfl⟩
set_option maxRecDepth 100000 in
theorem ysX11_isLoad : sm_YS yX11_isLoad cX11_isLoad 1 (some .boolean) 1 := ⟨⟨lw_m (lt5 (List.mem_of_getElem? (i := 126) rfl)) rfl, lw_m (lt1 (List.mem_of_getElem? (i := 1) rfl)) rfl, nh_X11.1, nh_X11.2, pm__I_Z_244⟩, lw_m (lt5 (List.mem_of_getElem? (i := 125) rfl)) rfl⟩
set_option maxRecDepth 100000 in
theorem ysX11_isSeed : sm_YS yX11_isSeed cX11_isSeed 1 (some .boolean) 1 := ⟨⟨lw_m (lt6 (List.mem_of_getElem? (i := 62) rfl)) rfl, lw_m (lt1 (List.mem_of_getElem? (i := 1) rfl)) rfl, nh_X11.1, nh_X11.2, pm__I_Z_244⟩, lw_m (lt6 (List.mem_of_getElem? (i := 61) rfl)) rfl⟩
set_option maxRecDepth 100000 in
theorem yvX11_judge : sm_YV yX11_judge cX11_judge 2 (some .int) 1 := ⟨⟨lw_m (lt4 (List.mem_of_getElem? (i := 113) rfl)) rfl, lw_m (lt1 (List.mem_of_getElem? (i := 1) rfl)) rfl, nh_X11.1, nh_X11.2, pm__I_I_227⟩, lw_m (lt4 (List.mem_of_getElem? (i := 111) rfl)) rfl, lw_m (lt4 (List.mem_of_getElem? (i := 112) rfl)) rfl⟩
set_option maxRecDepth 100000 in
theorem yvX11_priceOf : sm_YV yX11_priceOf cX11_priceOf 4 (some .int) 3 := ⟨⟨lw_m (lt6 (List.mem_of_getElem? (i := 15) rfl)) rfl, lw_m (lt1 (List.mem_of_getElem? (i := 1) rfl)) rfl, nh_X11.1, nh_X11.2, pm__III_I_373⟩, lw_m (lt6 (List.mem_of_getElem? (i := 14) rfl)) rfl, lw_m (lps3 (q := (⟨"BearsTwo", "priceOf", "(III)I"⟩, 18)) (List.mem_of_getElem? (i := 15) rfl)) rfl⟩
set_option maxRecDepth 100000 in
theorem yvX11_keep : sm_YV yX11_keep cX11_keep 7 (some .int) 2 := ⟨⟨lw_m (lt6 (List.mem_of_getElem? (i := 19) rfl)) rfl, lw_m (lt1 (List.mem_of_getElem? (i := 1) rfl)) rfl, nh_X11.1, nh_X11.2, pm__II_I_300⟩, lw_m (lt6 (List.mem_of_getElem? (i := 17) rfl)) rfl, lw_m (lt6 (List.mem_of_getElem? (i := 18) rfl)) rfl⟩
set_option maxRecDepth 100000 in
theorem yvX11_know : sm_YV yX11_know cX11_know 3 (some .int) 2 := ⟨⟨lw_m (lt5 (List.mem_of_getElem? (i := 216) rfl)) rfl, lw_m (lt1 (List.mem_of_getElem? (i := 1) rfl)) rfl, nh_X11.1, nh_X11.2, pm__IZ_I_317⟩, lw_m (lt5 (List.mem_of_getElem? (i := 214) rfl)) rfl, lw_m (lt5 (List.mem_of_getElem? (i := 215) rfl)) rfl⟩
set_option maxRecDepth 100000 in
theorem yvX11_knowledgeOf : sm_YV yX11_knowledgeOf cX11_knowledgeOf 2 (some .int) 1 := ⟨⟨lw_m (lt3 (List.mem_of_getElem? (i := 219) rfl)) rfl, lw_m (lt1 (List.mem_of_getElem? (i := 1) rfl)) rfl, nh_X11.1, nh_X11.2, pm__I_I_227⟩, lw_m (lt3 (List.mem_of_getElem? (i := 218) rfl)) rfl, lw_m (lps2 (q := (⟨"BearsTwo", "knowledgeOf", "(I)I"⟩, 18)) (List.mem_of_getElem? (i := 0) rfl)) rfl⟩
set_option maxRecDepth 100000 in
theorem yvX11_mostAt : sm_YV yX11_mostAt cX11_mostAt 3 (some .int) 2 := ⟨⟨lw_m (lt6 (List.mem_of_getElem? (i := 27) rfl)) rfl, lw_m (lt1 (List.mem_of_getElem? (i := 1) rfl)) rfl, nh_X11.1, nh_X11.2, pm__II_I_300⟩, lw_m (lt6 (List.mem_of_getElem? (i := 26) rfl)) rfl, lw_m (lps4 (q := (⟨"BearsTwo", "mostAt", "(II)I"⟩, 18)) (List.mem_of_getElem? (i := 0) rfl)) rfl⟩
set_option maxRecDepth 100000 in
theorem yvX11_late : sm_YV yX11_late cX11_late 3 (some .int) 2 := ⟨⟨lw_m (lt6 (List.mem_of_getElem? (i := 23) rfl)) rfl, lw_m (lt1 (List.mem_of_getElem? (i := 1) rfl)) rfl, nh_X11.1, nh_X11.2, pm__II_I_300⟩, lw_m (lt6 (List.mem_of_getElem? (i := 21) rfl)) rfl, lw_m (lt6 (List.mem_of_getElem? (i := 22) rfl)) rfl⟩
set_option maxRecDepth 100000 in
theorem yvX11_length : sm_YV yX11_length cX11_length 4 (some .int) 3 := ⟨⟨lw_m (lt4 (List.mem_of_getElem? (i := 54) rfl)) rfl, lw_m (lt1 (List.mem_of_getElem? (i := 1) rfl)) rfl, nh_X11.1, nh_X11.2, pm__III_I_373⟩, lw_m (lt4 (List.mem_of_getElem? (i := 52) rfl)) rfl, lw_m (lt4 (List.mem_of_getElem? (i := 53) rfl)) rfl⟩
set_option maxRecDepth 100000 in
theorem yvX11_may : sm_YV yX11_may cX11_may 4 (some .int) 3 := ⟨⟨lw_m (lt4 (List.mem_of_getElem? (i := 0) rfl)) rfl, lw_m (lt1 (List.mem_of_getElem? (i := 1) rfl)) rfl, nh_X11.1, nh_X11.2, pm__III_I_373⟩, lw_m (lt3 (List.mem_of_getElem? (i := 238) rfl)) rfl, lw_m (lt3 (List.mem_of_getElem? (i := 239) rfl)) rfl⟩
set_option maxRecDepth 100000 in
theorem yvX2_around : sm_YV yX2_around cX2_around 8 (some .int) 3 := ⟨⟨lw_m (lt5 (List.mem_of_getElem? (i := 139) rfl)) rfl, lw_m (lt1 (List.mem_of_getElem? (i := 11) rfl)) rfl, nh_X2.1, nh_X2.2, pm__L_River_II_I_798⟩, lw_m (lt5 (List.mem_of_getElem? (i := 138) rfl)) rfl, lw_m (lps3 (q := (⟨"BearsTwo$Flow", "around", "(LBearsTwo$River;II)I"⟩, 8)) (List.mem_of_getElem? (i := 9) rfl)) rfl⟩
set_option maxRecDepth 100000 in
theorem yvX2_put : sm_YV yX2_put cX2_put 8 none 5 := ⟨⟨lw_m (lt5 (List.mem_of_getElem? (i := 135) rfl)) rfl, lw_m (lt1 (List.mem_of_getElem? (i := 11) rfl)) rfl, nh_X2.1, nh_X2.2, pm__L_River_IIII_V_957⟩, lw_m (lt5 (List.mem_of_getElem? (i := 133) rfl)) rfl, lw_m (lt5 (List.mem_of_getElem? (i := 134) rfl)) rfl⟩
set_option maxRecDepth 100000 in
theorem yvX7_isInWater : sm_YV yX7_isInWater cX7_isInWater 3 (some .boolean) 2 := ⟨⟨lw_m (lt5 (List.mem_of_getElem? (i := 130) rfl)) rfl, lw_m (lt1 (List.mem_of_getElem? (i := 3) rfl)) rfl, nh_X7.1, nh_X7.2, pm__II_Z_317⟩, lw_m (lt5 (List.mem_of_getElem? (i := 128) rfl)) rfl, lw_m (lt5 (List.mem_of_getElem? (i := 129) rfl)) rfl⟩
set_option maxRecDepth 100000 in
theorem yvX7_stoneAt : sm_YV yX7_stoneAt cX7_stoneAt 4 (some .int) 2 := ⟨⟨lw_m (lt3 (List.mem_of_getElem? (i := 144) rfl)) rfl, lw_m (lt1 (List.mem_of_getElem? (i := 3) rfl)) rfl, nh_X7.1, nh_X7.2, pm__II_I_300⟩, lw_m (lt3 (List.mem_of_getElem? (i := 142) rfl)) rfl, lw_m (lt3 (List.mem_of_getElem? (i := 143) rfl)) rfl⟩
set_option maxRecDepth 100000 in
theorem yvX11_more : sm_YV yX11_more cX11_more 5 (some .int) 4 := ⟨⟨lw_m (lt5 (List.mem_of_getElem? (i := 123) rfl)) rfl, lw_m (lt1 (List.mem_of_getElem? (i := 1) rfl)) rfl, nh_X11.1, nh_X11.2, pm__IIII_I_446⟩, lw_m (lt5 (List.mem_of_getElem? (i := 121) rfl)) rfl, lw_m (lt5 (List.mem_of_getElem? (i := 122) rfl)) rfl⟩
set_option maxRecDepth 100000 in
theorem yvX11_most : sm_YV yX11_most cX11_most 3 (some .int) 2 := ⟨⟨lw_m (lt5 (List.mem_of_getElem? (i := 53) rfl)) rfl, lw_m (lt1 (List.mem_of_getElem? (i := 1) rfl)) rfl, nh_X11.1, nh_X11.2, pm__II_I_300⟩, lw_m (lt5 (List.mem_of_getElem? (i := 51) rfl)) rfl, lw_m (lt5 (List.mem_of_getElem? (i := 52) rfl)) rfl⟩
set_option maxRecDepth 100000 in
theorem yvX11_mostMoved : sm_YV yX11_mostMoved cX11_mostMoved 6 (some .int) 3 := ⟨⟨lw_m (lt5 (List.mem_of_getElem? (i := 172) rfl)) rfl, lw_m (lt1 (List.mem_of_getElem? (i := 1) rfl)) rfl, nh_X11.1, nh_X11.2, pm__III_I_373⟩, lw_m (lt5 (List.mem_of_getElem? (i := 171) rfl)) rfl, lw_m (lps3 (q := (⟨"BearsTwo", "mostMoved", "(III)I"⟩, 18)) (List.mem_of_getElem? (i := 11) rfl)) rfl⟩
set_option maxRecDepth 100000 in
theorem yvX4_takeFrom : sm_YV yX4_takeFrom cX4_takeFrom 2 none 1 := ⟨⟨lw_m (lt5 (List.mem_of_getElem? (i := 151) rfl)) rfl, lw_m (lt1 (List.mem_of_getElem? (i := 12) rfl)) rfl, nh_X4.1, nh_X4.2, pm__L_Net__V_440⟩, lw_m (lt5 (List.mem_of_getElem? (i := 149) rfl)) rfl, lw_m (lt5 (List.mem_of_getElem? (i := 150) rfl)) rfl⟩
set_option maxRecDepth 100000 in
theorem yvX2_restore : sm_YV yX2_restore cX2_restore 1 none 0 := ⟨⟨lw_m (lt5 (List.mem_of_getElem? (i := 164) rfl)) rfl, lw_m (lt1 (List.mem_of_getElem? (i := 11) rfl)) rfl, nh_X2.1, nh_X2.2, pm___V_167⟩, lw_m (lt5 (List.mem_of_getElem? (i := 162) rfl)) rfl, lw_m (lt5 (List.mem_of_getElem? (i := 163) rfl)) rfl⟩
set_option maxRecDepth 100000 in
theorem yvX11_mostWithOneMore : sm_YV yX11_mostWithOneMore cX11_mostWithOneMore 4 (some .int) 3 := ⟨⟨lw_m (lt5 (List.mem_of_getElem? (i := 160) rfl)) rfl, lw_m (lt1 (List.mem_of_getElem? (i := 1) rfl)) rfl, nh_X11.1, nh_X11.2, pm__III_I_373⟩, lw_m (lt5 (List.mem_of_getElem? (i := 159) rfl)) rfl, lw_m (lps3 (q := (⟨"BearsTwo", "mostWithOneMore", "(III)I"⟩, 18)) (List.mem_of_getElem? (i := 10) rfl)) rfl⟩
set_option maxRecDepth 100000 in
theorem yvX2_join : sm_YV yX2_join cX2_join 5 none 2 := ⟨⟨lw_m (lt5 (List.mem_of_getElem? (i := 185) rfl)) rfl, lw_m (lt1 (List.mem_of_getElem? (i := 11) rfl)) rfl, nh_X2.1, nh_X2.2, pm__II_V_313⟩, lw_m (lt5 (List.mem_of_getElem? (i := 183) rfl)) rfl, lw_m (lt5 (List.mem_of_getElem? (i := 184) rfl)) rfl⟩
set_option maxRecDepth 100000 in
theorem yvX4_canEnter : sm_YV yX4_canEnter cX4_canEnter 2 (some .boolean) 1 := ⟨⟨lw_m (lt5 (List.mem_of_getElem? (i := 212) rfl)) rfl, lw_m (lt1 (List.mem_of_getElem? (i := 12) rfl)) rfl, nh_X4.1, nh_X4.2, pm__I_Z_244⟩, lw_m (lt5 (List.mem_of_getElem? (i := 210) rfl)) rfl, lw_m (lt5 (List.mem_of_getElem? (i := 211) rfl)) rfl⟩
set_option maxRecDepth 100000 in
theorem yvX4_canLeave : sm_YV yX4_canLeave cX4_canLeave 2 (some .boolean) 1 := ⟨⟨lw_m (lt5 (List.mem_of_getElem? (i := 208) rfl)) rfl, lw_m (lt1 (List.mem_of_getElem? (i := 12) rfl)) rfl, nh_X4.1, nh_X4.2, pm__I_Z_244⟩, lw_m (lt5 (List.mem_of_getElem? (i := 206) rfl)) rfl, lw_m (lt5 (List.mem_of_getElem? (i := 207) rfl)) rfl⟩
set_option maxRecDepth 100000 in
theorem yvX2_linkHelps : sm_YV yX2_linkHelps cX2_linkHelps 3 (some .boolean) 2 := ⟨⟨lw_m (lt5 (List.mem_of_getElem? (i := 204) rfl)) rfl, lw_m (lt1 (List.mem_of_getElem? (i := 11) rfl)) rfl, nh_X2.1, nh_X2.2, pm__II_Z_317⟩, lw_m (lt5 (List.mem_of_getElem? (i := 202) rfl)) rfl, lw_m (lt5 (List.mem_of_getElem? (i := 203) rfl)) rfl⟩
set_option maxRecDepth 100000 in
theorem yvX11_mostWithPlank : sm_YV yX11_mostWithPlank cX11_mostWithPlank 4 (some .int) 3 := ⟨⟨lw_m (lt5 (List.mem_of_getElem? (i := 200) rfl)) rfl, lw_m (lt1 (List.mem_of_getElem? (i := 1) rfl)) rfl, nh_X11.1, nh_X11.2, pm__III_I_373⟩, lw_m (lt5 (List.mem_of_getElem? (i := 199) rfl)) rfl, lw_m (lps3 (q := (⟨"BearsTwo", "mostWithPlank", "(III)I"⟩, 18)) (List.mem_of_getElem? (i := 12) rfl)) rfl⟩
set_option maxRecDepth 100000 in
theorem yvX11_move : sm_YV yX11_move cX11_move 7 (some .int) 2 := ⟨⟨lw_m (lt5 (List.mem_of_getElem? (i := 176) rfl)) rfl, lw_m (lt1 (List.mem_of_getElem? (i := 1) rfl)) rfl, nh_X11.1, nh_X11.2, pm__II_I_300⟩, lw_m (lt5 (List.mem_of_getElem? (i := 174) rfl)) rfl, lw_m (lt5 (List.mem_of_getElem? (i := 175) rfl)) rfl⟩
set_option maxRecDepth 100000 in
theorem yvX11_moved : sm_YV yX11_moved cX11_moved 4 (some .int) 3 := ⟨⟨lw_m (lt5 (List.mem_of_getElem? (i := 168) rfl)) rfl, lw_m (lt1 (List.mem_of_getElem? (i := 1) rfl)) rfl, nh_X11.1, nh_X11.2, pm__III_I_373⟩, lw_m (lt5 (List.mem_of_getElem? (i := 166) rfl)) rfl, lw_m (lt5 (List.mem_of_getElem? (i := 167) rfl)) rfl⟩
set_option maxRecDepth 100000 in
theorem yvX11_noon : sm_YV yX11_noon cX11_noon 4 (some .int) 2 := ⟨⟨lw_m (lt6 (List.mem_of_getElem? (i := 31) rfl)) rfl, lw_m (lt1 (List.mem_of_getElem? (i := 1) rfl)) rfl, nh_X11.1, nh_X11.2, pm__II_I_300⟩, lw_m (lt6 (List.mem_of_getElem? (i := 29) rfl)) rfl, lw_m (lt6 (List.mem_of_getElem? (i := 30) rfl)) rfl⟩
set_option maxRecDepth 100000 in
theorem yvX5_unitAt : sm_YV yX5_unitAt cX5_unitAt 2 (some .int) 1 := ⟨⟨lw_m (lt5 (List.mem_of_getElem? (i := 20) rfl)) rfl, lw_m (lt1 (List.mem_of_getElem? (i := 9) rfl)) rfl, nh_X5.1, nh_X5.2, pm__I_I_227⟩, lw_m (lt5 (List.mem_of_getElem? (i := 18) rfl)) rfl, lw_m (lt5 (List.mem_of_getElem? (i := 19) rfl)) rfl⟩
set_option maxRecDepth 100000 in
theorem yvX11_order : sm_YV yX11_order cX11_order 3 (some .int) 2 := ⟨⟨lw_m (lt4 (List.mem_of_getElem? (i := 214) rfl)) rfl, lw_m (lt1 (List.mem_of_getElem? (i := 1) rfl)) rfl, nh_X11.1, nh_X11.2, pm__II_I_300⟩, lw_m (lt4 (List.mem_of_getElem? (i := 212) rfl)) rfl, lw_m (lt4 (List.mem_of_getElem? (i := 213) rfl)) rfl⟩
set_option maxRecDepth 100000 in
theorem yvX9_missing : sm_YV yX9_missing cX9_missing 3 (some .int) 0 := ⟨⟨lw_m (lt4 (List.mem_of_getElem? (i := 199) rfl)) rfl, lw_m (lt1 (List.mem_of_getElem? (i := 4) rfl)) rfl, nh_X9.1, nh_X9.2, pm___I_154⟩, lw_m (lt4 (List.mem_of_getElem? (i := 197) rfl)) rfl, lw_m (lt4 (List.mem_of_getElem? (i := 198) rfl)) rfl⟩
set_option maxRecDepth 100000 in
theorem yvX11_over : sm_YV yX11_over cX11_over 4 (some .int) 2 := ⟨⟨lw_m (lt4 (List.mem_of_getElem? (i := 171) rfl)) rfl, lw_m (lt1 (List.mem_of_getElem? (i := 1) rfl)) rfl, nh_X11.1, nh_X11.2, pm__II_I_300⟩, lw_m (lt4 (List.mem_of_getElem? (i := 169) rfl)) rfl, lw_m (lt4 (List.mem_of_getElem? (i := 170) rfl)) rfl⟩
set_option maxRecDepth 100000 in
theorem yvX8_has : sm_YV yX8_has cX8_has 3 (some .boolean) 2 := ⟨⟨lw_m (lt6 (List.mem_of_getElem? (i := 139) rfl)) rfl, lw_m (lt1 (List.mem_of_getElem? (i := 13) rfl)) rfl, nh_X8.1, nh_X8.2, pm__II_Z_317⟩, lw_m (lt6 (List.mem_of_getElem? (i := 137) rfl)) rfl, lw_m (lt6 (List.mem_of_getElem? (i := 138) rfl)) rfl⟩
set_option maxRecDepth 100000 in
theorem yvX11_paste : sm_YV yX11_paste cX11_paste 6 (some .int) 5 := ⟨⟨lw_m (lt6 (List.mem_of_getElem? (i := 135) rfl)) rfl, lw_m (lt1 (List.mem_of_getElem? (i := 1) rfl)) rfl, nh_X11.1, nh_X11.2, pm__IIIII_I_519⟩, lw_m (lt6 (List.mem_of_getElem? (i := 133) rfl)) rfl, lw_m (lt6 (List.mem_of_getElem? (i := 134) rfl)) rfl⟩
set_option maxRecDepth 100000 in
theorem yvX11_path : sm_YV yX11_path cX11_path 6 (some .int) 4 := ⟨⟨lw_m (lt4 (List.mem_of_getElem? (i := 100) rfl)) rfl, lw_m (lt1 (List.mem_of_getElem? (i := 1) rfl)) rfl, nh_X11.1, nh_X11.2, pm__IIII_I_446⟩, lw_m (lt4 (List.mem_of_getElem? (i := 98) rfl)) rfl, lw_m (lt4 (List.mem_of_getElem? (i := 99) rfl)) rfl⟩
set_option maxRecDepth 100000 in
theorem yvX9_drawn : sm_YV yX9_drawn cX9_drawn 6 (some .int) 1 := ⟨⟨lw_m (lt6 (List.mem_of_getElem? (i := 71) rfl)) rfl, lw_m (lt1 (List.mem_of_getElem? (i := 4) rfl)) rfl, nh_X9.1, nh_X9.2, pm__I_I_227⟩, lw_m (lt6 (List.mem_of_getElem? (i := 69) rfl)) rfl, lw_m (lt6 (List.mem_of_getElem? (i := 70) rfl)) rfl⟩
set_option maxRecDepth 100000 in
theorem yvX11_peopleOnDay : sm_YV yX11_peopleOnDay cX11_peopleOnDay 3 (some .int) 2 := ⟨⟨lw_m (lt6 (List.mem_of_getElem? (i := 67) rfl)) rfl, lw_m (lt1 (List.mem_of_getElem? (i := 1) rfl)) rfl, nh_X11.1, nh_X11.2, pm__II_I_300⟩, lw_m (lt6 (List.mem_of_getElem? (i := 66) rfl)) rfl, lw_m (lps4 (q := (⟨"BearsTwo", "peopleOnDay", "(II)I"⟩, 18)) (List.mem_of_getElem? (i := 2) rfl)) rfl⟩
set_option maxRecDepth 100000 in
theorem yvX7_unitOf : sm_YV yX7_unitOf cX7_unitOf 2 (some .int) 1 := ⟨⟨lw_m (lt3 (List.mem_of_getElem? (i := 235) rfl)) rfl, lw_m (lt1 (List.mem_of_getElem? (i := 3) rfl)) rfl, nh_X7.1, nh_X7.2, pm__I_I_227⟩, lw_m (lt3 (List.mem_of_getElem? (i := 233) rfl)) rfl, lw_m (lt3 (List.mem_of_getElem? (i := 234) rfl)) rfl⟩
set_option maxRecDepth 100000 in
theorem yvX11_person : sm_YV yX11_person cX11_person 3 (some .int) 2 := ⟨⟨lw_m (lt3 (List.mem_of_getElem? (i := 227) rfl)) rfl, lw_m (lt1 (List.mem_of_getElem? (i := 1) rfl)) rfl, nh_X11.1, nh_X11.2, pm__II_I_300⟩, lw_m (lt3 (List.mem_of_getElem? (i := 225) rfl)) rfl, lw_m (lt3 (List.mem_of_getElem? (i := 226) rfl)) rfl⟩
set_option maxRecDepth 100000 in
theorem yvX11_plank : sm_YV yX11_plank cX11_plank 4 (some .int) 3 := ⟨⟨lw_m (lt5 (List.mem_of_getElem? (i := 180) rfl)) rfl, lw_m (lt1 (List.mem_of_getElem? (i := 1) rfl)) rfl, nh_X11.1, nh_X11.2, pm__III_I_373⟩, lw_m (lt5 (List.mem_of_getElem? (i := 178) rfl)) rfl, lw_m (lt5 (List.mem_of_getElem? (i := 179) rfl)) rfl⟩
set_option maxRecDepth 100000 in
theorem yvX2_save : sm_YV yX2_save cX2_save 1 none 0 := ⟨⟨lw_m (lt5 (List.mem_of_getElem? (i := 147) rfl)) rfl, lw_m (lt1 (List.mem_of_getElem? (i := 11) rfl)) rfl, nh_X2.1, nh_X2.2, pm___V_167⟩, lw_m (lt5 (List.mem_of_getElem? (i := 145) rfl)) rfl, lw_m (lt5 (List.mem_of_getElem? (i := 146) rfl)) rfl⟩
set_option maxRecDepth 100000 in
theorem yvX7_placeBy : sm_YV yX7_placeBy cX7_placeBy 2 (some .int) 1 := ⟨⟨lw_m (lt5 (List.mem_of_getElem? (i := 196) rfl)) rfl, lw_m (lt1 (List.mem_of_getElem? (i := 3) rfl)) rfl, nh_X7.1, nh_X7.2, pm__I_I_227⟩, lw_m (lt5 (List.mem_of_getElem? (i := 194) rfl)) rfl, lw_m (lt5 (List.mem_of_getElem? (i := 195) rfl)) rfl⟩
set_option maxRecDepth 100000 in
theorem yvX11_planks : sm_YV yX11_planks cX11_planks 11 (some .int) 1 := ⟨⟨lw_m (lt5 (List.mem_of_getElem? (i := 192) rfl)) rfl, lw_m (lt1 (List.mem_of_getElem? (i := 1) rfl)) rfl, nh_X11.1, nh_X11.2, pm__I_I_227⟩, lw_m (lt5 (List.mem_of_getElem? (i := 190) rfl)) rfl, lw_m (lt5 (List.mem_of_getElem? (i := 191) rfl)) rfl⟩
set_option maxRecDepth 100000 in
theorem yvX11_price : sm_YV yX11_price cX11_price 4 (some .int) 3 := ⟨⟨lw_m (lt6 (List.mem_of_getElem? (i := 11) rfl)) rfl, lw_m (lt1 (List.mem_of_getElem? (i := 1) rfl)) rfl, nh_X11.1, nh_X11.2, pm__III_I_373⟩, lw_m (lt6 (List.mem_of_getElem? (i := 9) rfl)) rfl, lw_m (lt6 (List.mem_of_getElem? (i := 10) rfl)) rfl⟩
set_option maxRecDepth 100000 in
theorem yvX11_reach : sm_YV yX11_reach cX11_reach 2 (some .int) 1 := ⟨⟨lw_m (lt4 (List.mem_of_getElem? (i := 21) rfl)) rfl, lw_m (lt1 (List.mem_of_getElem? (i := 1) rfl)) rfl, nh_X11.1, nh_X11.2, pm__I_I_227⟩, lw_m (lt4 (List.mem_of_getElem? (i := 19) rfl)) rfl, lw_m (lt4 (List.mem_of_getElem? (i := 20) rfl)) rfl⟩
set_option maxRecDepth 100000 in
theorem ysX6_isDigit : sm_YS yX6_isDigit cX6_isDigit 1 (some .boolean) 1 := ⟨⟨lw_m (lt3 (List.mem_of_getElem? (i := 55) rfl)) rfl, lw_m (lt1 (List.mem_of_getElem? (i := 2) rfl)) rfl, nh_X6.1, nh_X6.2, pm__B_Z_237⟩, lw_m (lt3 (List.mem_of_getElem? (i := 54) rfl)) rfl⟩
set_option maxRecDepth 100000 in
theorem ysX6_isLetter : sm_YS yX6_isLetter cX6_isLetter 1 (some .boolean) 1 := ⟨⟨lw_m (lt3 (List.mem_of_getElem? (i := 52) rfl)) rfl, lw_m (lt1 (List.mem_of_getElem? (i := 2) rfl)) rfl, nh_X6.1, nh_X6.2, pm__B_Z_237⟩, lw_m (lt3 (List.mem_of_getElem? (i := 51) rfl)) rfl⟩
set_option maxRecDepth 100000 in
theorem yvX6_advance : sm_YV yX6_advance cX6_advance 1 none 0 := ⟨⟨lw_m (lt3 (List.mem_of_getElem? (i := 49) rfl)) rfl, lw_m (lt1 (List.mem_of_getElem? (i := 2) rfl)) rfl, nh_X6.1, nh_X6.2, pm___V_167⟩, lw_m (lt3 (List.mem_of_getElem? (i := 48) rfl)) rfl, lw_m (lps1 (q := (⟨"BearsTwo$Reader", "advance", "()V"⟩, 11)) (List.mem_of_getElem? (i := 1) rfl)) rfl⟩
set_option maxRecDepth 100000 in
theorem yvX6_isWord : sm_YV yX6_isWord cX6_isWord 3 (some .boolean) 1 := ⟨⟨lw_m (lt3 (List.mem_of_getElem? (i := 64) rfl)) rfl, lw_m (lt1 (List.mem_of_getElem? (i := 2) rfl)) rfl, nh_X6.1, nh_X6.2, pm__LString__Z_867⟩, lw_m (lt3 (List.mem_of_getElem? (i := 63) rfl)) rfl, lw_m (lps1 (q := (⟨"BearsTwo$Reader", "isWord", "(Ljava/lang/String;)Z"⟩, 11)) (List.mem_of_getElem? (i := 3) rfl)) rfl⟩
set_option maxRecDepth 100000 in
theorem yvX6_readFlag : sm_YV yX6_readFlag cX6_readFlag 2 (some .boolean) 1 := ⟨⟨lw_m (lt3 (List.mem_of_getElem? (i := 129) rfl)) rfl, lw_m (lt1 (List.mem_of_getElem? (i := 2) rfl)) rfl, nh_X6.1, nh_X6.2, pm__LString__Z_867⟩, lw_m (lt3 (List.mem_of_getElem? (i := 128) rfl)) rfl, lw_m (lps1 (q := (⟨"BearsTwo$Reader", "readFlag", "(Ljava/lang/String;)Z"⟩, 11)) (List.mem_of_getElem? (i := 7) rfl)) rfl⟩
set_option maxRecDepth 100000 in
theorem yvX6_refuse : sm_YV yX6_refuse cX6_refuse 2 none 1 := ⟨⟨lw_m (lt3 (List.mem_of_getElem? (i := 116) rfl)) rfl, lw_m (lt1 (List.mem_of_getElem? (i := 2) rfl)) rfl, nh_X6.1, nh_X6.2, pm__I_V_240⟩, lw_m (lt3 (List.mem_of_getElem? (i := 115) rfl)) rfl, lw_m (lps1 (q := (⟨"BearsTwo$Reader", "refuse", "(I)V"⟩, 11)) (List.mem_of_getElem? (i := 4) rfl)) rfl⟩
set_option maxRecDepth 100000 in
theorem yvX6_readNumber : sm_YV yX6_readNumber cX6_readNumber 4 (some .int) 2 := ⟨⟨lw_m (lt3 (List.mem_of_getElem? (i := 133) rfl)) rfl, lw_m (lt1 (List.mem_of_getElem? (i := 2) rfl)) rfl, nh_X6.1, nh_X6.2, pm__II_I_300⟩, lw_m (lt3 (List.mem_of_getElem? (i := 132) rfl)) rfl, lw_m (lps1 (q := (⟨"BearsTwo$Reader", "readNumber", "(II)I"⟩, 11)) (List.mem_of_getElem? (i := 8) rfl)) rfl⟩
set_option maxRecDepth 100000 in
theorem yvX6_readHand : sm_YV yX6_readHand cX6_readHand 3 none 1 := ⟨⟨lw_m (lt3 (List.mem_of_getElem? (i := 162) rfl)) rfl, lw_m (lt1 (List.mem_of_getElem? (i := 2) rfl)) rfl, nh_X6.1, nh_X6.2, pm__I_V_240⟩, lw_m (lt3 (List.mem_of_getElem? (i := 161) rfl)) rfl, lw_m (lps1 (q := (⟨"BearsTwo$Reader", "readHand", "(I)V"⟩, 11)) (List.mem_of_getElem? (i := 11) rfl)) rfl⟩
set_option maxRecDepth 100000 in
theorem yvX6_readPair : sm_YV yX6_readPair cX6_readPair 4 (some .int) 3 := ⟨⟨lw_m (lt3 (List.mem_of_getElem? (i := 125) rfl)) rfl, lw_m (lt1 (List.mem_of_getElem? (i := 2) rfl)) rfl, nh_X6.1, nh_X6.2, pm__LString_II_I_996⟩, lw_m (lt3 (List.mem_of_getElem? (i := 124) rfl)) rfl, lw_m (lps1 (q := (⟨"BearsTwo$Reader", "readPair", "(Ljava/lang/String;II)I"⟩, 11)) (List.mem_of_getElem? (i := 6) rfl)) rfl⟩
set_option maxRecDepth 100000 in
theorem yvX6_readPerson : sm_YV yX6_readPerson cX6_readPerson 2 none 0 := ⟨⟨lw_m (lt3 (List.mem_of_getElem? (i := 152) rfl)) rfl, lw_m (lt1 (List.mem_of_getElem? (i := 2) rfl)) rfl, nh_X6.1, nh_X6.2, pm___V_167⟩, lw_m (lt3 (List.mem_of_getElem? (i := 151) rfl)) rfl, lw_m (lps1 (q := (⟨"BearsTwo$Reader", "readPerson", "()V"⟩, 11)) (List.mem_of_getElem? (i := 10) rfl)) rfl⟩
set_option maxRecDepth 100000 in
theorem yvX6_readPlank : sm_YV yX6_readPlank cX6_readPlank 1 none 0 := ⟨⟨lw_m (lt3 (List.mem_of_getElem? (i := 167) rfl)) rfl, lw_m (lt1 (List.mem_of_getElem? (i := 2) rfl)) rfl, nh_X6.1, nh_X6.2, pm___V_167⟩, lw_m (lt3 (List.mem_of_getElem? (i := 166) rfl)) rfl, lw_m (lps1 (q := (⟨"BearsTwo$Reader", "readPlank", "()V"⟩, 11)) (List.mem_of_getElem? (i := 12) rfl)) rfl⟩
set_option maxRecDepth 100000 in
theorem yvX6_readStone : sm_YV yX6_readStone cX6_readStone 2 none 0 := ⟨⟨lw_m (lt3 (List.mem_of_getElem? (i := 139) rfl)) rfl, lw_m (lt1 (List.mem_of_getElem? (i := 2) rfl)) rfl, nh_X6.1, nh_X6.2, pm___V_167⟩, lw_m (lt3 (List.mem_of_getElem? (i := 138) rfl)) rfl, lw_m (lps1 (q := (⟨"BearsTwo$Reader", "readStone", "()V"⟩, 11)) (List.mem_of_getElem? (i := 9) rfl)) rfl⟩
set_option maxRecDepth 100000 in
theorem yvX6_readWater : sm_YV yX6_readWater cX6_readWater 1 none 0 := ⟨⟨lw_m (lt3 (List.mem_of_getElem? (i := 120) rfl)) rfl, lw_m (lt1 (List.mem_of_getElem? (i := 2) rfl)) rfl, nh_X6.1, nh_X6.2, pm___V_167⟩, lw_m (lt3 (List.mem_of_getElem? (i := 119) rfl)) rfl, lw_m (lps1 (q := (⟨"BearsTwo$Reader", "readWater", "()V"⟩, 11)) (List.mem_of_getElem? (i := 5) rfl)) rfl⟩
set_option maxRecDepth 100000 in
theorem yvX6_readLine : sm_YV yX6_readLine cX6_readLine 2 none 0 := ⟨⟨lw_m (lt3 (List.mem_of_getElem? (i := 59) rfl)) rfl, lw_m (lt1 (List.mem_of_getElem? (i := 2) rfl)) rfl, nh_X6.1, nh_X6.2, pm___V_167⟩, lw_m (lt3 (List.mem_of_getElem? (i := 58) rfl)) rfl, lw_m (lps1 (q := (⟨"BearsTwo$Reader", "readLine", "()V"⟩, 11)) (List.mem_of_getElem? (i := 2) rfl)) rfl⟩
set_option maxRecDepth 100000 in
theorem yvX7_clear : sm_YV yX7_clear cX7_clear 1 none 0 := ⟨⟨lw_m (lt3 (List.mem_of_getElem? (i := 45) rfl)) rfl, lw_m (lt1 (List.mem_of_getElem? (i := 3) rfl)) rfl, nh_X7.1, nh_X7.2, pm___V_167⟩, lw_m (lt3 (List.mem_of_getElem? (i := 43) rfl)) rfl, lw_m (lt3 (List.mem_of_getElem? (i := 44) rfl)) rfl⟩
set_option maxRecDepth 100000 in
theorem yvX6_readAll : sm_YV yX6_readAll cX6_readAll 4 none 2 := ⟨⟨lw_m (lt3 (List.mem_of_getElem? (i := 38) rfl)) rfl, lw_m (lt1 (List.mem_of_getElem? (i := 2) rfl)) rfl, nh_X6.1, nh_X6.2, pm___BI_V_397⟩, lw_m (lt3 (List.mem_of_getElem? (i := 36) rfl)) rfl, lw_m (lt3 (List.mem_of_getElem? (i := 37) rfl)) rfl⟩
set_option maxRecDepth 100000 in
theorem yvX9_begin : sm_YV yX9_begin cX9_begin 1 none 0 := ⟨⟨lw_m (lt3 (List.mem_of_getElem? (i := 178) rfl)) rfl, lw_m (lt1 (List.mem_of_getElem? (i := 4) rfl)) rfl, nh_X9.1, nh_X9.2, pm___V_167⟩, lw_m (lt3 (List.mem_of_getElem? (i := 176) rfl)) rfl, lw_m (lt3 (List.mem_of_getElem? (i := 177) rfl)) rfl⟩
set_option maxRecDepth 100000 in
theorem yvX11_river : sm_YV yX11_river cX11_river 1 (some .int) 0 := ⟨⟨lw_m (lt3 (List.mem_of_getElem? (i := 34) rfl)) rfl, lw_m (lt1 (List.mem_of_getElem? (i := 1) rfl)) rfl, nh_X11.1, nh_X11.2, pm___I_154⟩, lw_m (lt3 (List.mem_of_getElem? (i := 32) rfl)) rfl, lw_m (lt3 (List.mem_of_getElem? (i := 33) rfl)) rfl⟩
set_option maxRecDepth 100000 in
theorem yvX8_clear : sm_YV yX8_clear cX8_clear 3 none 2 := ⟨⟨lw_m (lt6 (List.mem_of_getElem? (i := 120) rfl)) rfl, lw_m (lt1 (List.mem_of_getElem? (i := 13) rfl)) rfl, nh_X8.1, nh_X8.2, pm__II_V_313⟩, lw_m (lt6 (List.mem_of_getElem? (i := 118) rfl)) rfl, lw_m (lt6 (List.mem_of_getElem? (i := 119) rfl)) rfl⟩
set_option maxRecDepth 100000 in
theorem yvX11_row : sm_YV yX11_row cX11_row 4 (some .int) 3 := ⟨⟨lw_m (lt6 (List.mem_of_getElem? (i := 116) rfl)) rfl, lw_m (lt1 (List.mem_of_getElem? (i := 1) rfl)) rfl, nh_X11.1, nh_X11.2, pm__III_I_373⟩, lw_m (lt6 (List.mem_of_getElem? (i := 114) rfl)) rfl, lw_m (lt6 (List.mem_of_getElem? (i := 115) rfl)) rfl⟩
set_option maxRecDepth 100000 in
theorem yvX11_run : sm_YV yX11_run cX11_run 3 (some .int) 2 := ⟨⟨lw_m (lt6 (List.mem_of_getElem? (i := 59) rfl)) rfl, lw_m (lt1 (List.mem_of_getElem? (i := 1) rfl)) rfl, nh_X11.1, nh_X11.2, pm__II_I_300⟩, lw_m (lt6 (List.mem_of_getElem? (i := 57) rfl)) rfl, lw_m (lt6 (List.mem_of_getElem? (i := 58) rfl)) rfl⟩
set_option maxRecDepth 100000 in
theorem yvX11_runs : sm_YV yX11_runs cX11_runs 10 (some .int) 4 := ⟨⟨lw_m (lt6 (List.mem_of_getElem? (i := 89) rfl)) rfl, lw_m (lt1 (List.mem_of_getElem? (i := 1) rfl)) rfl, nh_X11.1, nh_X11.2, pm__IIII_I_446⟩, lw_m (lt6 (List.mem_of_getElem? (i := 87) rfl)) rfl, lw_m (lt6 (List.mem_of_getElem? (i := 88) rfl)) rfl⟩
set_option maxRecDepth 100000 in
theorem yvX11_step : sm_YV yX11_step cX11_step 3 (some .int) 2 := ⟨⟨lw_m (lt4 (List.mem_of_getElem? (i := 104) rfl)) rfl, lw_m (lt1 (List.mem_of_getElem? (i := 1) rfl)) rfl, nh_X11.1, nh_X11.2, pm__II_I_300⟩, lw_m (lt4 (List.mem_of_getElem? (i := 102) rfl)) rfl, lw_m (lt4 (List.mem_of_getElem? (i := 103) rfl)) rfl⟩
set_option maxRecDepth 100000 in
theorem yvX11_stone : sm_YV yX11_stone cX11_stone 3 (some .int) 2 := ⟨⟨lw_m (lt3 (List.mem_of_getElem? (i := 207) rfl)) rfl, lw_m (lt1 (List.mem_of_getElem? (i := 1) rfl)) rfl, nh_X11.1, nh_X11.2, pm__II_I_300⟩, lw_m (lt3 (List.mem_of_getElem? (i := 205) rfl)) rfl, lw_m (lt3 (List.mem_of_getElem? (i := 206) rfl)) rfl⟩
set_option maxRecDepth 100000 in
theorem yvX11_sure : sm_YV yX11_sure cX11_sure 3 (some .long) 2 := ⟨⟨lw_m (lt5 (List.mem_of_getElem? (i := 220) rfl)) rfl, lw_m (lt1 (List.mem_of_getElem? (i := 1) rfl)) rfl, nh_X11.1, nh_X11.2, pm__II_J_301⟩, lw_m (lt5 (List.mem_of_getElem? (i := 218) rfl)) rfl, lw_m (lt5 (List.mem_of_getElem? (i := 219) rfl)) rfl⟩
set_option maxRecDepth 100000 in
theorem yvX11_tread : sm_YV yX11_tread cX11_tread 4 (some .long) 3 := ⟨⟨lw_m (lt5 (List.mem_of_getElem? (i := 238) rfl)) rfl, lw_m (lt1 (List.mem_of_getElem? (i := 1) rfl)) rfl, nh_X11.1, nh_X11.2, pm__III_J_374⟩, lw_m (lt5 (List.mem_of_getElem? (i := 236) rfl)) rfl, lw_m (lt5 (List.mem_of_getElem? (i := 237) rfl)) rfl⟩
set_option maxRecDepth 100000 in
theorem yvX8_meets : sm_YV yX8_meets cX8_meets 4 (some .boolean) 2 := ⟨⟨lw_m (lt6 (List.mem_of_getElem? (i := 47) rfl)) rfl, lw_m (lt1 (List.mem_of_getElem? (i := 13) rfl)) rfl, nh_X8.1, nh_X8.2, pm__L_Row_I_Z_534⟩, lw_m (lt6 (List.mem_of_getElem? (i := 45) rfl)) rfl, lw_m (lt6 (List.mem_of_getElem? (i := 46) rfl)) rfl⟩
set_option maxRecDepth 100000 in
theorem yvX11_waits : sm_YV yX11_waits cX11_waits 5 (some .int) 2 := ⟨⟨lw_m (lt6 (List.mem_of_getElem? (i := 35) rfl)) rfl, lw_m (lt1 (List.mem_of_getElem? (i := 1) rfl)) rfl, nh_X11.1, nh_X11.2, pm__II_I_300⟩, lw_m (lt6 (List.mem_of_getElem? (i := 33) rfl)) rfl, lw_m (lt6 (List.mem_of_getElem? (i := 34) rfl)) rfl⟩
set_option maxRecDepth 100000 in
theorem yvX2_stoneHelps : sm_YV yX2_stoneHelps cX2_stoneHelps 6 (some .boolean) 3 := ⟨⟨lw_m (lt5 (List.mem_of_getElem? (i := 156) rfl)) rfl, lw_m (lt1 (List.mem_of_getElem? (i := 11) rfl)) rfl, nh_X2.1, nh_X2.2, pm__L_River_II_Z_815⟩, lw_m (lt5 (List.mem_of_getElem? (i := 154) rfl)) rfl, lw_m (lt5 (List.mem_of_getElem? (i := 155) rfl)) rfl⟩
set_option maxRecDepth 100000 in
theorem yvX11_where : sm_YV yX11_where cX11_where 11 (some .int) 2 := ⟨⟨lw_m (lt5 (List.mem_of_getElem? (i := 143) rfl)) rfl, lw_m (lt1 (List.mem_of_getElem? (i := 1) rfl)) rfl, nh_X11.1, nh_X11.2, pm__II_I_300⟩, lw_m (lt5 (List.mem_of_getElem? (i := 141) rfl)) rfl, lw_m (lt5 (List.mem_of_getElem? (i := 142) rfl)) rfl⟩
set_option maxRecDepth 100000 in
theorem yvX8_put : sm_YV yX8_put cX8_put 5 (some .boolean) 2 := ⟨⟨lw_m (lt6 (List.mem_of_getElem? (i := 131) rfl)) rfl, lw_m (lt1 (List.mem_of_getElem? (i := 13) rfl)) rfl, nh_X8.1, nh_X8.2, pm__IJ_Z_318⟩, lw_m (lt6 (List.mem_of_getElem? (i := 129) rfl)) rfl, lw_m (lt6 (List.mem_of_getElem? (i := 130) rfl)) rfl⟩
set_option maxRecDepth 100000 in
theorem yvX11_write : sm_YV yX11_write cX11_write 5 (some .int) 3 := ⟨⟨lw_m (lt6 (List.mem_of_getElem? (i := 127) rfl)) rfl, lw_m (lt1 (List.mem_of_getElem? (i := 1) rfl)) rfl, nh_X11.1, nh_X11.2, pm__IIJ_I_374⟩, lw_m (lt6 (List.mem_of_getElem? (i := 125) rfl)) rfl, lw_m (lt6 (List.mem_of_getElem? (i := 126) rfl)) rfl⟩
set_option maxRecDepth 100000 in
theorem yvX12_ofStone : sm_YV yX12_ofStone cX12_ofStone 3 (some .int) 2 := ⟨⟨lw_m (lt7 (List.mem_of_getElem? (i := 168) rfl)) rfl, lw_m (lt1 (List.mem_of_getElem? (i := 14) rfl)) rfl, nh_X12.1, nh_X12.2, pm__II_I_300⟩, lw_m (lt7 (List.mem_of_getElem? (i := 167) rfl)) rfl, lw_m (lps5 (q := (⟨"BearsTwoModel", "ofStone", "(II)I"⟩, 47)) (List.mem_of_getElem? (i := 4) rfl)) rfl⟩
set_option maxRecDepth 100000 in
theorem yvX12_acrossOf : sm_YV yX12_acrossOf cX12_acrossOf 2 (some .int) 1 := ⟨⟨lw_m (lt7 (List.mem_of_getElem? (i := 209) rfl)) rfl, lw_m (lt1 (List.mem_of_getElem? (i := 14) rfl)) rfl, nh_X12.1, nh_X12.2, pm__I_I_227⟩, lw_m (lt7 (List.mem_of_getElem? (i := 208) rfl)) rfl, lw_m (lps5 (q := (⟨"BearsTwoModel", "acrossOf", "(I)I"⟩, 47)) (List.mem_of_getElem? (i := 12) rfl)) rfl⟩
set_option maxRecDepth 100000 in
theorem yvX12_addNode : sm_YV yX12_addNode cX12_addNode 4 none 3 := ⟨⟨lw_m (lt8 (List.mem_of_getElem? (i := 215) rfl)) rfl, lw_m (lt1 (List.mem_of_getElem? (i := 14) rfl)) rfl, nh_X12.1, nh_X12.2, pm__III_V_386⟩, lw_m (lt8 (List.mem_of_getElem? (i := 214) rfl)) rfl, lw_m (lps8 (q := (⟨"BearsTwoModel", "addNode", "(III)V"⟩, 47)) (List.mem_of_getElem? (i := 4) rfl)) rfl⟩
set_option maxRecDepth 100000 in
theorem ysX12_in : sm_YS yX12_in cX12_in 6 (some .boolean) 3 := ⟨⟨lw_m (lt7 (List.mem_of_getElem? (i := 55) rfl)) rfl, lw_m (lt1 (List.mem_of_getElem? (i := 14) rfl)) rfl, nh_X12.1, nh_X12.2, pm__JJJ_Z_393⟩, lw_m (lt7 (List.mem_of_getElem? (i := 54) rfl)) rfl⟩
set_option maxRecDepth 100000 in
theorem yvX12_see : sm_YV yX12_see cX12_see 2 (some .int) 1 := ⟨⟨lw_m (lt7 (List.mem_of_getElem? (i := 83) rfl)) rfl, lw_m (lt1 (List.mem_of_getElem? (i := 14) rfl)) rfl, nh_X12.1, nh_X12.2, pm__I_I_227⟩, lw_m (lt7 (List.mem_of_getElem? (i := 82) rfl)) rfl, lw_m (lps4 (q := (⟨"BearsTwoModel", "see", "(I)I"⟩, 47)) (List.mem_of_getElem? (i := 6) rfl)) rfl⟩
set_option maxRecDepth 100000 in
theorem yvX12_advance : sm_YV yX12_advance cX12_advance 2 none 0 := ⟨⟨lw_m (lt7 (List.mem_of_getElem? (i := 79) rfl)) rfl, lw_m (lt1 (List.mem_of_getElem? (i := 14) rfl)) rfl, nh_X12.1, nh_X12.2, pm___V_167⟩, lw_m (lt7 (List.mem_of_getElem? (i := 78) rfl)) rfl, lw_m (lps4 (q := (⟨"BearsTwoModel", "advance", "()V"⟩, 47)) (List.mem_of_getElem? (i := 5) rfl)) rfl⟩
set_option maxRecDepth 100000 in
theorem yvX12_setStone : sm_YV yX12_setStone cX12_setStone 4 none 3 := ⟨⟨lw_m (lt7 (List.mem_of_getElem? (i := 238) rfl)) rfl, lw_m (lt1 (List.mem_of_getElem? (i := 14) rfl)) rfl, nh_X12.1, nh_X12.2, pm__III_V_386⟩, lw_m (lt7 (List.mem_of_getElem? (i := 237) rfl)) rfl, lw_m (lps6 (q := (⟨"BearsTwoModel", "setStone", "(III)V"⟩, 47)) (List.mem_of_getElem? (i := 0) rfl)) rfl⟩
set_option maxRecDepth 100000 in
theorem yvX12_bears : sm_YV yX12_bears cX12_bears 3 none 2 := ⟨⟨lw_m (lt8 (List.mem_of_getElem? (i := 48) rfl)) rfl, lw_m (lt1 (List.mem_of_getElem? (i := 14) rfl)) rfl, nh_X12.1, nh_X12.2, pm__II_V_313⟩, lw_m (lt8 (List.mem_of_getElem? (i := 47) rfl)) rfl, lw_m (lps6 (q := (⟨"BearsTwoModel", "bears", "(II)V"⟩, 47)) (List.mem_of_getElem? (i := 8) rfl)) rfl⟩
set_option maxRecDepth 100000 in
theorem yvX12_bearsNow : sm_YV yX12_bearsNow cX12_bearsNow 2 (some .int) 1 := ⟨⟨lw_m (lt7 (List.mem_of_getElem? (i := 176) rfl)) rfl, lw_m (lt1 (List.mem_of_getElem? (i := 14) rfl)) rfl, nh_X12.1, nh_X12.2, pm__I_I_227⟩, lw_m (lt7 (List.mem_of_getElem? (i := 175) rfl)) rfl, lw_m (lps5 (q := (⟨"BearsTwoModel", "bearsNow", "(I)I"⟩, 47)) (List.mem_of_getElem? (i := 6) rfl)) rfl⟩
set_option maxRecDepth 100000 in
theorem yvX12_left : sm_YV yX12_left cX12_left 3 (some .int) 1 := ⟨⟨lw_m (lt7 (List.mem_of_getElem? (i := 172) rfl)) rfl, lw_m (lt1 (List.mem_of_getElem? (i := 14) rfl)) rfl, nh_X12.1, nh_X12.2, pm__I_I_227⟩, lw_m (lt7 (List.mem_of_getElem? (i := 171) rfl)) rfl, lw_m (lps5 (q := (⟨"BearsTwoModel", "left", "(I)I"⟩, 47)) (List.mem_of_getElem? (i := 5) rfl)) rfl⟩
set_option maxRecDepth 100000 in
theorem yvX12_of : sm_YV yX12_of cX12_of 3 (some .int) 2 := ⟨⟨lw_m (lt8 (List.mem_of_getElem? (i := 20) rfl)) rfl, lw_m (lt1 (List.mem_of_getElem? (i := 14) rfl)) rfl, nh_X12.1, nh_X12.2, pm__II_I_300⟩, lw_m (lt8 (List.mem_of_getElem? (i := 19) rfl)) rfl, lw_m (lps6 (q := (⟨"BearsTwoModel", "of", "(II)I"⟩, 47)) (List.mem_of_getElem? (i := 4) rfl)) rfl⟩
set_option maxRecDepth 100000 in
theorem yvX12_squares : sm_YV yX12_squares cX12_squares 5 (some .int) 2 := ⟨⟨lw_m (lt7 (List.mem_of_getElem? (i := 205) rfl)) rfl, lw_m (lt1 (List.mem_of_getElem? (i := 14) rfl)) rfl, nh_X12.1, nh_X12.2, pm__II_I_300⟩, lw_m (lt7 (List.mem_of_getElem? (i := 204) rfl)) rfl, lw_m (lps5 (q := (⟨"BearsTwoModel", "squares", "(II)I"⟩, 47)) (List.mem_of_getElem? (i := 11) rfl)) rfl⟩
set_option maxRecDepth 100000 in
theorem yvX12_isStep : sm_YV yX12_isStep cX12_isStep 4 (some .boolean) 3 := ⟨⟨lw_m (lt7 (List.mem_of_getElem? (i := 201) rfl)) rfl, lw_m (lt1 (List.mem_of_getElem? (i := 14) rfl)) rfl, nh_X12.1, nh_X12.2, pm__III_Z_390⟩, lw_m (lt7 (List.mem_of_getElem? (i := 200) rfl)) rfl, lw_m (lps5 (q := (⟨"BearsTwoModel", "isStep", "(III)Z"⟩, 47)) (List.mem_of_getElem? (i := 10) rfl)) rfl⟩
set_option maxRecDepth 100000 in
theorem yvX12_reachOf : sm_YV yX12_reachOf cX12_reachOf 7 (some .int) 1 := ⟨⟨lw_m (lt7 (List.mem_of_getElem? (i := 217) rfl)) rfl, lw_m (lt1 (List.mem_of_getElem? (i := 14) rfl)) rfl, nh_X12.1, nh_X12.2, pm__I_I_227⟩, lw_m (lt7 (List.mem_of_getElem? (i := 216) rfl)) rfl, lw_m (lps5 (q := (⟨"BearsTwoModel", "reachOf", "(I)I"⟩, 47)) (List.mem_of_getElem? (i := 13) rfl)) rfl⟩
set_option maxRecDepth 100000 in
theorem yvX12_fillCosts : sm_YV yX12_fillCosts cX12_fillCosts 5 none 1 := ⟨⟨lw_m (lt8 (List.mem_of_getElem? (i := 16) rfl)) rfl, lw_m (lt1 (List.mem_of_getElem? (i := 14) rfl)) rfl, nh_X12.1, nh_X12.2, pm__I_V_240⟩, lw_m (lt8 (List.mem_of_getElem? (i := 15) rfl)) rfl, lw_m (lps6 (q := (⟨"BearsTwoModel", "fillCosts", "(I)V"⟩, 47)) (List.mem_of_getElem? (i := 3) rfl)) rfl⟩
set_option maxRecDepth 100000 in
theorem ysX12_isLess : sm_YS yX12_isLess cX12_isLess 4 (some .boolean) 4 := ⟨⟨lw_m (lt8 (List.mem_of_getElem? (i := 28) rfl)) rfl, lw_m (lt1 (List.mem_of_getElem? (i := 14) rfl)) rfl, nh_X12.1, nh_X12.2, pm__IIII_Z_463⟩, lw_m (lt8 (List.mem_of_getElem? (i := 27) rfl)) rfl⟩
set_option maxRecDepth 100000 in
theorem yvX12_fillLeft : sm_YV yX12_fillLeft cX12_fillLeft 7 none 3 := ⟨⟨lw_m (lt8 (List.mem_of_getElem? (i := 24) rfl)) rfl, lw_m (lt1 (List.mem_of_getElem? (i := 14) rfl)) rfl, nh_X12.1, nh_X12.2, pm__III_V_386⟩, lw_m (lt8 (List.mem_of_getElem? (i := 23) rfl)) rfl, lw_m (lps6 (q := (⟨"BearsTwoModel", "fillLeft", "(III)V"⟩, 47)) (List.mem_of_getElem? (i := 5) rfl)) rfl⟩
set_option maxRecDepth 100000 in
theorem yvX12_finds : sm_YV yX12_finds cX12_finds 10 (some .boolean) 4 := ⟨⟨lw_m (lt8 (List.mem_of_getElem? (i := 12) rfl)) rfl, lw_m (lt1 (List.mem_of_getElem? (i := 14) rfl)) rfl, nh_X12.1, nh_X12.2, pm__IIII_Z_463⟩, lw_m (lt8 (List.mem_of_getElem? (i := 11) rfl)) rfl, lw_m (lps6 (q := (⟨"BearsTwoModel", "finds", "(IIII)Z"⟩, 47)) (List.mem_of_getElem? (i := 2) rfl)) rfl⟩
set_option maxRecDepth 100000 in
theorem yvX12_isRiver : sm_YV yX12_isRiver cX12_isRiver 1 (some .boolean) 0 := ⟨⟨lw_m (lt7 (List.mem_of_getElem? (i := 193) rfl)) rfl, lw_m (lt1 (List.mem_of_getElem? (i := 14) rfl)) rfl, nh_X12.1, nh_X12.2, pm___Z_171⟩, lw_m (lt7 (List.mem_of_getElem? (i := 192) rfl)) rfl, lw_m (lps5 (q := (⟨"BearsTwoModel", "isRiver", "()Z"⟩, 47)) (List.mem_of_getElem? (i := 9) rfl)) rfl⟩
set_option maxRecDepth 100000 in
theorem ysX12_isStride : sm_YS yX12_isStride cX12_isStride 1 (some .boolean) 1 := ⟨⟨lw_m (lt7 (List.mem_of_getElem? (i := 196) rfl)) rfl, lw_m (lt1 (List.mem_of_getElem? (i := 14) rfl)) rfl, nh_X12.1, nh_X12.2, pm__I_Z_244⟩, lw_m (lt7 (List.mem_of_getElem? (i := 195) rfl)) rfl⟩
set_option maxRecDepth 100000 in
theorem yvX12_isAsked : sm_YV yX12_isAsked cX12_isAsked 4 (some .boolean) 3 := ⟨⟨lw_m (lt8 (List.mem_of_getElem? (i := 6) rfl)) rfl, lw_m (lt1 (List.mem_of_getElem? (i := 14) rfl)) rfl, nh_X12.1, nh_X12.2, pm__III_Z_390⟩, lw_m (lt8 (List.mem_of_getElem? (i := 5) rfl)) rfl, lw_m (lps6 (q := (⟨"BearsTwoModel", "isAsked", "(III)Z"⟩, 47)) (List.mem_of_getElem? (i := 1) rfl)) rfl⟩
set_option maxRecDepth 100000 in
theorem yvX12_thinks : sm_YV yX12_thinks cX12_thinks 2 none 0 := ⟨⟨lw_m (lt8 (List.mem_of_getElem? (i := 63) rfl)) rfl, lw_m (lt1 (List.mem_of_getElem? (i := 14) rfl)) rfl, nh_X12.1, nh_X12.2, pm___V_167⟩, lw_m (lt8 (List.mem_of_getElem? (i := 62) rfl)) rfl, lw_m (lps6 (q := (⟨"BearsTwoModel", "thinks", "()V"⟩, 47)) (List.mem_of_getElem? (i := 10) rfl)) rfl⟩
set_option maxRecDepth 100000 in
theorem yvX12_wakes : sm_YV yX12_wakes cX12_wakes 2 none 0 := ⟨⟨lw_m (lt8 (List.mem_of_getElem? (i := 73) rfl)) rfl, lw_m (lt1 (List.mem_of_getElem? (i := 14) rfl)) rfl, nh_X12.1, nh_X12.2, pm___V_167⟩, lw_m (lt8 (List.mem_of_getElem? (i := 72) rfl)) rfl, lw_m (lps6 (q := (⟨"BearsTwoModel", "wakes", "()V"⟩, 47)) (List.mem_of_getElem? (i := 12) rfl)) rfl⟩
set_option maxRecDepth 100000 in
theorem yvX12_alike : sm_YV yX12_alike cX12_alike 6 (some .int) 3 := ⟨⟨lw_m (lt9 (List.mem_of_getElem? (i := 3) rfl)) rfl, lw_m (lt1 (List.mem_of_getElem? (i := 14) rfl)) rfl, nh_X12.1, nh_X12.2, pm__III_I_373⟩, lw_m (lt9 (List.mem_of_getElem? (i := 1) rfl)) rfl, lw_m (lt9 (List.mem_of_getElem? (i := 2) rfl)) rfl⟩
set_option maxRecDepth 100000 in
theorem yvX12_clearsOver : sm_YV yX12_clearsOver cX12_clearsOver 1 none 0 := ⟨⟨lw_m (lt8 (List.mem_of_getElem? (i := 129) rfl)) rfl, lw_m (lt1 (List.mem_of_getElem? (i := 14) rfl)) rfl, nh_X12.1, nh_X12.2, pm___V_167⟩, lw_m (lt8 (List.mem_of_getElem? (i := 128) rfl)) rfl, lw_m (lps7 (q := (⟨"BearsTwoModel", "clearsOver", "()V"⟩, 47)) (List.mem_of_getElem? (i := 6) rfl)) rfl⟩
set_option maxRecDepth 100000 in
theorem yvX12_second : sm_YV yX12_second cX12_second 2 (some .int) 1 := ⟨⟨lw_m (lt8 (List.mem_of_getElem? (i := 101) rfl)) rfl, lw_m (lt1 (List.mem_of_getElem? (i := 14) rfl)) rfl, nh_X12.1, nh_X12.2, pm__I_I_227⟩, lw_m (lt8 (List.mem_of_getElem? (i := 100) rfl)) rfl, lw_m (lps7 (q := (⟨"BearsTwoModel", "second", "(I)I"⟩, 47)) (List.mem_of_getElem? (i := 0) rfl)) rfl⟩
set_option maxRecDepth 100000 in
theorem yvX12_bitsOf : sm_YV yX12_bitsOf cX12_bitsOf 2 (some .int) 1 := ⟨⟨lw_m (lt8 (List.mem_of_getElem? (i := 145) rfl)) rfl, lw_m (lt1 (List.mem_of_getElem? (i := 14) rfl)) rfl, nh_X12.1, nh_X12.2, pm__I_I_227⟩, lw_m (lt8 (List.mem_of_getElem? (i := 144) rfl)) rfl, lw_m (lps7 (q := (⟨"BearsTwoModel", "bitsOf", "(I)I"⟩, 47)) (List.mem_of_getElem? (i := 10) rfl)) rfl⟩
set_option maxRecDepth 100000 in
theorem yvX12_leads : sm_YV yX12_leads cX12_leads 2 (some .boolean) 1 := ⟨⟨lw_m (lt8 (List.mem_of_getElem? (i := 85) rfl)) rfl, lw_m (lt1 (List.mem_of_getElem? (i := 14) rfl)) rfl, nh_X12.1, nh_X12.2, pm__I_Z_244⟩, lw_m (lt8 (List.mem_of_getElem? (i := 84) rfl)) rfl, lw_m (lps6 (q := (⟨"BearsTwoModel", "leads", "(I)Z"⟩, 47)) (List.mem_of_getElem? (i := 13) rfl)) rfl⟩
set_option maxRecDepth 100000 in
theorem yvX12_isAt : sm_YV yX12_isAt cX12_isAt 3 (some .boolean) 2 := ⟨⟨lw_m (lt8 (List.mem_of_getElem? (i := 97) rfl)) rfl, lw_m (lt1 (List.mem_of_getElem? (i := 14) rfl)) rfl, nh_X12.1, nh_X12.2, pm__II_Z_317⟩, lw_m (lt8 (List.mem_of_getElem? (i := 96) rfl)) rfl, lw_m (lps6 (q := (⟨"BearsTwoModel", "isAt", "(II)Z"⟩, 47)) (List.mem_of_getElem? (i := 15) rfl)) rfl⟩
set_option maxRecDepth 100000 in
theorem yvX12_set : sm_YV yX12_set cX12_set 4 none 3 := ⟨⟨lw_m (lt8 (List.mem_of_getElem? (i := 52) rfl)) rfl, lw_m (lt1 (List.mem_of_getElem? (i := 14) rfl)) rfl, nh_X12.1, nh_X12.2, pm__III_V_386⟩, lw_m (lt8 (List.mem_of_getElem? (i := 51) rfl)) rfl, lw_m (lps6 (q := (⟨"BearsTwoModel", "set", "(III)V"⟩, 47)) (List.mem_of_getElem? (i := 9) rfl)) rfl⟩
set_option maxRecDepth 100000 in
theorem yvX12_puts : sm_YV yX12_puts cX12_puts 3 none 2 := ⟨⟨lw_m (lt8 (List.mem_of_getElem? (i := 117) rfl)) rfl, lw_m (lt1 (List.mem_of_getElem? (i := 14) rfl)) rfl, nh_X12.1, nh_X12.2, pm__II_V_313⟩, lw_m (lt8 (List.mem_of_getElem? (i := 116) rfl)) rfl, lw_m (lps7 (q := (⟨"BearsTwoModel", "puts", "(II)V"⟩, 47)) (List.mem_of_getElem? (i := 4) rfl)) rfl⟩
set_option maxRecDepth 100000 in
theorem yvX12_strideOf : sm_YV yX12_strideOf cX12_strideOf 4 (some .int) 1 := ⟨⟨lw_m (lt8 (List.mem_of_getElem? (i := 109) rfl)) rfl, lw_m (lt1 (List.mem_of_getElem? (i := 14) rfl)) rfl, nh_X12.1, nh_X12.2, pm__I_I_227⟩, lw_m (lt8 (List.mem_of_getElem? (i := 108) rfl)) rfl, lw_m (lps7 (q := (⟨"BearsTwoModel", "strideOf", "(I)I"⟩, 47)) (List.mem_of_getElem? (i := 2) rfl)) rfl⟩
set_option maxRecDepth 100000 in
theorem yvX12_sumOf : sm_YV yX12_sumOf cX12_sumOf 4 (some .int) 2 := ⟨⟨lw_m (lt8 (List.mem_of_getElem? (i := 113) rfl)) rfl, lw_m (lt1 (List.mem_of_getElem? (i := 14) rfl)) rfl, nh_X12.1, nh_X12.2, pm__II_I_300⟩, lw_m (lt8 (List.mem_of_getElem? (i := 112) rfl)) rfl, lw_m (lps7 (q := (⟨"BearsTwoModel", "sumOf", "(II)I"⟩, 47)) (List.mem_of_getElem? (i := 3) rfl)) rfl⟩
set_option maxRecDepth 100000 in
theorem yvX12_goes : sm_YV yX12_goes cX12_goes 5 (some .boolean) 3 := ⟨⟨lw_m (lt8 (List.mem_of_getElem? (i := 105) rfl)) rfl, lw_m (lt1 (List.mem_of_getElem? (i := 14) rfl)) rfl, nh_X12.1, nh_X12.2, pm__III_Z_390⟩, lw_m (lt8 (List.mem_of_getElem? (i := 104) rfl)) rfl, lw_m (lps7 (q := (⟨"BearsTwoModel", "goes", "(III)Z"⟩, 47)) (List.mem_of_getElem? (i := 1) rfl)) rfl⟩
set_option maxRecDepth 100000 in
theorem yvX12_manyOf : sm_YV yX12_manyOf cX12_manyOf 2 (some .int) 1 := ⟨⟨lw_m (lt8 (List.mem_of_getElem? (i := 141) rfl)) rfl, lw_m (lt1 (List.mem_of_getElem? (i := 14) rfl)) rfl, nh_X12.1, nh_X12.2, pm__I_I_227⟩, lw_m (lt8 (List.mem_of_getElem? (i := 140) rfl)) rfl, lw_m (lps7 (q := (⟨"BearsTwoModel", "manyOf", "(I)I"⟩, 47)) (List.mem_of_getElem? (i := 9) rfl)) rfl⟩
set_option maxRecDepth 100000 in
theorem yvX12_goesOver : sm_YV yX12_goesOver cX12_goesOver 3 none 2 := ⟨⟨lw_m (lt8 (List.mem_of_getElem? (i := 137) rfl)) rfl, lw_m (lt1 (List.mem_of_getElem? (i := 14) rfl)) rfl, nh_X12.1, nh_X12.2, pm__II_V_313⟩, lw_m (lt8 (List.mem_of_getElem? (i := 136) rfl)) rfl, lw_m (lps7 (q := (⟨"BearsTwoModel", "goesOver", "(II)V"⟩, 47)) (List.mem_of_getElem? (i := 8) rfl)) rfl⟩
set_option maxRecDepth 100000 in
theorem yvX12_units : sm_YV yX12_units cX12_units 1 (some .int) 0 := ⟨⟨lw_m (lt8 (List.mem_of_getElem? (i := 133) rfl)) rfl, lw_m (lt1 (List.mem_of_getElem? (i := 14) rfl)) rfl, nh_X12.1, nh_X12.2, pm___I_154⟩, lw_m (lt8 (List.mem_of_getElem? (i := 132) rfl)) rfl, lw_m (lps7 (q := (⟨"BearsTwoModel", "units", "()I"⟩, 47)) (List.mem_of_getElem? (i := 7) rfl)) rfl⟩
set_option maxRecDepth 100000 in
theorem yvX12_allGoOver : sm_YV yX12_allGoOver cX12_allGoOver 3 none 1 := ⟨⟨lw_m (lt8 (List.mem_of_getElem? (i := 125) rfl)) rfl, lw_m (lt1 (List.mem_of_getElem? (i := 14) rfl)) rfl, nh_X12.1, nh_X12.2, pm__I_V_240⟩, lw_m (lt8 (List.mem_of_getElem? (i := 124) rfl)) rfl, lw_m (lps7 (q := (⟨"BearsTwoModel", "allGoOver", "(I)V"⟩, 47)) (List.mem_of_getElem? (i := 5) rfl)) rfl⟩
set_option maxRecDepth 100000 in
theorem yvX12_isWay : sm_YV yX12_isWay cX12_isWay 2 (some .boolean) 1 := ⟨⟨lw_m (lt8 (List.mem_of_getElem? (i := 93) rfl)) rfl, lw_m (lt1 (List.mem_of_getElem? (i := 14) rfl)) rfl, nh_X12.1, nh_X12.2, pm__I_Z_244⟩, lw_m (lt8 (List.mem_of_getElem? (i := 92) rfl)) rfl, lw_m (lps6 (q := (⟨"BearsTwoModel", "isWay", "(I)Z"⟩, 47)) (List.mem_of_getElem? (i := 14) rfl)) rfl⟩
set_option maxRecDepth 100000 in
theorem yvX12_all : sm_YV yX12_all cX12_all 2 (some .int) 1 := ⟨⟨lw_m (lt8 (List.mem_of_getElem? (i := 153) rfl)) rfl, lw_m (lt1 (List.mem_of_getElem? (i := 14) rfl)) rfl, nh_X12.1, nh_X12.2, pm__I_I_227⟩, lw_m (lt8 (List.mem_of_getElem? (i := 151) rfl)) rfl, lw_m (lt8 (List.mem_of_getElem? (i := 152) rfl)) rfl⟩
set_option maxRecDepth 100000 in
theorem yvX12_areNear : sm_YV yX12_areNear cX12_areNear 6 (some .boolean) 3 := ⟨⟨lw_m (lt8 (List.mem_of_getElem? (i := 223) rfl)) rfl, lw_m (lt1 (List.mem_of_getElem? (i := 14) rfl)) rfl, nh_X12.1, nh_X12.2, pm__III_Z_390⟩, lw_m (lt8 (List.mem_of_getElem? (i := 222) rfl)) rfl, lw_m (lps8 (q := (⟨"BearsTwoModel", "areNear", "(III)Z"⟩, 47)) (List.mem_of_getElem? (i := 6) rfl)) rfl⟩
set_option maxRecDepth 100000 in
theorem yvX12_areStones : sm_YV yX12_areStones cX12_areStones 3 (some .boolean) 1 := ⟨⟨lw_m (lt9 (List.mem_of_getElem? (i := 121) rfl)) rfl, lw_m (lt1 (List.mem_of_getElem? (i := 14) rfl)) rfl, nh_X12.1, nh_X12.2, pm__I_Z_244⟩, lw_m (lt9 (List.mem_of_getElem? (i := 120) rfl)) rfl, lw_m (lps9 (q := (⟨"BearsTwoModel", "areStones", "(I)Z"⟩, 47)) (List.mem_of_getElem? (i := 4) rfl)) rfl⟩
set_option maxRecDepth 100000 in
theorem ysX12_isSlot : sm_YS yX12_isSlot cX12_isSlot 1 (some .boolean) 1 := ⟨⟨lw_m (lt8 (List.mem_of_getElem? (i := 59) rfl)) rfl, lw_m (lt1 (List.mem_of_getElem? (i := 14) rfl)) rfl, nh_X12.1, nh_X12.2, pm__I_Z_244⟩, lw_m (lt8 (List.mem_of_getElem? (i := 58) rfl)) rfl⟩
set_option maxRecDepth 100000 in
theorem yvX12_asksTwo : sm_YV yX12_asksTwo cX12_asksTwo 3 (some .int) 2 := ⟨⟨lw_m (lt9 (List.mem_of_getElem? (i := 117) rfl)) rfl, lw_m (lt1 (List.mem_of_getElem? (i := 14) rfl)) rfl, nh_X12.1, nh_X12.2, pm__II_I_300⟩, lw_m (lt9 (List.mem_of_getElem? (i := 116) rfl)) rfl, lw_m (lps9 (q := (⟨"BearsTwoModel", "asksTwo", "(II)I"⟩, 47)) (List.mem_of_getElem? (i := 3) rfl)) rfl⟩
set_option maxRecDepth 100000 in
theorem yvX12_at : sm_YV yX12_at cX12_at 4 (some .int) 1 := ⟨⟨lw_m (lt9 (List.mem_of_getElem? (i := 170) rfl)) rfl, lw_m (lt1 (List.mem_of_getElem? (i := 14) rfl)) rfl, nh_X12.1, nh_X12.2, pm__I_I_227⟩, lw_m (lt9 (List.mem_of_getElem? (i := 169) rfl)) rfl, lw_m (lps9 (q := (⟨"BearsTwoModel", "at", "(I)I"⟩, 47)) (List.mem_of_getElem? (i := 10) rfl)) rfl⟩
set_option maxRecDepth 100000 in
theorem yvX12_back : sm_YV yX12_back cX12_back 3 (some .int) 1 := ⟨⟨lw_m (lt7 (List.mem_of_getElem? (i := 59) rfl)) rfl, lw_m (lt1 (List.mem_of_getElem? (i := 14) rfl)) rfl, nh_X12.1, nh_X12.2, pm__I_I_227⟩, lw_m (lt7 (List.mem_of_getElem? (i := 57) rfl)) rfl, lw_m (lt7 (List.mem_of_getElem? (i := 58) rfl)) rfl⟩
set_option maxRecDepth 100000 in
theorem yvX12_fillNodes : sm_YV yX12_fillNodes cX12_fillNodes 3 none 1 := ⟨⟨lw_m (lt8 (List.mem_of_getElem? (i := 211) rfl)) rfl, lw_m (lt1 (List.mem_of_getElem? (i := 14) rfl)) rfl, nh_X12.1, nh_X12.2, pm__I_V_240⟩, lw_m (lt8 (List.mem_of_getElem? (i := 210) rfl)) rfl, lw_m (lps8 (q := (⟨"BearsTwoModel", "fillNodes", "(I)V"⟩, 47)) (List.mem_of_getElem? (i := 3) rfl)) rfl⟩
set_option maxRecDepth 100000 in
theorem yvX12_fillRoom : sm_YV yX12_fillRoom cX12_fillRoom 4 none 1 := ⟨⟨lw_m (lt8 (List.mem_of_getElem? (i := 227) rfl)) rfl, lw_m (lt1 (List.mem_of_getElem? (i := 14) rfl)) rfl, nh_X12.1, nh_X12.2, pm__I_V_240⟩, lw_m (lt8 (List.mem_of_getElem? (i := 226) rfl)) rfl, lw_m (lps8 (q := (⟨"BearsTwoModel", "fillRoom", "(I)V"⟩, 47)) (List.mem_of_getElem? (i := 7) rfl)) rfl⟩
set_option maxRecDepth 100000 in
theorem yvX12_floods : sm_YV yX12_floods cX12_floods 5 (some .boolean) 0 := ⟨⟨lw_m (lt8 (List.mem_of_getElem? (i := 231) rfl)) rfl, lw_m (lt1 (List.mem_of_getElem? (i := 14) rfl)) rfl, nh_X12.1, nh_X12.2, pm___Z_171⟩, lw_m (lt8 (List.mem_of_getElem? (i := 230) rfl)) rfl, lw_m (lps8 (q := (⟨"BearsTwoModel", "floods", "()Z"⟩, 47)) (List.mem_of_getElem? (i := 8) rfl)) rfl⟩
set_option maxRecDepth 100000 in
theorem yvX12_flow : sm_YV yX12_flow cX12_flow 5 (some .int) 1 := ⟨⟨lw_m (lt8 (List.mem_of_getElem? (i := 219) rfl)) rfl, lw_m (lt1 (List.mem_of_getElem? (i := 14) rfl)) rfl, nh_X12.1, nh_X12.2, pm__I_I_227⟩, lw_m (lt8 (List.mem_of_getElem? (i := 218) rfl)) rfl, lw_m (lps8 (q := (⟨"BearsTwoModel", "flow", "(I)I"⟩, 47)) (List.mem_of_getElem? (i := 5) rfl)) rfl⟩
set_option maxRecDepth 100000 in
theorem yvX12_isLoad : sm_YV yX12_isLoad cX12_isLoad 3 (some .boolean) 2 := ⟨⟨lw_m (lt8 (List.mem_of_getElem? (i := 203) rfl)) rfl, lw_m (lt1 (List.mem_of_getElem? (i := 14) rfl)) rfl, nh_X12.1, nh_X12.2, pm__II_Z_317⟩, lw_m (lt8 (List.mem_of_getElem? (i := 202) rfl)) rfl, lw_m (lps8 (q := (⟨"BearsTwoModel", "isLoad", "(II)Z"⟩, 47)) (List.mem_of_getElem? (i := 1) rfl)) rfl⟩
set_option maxRecDepth 100000 in
theorem yvX12_isStone : sm_YV yX12_isStone cX12_isStone 2 (some .boolean) 1 := ⟨⟨lw_m (lt7 (List.mem_of_getElem? (i := 163) rfl)) rfl, lw_m (lt1 (List.mem_of_getElem? (i := 14) rfl)) rfl, nh_X12.1, nh_X12.2, pm__I_Z_244⟩, lw_m (lt7 (List.mem_of_getElem? (i := 162) rfl)) rfl, lw_m (lps5 (q := (⟨"BearsTwoModel", "isStone", "(I)Z"⟩, 47)) (List.mem_of_getElem? (i := 3) rfl)) rfl⟩
set_option maxRecDepth 100000 in
theorem yvX12_mostOf : sm_YV yX12_mostOf cX12_mostOf 3 (some .int) 2 := ⟨⟨lw_m (lt8 (List.mem_of_getElem? (i := 207) rfl)) rfl, lw_m (lt1 (List.mem_of_getElem? (i := 14) rfl)) rfl, nh_X12.1, nh_X12.2, pm__II_I_300⟩, lw_m (lt8 (List.mem_of_getElem? (i := 206) rfl)) rfl, lw_m (lps8 (q := (⟨"BearsTwoModel", "mostOf", "(II)I"⟩, 47)) (List.mem_of_getElem? (i := 2) rfl)) rfl⟩
set_option maxRecDepth 100000 in
theorem yvX12_bars : sm_YV yX12_bars cX12_bars 5 (some .int) 3 := ⟨⟨lw_m (lt8 (List.mem_of_getElem? (i := 239) rfl)) rfl, lw_m (lt1 (List.mem_of_getElem? (i := 14) rfl)) rfl, nh_X12.1, nh_X12.2, pm__III_I_373⟩, lw_m (lt8 (List.mem_of_getElem? (i := 237) rfl)) rfl, lw_m (lt8 (List.mem_of_getElem? (i := 238) rfl)) rfl⟩
set_option maxRecDepth 100000 in
theorem yvX12_best : sm_YV yX12_best cX12_best 4 (some .int) 0 := ⟨⟨lw_m (lt8 (List.mem_of_getElem? (i := 195) rfl)) rfl, lw_m (lt1 (List.mem_of_getElem? (i := 14) rfl)) rfl, nh_X12.1, nh_X12.2, pm___I_154⟩, lw_m (lt8 (List.mem_of_getElem? (i := 193) rfl)) rfl, lw_m (lt8 (List.mem_of_getElem? (i := 194) rfl)) rfl⟩
set_option maxRecDepth 100000 in
theorem yvX12_borneAll : sm_YV yX12_borneAll cX12_borneAll 3 (some .int) 0 := ⟨⟨lw_m (lt7 (List.mem_of_getElem? (i := 230) rfl)) rfl, lw_m (lt1 (List.mem_of_getElem? (i := 14) rfl)) rfl, nh_X12.1, nh_X12.2, pm___I_154⟩, lw_m (lt7 (List.mem_of_getElem? (i := 229) rfl)) rfl, lw_m (lps5 (q := (⟨"BearsTwoModel", "borneAll", "()I"⟩, 47)) (List.mem_of_getElem? (i := 14) rfl)) rfl⟩
set_option maxRecDepth 100000 in
theorem yvX12_isInDoubt : sm_YV yX12_isInDoubt cX12_isInDoubt 2 (some .boolean) 1 := ⟨⟨lw_m (lt7 (List.mem_of_getElem? (i := 181) rfl)) rfl, lw_m (lt1 (List.mem_of_getElem? (i := 14) rfl)) rfl, nh_X12.1, nh_X12.2, pm__I_Z_244⟩, lw_m (lt7 (List.mem_of_getElem? (i := 180) rfl)) rfl, lw_m (lps5 (q := (⟨"BearsTwoModel", "isInDoubt", "(I)Z"⟩, 47)) (List.mem_of_getElem? (i := 7) rfl)) rfl⟩
set_option maxRecDepth 100000 in
theorem yvX12_count : sm_YV yX12_count cX12_count 4 (some .int) 1 := ⟨⟨lw_m (lt9 (List.mem_of_getElem? (i := 166) rfl)) rfl, lw_m (lt1 (List.mem_of_getElem? (i := 14) rfl)) rfl, nh_X12.1, nh_X12.2, pm__I_I_227⟩, lw_m (lt9 (List.mem_of_getElem? (i := 164) rfl)) rfl, lw_m (lt9 (List.mem_of_getElem? (i := 165) rfl)) rfl⟩
set_option maxRecDepth 100000 in
theorem yvX12_setOf : sm_YV yX12_setOf cX12_setOf 4 (some .int) 1 := ⟨⟨lw_m (lt9 (List.mem_of_getElem? (i := 133) rfl)) rfl, lw_m (lt1 (List.mem_of_getElem? (i := 14) rfl)) rfl, nh_X12.1, nh_X12.2, pm__I_I_227⟩, lw_m (lt9 (List.mem_of_getElem? (i := 132) rfl)) rfl, lw_m (lps9 (q := (⟨"BearsTwoModel", "setOf", "(I)I"⟩, 47)) (List.mem_of_getElem? (i := 6) rfl)) rfl⟩
set_option maxRecDepth 100000 in
theorem yvX12_cross : sm_YV yX12_cross cX12_cross 7 (some .int) 2 := ⟨⟨lw_m (lt9 (List.mem_of_getElem? (i := 129) rfl)) rfl, lw_m (lt1 (List.mem_of_getElem? (i := 14) rfl)) rfl, nh_X12.1, nh_X12.2, pm__II_I_300⟩, lw_m (lt9 (List.mem_of_getElem? (i := 127) rfl)) rfl, lw_m (lt9 (List.mem_of_getElem? (i := 128) rfl)) rfl⟩
set_option maxRecDepth 100000 in
theorem yvX12_cut : sm_YV yX12_cut cX12_cut 6 (some .int) 2 := ⟨⟨lw_m (lt8 (List.mem_of_getElem? (i := 235) rfl)) rfl, lw_m (lt1 (List.mem_of_getElem? (i := 14) rfl)) rfl, nh_X12.1, nh_X12.2, pm__II_I_300⟩, lw_m (lt8 (List.mem_of_getElem? (i := 233) rfl)) rfl, lw_m (lt8 (List.mem_of_getElem? (i := 234) rfl)) rfl⟩
set_option maxRecDepth 100000 in
theorem ysX12_cut_ : sm_YS yX12_cut_ cX12_cut_ 4 (some .long) 2 := ⟨⟨lw_m (lt9 (List.mem_of_getElem? (i := 181) rfl)) rfl, lw_m (lt1 (List.mem_of_getElem? (i := 14) rfl)) rfl, nh_X12.1, nh_X12.2, pm__JI_J_302⟩, lw_m (lt9 (List.mem_of_getElem? (i := 180) rfl)) rfl⟩
set_option maxRecDepth 100000 in
theorem yvX12_freshens : sm_YV yX12_freshens cX12_freshens 2 none 0 := ⟨⟨lw_m (lt7 (List.mem_of_getElem? (i := 234) rfl)) rfl, lw_m (lt1 (List.mem_of_getElem? (i := 14) rfl)) rfl, nh_X12.1, nh_X12.2, pm___V_167⟩, lw_m (lt7 (List.mem_of_getElem? (i := 233) rfl)) rfl, lw_m (lps5 (q := (⟨"BearsTwoModel", "freshens", "()V"⟩, 47)) (List.mem_of_getElem? (i := 15) rfl)) rfl⟩
set_option maxRecDepth 100000 in
theorem yvX12_isSomebodyHere : sm_YV yX12_isSomebodyHere cX12_isSomebodyHere 2 (some .boolean) 0 := ⟨⟨lw_m (lt8 (List.mem_of_getElem? (i := 191) rfl)) rfl, lw_m (lt1 (List.mem_of_getElem? (i := 14) rfl)) rfl, nh_X12.1, nh_X12.2, pm___Z_171⟩, lw_m (lt8 (List.mem_of_getElem? (i := 190) rfl)) rfl, lw_m (lps8 (q := (⟨"BearsTwoModel", "isSomebodyHere", "()Z"⟩, 47)) (List.mem_of_getElem? (i := 0) rfl)) rfl⟩
set_option maxRecDepth 100000 in
theorem yvX12_days : sm_YV yX12_days cX12_days 4 (some .int) 1 := ⟨⟨lw_m (lt8 (List.mem_of_getElem? (i := 187) rfl)) rfl, lw_m (lt1 (List.mem_of_getElem? (i := 14) rfl)) rfl, nh_X12.1, nh_X12.2, pm__I_I_227⟩, lw_m (lt8 (List.mem_of_getElem? (i := 185) rfl)) rfl, lw_m (lt8 (List.mem_of_getElem? (i := 186) rfl)) rfl⟩
set_option maxRecDepth 100000 in
theorem yvX12_draw : sm_YV yX12_draw cX12_draw 1 (some .int) 0 := ⟨⟨lw_m (lt9 (List.mem_of_getElem? (i := 149) rfl)) rfl, lw_m (lt1 (List.mem_of_getElem? (i := 14) rfl)) rfl, nh_X12.1, nh_X12.2, pm___I_154⟩, lw_m (lt9 (List.mem_of_getElem? (i := 148) rfl)) rfl, lw_m (lps9 (q := (⟨"BearsTwoModel", "draw", "()I"⟩, 47)) (List.mem_of_getElem? (i := 8) rfl)) rfl⟩
set_option maxRecDepth 100000 in
theorem yvX12_end : sm_YV yX12_end cX12_end 2 (some .int) 1 := ⟨⟨lw_m (lt7 (List.mem_of_getElem? (i := 67) rfl)) rfl, lw_m (lt1 (List.mem_of_getElem? (i := 14) rfl)) rfl, nh_X12.1, nh_X12.2, pm__I_I_227⟩, lw_m (lt7 (List.mem_of_getElem? (i := 65) rfl)) rfl, lw_m (lt7 (List.mem_of_getElem? (i := 66) rfl)) rfl⟩
set_option maxRecDepth 100000 in
theorem yvX12_isPerson : sm_YV yX12_isPerson cX12_isPerson 2 (some .boolean) 1 := ⟨⟨lw_m (lt8 (List.mem_of_getElem? (i := 40) rfl)) rfl, lw_m (lt1 (List.mem_of_getElem? (i := 14) rfl)) rfl, nh_X12.1, nh_X12.2, pm__I_Z_244⟩, lw_m (lt8 (List.mem_of_getElem? (i := 39) rfl)) rfl, lw_m (lps6 (q := (⟨"BearsTwoModel", "isPerson", "(I)Z"⟩, 47)) (List.mem_of_getElem? (i := 6) rfl)) rfl⟩
set_option maxRecDepth 100000 in
theorem yvX12_isPlace : sm_YV yX12_isPlace cX12_isPlace 2 (some .boolean) 1 := ⟨⟨lw_m (lt7 (List.mem_of_getElem? (i := 189) rfl)) rfl, lw_m (lt1 (List.mem_of_getElem? (i := 14) rfl)) rfl, nh_X12.1, nh_X12.2, pm__I_Z_244⟩, lw_m (lt7 (List.mem_of_getElem? (i := 188) rfl)) rfl, lw_m (lps5 (q := (⟨"BearsTwoModel", "isPlace", "(I)Z"⟩, 47)) (List.mem_of_getElem? (i := 8) rfl)) rfl⟩
set_option maxRecDepth 100000 in
theorem yvX12_steps : sm_YV yX12_steps cX12_steps 4 (some .boolean) 2 := ⟨⟨lw_m (lt8 (List.mem_of_getElem? (i := 44) rfl)) rfl, lw_m (lt1 (List.mem_of_getElem? (i := 14) rfl)) rfl, nh_X12.1, nh_X12.2, pm__II_Z_317⟩, lw_m (lt8 (List.mem_of_getElem? (i := 43) rfl)) rfl, lw_m (lps6 (q := (⟨"BearsTwoModel", "steps", "(II)Z"⟩, 47)) (List.mem_of_getElem? (i := 7) rfl)) rfl⟩
set_option maxRecDepth 100000 in
theorem yvX12_walks : sm_YV yX12_walks cX12_walks 8 (some .int) 1 := ⟨⟨lw_m (lt8 (List.mem_of_getElem? (i := 67) rfl)) rfl, lw_m (lt1 (List.mem_of_getElem? (i := 14) rfl)) rfl, nh_X12.1, nh_X12.2, pm__I_I_227⟩, lw_m (lt8 (List.mem_of_getElem? (i := 66) rfl)) rfl, lw_m (lps6 (q := (⟨"BearsTwoModel", "walks", "(I)I"⟩, 47)) (List.mem_of_getElem? (i := 11) rfl)) rfl⟩
set_option maxRecDepth 100000 in
theorem yvX12_ends : sm_YV yX12_ends cX12_ends 5 (some .int) 2 := ⟨⟨lw_m (lt8 (List.mem_of_getElem? (i := 77) rfl)) rfl, lw_m (lt1 (List.mem_of_getElem? (i := 14) rfl)) rfl, nh_X12.1, nh_X12.2, pm__II_I_300⟩, lw_m (lt8 (List.mem_of_getElem? (i := 75) rfl)) rfl, lw_m (lt8 (List.mem_of_getElem? (i := 76) rfl)) rfl⟩
set_option maxRecDepth 100000 in
theorem yvX12_good : sm_YV yX12_good cX12_good 1 (some .boolean) 0 := ⟨⟨lw_m (lt7 (List.mem_of_getElem? (i := 93) rfl)) rfl, lw_m (lt1 (List.mem_of_getElem? (i := 14) rfl)) rfl, nh_X12.1, nh_X12.2, pm___Z_171⟩, lw_m (lt7 (List.mem_of_getElem? (i := 92) rfl)) rfl, lw_m (lps4 (q := (⟨"BearsTwoModel", "good", "()Z"⟩, 47)) (List.mem_of_getElem? (i := 7) rfl)) rfl⟩
set_option maxRecDepth 100000 in
theorem yvX12_errs : sm_YV yX12_errs cX12_errs 2 none 1 := ⟨⟨lw_m (lt7 (List.mem_of_getElem? (i := 116) rfl)) rfl, lw_m (lt1 (List.mem_of_getElem? (i := 14) rfl)) rfl, nh_X12.1, nh_X12.2, pm__I_V_240⟩, lw_m (lt7 (List.mem_of_getElem? (i := 115) rfl)) rfl, lw_m (lps4 (q := (⟨"BearsTwoModel", "errs", "(I)V"⟩, 47)) (List.mem_of_getElem? (i := 12) rfl)) rfl⟩
set_option maxRecDepth 100000 in
theorem yvX12_fault : sm_YV yX12_fault cX12_fault 2 (some .int) 1 := ⟨⟨lw_m (lt7 (List.mem_of_getElem? (i := 71) rfl)) rfl, lw_m (lt1 (List.mem_of_getElem? (i := 14) rfl)) rfl, nh_X12.1, nh_X12.2, pm__I_I_227⟩, lw_m (lt7 (List.mem_of_getElem? (i := 69) rfl)) rfl, lw_m (lt7 (List.mem_of_getElem? (i := 70) rfl)) rfl⟩
set_option maxRecDepth 100000 in
theorem yvX12_feed : sm_YV yX12_feed cX12_feed 7 (some .int) 5 := ⟨⟨lw_m (lt7 (List.mem_of_getElem? (i := 63) rfl)) rfl, lw_m (lt1 (List.mem_of_getElem? (i := 14) rfl)) rfl, nh_X12.1, nh_X12.2, pm__IIIII_I_519⟩, lw_m (lt7 (List.mem_of_getElem? (i := 61) rfl)) rfl, lw_m (lt7 (List.mem_of_getElem? (i := 62) rfl)) rfl⟩
set_option maxRecDepth 100000 in
theorem yvX12_fillWaiting : sm_YV yX12_fillWaiting cX12_fillWaiting 2 none 0 := ⟨⟨lw_m (lt8 (List.mem_of_getElem? (i := 162) rfl)) rfl, lw_m (lt1 (List.mem_of_getElem? (i := 14) rfl)) rfl, nh_X12.1, nh_X12.2, pm___V_167⟩, lw_m (lt8 (List.mem_of_getElem? (i := 161) rfl)) rfl, lw_m (lps7 (q := (⟨"BearsTwoModel", "fillWaiting", "()V"⟩, 47)) (List.mem_of_getElem? (i := 12) rfl)) rfl⟩
set_option maxRecDepth 100000 in
theorem yvX12_swaps : sm_YV yX12_swaps cX12_swaps 4 none 2 := ⟨⟨lw_m (lt8 (List.mem_of_getElem? (i := 174) rfl)) rfl, lw_m (lt1 (List.mem_of_getElem? (i := 14) rfl)) rfl, nh_X12.1, nh_X12.2, pm__II_V_313⟩, lw_m (lt8 (List.mem_of_getElem? (i := 173) rfl)) rfl, lw_m (lps7 (q := (⟨"BearsTwoModel", "swaps", "(II)V"⟩, 47)) (List.mem_of_getElem? (i := 15) rfl)) rfl⟩
set_option maxRecDepth 100000 in
theorem yvX12_nextOrder : sm_YV yX12_nextOrder cX12_nextOrder 5 (some .boolean) 0 := ⟨⟨lw_m (lt8 (List.mem_of_getElem? (i := 170) rfl)) rfl, lw_m (lt1 (List.mem_of_getElem? (i := 14) rfl)) rfl, nh_X12.1, nh_X12.2, pm___Z_171⟩, lw_m (lt8 (List.mem_of_getElem? (i := 169) rfl)) rfl, lw_m (lps7 (q := (⟨"BearsTwoModel", "nextOrder", "()Z"⟩, 47)) (List.mem_of_getElem? (i := 14) rfl)) rfl⟩
set_option maxRecDepth 100000 in
theorem yvX12_findsOrder : sm_YV yX12_findsOrder cX12_findsOrder 4 none 1 := ⟨⟨lw_m (lt8 (List.mem_of_getElem? (i := 166) rfl)) rfl, lw_m (lt1 (List.mem_of_getElem? (i := 14) rfl)) rfl, nh_X12.1, nh_X12.2, pm__I_V_240⟩, lw_m (lt8 (List.mem_of_getElem? (i := 165) rfl)) rfl, lw_m (lps7 (q := (⟨"BearsTwoModel", "findsOrder", "(I)V"⟩, 47)) (List.mem_of_getElem? (i := 13) rfl)) rfl⟩
set_option maxRecDepth 100000 in
theorem yvX12_on : sm_YV yX12_on cX12_on 5 (some .long) 3 := ⟨⟨lw_m (lt9 (List.mem_of_getElem? (i := 67) rfl)) rfl, lw_m (lt1 (List.mem_of_getElem? (i := 14) rfl)) rfl, nh_X12.1, nh_X12.2, pm__IIJ_J_375⟩, lw_m (lt9 (List.mem_of_getElem? (i := 66) rfl)) rfl, lw_m (lps8 (q := (⟨"BearsTwoModel", "on", "(IIJ)J"⟩, 47)) (List.mem_of_getElem? (i := 15) rfl)) rfl⟩
set_option maxRecDepth 100000 in
theorem yvX12_sureOf : sm_YV yX12_sureOf cX12_sureOf 7 (some .long) 2 := ⟨⟨lw_m (lt9 (List.mem_of_getElem? (i := 62) rfl)) rfl, lw_m (lt1 (List.mem_of_getElem? (i := 14) rfl)) rfl, nh_X12.1, nh_X12.2, pm__II_J_301⟩, lw_m (lt9 (List.mem_of_getElem? (i := 61) rfl)) rfl, lw_m (lps8 (q := (⟨"BearsTwoModel", "sureOf", "(II)J"⟩, 47)) (List.mem_of_getElem? (i := 14) rfl)) rfl⟩
set_option maxRecDepth 100000 in
theorem yvX12_treadOf : sm_YV yX12_treadOf cX12_treadOf 11 (some .long) 3 := ⟨⟨lw_m (lt9 (List.mem_of_getElem? (i := 80) rfl)) rfl, lw_m (lt1 (List.mem_of_getElem? (i := 14) rfl)) rfl, nh_X12.1, nh_X12.2, pm__III_J_374⟩, lw_m (lt9 (List.mem_of_getElem? (i := 79) rfl)) rfl, lw_m (lps9 (q := (⟨"BearsTwoModel", "treadOf", "(III)J"⟩, 47)) (List.mem_of_getElem? (i := 0) rfl)) rfl⟩
set_option maxRecDepth 100000 in
theorem yvX12_first : sm_YV yX12_first cX12_first 9 (some .int) 2 := ⟨⟨lw_m (lt9 (List.mem_of_getElem? (i := 84) rfl)) rfl, lw_m (lt1 (List.mem_of_getElem? (i := 14) rfl)) rfl, nh_X12.1, nh_X12.2, pm__II_I_300⟩, lw_m (lt9 (List.mem_of_getElem? (i := 82) rfl)) rfl, lw_m (lt9 (List.mem_of_getElem? (i := 83) rfl)) rfl⟩
set_option maxRecDepth 100000 in
theorem yvX12_fresh : sm_YV yX12_fresh cX12_fresh 2 (some .int) 0 := ⟨⟨lw_m (lt7 (List.mem_of_getElem? (i := 226) rfl)) rfl, lw_m (lt1 (List.mem_of_getElem? (i := 14) rfl)) rfl, nh_X12.1, nh_X12.2, pm___I_154⟩, lw_m (lt7 (List.mem_of_getElem? (i := 224) rfl)) rfl, lw_m (lt7 (List.mem_of_getElem? (i := 225) rfl)) rfl⟩
set_option maxRecDepth 100000 in
theorem yvX12_freshOn : sm_YV yX12_freshOn cX12_freshOn 4 (some .int) 2 := ⟨⟨lw_m (lt7 (List.mem_of_getElem? (i := 142) rfl)) rfl, lw_m (lt1 (List.mem_of_getElem? (i := 14) rfl)) rfl, nh_X12.1, nh_X12.2, pm__II_I_300⟩, lw_m (lt7 (List.mem_of_getElem? (i := 141) rfl)) rfl, lw_m (lps5 (q := (⟨"BearsTwoModel", "freshOn", "(II)I"⟩, 47)) (List.mem_of_getElem? (i := 1) rfl)) rfl⟩
set_option maxRecDepth 100000 in
theorem yvX12_gap : sm_YV yX12_gap cX12_gap 2 (some .int) 1 := ⟨⟨lw_m (lt8 (List.mem_of_getElem? (i := 178) rfl)) rfl, lw_m (lt1 (List.mem_of_getElem? (i := 14) rfl)) rfl, nh_X12.1, nh_X12.2, pm__I_I_227⟩, lw_m (lt8 (List.mem_of_getElem? (i := 176) rfl)) rfl, lw_m (lt8 (List.mem_of_getElem? (i := 177) rfl)) rfl⟩
set_option maxRecDepth 100000 in
theorem yvX12_go : sm_YV yX12_go cX12_go 4 (some .int) 2 := ⟨⟨lw_m (lt8 (List.mem_of_getElem? (i := 89) rfl)) rfl, lw_m (lt1 (List.mem_of_getElem? (i := 14) rfl)) rfl, nh_X12.1, nh_X12.2, pm__II_I_300⟩, lw_m (lt8 (List.mem_of_getElem? (i := 87) rfl)) rfl, lw_m (lt8 (List.mem_of_getElem? (i := 88) rfl)) rfl⟩
set_option maxRecDepth 100000 in
theorem yvX12_home : sm_YV yX12_home cX12_home 4 (some .int) 1 := ⟨⟨lw_m (lt8 (List.mem_of_getElem? (i := 183) rfl)) rfl, lw_m (lt1 (List.mem_of_getElem? (i := 14) rfl)) rfl, nh_X12.1, nh_X12.2, pm__I_I_227⟩, lw_m (lt8 (List.mem_of_getElem? (i := 181) rfl)) rfl, lw_m (lt8 (List.mem_of_getElem? (i := 182) rfl)) rfl⟩
set_option maxRecDepth 100000 in
theorem yvX12_hour : sm_YV yX12_hour cX12_hour 3 (some .int) 1 := ⟨⟨lw_m (lt7 (List.mem_of_getElem? (i := 221) rfl)) rfl, lw_m (lt1 (List.mem_of_getElem? (i := 14) rfl)) rfl, nh_X12.1, nh_X12.2, pm__I_I_227⟩, lw_m (lt7 (List.mem_of_getElem? (i := 219) rfl)) rfl, lw_m (lt7 (List.mem_of_getElem? (i := 220) rfl)) rfl⟩
set_option maxRecDepth 100000 in
theorem yvX12_image : sm_YV yX12_image cX12_image 3 (some .int) 1 := ⟨⟨lw_m (lt7 (List.mem_of_getElem? (i := 51) rfl)) rfl, lw_m (lt1 (List.mem_of_getElem? (i := 14) rfl)) rfl, nh_X12.1, nh_X12.2, pm__I_I_227⟩, lw_m (lt7 (List.mem_of_getElem? (i := 49) rfl)) rfl, lw_m (lt7 (List.mem_of_getElem? (i := 50) rfl)) rfl⟩
set_option maxRecDepth 100000 in
theorem yvX12_is : sm_YV yX12_is cX12_is 4 (some .boolean) 1 := ⟨⟨lw_m (lt7 (List.mem_of_getElem? (i := 110) rfl)) rfl, lw_m (lt1 (List.mem_of_getElem? (i := 14) rfl)) rfl, nh_X12.1, nh_X12.2, pm__LString__Z_867⟩, lw_m (lt7 (List.mem_of_getElem? (i := 109) rfl)) rfl, lw_m (lps4 (q := (⟨"BearsTwoModel", "is", "(Ljava/lang/String;)Z"⟩, 47)) (List.mem_of_getElem? (i := 11) rfl)) rfl⟩
set_option maxRecDepth 100000 in
theorem ysX12_isSeed : sm_YS yX12_isSeed cX12_isSeed 1 (some .boolean) 1 := ⟨⟨lw_m (lt9 (List.mem_of_getElem? (i := 140) rfl)) rfl, lw_m (lt1 (List.mem_of_getElem? (i := 14) rfl)) rfl, nh_X12.1, nh_X12.2, pm__I_Z_244⟩, lw_m (lt9 (List.mem_of_getElem? (i := 139) rfl)) rfl⟩
set_option maxRecDepth 100000 in
theorem yvX12_isSpot : sm_YV yX12_isSpot cX12_isSpot 3 (some .boolean) 2 := ⟨⟨lw_m (lt9 (List.mem_of_getElem? (i := 11) rfl)) rfl, lw_m (lt1 (List.mem_of_getElem? (i := 14) rfl)) rfl, nh_X12.1, nh_X12.2, pm__II_Z_317⟩, lw_m (lt9 (List.mem_of_getElem? (i := 10) rfl)) rfl, lw_m (lps8 (q := (⟨"BearsTwoModel", "isSpot", "(II)Z"⟩, 47)) (List.mem_of_getElem? (i := 9) rfl)) rfl⟩
set_option maxRecDepth 100000 in
theorem yvX12_judge : sm_YV yX12_judge cX12_judge 3 (some .int) 1 := ⟨⟨lw_m (lt8 (List.mem_of_getElem? (i := 56) rfl)) rfl, lw_m (lt1 (List.mem_of_getElem? (i := 14) rfl)) rfl, nh_X12.1, nh_X12.2, pm__I_I_227⟩, lw_m (lt8 (List.mem_of_getElem? (i := 54) rfl)) rfl, lw_m (lt8 (List.mem_of_getElem? (i := 55) rfl)) rfl⟩
set_option maxRecDepth 100000 in
theorem yvX12_priceOf : sm_YV yX12_priceOf cX12_priceOf 6 (some .int) 3 := ⟨⟨lw_m (lt9 (List.mem_of_getElem? (i := 92) rfl)) rfl, lw_m (lt1 (List.mem_of_getElem? (i := 14) rfl)) rfl, nh_X12.1, nh_X12.2, pm__III_I_373⟩, lw_m (lt9 (List.mem_of_getElem? (i := 91) rfl)) rfl, lw_m (lps9 (q := (⟨"BearsTwoModel", "priceOf", "(III)I"⟩, 47)) (List.mem_of_getElem? (i := 1) rfl)) rfl⟩
set_option maxRecDepth 100000 in
theorem yvX12_keep : sm_YV yX12_keep cX12_keep 7 (some .int) 2 := ⟨⟨lw_m (lt9 (List.mem_of_getElem? (i := 96) rfl)) rfl, lw_m (lt1 (List.mem_of_getElem? (i := 14) rfl)) rfl, nh_X12.1, nh_X12.2, pm__II_I_300⟩, lw_m (lt9 (List.mem_of_getElem? (i := 94) rfl)) rfl, lw_m (lt9 (List.mem_of_getElem? (i := 95) rfl)) rfl⟩
set_option maxRecDepth 100000 in
theorem yvX12_know : sm_YV yX12_know cX12_know 3 (some .int) 2 := ⟨⟨lw_m (lt9 (List.mem_of_getElem? (i := 54) rfl)) rfl, lw_m (lt1 (List.mem_of_getElem? (i := 14) rfl)) rfl, nh_X12.1, nh_X12.2, pm__IZ_I_317⟩, lw_m (lt9 (List.mem_of_getElem? (i := 52) rfl)) rfl, lw_m (lt9 (List.mem_of_getElem? (i := 53) rfl)) rfl⟩
set_option maxRecDepth 100000 in
theorem yvX12_lateOf : sm_YV yX12_lateOf cX12_lateOf 5 (some .int) 2 := ⟨⟨lw_m (lt9 (List.mem_of_getElem? (i := 104) rfl)) rfl, lw_m (lt1 (List.mem_of_getElem? (i := 14) rfl)) rfl, nh_X12.1, nh_X12.2, pm__II_I_300⟩, lw_m (lt9 (List.mem_of_getElem? (i := 103) rfl)) rfl, lw_m (lps9 (q := (⟨"BearsTwoModel", "lateOf", "(II)I"⟩, 47)) (List.mem_of_getElem? (i := 2) rfl)) rfl⟩
set_option maxRecDepth 100000 in
theorem yvX12_late : sm_YV yX12_late cX12_late 3 (some .int) 2 := ⟨⟨lw_m (lt9 (List.mem_of_getElem? (i := 100) rfl)) rfl, lw_m (lt1 (List.mem_of_getElem? (i := 14) rfl)) rfl, nh_X12.1, nh_X12.2, pm__II_I_300⟩, lw_m (lt9 (List.mem_of_getElem? (i := 98) rfl)) rfl, lw_m (lt9 (List.mem_of_getElem? (i := 99) rfl)) rfl⟩
set_option maxRecDepth 100000 in
theorem yvX12_length : sm_YV yX12_length cX12_length 4 (some .int) 3 := ⟨⟨lw_m (lt8 (List.mem_of_getElem? (i := 2) rfl)) rfl, lw_m (lt1 (List.mem_of_getElem? (i := 14) rfl)) rfl, nh_X12.1, nh_X12.2, pm__III_I_373⟩, lw_m (lt8 (List.mem_of_getElem? (i := 0) rfl)) rfl, lw_m (lt8 (List.mem_of_getElem? (i := 1) rfl)) rfl⟩
set_option maxRecDepth 100000 in
theorem yvX12_may : sm_YV yX12_may cX12_may 4 (some .int) 3 := ⟨⟨lw_m (lt7 (List.mem_of_getElem? (i := 185) rfl)) rfl, lw_m (lt1 (List.mem_of_getElem? (i := 14) rfl)) rfl, nh_X12.1, nh_X12.2, pm__III_I_373⟩, lw_m (lt7 (List.mem_of_getElem? (i := 183) rfl)) rfl, lw_m (lt7 (List.mem_of_getElem? (i := 184) rfl)) rfl⟩
set_option maxRecDepth 100000 in
theorem yvX12_meet : sm_YV yX12_meet cX12_meet 6 (some .boolean) 3 := ⟨⟨lw_m (lt9 (List.mem_of_getElem? (i := 125) rfl)) rfl, lw_m (lt1 (List.mem_of_getElem? (i := 14) rfl)) rfl, nh_X12.1, nh_X12.2, pm__III_Z_390⟩, lw_m (lt9 (List.mem_of_getElem? (i := 124) rfl)) rfl, lw_m (lps9 (q := (⟨"BearsTwoModel", "meet", "(III)Z"⟩, 47)) (List.mem_of_getElem? (i := 5) rfl)) rfl⟩
set_option maxRecDepth 100000 in
theorem yvX12_stoneOn : sm_YV yX12_stoneOn cX12_stoneOn 4 (some .int) 2 := ⟨⟨lw_m (lt9 (List.mem_of_getElem? (i := 15) rfl)) rfl, lw_m (lt1 (List.mem_of_getElem? (i := 14) rfl)) rfl, nh_X12.1, nh_X12.2, pm__II_I_300⟩, lw_m (lt9 (List.mem_of_getElem? (i := 14) rfl)) rfl, lw_m (lps8 (q := (⟨"BearsTwoModel", "stoneOn", "(II)I"⟩, 47)) (List.mem_of_getElem? (i := 10) rfl)) rfl⟩
set_option maxRecDepth 100000 in
theorem yvX12_withMore : sm_YV yX12_withMore cX12_withMore 5 (some .int) 4 := ⟨⟨lw_m (lt9 (List.mem_of_getElem? (i := 19) rfl)) rfl, lw_m (lt1 (List.mem_of_getElem? (i := 14) rfl)) rfl, nh_X12.1, nh_X12.2, pm__IIII_I_446⟩, lw_m (lt9 (List.mem_of_getElem? (i := 18) rfl)) rfl, lw_m (lps8 (q := (⟨"BearsTwoModel", "withMore", "(IIII)I"⟩, 47)) (List.mem_of_getElem? (i := 11) rfl)) rfl⟩
set_option maxRecDepth 100000 in
theorem yvX12_more : sm_YV yX12_more cX12_more 5 (some .int) 4 := ⟨⟨lw_m (lt9 (List.mem_of_getElem? (i := 7) rfl)) rfl, lw_m (lt1 (List.mem_of_getElem? (i := 14) rfl)) rfl, nh_X12.1, nh_X12.2, pm__IIII_I_446⟩, lw_m (lt9 (List.mem_of_getElem? (i := 5) rfl)) rfl, lw_m (lt9 (List.mem_of_getElem? (i := 6) rfl)) rfl⟩
set_option maxRecDepth 100000 in
theorem yvX12_most : sm_YV yX12_most cX12_most 3 (some .int) 2 := ⟨⟨lw_m (lt8 (List.mem_of_getElem? (i := 199) rfl)) rfl, lw_m (lt1 (List.mem_of_getElem? (i := 14) rfl)) rfl, nh_X12.1, nh_X12.2, pm__II_I_300⟩, lw_m (lt8 (List.mem_of_getElem? (i := 197) rfl)) rfl, lw_m (lt8 (List.mem_of_getElem? (i := 198) rfl)) rfl⟩
set_option maxRecDepth 100000 in
theorem yvX12_movedOf : sm_YV yX12_movedOf cX12_movedOf 6 (some .int) 3 := ⟨⟨lw_m (lt9 (List.mem_of_getElem? (i := 31) rfl)) rfl, lw_m (lt1 (List.mem_of_getElem? (i := 14) rfl)) rfl, nh_X12.1, nh_X12.2, pm__III_I_373⟩, lw_m (lt9 (List.mem_of_getElem? (i := 30) rfl)) rfl, lw_m (lps8 (q := (⟨"BearsTwoModel", "movedOf", "(III)I"⟩, 47)) (List.mem_of_getElem? (i := 12) rfl)) rfl⟩
set_option maxRecDepth 100000 in
theorem yvX12_move : sm_YV yX12_move cX12_move 7 (some .int) 2 := ⟨⟨lw_m (lt9 (List.mem_of_getElem? (i := 35) rfl)) rfl, lw_m (lt1 (List.mem_of_getElem? (i := 14) rfl)) rfl, nh_X12.1, nh_X12.2, pm__II_I_300⟩, lw_m (lt9 (List.mem_of_getElem? (i := 33) rfl)) rfl, lw_m (lt9 (List.mem_of_getElem? (i := 34) rfl)) rfl⟩
set_option maxRecDepth 100000 in
theorem yvX12_moved : sm_YV yX12_moved cX12_moved 4 (some .int) 3 := ⟨⟨lw_m (lt9 (List.mem_of_getElem? (i := 27) rfl)) rfl, lw_m (lt1 (List.mem_of_getElem? (i := 14) rfl)) rfl, nh_X12.1, nh_X12.2, pm__III_I_373⟩, lw_m (lt9 (List.mem_of_getElem? (i := 25) rfl)) rfl, lw_m (lt9 (List.mem_of_getElem? (i := 26) rfl)) rfl⟩
set_option maxRecDepth 100000 in
theorem yvX12_mustAndNot : sm_YV yX12_mustAndNot cX12_mustAndNot 3 (some .int) 0 := ⟨⟨lw_m (lt8 (List.mem_of_getElem? (i := 149) rfl)) rfl, lw_m (lt1 (List.mem_of_getElem? (i := 14) rfl)) rfl, nh_X12.1, nh_X12.2, pm___I_154⟩, lw_m (lt8 (List.mem_of_getElem? (i := 148) rfl)) rfl, lw_m (lps7 (q := (⟨"BearsTwoModel", "mustAndNot", "()I"⟩, 47)) (List.mem_of_getElem? (i := 11) rfl)) rfl⟩
set_option maxRecDepth 100000 in
theorem yvX12_takes : sm_YV yX12_takes cX12_takes 3 (some .boolean) 1 := ⟨⟨lw_m (lt7 (List.mem_of_getElem? (i := 106) rfl)) rfl, lw_m (lt1 (List.mem_of_getElem? (i := 14) rfl)) rfl, nh_X12.1, nh_X12.2, pm__LString__Z_867⟩, lw_m (lt7 (List.mem_of_getElem? (i := 105) rfl)) rfl, lw_m (lps4 (q := (⟨"BearsTwoModel", "takes", "(Ljava/lang/String;)Z"⟩, 47)) (List.mem_of_getElem? (i := 10) rfl)) rfl⟩
set_option maxRecDepth 100000 in
theorem yvX12_needs : sm_YV yX12_needs cX12_needs 2 none 1 := ⟨⟨lw_m (lt7 (List.mem_of_getElem? (i := 102) rfl)) rfl, lw_m (lt1 (List.mem_of_getElem? (i := 14) rfl)) rfl, nh_X12.1, nh_X12.2, pm__LString__V_863⟩, lw_m (lt7 (List.mem_of_getElem? (i := 101) rfl)) rfl, lw_m (lps4 (q := (⟨"BearsTwoModel", "needs", "(Ljava/lang/String;)V"⟩, 47)) (List.mem_of_getElem? (i := 9) rfl)) rfl⟩
set_option maxRecDepth 100000 in
theorem ysX12_nodeOf : sm_YS yX12_nodeOf cX12_nodeOf 1 (some .int) 1 := ⟨⟨lw_m (lt9 (List.mem_of_getElem? (i := 46) rfl)) rfl, lw_m (lt1 (List.mem_of_getElem? (i := 14) rfl)) rfl, nh_X12.1, nh_X12.2, pm__I_I_227⟩, lw_m (lt9 (List.mem_of_getElem? (i := 45) rfl)) rfl⟩
set_option maxRecDepth 100000 in
theorem yvX12_noon : sm_YV yX12_noon cX12_noon 4 (some .int) 2 := ⟨⟨lw_m (lt9 (List.mem_of_getElem? (i := 108) rfl)) rfl, lw_m (lt1 (List.mem_of_getElem? (i := 14) rfl)) rfl, nh_X12.1, nh_X12.2, pm__II_I_300⟩, lw_m (lt9 (List.mem_of_getElem? (i := 106) rfl)) rfl, lw_m (lt9 (List.mem_of_getElem? (i := 107) rfl)) rfl⟩
set_option maxRecDepth 100000 in
theorem yvX12_number : sm_YV yX12_number cX12_number 4 (some .int) 2 := ⟨⟨lw_m (lt7 (List.mem_of_getElem? (i := 125) rfl)) rfl, lw_m (lt1 (List.mem_of_getElem? (i := 14) rfl)) rfl, nh_X12.1, nh_X12.2, pm__II_I_300⟩, lw_m (lt7 (List.mem_of_getElem? (i := 124) rfl)) rfl, lw_m (lps4 (q := (⟨"BearsTwoModel", "number", "(II)I"⟩, 47)) (List.mem_of_getElem? (i := 14) rfl)) rfl⟩
set_option maxRecDepth 100000 in
theorem yvX12_order : sm_YV yX12_order cX12_order 3 (some .int) 2 := ⟨⟨lw_m (lt8 (List.mem_of_getElem? (i := 157) rfl)) rfl, lw_m (lt1 (List.mem_of_getElem? (i := 14) rfl)) rfl, nh_X12.1, nh_X12.2, pm__II_I_300⟩, lw_m (lt8 (List.mem_of_getElem? (i := 155) rfl)) rfl, lw_m (lt8 (List.mem_of_getElem? (i := 156) rfl)) rfl⟩
set_option maxRecDepth 100000 in
theorem yvX12_over : sm_YV yX12_over cX12_over 4 (some .int) 2 := ⟨⟨lw_m (lt8 (List.mem_of_getElem? (i := 121) rfl)) rfl, lw_m (lt1 (List.mem_of_getElem? (i := 14) rfl)) rfl, nh_X12.1, nh_X12.2, pm__II_I_300⟩, lw_m (lt8 (List.mem_of_getElem? (i := 119) rfl)) rfl, lw_m (lt8 (List.mem_of_getElem? (i := 120) rfl)) rfl⟩
set_option maxRecDepth 100000 in
theorem yvX12_paste : sm_YV yX12_paste cX12_paste 7 (some .int) 5 := ⟨⟨lw_m (lt9 (List.mem_of_getElem? (i := 185) rfl)) rfl, lw_m (lt1 (List.mem_of_getElem? (i := 14) rfl)) rfl, nh_X12.1, nh_X12.2, pm__IIIII_I_519⟩, lw_m (lt9 (List.mem_of_getElem? (i := 183) rfl)) rfl, lw_m (lt9 (List.mem_of_getElem? (i := 184) rfl)) rfl⟩
set_option maxRecDepth 100000 in
theorem yvX12_path : sm_YV yX12_path cX12_path 5 (some .int) 4 := ⟨⟨lw_m (lt8 (List.mem_of_getElem? (i := 32) rfl)) rfl, lw_m (lt1 (List.mem_of_getElem? (i := 14) rfl)) rfl, nh_X12.1, nh_X12.2, pm__IIII_I_446⟩, lw_m (lt8 (List.mem_of_getElem? (i := 30) rfl)) rfl, lw_m (lt8 (List.mem_of_getElem? (i := 31) rfl)) rfl⟩
set_option maxRecDepth 100000 in
theorem yvX12_person : sm_YV yX12_person cX12_person 3 (some .int) 2 := ⟨⟨lw_m (lt8 (List.mem_of_getElem? (i := 81) rfl)) rfl, lw_m (lt1 (List.mem_of_getElem? (i := 14) rfl)) rfl, nh_X12.1, nh_X12.2, pm__II_I_300⟩, lw_m (lt8 (List.mem_of_getElem? (i := 79) rfl)) rfl, lw_m (lt8 (List.mem_of_getElem? (i := 80) rfl)) rfl⟩
set_option maxRecDepth 100000 in
theorem yvX12_plankOf : sm_YV yX12_plankOf cX12_plankOf 5 (some .int) 3 := ⟨⟨lw_m (lt9 (List.mem_of_getElem? (i := 43) rfl)) rfl, lw_m (lt1 (List.mem_of_getElem? (i := 14) rfl)) rfl, nh_X12.1, nh_X12.2, pm__III_I_373⟩, lw_m (lt9 (List.mem_of_getElem? (i := 42) rfl)) rfl, lw_m (lps8 (q := (⟨"BearsTwoModel", "plankOf", "(III)I"⟩, 47)) (List.mem_of_getElem? (i := 13) rfl)) rfl⟩
set_option maxRecDepth 100000 in
theorem yvX12_plank : sm_YV yX12_plank cX12_plank 4 (some .int) 3 := ⟨⟨lw_m (lt9 (List.mem_of_getElem? (i := 39) rfl)) rfl, lw_m (lt1 (List.mem_of_getElem? (i := 14) rfl)) rfl, nh_X12.1, nh_X12.2, pm__III_I_373⟩, lw_m (lt9 (List.mem_of_getElem? (i := 37) rfl)) rfl, lw_m (lt9 (List.mem_of_getElem? (i := 38) rfl)) rfl⟩
set_option maxRecDepth 100000 in
theorem yvX12_planks : sm_YV yX12_planks cX12_planks 7 (some .int) 1 := ⟨⟨lw_m (lt9 (List.mem_of_getElem? (i := 50) rfl)) rfl, lw_m (lt1 (List.mem_of_getElem? (i := 14) rfl)) rfl, nh_X12.1, nh_X12.2, pm__I_I_227⟩, lw_m (lt9 (List.mem_of_getElem? (i := 48) rfl)) rfl, lw_m (lt9 (List.mem_of_getElem? (i := 49) rfl)) rfl⟩
set_option maxRecDepth 100000 in
theorem yvX12_price : sm_YV yX12_price cX12_price 5 (some .int) 3 := ⟨⟨lw_m (lt9 (List.mem_of_getElem? (i := 88) rfl)) rfl, lw_m (lt1 (List.mem_of_getElem? (i := 14) rfl)) rfl, nh_X12.1, nh_X12.2, pm__III_I_373⟩, lw_m (lt9 (List.mem_of_getElem? (i := 86) rfl)) rfl, lw_m (lt9 (List.mem_of_getElem? (i := 87) rfl)) rfl⟩
set_option maxRecDepth 100000 in
theorem yvX12_reach : sm_YV yX12_reach cX12_reach 2 (some .int) 1 := ⟨⟨lw_m (lt7 (List.mem_of_getElem? (i := 213) rfl)) rfl, lw_m (lt1 (List.mem_of_getElem? (i := 14) rfl)) rfl, nh_X12.1, nh_X12.2, pm__I_I_227⟩, lw_m (lt7 (List.mem_of_getElem? (i := 211) rfl)) rfl, lw_m (lt7 (List.mem_of_getElem? (i := 212) rfl)) rfl⟩
set_option maxRecDepth 100000 in
theorem yvX12_told : sm_YV yX12_told cX12_told 4 (some .int) 3 := ⟨⟨lw_m (lt7 (List.mem_of_getElem? (i := 121) rfl)) rfl, lw_m (lt1 (List.mem_of_getElem? (i := 14) rfl)) rfl, nh_X12.1, nh_X12.2, pm__LString_II_I_996⟩, lw_m (lt7 (List.mem_of_getElem? (i := 120) rfl)) rfl, lw_m (lps4 (q := (⟨"BearsTwoModel", "told", "(Ljava/lang/String;II)I"⟩, 47)) (List.mem_of_getElem? (i := 13) rfl)) rfl⟩
set_option maxRecDepth 100000 in
theorem yvX12_readPerson : sm_YV yX12_readPerson cX12_readPerson 4 none 0 := ⟨⟨lw_m (lt7 (List.mem_of_getElem? (i := 149) rfl)) rfl, lw_m (lt1 (List.mem_of_getElem? (i := 14) rfl)) rfl, nh_X12.1, nh_X12.2, pm___V_167⟩, lw_m (lt7 (List.mem_of_getElem? (i := 148) rfl)) rfl, lw_m (lps5 (q := (⟨"BearsTwoModel", "readPerson", "()V"⟩, 47)) (List.mem_of_getElem? (i := 2) rfl)) rfl⟩
set_option maxRecDepth 100000 in
theorem yvX12_readStone : sm_YV yX12_readStone cX12_readStone 4 none 0 := ⟨⟨lw_m (lt7 (List.mem_of_getElem? (i := 137) rfl)) rfl, lw_m (lt1 (List.mem_of_getElem? (i := 14) rfl)) rfl, nh_X12.1, nh_X12.2, pm___V_167⟩, lw_m (lt7 (List.mem_of_getElem? (i := 136) rfl)) rfl, lw_m (lps5 (q := (⟨"BearsTwoModel", "readStone", "()V"⟩, 47)) (List.mem_of_getElem? (i := 0) rfl)) rfl⟩
set_option maxRecDepth 100000 in
theorem yvX12_readNext : sm_YV yX12_readNext cX12_readNext 1 none 0 := ⟨⟨lw_m (lt7 (List.mem_of_getElem? (i := 130) rfl)) rfl, lw_m (lt1 (List.mem_of_getElem? (i := 14) rfl)) rfl, nh_X12.1, nh_X12.2, pm___V_167⟩, lw_m (lt7 (List.mem_of_getElem? (i := 129) rfl)) rfl, lw_m (lps4 (q := (⟨"BearsTwoModel", "readNext", "()V"⟩, 47)) (List.mem_of_getElem? (i := 15) rfl)) rfl⟩
set_option maxRecDepth 100000 in
theorem yvX12_readLine : sm_YV yX12_readLine cX12_readLine 1 none 0 := ⟨⟨lw_m (lt7 (List.mem_of_getElem? (i := 97) rfl)) rfl, lw_m (lt1 (List.mem_of_getElem? (i := 14) rfl)) rfl, nh_X12.1, nh_X12.2, pm___V_167⟩, lw_m (lt7 (List.mem_of_getElem? (i := 96) rfl)) rfl, lw_m (lps4 (q := (⟨"BearsTwoModel", "readLine", "()V"⟩, 47)) (List.mem_of_getElem? (i := 8) rfl)) rfl⟩
set_option maxRecDepth 100000 in
theorem yvX12_river : sm_YV yX12_river cX12_river 2 (some .int) 0 := ⟨⟨lw_m (lt7 (List.mem_of_getElem? (i := 75) rfl)) rfl, lw_m (lt1 (List.mem_of_getElem? (i := 14) rfl)) rfl, nh_X12.1, nh_X12.2, pm___I_154⟩, lw_m (lt7 (List.mem_of_getElem? (i := 73) rfl)) rfl, lw_m (lt7 (List.mem_of_getElem? (i := 74) rfl)) rfl⟩
set_option maxRecDepth 100000 in
theorem yvX12_row : sm_YV yX12_row cX12_row 5 (some .int) 3 := ⟨⟨lw_m (lt9 (List.mem_of_getElem? (i := 174) rfl)) rfl, lw_m (lt1 (List.mem_of_getElem? (i := 14) rfl)) rfl, nh_X12.1, nh_X12.2, pm__III_I_373⟩, lw_m (lt9 (List.mem_of_getElem? (i := 172) rfl)) rfl, lw_m (lt9 (List.mem_of_getElem? (i := 173) rfl)) rfl⟩
set_option maxRecDepth 100000 in
theorem yvX12_ventures : sm_YV yX12_ventures cX12_ventures 7 none 3 := ⟨⟨lw_m (lt9 (List.mem_of_getElem? (i := 157) rfl)) rfl, lw_m (lt1 (List.mem_of_getElem? (i := 14) rfl)) rfl, nh_X12.1, nh_X12.2, pm__III_V_386⟩, lw_m (lt9 (List.mem_of_getElem? (i := 156) rfl)) rfl, lw_m (lps9 (q := (⟨"BearsTwoModel", "ventures", "(III)V"⟩, 47)) (List.mem_of_getElem? (i := 9) rfl)) rfl⟩
set_option maxRecDepth 100000 in
theorem yvX12_runOf : sm_YV yX12_runOf cX12_runOf 6 (some .int) 2 := ⟨⟨lw_m (lt9 (List.mem_of_getElem? (i := 145) rfl)) rfl, lw_m (lt1 (List.mem_of_getElem? (i := 14) rfl)) rfl, nh_X12.1, nh_X12.2, pm__JI_I_301⟩, lw_m (lt9 (List.mem_of_getElem? (i := 144) rfl)) rfl, lw_m (lps9 (q := (⟨"BearsTwoModel", "runOf", "(JI)I"⟩, 47)) (List.mem_of_getElem? (i := 7) rfl)) rfl⟩
set_option maxRecDepth 100000 in
theorem yvX12_run : sm_YV yX12_run cX12_run 3 (some .int) 2 := ⟨⟨lw_m (lt9 (List.mem_of_getElem? (i := 137) rfl)) rfl, lw_m (lt1 (List.mem_of_getElem? (i := 14) rfl)) rfl, nh_X12.1, nh_X12.2, pm__II_I_300⟩, lw_m (lt9 (List.mem_of_getElem? (i := 135) rfl)) rfl, lw_m (lt9 (List.mem_of_getElem? (i := 136) rfl)) rfl⟩
set_option maxRecDepth 100000 in
theorem yvX12_runs : sm_YV yX12_runs cX12_runs 10 (some .int) 4 := ⟨⟨lw_m (lt9 (List.mem_of_getElem? (i := 161) rfl)) rfl, lw_m (lt1 (List.mem_of_getElem? (i := 14) rfl)) rfl, nh_X12.1, nh_X12.2, pm__IIII_I_446⟩, lw_m (lt9 (List.mem_of_getElem? (i := 159) rfl)) rfl, lw_m (lt9 (List.mem_of_getElem? (i := 160) rfl)) rfl⟩
set_option maxRecDepth 100000 in
theorem yvX12_step : sm_YV yX12_step cX12_step 3 (some .int) 2 := ⟨⟨lw_m (lt8 (List.mem_of_getElem? (i := 36) rfl)) rfl, lw_m (lt1 (List.mem_of_getElem? (i := 14) rfl)) rfl, nh_X12.1, nh_X12.2, pm__II_I_300⟩, lw_m (lt8 (List.mem_of_getElem? (i := 34) rfl)) rfl, lw_m (lt8 (List.mem_of_getElem? (i := 35) rfl)) rfl⟩
set_option maxRecDepth 100000 in
theorem yvX12_stone : sm_YV yX12_stone cX12_stone 3 (some .int) 2 := ⟨⟨lw_m (lt7 (List.mem_of_getElem? (i := 159) rfl)) rfl, lw_m (lt1 (List.mem_of_getElem? (i := 14) rfl)) rfl, nh_X12.1, nh_X12.2, pm__II_I_300⟩, lw_m (lt7 (List.mem_of_getElem? (i := 157) rfl)) rfl, lw_m (lt7 (List.mem_of_getElem? (i := 158) rfl)) rfl⟩
set_option maxRecDepth 100000 in
theorem yvX12_sure : sm_YV yX12_sure cX12_sure 3 (some .long) 2 := ⟨⟨lw_m (lt9 (List.mem_of_getElem? (i := 58) rfl)) rfl, lw_m (lt1 (List.mem_of_getElem? (i := 14) rfl)) rfl, nh_X12.1, nh_X12.2, pm__II_J_301⟩, lw_m (lt9 (List.mem_of_getElem? (i := 56) rfl)) rfl, lw_m (lt9 (List.mem_of_getElem? (i := 57) rfl)) rfl⟩
set_option maxRecDepth 100000 in
theorem yvX12_tread : sm_YV yX12_tread cX12_tread 4 (some .long) 3 := ⟨⟨lw_m (lt9 (List.mem_of_getElem? (i := 76) rfl)) rfl, lw_m (lt1 (List.mem_of_getElem? (i := 14) rfl)) rfl, nh_X12.1, nh_X12.2, pm__III_J_374⟩, lw_m (lt9 (List.mem_of_getElem? (i := 74) rfl)) rfl, lw_m (lt9 (List.mem_of_getElem? (i := 75) rfl)) rfl⟩
set_option maxRecDepth 100000 in
theorem yvX12_waits : sm_YV yX12_waits cX12_waits 5 (some .int) 2 := ⟨⟨lw_m (lt9 (List.mem_of_getElem? (i := 113) rfl)) rfl, lw_m (lt1 (List.mem_of_getElem? (i := 14) rfl)) rfl, nh_X12.1, nh_X12.2, pm__II_I_300⟩, lw_m (lt9 (List.mem_of_getElem? (i := 111) rfl)) rfl, lw_m (lt9 (List.mem_of_getElem? (i := 112) rfl)) rfl⟩
set_option maxRecDepth 100000 in
theorem yvX12_where : sm_YV yX12_where cX12_where 8 (some .int) 2 := ⟨⟨lw_m (lt9 (List.mem_of_getElem? (i := 23) rfl)) rfl, lw_m (lt1 (List.mem_of_getElem? (i := 14) rfl)) rfl, nh_X12.1, nh_X12.2, pm__II_I_300⟩, lw_m (lt9 (List.mem_of_getElem? (i := 21) rfl)) rfl, lw_m (lt9 (List.mem_of_getElem? (i := 22) rfl)) rfl⟩
set_option maxRecDepth 100000 in
theorem yvX12_write : sm_YV yX12_write cX12_write 5 (some .int) 3 := ⟨⟨lw_m (lt9 (List.mem_of_getElem? (i := 178) rfl)) rfl, lw_m (lt1 (List.mem_of_getElem? (i := 14) rfl)) rfl, nh_X12.1, nh_X12.2, pm__IIJ_I_374⟩, lw_m (lt9 (List.mem_of_getElem? (i := 176) rfl)) rfl, lw_m (lt9 (List.mem_of_getElem? (i := 177) rfl)) rfl⟩
