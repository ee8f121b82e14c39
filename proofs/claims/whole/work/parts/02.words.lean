/-- the tables' words that stay true -/
def zG : List Cond := lw_tbl.filter goodWord
theorem q_0 : Cond.selects "ShortBridge$Deal" ⟨"ShortBridge$Deal", "fillLeft", "()V"⟩ ⟨"ShortBridge$Deal", "fillLeft", "()V"⟩ ∈ zG := List.mem_filter.mpr ⟨List.mem_of_getElem? (i := 0) (by decide +kernel), rfl⟩
theorem q_1 : Cond.selects "ShortBridge$Deal" ⟨"ShortBridge$Deal", "share", "(JII)J"⟩ ⟨"ShortBridge$Deal", "share", "(JII)J"⟩ ∈ zG := List.mem_filter.mpr ⟨List.mem_of_getElem? (i := 1) (by decide +kernel), rfl⟩
theorem q_2 : Cond.selects "ShortBridge" ⟨"ShortBridge", "begin", "(II)V"⟩ ⟨"ShortBridge", "begin", "(II)V"⟩ ∈ zG := List.mem_filter.mpr ⟨List.mem_of_getElem? (i := 2) (by decide +kernel), rfl⟩
theorem q_3 : Cond.selects "ShortBridge$Hands" ⟨"ShortBridge$Hands", "takeHand", "(LShortBridge$Deal;I)V"⟩ ⟨"ShortBridge$Hands", "takeHand", "(LShortBridge$Deal;I)V"⟩ ∈ zG := List.mem_filter.mpr ⟨List.mem_of_getElem? (i := 3) (by decide +kernel), rfl⟩
theorem q_4 : Cond.selects "ShortBridge$Deal" ⟨"ShortBridge$Deal", "shuffleRow", "(J)V"⟩ ⟨"ShortBridge$Deal", "shuffleRow", "(J)V"⟩ ∈ zG := List.mem_filter.mpr ⟨List.mem_of_getElem? (i := 4) (by decide +kernel), rfl⟩
theorem q_5 : Cond.selects "ShortBridge$Deal" ⟨"ShortBridge$Deal", "rankOfOwners", "()J"⟩ ⟨"ShortBridge$Deal", "rankOfOwners", "()J"⟩ ∈ zG := List.mem_filter.mpr ⟨List.mem_of_getElem? (i := 5) (by decide +kernel), rfl⟩
theorem q_6 : Cond.selects "ShortBridge$Auction" ⟨"ShortBridge$Auction", "placeOfLatest", "(I)I"⟩ ⟨"ShortBridge$Auction", "placeOfLatest", "(I)I"⟩ ∈ zG := List.mem_filter.mpr ⟨List.mem_of_getElem? (i := 6) (by decide +kernel), rfl⟩
theorem q_7 : Cond.selects "ShortBridge$Auction" ⟨"ShortBridge$Auction", "callerOf", "(I)I"⟩ ⟨"ShortBridge$Auction", "callerOf", "(I)I"⟩ ∈ zG := List.mem_filter.mpr ⟨List.mem_of_getElem? (i := 7) (by decide +kernel), rfl⟩
theorem q_8 : Cond.selects "ShortBridge$Auction" ⟨"ShortBridge$Auction", "isSameSide", "(II)Z"⟩ ⟨"ShortBridge$Auction", "isSameSide", "(II)Z"⟩ ∈ zG := List.mem_filter.mpr ⟨List.mem_of_getElem? (i := 8) (by decide +kernel), rfl⟩
theorem q_9 : Cond.selects "java/lang/Throwable" ⟨"java/lang/Throwable", "fillInStackTrace", "(I)Ljava/lang/Throwable;"⟩ ⟨"java/lang/Throwable", "fillInStackTrace", "(I)Ljava/lang/Throwable;"⟩ ∈ zG := List.mem_filter.mpr ⟨List.mem_of_getElem? (i := 9) (by decide +kernel), rfl⟩
theorem q_10 : Cond.selects "ShortBridge$Auction" ⟨"ShortBridge$Auction", "latestOfOthers", "()I"⟩ ⟨"ShortBridge$Auction", "latestOfOthers", "()I"⟩ ∈ zG := List.mem_filter.mpr ⟨List.mem_of_getElem? (i := 10) (by decide +kernel), rfl⟩
theorem q_11 : Cond.selects "ShortBridge$Hands" ⟨"ShortBridge$Hands", "winnerOf", "(I)I"⟩ ⟨"ShortBridge$Hands", "winnerOf", "(I)I"⟩ ∈ zG := List.mem_filter.mpr ⟨List.mem_of_getElem? (i := 11) (by decide +kernel), rfl⟩
theorem q_12 : Cond.selects "ShortBridge$Hands" ⟨"ShortBridge$Hands", "beats", "(II)Z"⟩ ⟨"ShortBridge$Hands", "beats", "(II)Z"⟩ ∈ zG := List.mem_filter.mpr ⟨List.mem_of_getElem? (i := 12) (by decide +kernel), rfl⟩
theorem q_13 : Cond.selects "ShortBridge" ⟨"ShortBridge", "scoreOfSide0", "()I"⟩ ⟨"ShortBridge", "scoreOfSide0", "()I"⟩ ∈ zG := List.mem_filter.mpr ⟨List.mem_of_getElem? (i := 13) (by decide +kernel), rfl⟩
theorem q_14 : Cond.selects "ShortBridgeModel" ⟨"ShortBridgeModel", "unrank", "(J)V"⟩ ⟨"ShortBridgeModel", "unrank", "(J)V"⟩ ∈ zG := List.mem_filter.mpr ⟨List.mem_of_getElem? (i := 14) (by decide +kernel), rfl⟩
theorem q_15 : Cond.selects "ShortBridgeModel" ⟨"ShortBridgeModel", "rowsWith", "(II)J"⟩ ⟨"ShortBridgeModel", "rowsWith", "(II)J"⟩ ∈ zG := List.mem_filter.mpr ⟨List.mem_of_getElem? (i := 15) (by decide +kernel), rfl⟩
theorem q_16 : Cond.selects "ShortBridgeModel" ⟨"ShortBridgeModel", "rows", "(IIII)J"⟩ ⟨"ShortBridgeModel", "rows", "(IIII)J"⟩ ∈ zG := List.mem_filter.mpr ⟨List.mem_of_getElem? (i := 16) (by decide +kernel), rfl⟩
theorem q_17 : Cond.selects "ShortBridgeModel" ⟨"ShortBridgeModel", "begin", "(II)V"⟩ ⟨"ShortBridgeModel", "begin", "(II)V"⟩ ∈ zG := List.mem_filter.mpr ⟨List.mem_of_getElem? (i := 17) (by decide +kernel), rfl⟩
theorem q_18 : Cond.selects "ShortBridgeModel" ⟨"ShortBridgeModel", "rank", "()J"⟩ ⟨"ShortBridgeModel", "rank", "()J"⟩ ∈ zG := List.mem_filter.mpr ⟨List.mem_of_getElem? (i := 18) (by decide +kernel), rfl⟩
theorem q_19 : Cond.selects "ShortBridgeModel" ⟨"ShortBridgeModel", "phaseNow", "()I"⟩ ⟨"ShortBridgeModel", "phaseNow", "()I"⟩ ∈ zG := List.mem_filter.mpr ⟨List.mem_of_getElem? (i := 19) (by decide +kernel), rfl⟩
theorem q_20 : Cond.selects "ShortBridgeModel" ⟨"ShortBridgeModel", "readCalls", "()V"⟩ ⟨"ShortBridgeModel", "readCalls", "()V"⟩ ∈ zG := List.mem_filter.mpr ⟨List.mem_of_getElem? (i := 20) (by decide +kernel), rfl⟩
theorem q_21 : Cond.selects "ShortBridgeModel" ⟨"ShortBridgeModel", "firstOf", "(I)I"⟩ ⟨"ShortBridgeModel", "firstOf", "(I)I"⟩ ∈ zG := List.mem_filter.mpr ⟨List.mem_of_getElem? (i := 21) (by decide +kernel), rfl⟩
theorem q_22 : Cond.selects "ShortBridgeModel" ⟨"ShortBridgeModel", "callerAt", "(I)I"⟩ ⟨"ShortBridgeModel", "callerAt", "(I)I"⟩ ∈ zG := List.mem_filter.mpr ⟨List.mem_of_getElem? (i := 22) (by decide +kernel), rfl⟩
theorem q_23 : Cond.selects "ShortBridgeModel" ⟨"ShortBridgeModel", "latestBefore", "(I)I"⟩ ⟨"ShortBridgeModel", "latestBefore", "(I)I"⟩ ∈ zG := List.mem_filter.mpr ⟨List.mem_of_getElem? (i := 23) (by decide +kernel), rfl⟩
theorem q_24 : Cond.selects "ShortBridgeModel" ⟨"ShortBridgeModel", "allowed", "(I)Z"⟩ ⟨"ShortBridgeModel", "allowed", "(I)Z"⟩ ∈ zG := List.mem_filter.mpr ⟨List.mem_of_getElem? (i := 24) (by decide +kernel), rfl⟩
theorem q_25 : Cond.selects "ShortBridgeModel" ⟨"ShortBridgeModel", "readCards", "()V"⟩ ⟨"ShortBridgeModel", "readCards", "()V"⟩ ∈ zG := List.mem_filter.mpr ⟨List.mem_of_getElem? (i := 25) (by decide +kernel), rfl⟩
theorem q_26 : Cond.selects "ShortBridgeModel" ⟨"ShortBridgeModel", "goOn", "(I)V"⟩ ⟨"ShortBridgeModel", "goOn", "(I)V"⟩ ∈ zG := List.mem_filter.mpr ⟨List.mem_of_getElem? (i := 26) (by decide +kernel), rfl⟩
theorem q_27 : Cond.selects "ShortBridgeModel" ⟨"ShortBridgeModel", "height", "(II)I"⟩ ⟨"ShortBridgeModel", "height", "(II)I"⟩ ∈ zG := List.mem_filter.mpr ⟨List.mem_of_getElem? (i := 27) (by decide +kernel), rfl⟩
theorem q_28 : Cond.selects "ShortBridgeModel" ⟨"ShortBridgeModel", "trump", "()I"⟩ ⟨"ShortBridgeModel", "trump", "()I"⟩ ∈ zG := List.mem_filter.mpr ⟨List.mem_of_getElem? (i := 28) (by decide +kernel), rfl⟩
theorem q_29 : Cond.selects "ShortBridgeModel" ⟨"ShortBridgeModel", "holds", "(III)Z"⟩ ⟨"ShortBridgeModel", "holds", "(III)Z"⟩ ∈ zG := List.mem_filter.mpr ⟨List.mem_of_getElem? (i := 29) (by decide +kernel), rfl⟩
theorem q_30 : Cond.selects "ShortBridgeModel" ⟨"ShortBridgeModel", "follows", "(II)Z"⟩ ⟨"ShortBridgeModel", "follows", "(II)Z"⟩ ∈ zG := List.mem_filter.mpr ⟨List.mem_of_getElem? (i := 30) (by decide +kernel), rfl⟩
theorem q_31 : Cond.selects "ShortBridgeModel" ⟨"ShortBridgeModel", "scoreNow", "()I"⟩ ⟨"ShortBridgeModel", "scoreNow", "()I"⟩ ∈ zG := List.mem_filter.mpr ⟨List.mem_of_getElem? (i := 31) (by decide +kernel), rfl⟩
theorem q_32 : Cond.selects "ShortBridgeModel" ⟨"ShortBridgeModel", "solveFrom", "(I)I"⟩ ⟨"ShortBridgeModel", "solveFrom", "(I)I"⟩ ∈ zG := List.mem_filter.mpr ⟨List.mem_of_getElem? (i := 32) (by decide +kernel), rfl⟩
theorem q_33 : Cond.selects "ShortBridgeModel" ⟨"ShortBridgeModel", "enter", "(III)V"⟩ ⟨"ShortBridgeModel", "enter", "(III)V"⟩ ∈ zG := List.mem_filter.mpr ⟨List.mem_of_getElem? (i := 33) (by decide +kernel), rfl⟩
theorem q_34 : Cond.selects "ShortBridgeModel" ⟨"ShortBridgeModel", "ours", "(I)Z"⟩ ⟨"ShortBridgeModel", "ours", "(I)Z"⟩ ∈ zG := List.mem_filter.mpr ⟨List.mem_of_getElem? (i := 34) (by decide +kernel), rfl⟩
theorem q_35 : Cond.selects "ShortBridgeModel" ⟨"ShortBridgeModel", "nextTry", "(I)I"⟩ ⟨"ShortBridgeModel", "nextTry", "(I)I"⟩ ∈ zG := List.mem_filter.mpr ⟨List.mem_of_getElem? (i := 35) (by decide +kernel), rfl⟩
theorem q_36 : Cond.selects "ShortBridgeModel" ⟨"ShortBridgeModel", "take", "(II)V"⟩ ⟨"ShortBridgeModel", "take", "(II)V"⟩ ∈ zG := List.mem_filter.mpr ⟨List.mem_of_getElem? (i := 36) (by decide +kernel), rfl⟩
theorem q_37 : Cond.selects "ShortBridgeModel" ⟨"ShortBridgeModel", "isResult", "(I)Z"⟩ ⟨"ShortBridgeModel", "isResult", "(I)Z"⟩ ∈ zG := List.mem_filter.mpr ⟨List.mem_of_getElem? (i := 37) (by decide +kernel), rfl⟩
theorem q_38 : Cond.initialized "ShortBridgeLaw" ∈ zG := List.mem_filter.mpr ⟨List.mem_of_getElem? (i := 38) (by decide +kernel), rfl⟩
theorem q_39 : Cond.initialized "ShortBridge" ∈ zG := List.mem_filter.mpr ⟨List.mem_of_getElem? (i := 39) (by decide +kernel), rfl⟩
theorem q_40 : Cond.initialized "ShortBridge$Deal" ∈ zG := List.mem_filter.mpr ⟨List.mem_of_getElem? (i := 40) (by decide +kernel), rfl⟩
theorem q_41 : Cond.initialized "ShortBridge$Auction" ∈ zG := List.mem_filter.mpr ⟨List.mem_of_getElem? (i := 41) (by decide +kernel), rfl⟩
theorem q_42 : Cond.initialized "ShortBridge$Hands" ∈ zG := List.mem_filter.mpr ⟨List.mem_of_getElem? (i := 42) (by decide +kernel), rfl⟩
theorem q_43 : Cond.initialized "ShortBridge$Results" ∈ zG := List.mem_filter.mpr ⟨List.mem_of_getElem? (i := 43) (by decide +kernel), rfl⟩
theorem q_44 : Cond.initialized "ShortBridgeModel" ∈ zG := List.mem_filter.mpr ⟨List.mem_of_getElem? (i := 44) (by decide +kernel), rfl⟩
theorem q_45 : Cond.initialized "java/lang/Throwable" ∈ zG := List.mem_filter.mpr ⟨List.mem_of_getElem? (i := 45) (by decide +kernel), rfl⟩
theorem q_46 : Cond.initialized "java/lang/Exception" ∈ zG := List.mem_filter.mpr ⟨List.mem_of_getElem? (i := 46) (by decide +kernel), rfl⟩
theorem q_47 : Cond.initialized "java/lang/RuntimeException" ∈ zG := List.mem_filter.mpr ⟨List.mem_of_getElem? (i := 47) (by decide +kernel), rfl⟩
theorem q_48 : Cond.initialized "java/lang/IllegalStateException" ∈ zG := List.mem_filter.mpr ⟨List.mem_of_getElem? (i := 48) (by decide +kernel), rfl⟩
theorem q_49 : Cond.initialized "java/lang/IllegalArgumentException" ∈ zG := List.mem_filter.mpr ⟨List.mem_of_getElem? (i := 49) (by decide +kernel), rfl⟩
theorem q_50 : Cond.initialized "java/lang/UnsupportedOperationException" ∈ zG := List.mem_filter.mpr ⟨List.mem_of_getElem? (i := 50) (by decide +kernel), rfl⟩
theorem q_51 : Cond.initialized "java/util/NoSuchElementException" ∈ zG := List.mem_filter.mpr ⟨List.mem_of_getElem? (i := 51) (by decide +kernel), rfl⟩
theorem q_52 : Cond.initialized "ShortBridge$Scoring" ∈ zG := List.mem_filter.mpr ⟨List.mem_of_getElem? (i := 52) (by decide +kernel), rfl⟩
theorem q_53 : Cond.initialized "ShortBridge$Solver" ∈ zG := List.mem_filter.mpr ⟨List.mem_of_getElem? (i := 53) (by decide +kernel), rfl⟩
theorem q_54 : Cond.initialized "java/lang/IndexOutOfBoundsException" ∈ zG := List.mem_filter.mpr ⟨List.mem_of_getElem? (i := 54) (by decide +kernel), rfl⟩
theorem q_55 : Cond.initialized "java/lang/Math" ∈ zG := List.mem_filter.mpr ⟨List.mem_of_getElem? (i := 55) (by decide +kernel), rfl⟩
theorem q_56 : Cond.classLink "ShortBridgeLaw" 8 "ShortBridge" ∈ zG := List.mem_filter.mpr ⟨List.mem_of_getElem? (i := 56) (by decide +kernel), rfl⟩
theorem q_57 : Cond.instantiable "ShortBridge" 6 ∈ zG := List.mem_filter.mpr ⟨List.mem_of_getElem? (i := 57) (by decide +kernel), rfl⟩
theorem q_58 : Cond.methodLink "ShortBridgeLaw" 44 ⟨"ShortBridge", "<init>", "()V"⟩ ∈ zG := List.mem_filter.mpr ⟨List.mem_of_getElem? (i := 58) (by decide +kernel), rfl⟩
theorem q_59 : Cond.instanceMethod ⟨"ShortBridge", "<init>", "()V"⟩ ∈ zG := List.mem_filter.mpr ⟨List.mem_of_getElem? (i := 59) (by decide +kernel), rfl⟩
theorem q_60 : Cond.code ⟨"ShortBridge", "<init>", "()V"⟩ prog_1_method_1_code 1 none ∈ zG := List.mem_filter.mpr ⟨List.mem_of_getElem? (i := 60) (by decide +kernel), rfl⟩
theorem q_61 : Cond.methodLink "ShortBridge" 1 ⟨"java/lang/Object", "<init>", "()V"⟩ ∈ zG := List.mem_filter.mpr ⟨List.mem_of_getElem? (i := 61) (by decide +kernel), rfl⟩
theorem q_62 : Cond.instanceMethod ⟨"java/lang/Object", "<init>", "()V"⟩ ∈ zG := List.mem_filter.mpr ⟨List.mem_of_getElem? (i := 62) (by decide +kernel), rfl⟩
theorem q_63 : Cond.code ⟨"java/lang/Object", "<init>", "()V"⟩ object_method_1_code 1 none ∈ zG := List.mem_filter.mpr ⟨List.mem_of_getElem? (i := 63) (by decide +kernel), rfl⟩
theorem q_64 : Cond.classLink "ShortBridge" 7 "ShortBridge$Deal" ∈ zG := List.mem_filter.mpr ⟨List.mem_of_getElem? (i := 64) (by decide +kernel), rfl⟩
theorem q_65 : Cond.instantiable "ShortBridge$Deal" 4 ∈ zG := List.mem_filter.mpr ⟨List.mem_of_getElem? (i := 65) (by decide +kernel), rfl⟩
theorem q_67 : Cond.instanceMethod ⟨"ShortBridge$Deal", "<init>", "()V"⟩ ∈ zG := List.mem_filter.mpr ⟨List.mem_of_getElem? (i := 67) (by decide +kernel), rfl⟩
theorem q_68 : Cond.code ⟨"ShortBridge$Deal", "<init>", "()V"⟩ prog_3_method_1_code 1 none ∈ zG := List.mem_filter.mpr ⟨List.mem_of_getElem? (i := 68) (by decide +kernel), rfl⟩
theorem q_69 : Cond.methodLink "ShortBridge$Deal" 3 ⟨"java/lang/Object", "<init>", "()V"⟩ ∈ zG := List.mem_filter.mpr ⟨List.mem_of_getElem? (i := 69) (by decide +kernel), rfl⟩
theorem q_70 : Cond.fieldLink "ShortBridge$Deal" 9 "ShortBridge$Deal" "owners" "[I" ∈ zG := List.mem_filter.mpr ⟨List.mem_of_getElem? (i := 70) (by decide +kernel), rfl⟩
theorem q_72 : Cond.fieldLink "ShortBridge$Deal" 15 "ShortBridge$Deal" "row" "[I" ∈ zG := List.mem_filter.mpr ⟨List.mem_of_getElem? (i := 72) (by decide +kernel), rfl⟩
theorem q_73 : Cond.fieldLink "ShortBridge$Deal" 18 "ShortBridge$Deal" "left" "[I" ∈ zG := List.mem_filter.mpr ⟨List.mem_of_getElem? (i := 73) (by decide +kernel), rfl⟩
theorem q_74 : Cond.fieldLink "ShortBridge$Deal" 23 "ShortBridge$Deal" "rank" "J" ∈ zG := List.mem_filter.mpr ⟨List.mem_of_getElem? (i := 74) (by decide +kernel), rfl⟩
theorem q_76 : Cond.laysFinal "ShortBridge$Deal" "ShortBridge$Deal" "owners" "[I" ∈ zG := List.mem_filter.mpr ⟨List.mem_of_getElem? (i := 76) (by decide +kernel), rfl⟩
theorem q_78 : Cond.laysFinal "ShortBridge$Deal" "ShortBridge$Deal" "row" "[I" ∈ zG := List.mem_filter.mpr ⟨List.mem_of_getElem? (i := 78) (by decide +kernel), rfl⟩
theorem q_80 : Cond.laysFinal "ShortBridge$Deal" "ShortBridge$Deal" "left" "[I" ∈ zG := List.mem_filter.mpr ⟨List.mem_of_getElem? (i := 80) (by decide +kernel), rfl⟩
theorem q_82 : Cond.lays "ShortBridge$Deal" "ShortBridge$Deal" "rank" "J" ∈ zG := List.mem_filter.mpr ⟨List.mem_of_getElem? (i := 82) (by decide +kernel), rfl⟩
theorem q_85 : Cond.arrayClass FieldType.int ∈ zG := List.mem_filter.mpr ⟨List.mem_of_getElem? (i := 85) (by decide +kernel), rfl⟩
theorem q_86 : Cond.classLink "ShortBridge" 16 "ShortBridge$Auction" ∈ zG := List.mem_filter.mpr ⟨List.mem_of_getElem? (i := 86) (by decide +kernel), rfl⟩
theorem q_87 : Cond.instantiable "ShortBridge$Auction" 3 ∈ zG := List.mem_filter.mpr ⟨List.mem_of_getElem? (i := 87) (by decide +kernel), rfl⟩
theorem q_89 : Cond.instanceMethod ⟨"ShortBridge$Auction", "<init>", "()V"⟩ ∈ zG := List.mem_filter.mpr ⟨List.mem_of_getElem? (i := 89) (by decide +kernel), rfl⟩
theorem q_90 : Cond.code ⟨"ShortBridge$Auction", "<init>", "()V"⟩ prog_2_method_1_code 1 none ∈ zG := List.mem_filter.mpr ⟨List.mem_of_getElem? (i := 90) (by decide +kernel), rfl⟩
theorem q_91 : Cond.methodLink "ShortBridge$Auction" 3 ⟨"java/lang/Object", "<init>", "()V"⟩ ∈ zG := List.mem_filter.mpr ⟨List.mem_of_getElem? (i := 91) (by decide +kernel), rfl⟩
theorem q_92 : Cond.fieldLink "ShortBridge$Auction" 11 "ShortBridge$Auction" "calls" "[I" ∈ zG := List.mem_filter.mpr ⟨List.mem_of_getElem? (i := 92) (by decide +kernel), rfl⟩
theorem q_93 : Cond.fieldLink "ShortBridge$Auction" 19 "ShortBridge$Auction" "count" "I" ∈ zG := List.mem_filter.mpr ⟨List.mem_of_getElem? (i := 93) (by decide +kernel), rfl⟩
theorem q_95 : Cond.fieldLink "ShortBridge$Auction" 15 "ShortBridge$Auction" "dealer" "I" ∈ zG := List.mem_filter.mpr ⟨List.mem_of_getElem? (i := 95) (by decide +kernel), rfl⟩
theorem q_96 : Cond.laysFinal "ShortBridge$Auction" "ShortBridge$Auction" "calls" "[I" ∈ zG := List.mem_filter.mpr ⟨List.mem_of_getElem? (i := 96) (by decide +kernel), rfl⟩
theorem q_98 : Cond.lays "ShortBridge$Auction" "ShortBridge$Auction" "count" "I" ∈ zG := List.mem_filter.mpr ⟨List.mem_of_getElem? (i := 98) (by decide +kernel), rfl⟩
theorem q_100 : Cond.lays "ShortBridge$Auction" "ShortBridge$Auction" "dealer" "I" ∈ zG := List.mem_filter.mpr ⟨List.mem_of_getElem? (i := 100) (by decide +kernel), rfl⟩
theorem q_103 : Cond.classLink "ShortBridge" 23 "ShortBridge$Hands" ∈ zG := List.mem_filter.mpr ⟨List.mem_of_getElem? (i := 103) (by decide +kernel), rfl⟩
theorem q_104 : Cond.instantiable "ShortBridge$Hands" 6 ∈ zG := List.mem_filter.mpr ⟨List.mem_of_getElem? (i := 104) (by decide +kernel), rfl⟩
theorem q_106 : Cond.instanceMethod ⟨"ShortBridge$Hands", "<init>", "()V"⟩ ∈ zG := List.mem_filter.mpr ⟨List.mem_of_getElem? (i := 106) (by decide +kernel), rfl⟩
theorem q_107 : Cond.code ⟨"ShortBridge$Hands", "<init>", "()V"⟩ prog_4_method_1_code 1 none ∈ zG := List.mem_filter.mpr ⟨List.mem_of_getElem? (i := 107) (by decide +kernel), rfl⟩
theorem q_108 : Cond.methodLink "ShortBridge$Hands" 3 ⟨"java/lang/Object", "<init>", "()V"⟩ ∈ zG := List.mem_filter.mpr ⟨List.mem_of_getElem? (i := 108) (by decide +kernel), rfl⟩
theorem q_109 : Cond.fieldLink "ShortBridge$Hands" 9 "ShortBridge$Hands" "held" "[I" ∈ zG := List.mem_filter.mpr ⟨List.mem_of_getElem? (i := 109) (by decide +kernel), rfl⟩
theorem q_110 : Cond.fieldLink "ShortBridge$Hands" 15 "ShortBridge$Hands" "cards" "[I" ∈ zG := List.mem_filter.mpr ⟨List.mem_of_getElem? (i := 110) (by decide +kernel), rfl⟩
theorem q_112 : Cond.fieldLink "ShortBridge$Hands" 18 "ShortBridge$Hands" "played" "[I" ∈ zG := List.mem_filter.mpr ⟨List.mem_of_getElem? (i := 112) (by decide +kernel), rfl⟩
theorem q_113 : Cond.fieldLink "ShortBridge$Hands" 21 "ShortBridge$Hands" "leaders" "[I" ∈ zG := List.mem_filter.mpr ⟨List.mem_of_getElem? (i := 113) (by decide +kernel), rfl⟩
theorem q_115 : Cond.fieldLink "ShortBridge$Hands" 32 "ShortBridge$Hands" "count" "I" ∈ zG := List.mem_filter.mpr ⟨List.mem_of_getElem? (i := 115) (by decide +kernel), rfl⟩
theorem q_117 : Cond.fieldLink "ShortBridge$Hands" 24 "ShortBridge$Hands" "trump" "I" ∈ zG := List.mem_filter.mpr ⟨List.mem_of_getElem? (i := 117) (by decide +kernel), rfl⟩
theorem q_118 : Cond.laysFinal "ShortBridge$Hands" "ShortBridge$Hands" "held" "[I" ∈ zG := List.mem_filter.mpr ⟨List.mem_of_getElem? (i := 118) (by decide +kernel), rfl⟩
theorem q_120 : Cond.laysFinal "ShortBridge$Hands" "ShortBridge$Hands" "cards" "[I" ∈ zG := List.mem_filter.mpr ⟨List.mem_of_getElem? (i := 120) (by decide +kernel), rfl⟩
theorem q_122 : Cond.laysFinal "ShortBridge$Hands" "ShortBridge$Hands" "played" "[I" ∈ zG := List.mem_filter.mpr ⟨List.mem_of_getElem? (i := 122) (by decide +kernel), rfl⟩
theorem q_124 : Cond.laysFinal "ShortBridge$Hands" "ShortBridge$Hands" "leaders" "[I" ∈ zG := List.mem_filter.mpr ⟨List.mem_of_getElem? (i := 124) (by decide +kernel), rfl⟩
theorem q_126 : Cond.lays "ShortBridge$Hands" "ShortBridge$Hands" "count" "I" ∈ zG := List.mem_filter.mpr ⟨List.mem_of_getElem? (i := 126) (by decide +kernel), rfl⟩
theorem q_128 : Cond.lays "ShortBridge$Hands" "ShortBridge$Hands" "trump" "I" ∈ zG := List.mem_filter.mpr ⟨List.mem_of_getElem? (i := 128) (by decide +kernel), rfl⟩
theorem q_131 : Cond.classLink "ShortBridge" 30 "ShortBridge$Results" ∈ zG := List.mem_filter.mpr ⟨List.mem_of_getElem? (i := 131) (by decide +kernel), rfl⟩
theorem q_132 : Cond.instantiable "ShortBridge$Results" 3 ∈ zG := List.mem_filter.mpr ⟨List.mem_of_getElem? (i := 132) (by decide +kernel), rfl⟩
theorem q_134 : Cond.instanceMethod ⟨"ShortBridge$Results", "<init>", "()V"⟩ ∈ zG := List.mem_filter.mpr ⟨List.mem_of_getElem? (i := 134) (by decide +kernel), rfl⟩
theorem q_135 : Cond.code ⟨"ShortBridge$Results", "<init>", "()V"⟩ prog_5_method_1_code 1 none ∈ zG := List.mem_filter.mpr ⟨List.mem_of_getElem? (i := 135) (by decide +kernel), rfl⟩
theorem q_136 : Cond.methodLink "ShortBridge$Results" 1 ⟨"java/lang/Object", "<init>", "()V"⟩ ∈ zG := List.mem_filter.mpr ⟨List.mem_of_getElem? (i := 136) (by decide +kernel), rfl⟩
theorem q_137 : Cond.fieldLink "ShortBridge$Results" 9 "ShortBridge$Results" "numbers" "[J" ∈ zG := List.mem_filter.mpr ⟨List.mem_of_getElem? (i := 137) (by decide +kernel), rfl⟩
theorem q_138 : Cond.fieldLink "ShortBridge$Results" 13 "ShortBridge$Results" "scores" "[I" ∈ zG := List.mem_filter.mpr ⟨List.mem_of_getElem? (i := 138) (by decide +kernel), rfl⟩
theorem q_140 : Cond.fieldLink "ShortBridge$Results" 17 "ShortBridge$Results" "count" "I" ∈ zG := List.mem_filter.mpr ⟨List.mem_of_getElem? (i := 140) (by decide +kernel), rfl⟩
theorem q_142 : Cond.laysFinal "ShortBridge$Results" "ShortBridge$Results" "numbers" "[J" ∈ zG := List.mem_filter.mpr ⟨List.mem_of_getElem? (i := 142) (by decide +kernel), rfl⟩
theorem q_144 : Cond.laysFinal "ShortBridge$Results" "ShortBridge$Results" "scores" "[I" ∈ zG := List.mem_filter.mpr ⟨List.mem_of_getElem? (i := 144) (by decide +kernel), rfl⟩
theorem q_146 : Cond.lays "ShortBridge$Results" "ShortBridge$Results" "count" "I" ∈ zG := List.mem_filter.mpr ⟨List.mem_of_getElem? (i := 146) (by decide +kernel), rfl⟩
theorem q_149 : Cond.arrayClass FieldType.long ∈ zG := List.mem_filter.mpr ⟨List.mem_of_getElem? (i := 149) (by decide +kernel), rfl⟩
theorem q_150 : Cond.fieldLink "ShortBridge" 10 "ShortBridge" "dealt" "LShortBridge$Deal;" ∈ zG := List.mem_filter.mpr ⟨List.mem_of_getElem? (i := 150) (by decide +kernel), rfl⟩
theorem q_151 : Cond.fieldLink "ShortBridge" 19 "ShortBridge" "auction" "LShortBridge$Auction;" ∈ zG := List.mem_filter.mpr ⟨List.mem_of_getElem? (i := 151) (by decide +kernel), rfl⟩
theorem q_152 : Cond.fieldLink "ShortBridge" 26 "ShortBridge" "hands" "LShortBridge$Hands;" ∈ zG := List.mem_filter.mpr ⟨List.mem_of_getElem? (i := 152) (by decide +kernel), rfl⟩
theorem q_153 : Cond.fieldLink "ShortBridge" 33 "ShortBridge" "results" "LShortBridge$Results;" ∈ zG := List.mem_filter.mpr ⟨List.mem_of_getElem? (i := 153) (by decide +kernel), rfl⟩
theorem q_154 : Cond.fieldLink "ShortBridge" 62 "ShortBridge" "hasBoard" "Z" ∈ zG := List.mem_filter.mpr ⟨List.mem_of_getElem? (i := 154) (by decide +kernel), rfl⟩
theorem q_155 : Cond.fieldLink "ShortBridge" 208 "ShortBridge" "vulnerability" "I" ∈ zG := List.mem_filter.mpr ⟨List.mem_of_getElem? (i := 155) (by decide +kernel), rfl⟩
theorem q_156 : Cond.laysFinal "ShortBridge" "ShortBridge" "dealt" "LShortBridge$Deal;" ∈ zG := List.mem_filter.mpr ⟨List.mem_of_getElem? (i := 156) (by decide +kernel), rfl⟩
theorem q_158 : Cond.laysFinal "ShortBridge" "ShortBridge" "auction" "LShortBridge$Auction;" ∈ zG := List.mem_filter.mpr ⟨List.mem_of_getElem? (i := 158) (by decide +kernel), rfl⟩
theorem q_160 : Cond.laysFinal "ShortBridge" "ShortBridge" "hands" "LShortBridge$Hands;" ∈ zG := List.mem_filter.mpr ⟨List.mem_of_getElem? (i := 160) (by decide +kernel), rfl⟩
theorem q_162 : Cond.laysFinal "ShortBridge" "ShortBridge" "results" "LShortBridge$Results;" ∈ zG := List.mem_filter.mpr ⟨List.mem_of_getElem? (i := 162) (by decide +kernel), rfl⟩
theorem q_164 : Cond.lays "ShortBridge" "ShortBridge" "hasBoard" "Z" ∈ zG := List.mem_filter.mpr ⟨List.mem_of_getElem? (i := 164) (by decide +kernel), rfl⟩
theorem q_166 : Cond.lays "ShortBridge" "ShortBridge" "vulnerability" "I" ∈ zG := List.mem_filter.mpr ⟨List.mem_of_getElem? (i := 166) (by decide +kernel), rfl⟩
theorem q_169 : Cond.methodLink "ShortBridgeLaw" 50 ⟨"ShortBridge", "deal", "(JII)Z"⟩ ∈ zG := List.mem_filter.mpr ⟨List.mem_of_getElem? (i := 169) (by decide +kernel), rfl⟩
theorem q_170 : Cond.instanceMethod ⟨"ShortBridge", "deal", "(JII)Z"⟩ ∈ zG := List.mem_filter.mpr ⟨List.mem_of_getElem? (i := 170) (by decide +kernel), rfl⟩
theorem q_171 : Cond.selects "ShortBridge" ⟨"ShortBridge", "deal", "(JII)Z"⟩ ⟨"ShortBridge", "deal", "(JII)Z"⟩ ∈ zG := List.mem_filter.mpr ⟨List.mem_of_getElem? (i := 171) (by decide +kernel), rfl⟩
theorem q_172 : Cond.code ⟨"ShortBridge", "deal", "(JII)Z"⟩ prog_1_method_2_code 5 (some FieldType.boolean) ∈ zG := List.mem_filter.mpr ⟨List.mem_of_getElem? (i := 172) (by decide +kernel), rfl⟩
theorem q_173 : Cond.methodLink "ShortBridge" 37 ⟨"ShortBridge$Deal", "isNumber", "(J)Z"⟩ ∈ zG := List.mem_filter.mpr ⟨List.mem_of_getElem? (i := 173) (by decide +kernel), rfl⟩
theorem q_174 : Cond.static ⟨"ShortBridge$Deal", "isNumber", "(J)Z"⟩ ∈ zG := List.mem_filter.mpr ⟨List.mem_of_getElem? (i := 174) (by decide +kernel), rfl⟩
theorem q_175 : Cond.code ⟨"ShortBridge$Deal", "isNumber", "(J)Z"⟩ prog_3_method_2_code 2 (some FieldType.boolean) ∈ zG := List.mem_filter.mpr ⟨List.mem_of_getElem? (i := 175) (by decide +kernel), rfl⟩
theorem q_176 : Cond.constantLong "ShortBridge$Deal" 21 11732745024 ∈ zG := List.mem_filter.mpr ⟨List.mem_of_getElem? (i := 176) (by decide +kernel), rfl⟩
theorem q_177 : Cond.methodLink "ShortBridge" 41 ⟨"ShortBridge", "canBegin", "(II)Z"⟩ ∈ zG := List.mem_filter.mpr ⟨List.mem_of_getElem? (i := 177) (by decide +kernel), rfl⟩
theorem q_178 : Cond.static ⟨"ShortBridge", "canBegin", "(II)Z"⟩ ∈ zG := List.mem_filter.mpr ⟨List.mem_of_getElem? (i := 178) (by decide +kernel), rfl⟩
theorem q_179 : Cond.code ⟨"ShortBridge", "canBegin", "(II)Z"⟩ prog_1_method_22_code 2 (some FieldType.boolean) ∈ zG := List.mem_filter.mpr ⟨List.mem_of_getElem? (i := 179) (by decide +kernel), rfl⟩
theorem q_180 : Cond.methodLink "ShortBridge" 86 ⟨"ShortBridge", "isPlayer", "(I)Z"⟩ ∈ zG := List.mem_filter.mpr ⟨List.mem_of_getElem? (i := 180) (by decide +kernel), rfl⟩
theorem q_181 : Cond.static ⟨"ShortBridge", "isPlayer", "(I)Z"⟩ ∈ zG := List.mem_filter.mpr ⟨List.mem_of_getElem? (i := 181) (by decide +kernel), rfl⟩
theorem q_182 : Cond.code ⟨"ShortBridge", "isPlayer", "(I)Z"⟩ prog_1_method_19_code 1 (some FieldType.boolean) ∈ zG := List.mem_filter.mpr ⟨List.mem_of_getElem? (i := 182) (by decide +kernel), rfl⟩
theorem q_183 : Cond.methodLink "ShortBridge" 45 ⟨"ShortBridge$Deal", "takeNumber", "(J)V"⟩ ∈ zG := List.mem_filter.mpr ⟨List.mem_of_getElem? (i := 183) (by decide +kernel), rfl⟩
theorem q_184 : Cond.instanceMethod ⟨"ShortBridge$Deal", "takeNumber", "(J)V"⟩ ∈ zG := List.mem_filter.mpr ⟨List.mem_of_getElem? (i := 184) (by decide +kernel), rfl⟩
theorem q_185 : Cond.selects "ShortBridge$Deal" ⟨"ShortBridge$Deal", "takeNumber", "(J)V"⟩ ⟨"ShortBridge$Deal", "takeNumber", "(J)V"⟩ ∈ zG := List.mem_filter.mpr ⟨List.mem_of_getElem? (i := 185) (by decide +kernel), rfl⟩
theorem q_186 : Cond.code ⟨"ShortBridge$Deal", "takeNumber", "(J)V"⟩ prog_3_method_3_code 11 none ∈ zG := List.mem_filter.mpr ⟨List.mem_of_getElem? (i := 186) (by decide +kernel), rfl⟩
theorem q_187 : Cond.methodLink "ShortBridge$Deal" 27 ⟨"ShortBridge$Deal", "fillLeft", "()V"⟩ ∈ zG := List.mem_filter.mpr ⟨List.mem_of_getElem? (i := 187) (by decide +kernel), rfl⟩
theorem q_189 : Cond.instanceMethod ⟨"ShortBridge$Deal", "fillLeft", "()V"⟩ ∈ zG := List.mem_filter.mpr ⟨List.mem_of_getElem? (i := 189) (by decide +kernel), rfl⟩
theorem q_190 : Cond.code ⟨"ShortBridge$Deal", "fillLeft", "()V"⟩ prog_3_method_7_code 2 none ∈ zG := List.mem_filter.mpr ⟨List.mem_of_getElem? (i := 190) (by decide +kernel), rfl⟩
theorem q_191 : Cond.methodLink "ShortBridge$Deal" 30 ⟨"ShortBridge$Deal", "share", "(JII)J"⟩ ∈ zG := List.mem_filter.mpr ⟨List.mem_of_getElem? (i := 191) (by decide +kernel), rfl⟩
theorem q_193 : Cond.instanceMethod ⟨"ShortBridge$Deal", "share", "(JII)J"⟩ ∈ zG := List.mem_filter.mpr ⟨List.mem_of_getElem? (i := 193) (by decide +kernel), rfl⟩
theorem q_194 : Cond.code ⟨"ShortBridge$Deal", "share", "(JII)J"⟩ prog_3_method_8_code 5 (some FieldType.long) ∈ zG := List.mem_filter.mpr ⟨List.mem_of_getElem? (i := 194) (by decide +kernel), rfl⟩
theorem q_195 : Cond.methodLink "ShortBridge" 49 ⟨"ShortBridge", "begin", "(II)V"⟩ ∈ zG := List.mem_filter.mpr ⟨List.mem_of_getElem? (i := 195) (by decide +kernel), rfl⟩
theorem q_197 : Cond.instanceMethod ⟨"ShortBridge", "begin", "(II)V"⟩ ∈ zG := List.mem_filter.mpr ⟨List.mem_of_getElem? (i := 197) (by decide +kernel), rfl⟩
theorem q_198 : Cond.code ⟨"ShortBridge", "begin", "(II)V"⟩ prog_1_method_23_code 3 none ∈ zG := List.mem_filter.mpr ⟨List.mem_of_getElem? (i := 198) (by decide +kernel), rfl⟩
theorem q_199 : Cond.methodLink "ShortBridge" 211 ⟨"ShortBridge$Auction", "begin", "(I)V"⟩ ∈ zG := List.mem_filter.mpr ⟨List.mem_of_getElem? (i := 199) (by decide +kernel), rfl⟩
theorem q_200 : Cond.instanceMethod ⟨"ShortBridge$Auction", "begin", "(I)V"⟩ ∈ zG := List.mem_filter.mpr ⟨List.mem_of_getElem? (i := 200) (by decide +kernel), rfl⟩
theorem q_201 : Cond.selects "ShortBridge$Auction" ⟨"ShortBridge$Auction", "begin", "(I)V"⟩ ⟨"ShortBridge$Auction", "begin", "(I)V"⟩ ∈ zG := List.mem_filter.mpr ⟨List.mem_of_getElem? (i := 201) (by decide +kernel), rfl⟩
theorem q_202 : Cond.code ⟨"ShortBridge$Auction", "begin", "(I)V"⟩ prog_2_method_5_code 2 none ∈ zG := List.mem_filter.mpr ⟨List.mem_of_getElem? (i := 202) (by decide +kernel), rfl⟩
theorem q_203 : Cond.methodLink "ShortBridge" 213 ⟨"ShortBridge$Hands", "take", "(LShortBridge$Deal;)V"⟩ ∈ zG := List.mem_filter.mpr ⟨List.mem_of_getElem? (i := 203) (by decide +kernel), rfl⟩
theorem q_204 : Cond.instanceMethod ⟨"ShortBridge$Hands", "take", "(LShortBridge$Deal;)V"⟩ ∈ zG := List.mem_filter.mpr ⟨List.mem_of_getElem? (i := 204) (by decide +kernel), rfl⟩
theorem q_205 : Cond.selects "ShortBridge$Hands" ⟨"ShortBridge$Hands", "take", "(LShortBridge$Deal;)V"⟩ ⟨"ShortBridge$Hands", "take", "(LShortBridge$Deal;)V"⟩ ∈ zG := List.mem_filter.mpr ⟨List.mem_of_getElem? (i := 205) (by decide +kernel), rfl⟩
theorem q_206 : Cond.code ⟨"ShortBridge$Hands", "take", "(LShortBridge$Deal;)V"⟩ prog_4_method_2_code 3 none ∈ zG := List.mem_filter.mpr ⟨List.mem_of_getElem? (i := 206) (by decide +kernel), rfl⟩
theorem q_207 : Cond.methodLink "ShortBridge$Hands" 28 ⟨"ShortBridge$Hands", "takeHand", "(LShortBridge$Deal;I)V"⟩ ∈ zG := List.mem_filter.mpr ⟨List.mem_of_getElem? (i := 207) (by decide +kernel), rfl⟩
theorem q_209 : Cond.instanceMethod ⟨"ShortBridge$Hands", "takeHand", "(LShortBridge$Deal;I)V"⟩ ∈ zG := List.mem_filter.mpr ⟨List.mem_of_getElem? (i := 209) (by decide +kernel), rfl⟩
theorem q_210 : Cond.code ⟨"ShortBridge$Hands", "takeHand", "(LShortBridge$Deal;I)V"⟩ prog_4_method_14_code 5 none ∈ zG := List.mem_filter.mpr ⟨List.mem_of_getElem? (i := 210) (by decide +kernel), rfl⟩
theorem q_211 : Cond.methodLink "ShortBridgeLaw" 55 ⟨"ShortBridge", "shuffle", "(JII)J"⟩ ∈ zG := List.mem_filter.mpr ⟨List.mem_of_getElem? (i := 211) (by decide +kernel), rfl⟩
theorem q_212 : Cond.instanceMethod ⟨"ShortBridge", "shuffle", "(JII)J"⟩ ∈ zG := List.mem_filter.mpr ⟨List.mem_of_getElem? (i := 212) (by decide +kernel), rfl⟩
theorem q_213 : Cond.selects "ShortBridge" ⟨"ShortBridge", "shuffle", "(JII)J"⟩ ⟨"ShortBridge", "shuffle", "(JII)J"⟩ ∈ zG := List.mem_filter.mpr ⟨List.mem_of_getElem? (i := 213) (by decide +kernel), rfl⟩
theorem q_214 : Cond.code ⟨"ShortBridge", "shuffle", "(JII)J"⟩ prog_1_method_3_code 5 (some FieldType.long) ∈ zG := List.mem_filter.mpr ⟨List.mem_of_getElem? (i := 214) (by decide +kernel), rfl⟩
theorem q_215 : Cond.constantLong "ShortBridge" 53 (-1) ∈ zG := List.mem_filter.mpr ⟨List.mem_of_getElem? (i := 215) (by decide +kernel), rfl⟩
theorem q_216 : Cond.methodLink "ShortBridge" 55 ⟨"ShortBridge$Deal", "takeSeed", "(J)V"⟩ ∈ zG := List.mem_filter.mpr ⟨List.mem_of_getElem? (i := 216) (by decide +kernel), rfl⟩
theorem q_217 : Cond.instanceMethod ⟨"ShortBridge$Deal", "takeSeed", "(J)V"⟩ ∈ zG := List.mem_filter.mpr ⟨List.mem_of_getElem? (i := 217) (by decide +kernel), rfl⟩
theorem q_218 : Cond.selects "ShortBridge$Deal" ⟨"ShortBridge$Deal", "takeSeed", "(J)V"⟩ ⟨"ShortBridge$Deal", "takeSeed", "(J)V"⟩ ∈ zG := List.mem_filter.mpr ⟨List.mem_of_getElem? (i := 218) (by decide +kernel), rfl⟩
theorem q_219 : Cond.code ⟨"ShortBridge$Deal", "takeSeed", "(J)V"⟩ prog_3_method_4_code 4 none ∈ zG := List.mem_filter.mpr ⟨List.mem_of_getElem? (i := 219) (by decide +kernel), rfl⟩
theorem q_220 : Cond.methodLink "ShortBridge$Deal" 34 ⟨"ShortBridge$Deal", "shuffleRow", "(J)V"⟩ ∈ zG := List.mem_filter.mpr ⟨List.mem_of_getElem? (i := 220) (by decide +kernel), rfl⟩
theorem q_222 : Cond.instanceMethod ⟨"ShortBridge$Deal", "shuffleRow", "(J)V"⟩ ∈ zG := List.mem_filter.mpr ⟨List.mem_of_getElem? (i := 222) (by decide +kernel), rfl⟩
theorem q_223 : Cond.code ⟨"ShortBridge$Deal", "shuffleRow", "(J)V"⟩ prog_3_method_5_code 8 none ∈ zG := List.mem_filter.mpr ⟨List.mem_of_getElem? (i := 223) (by decide +kernel), rfl⟩
theorem q_224 : Cond.constantLong "ShortBridge$Deal" 42 6364136223846793005 ∈ zG := List.mem_filter.mpr ⟨List.mem_of_getElem? (i := 224) (by decide +kernel), rfl⟩
theorem q_225 : Cond.constantLong "ShortBridge$Deal" 44 1442695040888963407 ∈ zG := List.mem_filter.mpr ⟨List.mem_of_getElem? (i := 225) (by decide +kernel), rfl⟩
theorem q_226 : Cond.methodLink "ShortBridge$Deal" 38 ⟨"ShortBridge$Deal", "rankOfOwners", "()J"⟩ ∈ zG := List.mem_filter.mpr ⟨List.mem_of_getElem? (i := 226) (by decide +kernel), rfl⟩
theorem q_228 : Cond.instanceMethod ⟨"ShortBridge$Deal", "rankOfOwners", "()J"⟩ ∈ zG := List.mem_filter.mpr ⟨List.mem_of_getElem? (i := 228) (by decide +kernel), rfl⟩
theorem q_229 : Cond.code ⟨"ShortBridge$Deal", "rankOfOwners", "()J"⟩ prog_3_method_6_code 8 (some FieldType.long) ∈ zG := List.mem_filter.mpr ⟨List.mem_of_getElem? (i := 229) (by decide +kernel), rfl⟩
theorem q_230 : Cond.methodLink "ShortBridgeLaw" 60 ⟨"ShortBridge", "number", "()J"⟩ ∈ zG := List.mem_filter.mpr ⟨List.mem_of_getElem? (i := 230) (by decide +kernel), rfl⟩
theorem q_231 : Cond.instanceMethod ⟨"ShortBridge", "number", "()J"⟩ ∈ zG := List.mem_filter.mpr ⟨List.mem_of_getElem? (i := 231) (by decide +kernel), rfl⟩
theorem q_232 : Cond.selects "ShortBridge" ⟨"ShortBridge", "number", "()J"⟩ ⟨"ShortBridge", "number", "()J"⟩ ∈ zG := List.mem_filter.mpr ⟨List.mem_of_getElem? (i := 232) (by decide +kernel), rfl⟩
theorem q_233 : Cond.code ⟨"ShortBridge", "number", "()J"⟩ prog_1_method_4_code 1 (some FieldType.long) ∈ zG := List.mem_filter.mpr ⟨List.mem_of_getElem? (i := 233) (by decide +kernel), rfl⟩
theorem q_234 : Cond.methodLink "ShortBridgeLaw" 65 ⟨"ShortBridge", "phase", "()I"⟩ ∈ zG := List.mem_filter.mpr ⟨List.mem_of_getElem? (i := 234) (by decide +kernel), rfl⟩
theorem q_235 : Cond.instanceMethod ⟨"ShortBridge", "phase", "()I"⟩ ∈ zG := List.mem_filter.mpr ⟨List.mem_of_getElem? (i := 235) (by decide +kernel), rfl⟩
theorem q_236 : Cond.selects "ShortBridge" ⟨"ShortBridge", "phase", "()I"⟩ ⟨"ShortBridge", "phase", "()I"⟩ ∈ zG := List.mem_filter.mpr ⟨List.mem_of_getElem? (i := 236) (by decide +kernel), rfl⟩
theorem q_237 : Cond.code ⟨"ShortBridge", "phase", "()I"⟩ prog_1_method_5_code 1 (some FieldType.int) ∈ zG := List.mem_filter.mpr ⟨List.mem_of_getElem? (i := 237) (by decide +kernel), rfl⟩
theorem q_238 : Cond.methodLink "ShortBridge" 66 ⟨"ShortBridge$Auction", "hasEnded", "()Z"⟩ ∈ zG := List.mem_filter.mpr ⟨List.mem_of_getElem? (i := 238) (by decide +kernel), rfl⟩
theorem q_239 : Cond.instanceMethod ⟨"ShortBridge$Auction", "hasEnded", "()Z"⟩ ∈ zG := List.mem_filter.mpr ⟨List.mem_of_getElem? (i := 239) (by decide +kernel), rfl⟩
theorem q_240 : Cond.selects "ShortBridge$Auction" ⟨"ShortBridge$Auction", "hasEnded", "()Z"⟩ ⟨"ShortBridge$Auction", "hasEnded", "()Z"⟩ ∈ zG := List.mem_filter.mpr ⟨List.mem_of_getElem? (i := 240) (by decide +kernel), rfl⟩
theorem q_241 : Cond.code ⟨"ShortBridge$Auction", "hasEnded", "()Z"⟩ prog_2_method_10_code 3 (some FieldType.boolean) ∈ zG := List.mem_filter.mpr ⟨List.mem_of_getElem? (i := 241) (by decide +kernel), rfl⟩
theorem q_242 : Cond.methodLink "ShortBridge$Auction" 33 ⟨"ShortBridge$Auction", "placeOfLatest", "(I)I"⟩ ∈ zG := List.mem_filter.mpr ⟨List.mem_of_getElem? (i := 242) (by decide +kernel), rfl⟩
theorem q_244 : Cond.instanceMethod ⟨"ShortBridge$Auction", "placeOfLatest", "(I)I"⟩ ∈ zG := List.mem_filter.mpr ⟨List.mem_of_getElem? (i := 244) (by decide +kernel), rfl⟩
theorem q_245 : Cond.code ⟨"ShortBridge$Auction", "placeOfLatest", "(I)I"⟩ prog_2_method_15_code 3 (some FieldType.int) ∈ zG := List.mem_filter.mpr ⟨List.mem_of_getElem? (i := 245) (by decide +kernel), rfl⟩
theorem q_246 : Cond.methodLink "ShortBridge" 70 ⟨"ShortBridge$Auction", "bid", "()I"⟩ ∈ zG := List.mem_filter.mpr ⟨List.mem_of_getElem? (i := 246) (by decide +kernel), rfl⟩
theorem q_247 : Cond.instanceMethod ⟨"ShortBridge$Auction", "bid", "()I"⟩ ∈ zG := List.mem_filter.mpr ⟨List.mem_of_getElem? (i := 247) (by decide +kernel), rfl⟩
theorem q_248 : Cond.selects "ShortBridge$Auction" ⟨"ShortBridge$Auction", "bid", "()I"⟩ ⟨"ShortBridge$Auction", "bid", "()I"⟩ ∈ zG := List.mem_filter.mpr ⟨List.mem_of_getElem? (i := 248) (by decide +kernel), rfl⟩
theorem q_249 : Cond.code ⟨"ShortBridge$Auction", "bid", "()I"⟩ prog_2_method_11_code 2 (some FieldType.int) ∈ zG := List.mem_filter.mpr ⟨List.mem_of_getElem? (i := 249) (by decide +kernel), rfl⟩
theorem q_250 : Cond.methodLink "ShortBridge" 74 ⟨"ShortBridge$Hands", "areEmpty", "()Z"⟩ ∈ zG := List.mem_filter.mpr ⟨List.mem_of_getElem? (i := 250) (by decide +kernel), rfl⟩
theorem q_251 : Cond.instanceMethod ⟨"ShortBridge$Hands", "areEmpty", "()Z"⟩ ∈ zG := List.mem_filter.mpr ⟨List.mem_of_getElem? (i := 251) (by decide +kernel), rfl⟩
theorem q_252 : Cond.selects "ShortBridge$Hands" ⟨"ShortBridge$Hands", "areEmpty", "()Z"⟩ ⟨"ShortBridge$Hands", "areEmpty", "()Z"⟩ ∈ zG := List.mem_filter.mpr ⟨List.mem_of_getElem? (i := 252) (by decide +kernel), rfl⟩
theorem q_253 : Cond.code ⟨"ShortBridge$Hands", "areEmpty", "()Z"⟩ prog_4_method_4_code 1 (some FieldType.boolean) ∈ zG := List.mem_filter.mpr ⟨List.mem_of_getElem? (i := 253) (by decide +kernel), rfl⟩
theorem q_254 : Cond.methodLink "ShortBridgeLaw" 69 ⟨"ShortBridge", "turn", "()I"⟩ ∈ zG := List.mem_filter.mpr ⟨List.mem_of_getElem? (i := 254) (by decide +kernel), rfl⟩
theorem q_255 : Cond.instanceMethod ⟨"ShortBridge", "turn", "()I"⟩ ∈ zG := List.mem_filter.mpr ⟨List.mem_of_getElem? (i := 255) (by decide +kernel), rfl⟩
theorem q_256 : Cond.selects "ShortBridge" ⟨"ShortBridge", "turn", "()I"⟩ ⟨"ShortBridge", "turn", "()I"⟩ ∈ zG := List.mem_filter.mpr ⟨List.mem_of_getElem? (i := 256) (by decide +kernel), rfl⟩
theorem q_257 : Cond.code ⟨"ShortBridge", "turn", "()I"⟩ prog_1_method_6_code 1 (some FieldType.int) ∈ zG := List.mem_filter.mpr ⟨List.mem_of_getElem? (i := 257) (by decide +kernel), rfl⟩
theorem q_258 : Cond.methodLink "ShortBridge" 77 ⟨"ShortBridge", "phase", "()I"⟩ ∈ zG := List.mem_filter.mpr ⟨List.mem_of_getElem? (i := 258) (by decide +kernel), rfl⟩
theorem q_259 : Cond.methodLink "ShortBridge" 80 ⟨"ShortBridge$Auction", "caller", "()I"⟩ ∈ zG := List.mem_filter.mpr ⟨List.mem_of_getElem? (i := 259) (by decide +kernel), rfl⟩
theorem q_260 : Cond.instanceMethod ⟨"ShortBridge$Auction", "caller", "()I"⟩ ∈ zG := List.mem_filter.mpr ⟨List.mem_of_getElem? (i := 260) (by decide +kernel), rfl⟩
theorem q_261 : Cond.selects "ShortBridge$Auction" ⟨"ShortBridge$Auction", "caller", "()I"⟩ ⟨"ShortBridge$Auction", "caller", "()I"⟩ ∈ zG := List.mem_filter.mpr ⟨List.mem_of_getElem? (i := 261) (by decide +kernel), rfl⟩
theorem q_262 : Cond.code ⟨"ShortBridge$Auction", "caller", "()I"⟩ prog_2_method_6_code 1 (some FieldType.int) ∈ zG := List.mem_filter.mpr ⟨List.mem_of_getElem? (i := 262) (by decide +kernel), rfl⟩
theorem q_263 : Cond.methodLink "ShortBridge$Auction" 22 ⟨"ShortBridge$Auction", "callerOf", "(I)I"⟩ ∈ zG := List.mem_filter.mpr ⟨List.mem_of_getElem? (i := 263) (by decide +kernel), rfl⟩
theorem q_265 : Cond.instanceMethod ⟨"ShortBridge$Auction", "callerOf", "(I)I"⟩ ∈ zG := List.mem_filter.mpr ⟨List.mem_of_getElem? (i := 265) (by decide +kernel), rfl⟩
theorem q_266 : Cond.code ⟨"ShortBridge$Auction", "callerOf", "(I)I"⟩ prog_2_method_16_code 2 (some FieldType.int) ∈ zG := List.mem_filter.mpr ⟨List.mem_of_getElem? (i := 266) (by decide +kernel), rfl⟩
theorem q_268 : Cond.static ⟨"ShortBridge", "playerBehind", "(II)I"⟩ ∈ zG := List.mem_filter.mpr ⟨List.mem_of_getElem? (i := 268) (by decide +kernel), rfl⟩
theorem q_269 : Cond.code ⟨"ShortBridge", "playerBehind", "(II)I"⟩ prog_1_method_21_code 2 (some FieldType.int) ∈ zG := List.mem_filter.mpr ⟨List.mem_of_getElem? (i := 269) (by decide +kernel), rfl⟩
theorem q_270 : Cond.methodLink "ShortBridge" 83 ⟨"ShortBridge$Hands", "player", "()I"⟩ ∈ zG := List.mem_filter.mpr ⟨List.mem_of_getElem? (i := 270) (by decide +kernel), rfl⟩
theorem q_271 : Cond.instanceMethod ⟨"ShortBridge$Hands", "player", "()I"⟩ ∈ zG := List.mem_filter.mpr ⟨List.mem_of_getElem? (i := 271) (by decide +kernel), rfl⟩
theorem q_272 : Cond.selects "ShortBridge$Hands" ⟨"ShortBridge$Hands", "player", "()I"⟩ ⟨"ShortBridge$Hands", "player", "()I"⟩ ∈ zG := List.mem_filter.mpr ⟨List.mem_of_getElem? (i := 272) (by decide +kernel), rfl⟩
theorem q_273 : Cond.code ⟨"ShortBridge$Hands", "player", "()I"⟩ prog_4_method_5_code 1 (some FieldType.int) ∈ zG := List.mem_filter.mpr ⟨List.mem_of_getElem? (i := 273) (by decide +kernel), rfl⟩
theorem q_275 : Cond.methodLink "ShortBridgeLaw" 73 ⟨"ShortBridge", "has", "(II)Z"⟩ ∈ zG := List.mem_filter.mpr ⟨List.mem_of_getElem? (i := 275) (by decide +kernel), rfl⟩
theorem q_276 : Cond.instanceMethod ⟨"ShortBridge", "has", "(II)Z"⟩ ∈ zG := List.mem_filter.mpr ⟨List.mem_of_getElem? (i := 276) (by decide +kernel), rfl⟩
theorem q_277 : Cond.selects "ShortBridge" ⟨"ShortBridge", "has", "(II)Z"⟩ ⟨"ShortBridge", "has", "(II)Z"⟩ ∈ zG := List.mem_filter.mpr ⟨List.mem_of_getElem? (i := 277) (by decide +kernel), rfl⟩
theorem q_278 : Cond.code ⟨"ShortBridge", "has", "(II)Z"⟩ prog_1_method_7_code 3 (some FieldType.boolean) ∈ zG := List.mem_filter.mpr ⟨List.mem_of_getElem? (i := 278) (by decide +kernel), rfl⟩
theorem q_279 : Cond.methodLink "ShortBridge" 90 ⟨"ShortBridge$Hands", "holds", "(II)Z"⟩ ∈ zG := List.mem_filter.mpr ⟨List.mem_of_getElem? (i := 279) (by decide +kernel), rfl⟩
theorem q_280 : Cond.instanceMethod ⟨"ShortBridge$Hands", "holds", "(II)Z"⟩ ∈ zG := List.mem_filter.mpr ⟨List.mem_of_getElem? (i := 280) (by decide +kernel), rfl⟩
theorem q_281 : Cond.selects "ShortBridge$Hands" ⟨"ShortBridge$Hands", "holds", "(II)Z"⟩ ⟨"ShortBridge$Hands", "holds", "(II)Z"⟩ ∈ zG := List.mem_filter.mpr ⟨List.mem_of_getElem? (i := 281) (by decide +kernel), rfl⟩
theorem q_282 : Cond.code ⟨"ShortBridge$Hands", "holds", "(II)Z"⟩ prog_4_method_6_code 3 (some FieldType.boolean) ∈ zG := List.mem_filter.mpr ⟨List.mem_of_getElem? (i := 282) (by decide +kernel), rfl⟩
theorem q_283 : Cond.methodLink "ShortBridgeLaw" 90 ⟨"ShortBridge", "back", "()Z"⟩ ∈ zG := List.mem_filter.mpr ⟨List.mem_of_getElem? (i := 283) (by decide +kernel), rfl⟩
theorem q_284 : Cond.instanceMethod ⟨"ShortBridge", "back", "()Z"⟩ ∈ zG := List.mem_filter.mpr ⟨List.mem_of_getElem? (i := 284) (by decide +kernel), rfl⟩
theorem q_285 : Cond.selects "ShortBridge" ⟨"ShortBridge", "back", "()Z"⟩ ⟨"ShortBridge", "back", "()Z"⟩ ∈ zG := List.mem_filter.mpr ⟨List.mem_of_getElem? (i := 285) (by decide +kernel), rfl⟩
theorem q_286 : Cond.code ⟨"ShortBridge", "back", "()Z"⟩ prog_1_method_10_code 1 (some FieldType.boolean) ∈ zG := List.mem_filter.mpr ⟨List.mem_of_getElem? (i := 286) (by decide +kernel), rfl⟩
theorem q_287 : Cond.methodLink "ShortBridge" 149 ⟨"ShortBridge$Hands", "takeBack", "()V"⟩ ∈ zG := List.mem_filter.mpr ⟨List.mem_of_getElem? (i := 287) (by decide +kernel), rfl⟩
theorem q_288 : Cond.instanceMethod ⟨"ShortBridge$Hands", "takeBack", "()V"⟩ ∈ zG := List.mem_filter.mpr ⟨List.mem_of_getElem? (i := 288) (by decide +kernel), rfl⟩
theorem q_289 : Cond.selects "ShortBridge$Hands" ⟨"ShortBridge$Hands", "takeBack", "()V"⟩ ⟨"ShortBridge$Hands", "takeBack", "()V"⟩ ∈ zG := List.mem_filter.mpr ⟨List.mem_of_getElem? (i := 289) (by decide +kernel), rfl⟩
theorem q_290 : Cond.code ⟨"ShortBridge$Hands", "takeBack", "()V"⟩ prog_4_method_10_code 1 none ∈ zG := List.mem_filter.mpr ⟨List.mem_of_getElem? (i := 290) (by decide +kernel), rfl⟩
theorem q_291 : Cond.methodLink "ShortBridge$Hands" 39 ⟨"ShortBridge$Hands", "player", "()I"⟩ ∈ zG := List.mem_filter.mpr ⟨List.mem_of_getElem? (i := 291) (by decide +kernel), rfl⟩
theorem q_292 : Cond.methodLink "ShortBridge" 153 ⟨"ShortBridge$Auction", "takeBack", "()V"⟩ ∈ zG := List.mem_filter.mpr ⟨List.mem_of_getElem? (i := 292) (by decide +kernel), rfl⟩
theorem q_293 : Cond.instanceMethod ⟨"ShortBridge$Auction", "takeBack", "()V"⟩ ∈ zG := List.mem_filter.mpr ⟨List.mem_of_getElem? (i := 293) (by decide +kernel), rfl⟩
theorem q_294 : Cond.selects "ShortBridge$Auction" ⟨"ShortBridge$Auction", "takeBack", "()V"⟩ ⟨"ShortBridge$Auction", "takeBack", "()V"⟩ ∈ zG := List.mem_filter.mpr ⟨List.mem_of_getElem? (i := 294) (by decide +kernel), rfl⟩
theorem q_295 : Cond.code ⟨"ShortBridge$Auction", "takeBack", "()V"⟩ prog_2_method_9_code 1 none ∈ zG := List.mem_filter.mpr ⟨List.mem_of_getElem? (i := 295) (by decide +kernel), rfl⟩
theorem q_296 : Cond.methodLink "ShortBridgeLaw" 95 ⟨"ShortBridge", "contract", "(I)I"⟩ ∈ zG := List.mem_filter.mpr ⟨List.mem_of_getElem? (i := 296) (by decide +kernel), rfl⟩
theorem q_297 : Cond.instanceMethod ⟨"ShortBridge", "contract", "(I)I"⟩ ∈ zG := List.mem_filter.mpr ⟨List.mem_of_getElem? (i := 297) (by decide +kernel), rfl⟩
theorem q_298 : Cond.selects "ShortBridge" ⟨"ShortBridge", "contract", "(I)I"⟩ ⟨"ShortBridge", "contract", "(I)I"⟩ ∈ zG := List.mem_filter.mpr ⟨List.mem_of_getElem? (i := 298) (by decide +kernel), rfl⟩
theorem q_299 : Cond.code ⟨"ShortBridge", "contract", "(I)I"⟩ prog_1_method_11_code 2 (some FieldType.int) ∈ zG := List.mem_filter.mpr ⟨List.mem_of_getElem? (i := 299) (by decide +kernel), rfl⟩
theorem q_300 : Cond.methodLink "ShortBridge" 154 ⟨"ShortBridge$Auction", "doubled", "()I"⟩ ∈ zG := List.mem_filter.mpr ⟨List.mem_of_getElem? (i := 300) (by decide +kernel), rfl⟩
theorem q_301 : Cond.instanceMethod ⟨"ShortBridge$Auction", "doubled", "()I"⟩ ∈ zG := List.mem_filter.mpr ⟨List.mem_of_getElem? (i := 301) (by decide +kernel), rfl⟩
theorem q_302 : Cond.selects "ShortBridge$Auction" ⟨"ShortBridge$Auction", "doubled", "()I"⟩ ⟨"ShortBridge$Auction", "doubled", "()I"⟩ ∈ zG := List.mem_filter.mpr ⟨List.mem_of_getElem? (i := 302) (by decide +kernel), rfl⟩
theorem q_303 : Cond.code ⟨"ShortBridge$Auction", "doubled", "()I"⟩ prog_2_method_12_code 2 (some FieldType.int) ∈ zG := List.mem_filter.mpr ⟨List.mem_of_getElem? (i := 303) (by decide +kernel), rfl⟩
theorem q_304 : Cond.methodLink "ShortBridge" 120 ⟨"ShortBridge$Auction", "declarer", "()I"⟩ ∈ zG := List.mem_filter.mpr ⟨List.mem_of_getElem? (i := 304) (by decide +kernel), rfl⟩
theorem q_305 : Cond.instanceMethod ⟨"ShortBridge$Auction", "declarer", "()I"⟩ ∈ zG := List.mem_filter.mpr ⟨List.mem_of_getElem? (i := 305) (by decide +kernel), rfl⟩
theorem q_306 : Cond.selects "ShortBridge$Auction" ⟨"ShortBridge$Auction", "declarer", "()I"⟩ ⟨"ShortBridge$Auction", "declarer", "()I"⟩ ∈ zG := List.mem_filter.mpr ⟨List.mem_of_getElem? (i := 306) (by decide +kernel), rfl⟩
theorem q_307 : Cond.code ⟨"ShortBridge$Auction", "declarer", "()I"⟩ prog_2_method_13_code 3 (some FieldType.int) ∈ zG := List.mem_filter.mpr ⟨List.mem_of_getElem? (i := 307) (by decide +kernel), rfl⟩
theorem q_308 : Cond.methodLink "ShortBridge$Auction" 36 ⟨"ShortBridge$Auction", "isSameSide", "(II)Z"⟩ ∈ zG := List.mem_filter.mpr ⟨List.mem_of_getElem? (i := 308) (by decide +kernel), rfl⟩
theorem q_310 : Cond.instanceMethod ⟨"ShortBridge$Auction", "isSameSide", "(II)Z"⟩ ∈ zG := List.mem_filter.mpr ⟨List.mem_of_getElem? (i := 310) (by decide +kernel), rfl⟩
theorem q_311 : Cond.code ⟨"ShortBridge$Auction", "isSameSide", "(II)Z"⟩ prog_2_method_17_code 3 (some FieldType.boolean) ∈ zG := List.mem_filter.mpr ⟨List.mem_of_getElem? (i := 311) (by decide +kernel), rfl⟩
theorem q_313 : Cond.static ⟨"ShortBridge", "sideOf", "(I)I"⟩ ∈ zG := List.mem_filter.mpr ⟨List.mem_of_getElem? (i := 313) (by decide +kernel), rfl⟩
theorem q_314 : Cond.code ⟨"ShortBridge", "sideOf", "(I)I"⟩ prog_1_method_20_code 1 (some FieldType.int) ∈ zG := List.mem_filter.mpr ⟨List.mem_of_getElem? (i := 314) (by decide +kernel), rfl⟩
theorem q_315 : Cond.methodLink "ShortBridge$Auction" 40 ⟨"ShortBridge$Auction", "strain", "(I)I"⟩ ∈ zG := List.mem_filter.mpr ⟨List.mem_of_getElem? (i := 315) (by decide +kernel), rfl⟩
theorem q_316 : Cond.static ⟨"ShortBridge$Auction", "strain", "(I)I"⟩ ∈ zG := List.mem_filter.mpr ⟨List.mem_of_getElem? (i := 316) (by decide +kernel), rfl⟩
theorem q_317 : Cond.code ⟨"ShortBridge$Auction", "strain", "(I)I"⟩ prog_2_method_4_code 1 (some FieldType.int) ∈ zG := List.mem_filter.mpr ⟨List.mem_of_getElem? (i := 317) (by decide +kernel), rfl⟩
theorem q_318 : Cond.methodLink "ShortBridgeLaw" 99 ⟨"ShortBridge", "tricks", "(I)I"⟩ ∈ zG := List.mem_filter.mpr ⟨List.mem_of_getElem? (i := 318) (by decide +kernel), rfl⟩
theorem q_319 : Cond.instanceMethod ⟨"ShortBridge", "tricks", "(I)I"⟩ ∈ zG := List.mem_filter.mpr ⟨List.mem_of_getElem? (i := 319) (by decide +kernel), rfl⟩
theorem q_320 : Cond.selects "ShortBridge" ⟨"ShortBridge", "tricks", "(I)I"⟩ ⟨"ShortBridge", "tricks", "(I)I"⟩ ∈ zG := List.mem_filter.mpr ⟨List.mem_of_getElem? (i := 320) (by decide +kernel), rfl⟩
theorem q_321 : Cond.code ⟨"ShortBridge", "tricks", "(I)I"⟩ prog_1_method_12_code 2 (some FieldType.int) ∈ zG := List.mem_filter.mpr ⟨List.mem_of_getElem? (i := 321) (by decide +kernel), rfl⟩
theorem q_322 : Cond.methodLink "ShortBridge" 157 ⟨"ShortBridge$Hands", "won", "(I)I"⟩ ∈ zG := List.mem_filter.mpr ⟨List.mem_of_getElem? (i := 322) (by decide +kernel), rfl⟩
theorem q_323 : Cond.instanceMethod ⟨"ShortBridge$Hands", "won", "(I)I"⟩ ∈ zG := List.mem_filter.mpr ⟨List.mem_of_getElem? (i := 323) (by decide +kernel), rfl⟩
theorem q_324 : Cond.selects "ShortBridge$Hands" ⟨"ShortBridge$Hands", "won", "(I)I"⟩ ⟨"ShortBridge$Hands", "won", "(I)I"⟩ ∈ zG := List.mem_filter.mpr ⟨List.mem_of_getElem? (i := 324) (by decide +kernel), rfl⟩
theorem q_325 : Cond.code ⟨"ShortBridge$Hands", "won", "(I)I"⟩ prog_4_method_11_code 4 (some FieldType.int) ∈ zG := List.mem_filter.mpr ⟨List.mem_of_getElem? (i := 325) (by decide +kernel), rfl⟩
theorem q_327 : Cond.methodLink "ShortBridgeLaw" 103 ⟨"ShortBridge", "table", "(I)I"⟩ ∈ zG := List.mem_filter.mpr ⟨List.mem_of_getElem? (i := 327) (by decide +kernel), rfl⟩
theorem q_328 : Cond.instanceMethod ⟨"ShortBridge", "table", "(I)I"⟩ ∈ zG := List.mem_filter.mpr ⟨List.mem_of_getElem? (i := 328) (by decide +kernel), rfl⟩
theorem q_329 : Cond.selects "ShortBridge" ⟨"ShortBridge", "table", "(I)I"⟩ ⟨"ShortBridge", "table", "(I)I"⟩ ∈ zG := List.mem_filter.mpr ⟨List.mem_of_getElem? (i := 329) (by decide +kernel), rfl⟩
theorem q_330 : Cond.code ⟨"ShortBridge", "table", "(I)I"⟩ prog_1_method_13_code 2 (some FieldType.int) ∈ zG := List.mem_filter.mpr ⟨List.mem_of_getElem? (i := 330) (by decide +kernel), rfl⟩
theorem q_331 : Cond.methodLink "ShortBridge" 160 ⟨"ShortBridge$Hands", "onTable", "(I)I"⟩ ∈ zG := List.mem_filter.mpr ⟨List.mem_of_getElem? (i := 331) (by decide +kernel), rfl⟩
theorem q_332 : Cond.instanceMethod ⟨"ShortBridge$Hands", "onTable", "(I)I"⟩ ∈ zG := List.mem_filter.mpr ⟨List.mem_of_getElem? (i := 332) (by decide +kernel), rfl⟩
theorem q_333 : Cond.selects "ShortBridge$Hands" ⟨"ShortBridge$Hands", "onTable", "(I)I"⟩ ⟨"ShortBridge$Hands", "onTable", "(I)I"⟩ ∈ zG := List.mem_filter.mpr ⟨List.mem_of_getElem? (i := 333) (by decide +kernel), rfl⟩
theorem q_334 : Cond.code ⟨"ShortBridge$Hands", "onTable", "(I)I"⟩ prog_4_method_12_code 3 (some FieldType.int) ∈ zG := List.mem_filter.mpr ⟨List.mem_of_getElem? (i := 334) (by decide +kernel), rfl⟩
theorem q_335 : Cond.methodLink "ShortBridgeLaw" 78 ⟨"ShortBridgeLaw", "call", "(LShortBridge;I)I"⟩ ∈ zG := List.mem_filter.mpr ⟨List.mem_of_getElem? (i := 335) (by decide +kernel), rfl⟩
theorem q_336 : Cond.static ⟨"ShortBridgeLaw", "call", "(LShortBridge;I)I"⟩ ∈ zG := List.mem_filter.mpr ⟨List.mem_of_getElem? (i := 336) (by decide +kernel), rfl⟩
theorem q_337 : Cond.codeWith ⟨"ShortBridgeLaw", "call", "(LShortBridge;I)I"⟩ method_3_code 3 (some FieldType.int) [(0, 5, 8, 13), (0, 5, 11, 15), (0, 5, 14, 17)] ∈ zG := List.mem_filter.mpr ⟨List.mem_of_getElem? (i := 337) (by decide +kernel), rfl⟩
theorem q_338 : Cond.classLink "ShortBridgeLaw" 13 "java/lang/IllegalStateException" ∈ zG := List.mem_filter.mpr ⟨List.mem_of_getElem? (i := 338) (by decide +kernel), rfl⟩
theorem q_339 : Cond.classLink "ShortBridgeLaw" 15 "java/lang/IllegalArgumentException" ∈ zG := List.mem_filter.mpr ⟨List.mem_of_getElem? (i := 339) (by decide +kernel), rfl⟩
theorem q_340 : Cond.classLink "ShortBridgeLaw" 17 "java/lang/UnsupportedOperationException" ∈ zG := List.mem_filter.mpr ⟨List.mem_of_getElem? (i := 340) (by decide +kernel), rfl⟩
theorem q_341 : Cond.methodLink "ShortBridgeLaw" 7 ⟨"ShortBridge", "call", "(I)V"⟩ ∈ zG := List.mem_filter.mpr ⟨List.mem_of_getElem? (i := 341) (by decide +kernel), rfl⟩
theorem q_342 : Cond.instanceMethod ⟨"ShortBridge", "call", "(I)V"⟩ ∈ zG := List.mem_filter.mpr ⟨List.mem_of_getElem? (i := 342) (by decide +kernel), rfl⟩
theorem q_343 : Cond.selects "ShortBridge" ⟨"ShortBridge", "call", "(I)V"⟩ ⟨"ShortBridge", "call", "(I)V"⟩ ∈ zG := List.mem_filter.mpr ⟨List.mem_of_getElem? (i := 343) (by decide +kernel), rfl⟩
theorem q_344 : Cond.code ⟨"ShortBridge", "call", "(I)V"⟩ prog_1_method_8_code 2 none ∈ zG := List.mem_filter.mpr ⟨List.mem_of_getElem? (i := 344) (by decide +kernel), rfl⟩
theorem q_345 : Cond.classLink "ShortBridge" 93 "java/lang/IllegalStateException" ∈ zG := List.mem_filter.mpr ⟨List.mem_of_getElem? (i := 345) (by decide +kernel), rfl⟩
theorem q_346 : Cond.instantiable "java/lang/IllegalStateException" 6 ∈ zG := List.mem_filter.mpr ⟨List.mem_of_getElem? (i := 346) (by decide +kernel), rfl⟩
theorem q_354 : Cond.selects "java/lang/IllegalStateException" ⟨"java/lang/Throwable", "fillInStackTrace", "(I)Ljava/lang/Throwable;"⟩ ⟨"java/lang/Throwable", "fillInStackTrace", "(I)Ljava/lang/Throwable;"⟩ ∈ zG := List.mem_filter.mpr ⟨List.mem_of_getElem? (i := 354) (by decide +kernel), rfl⟩
theorem q_355 : Cond.selects "java/lang/IllegalStateException" ⟨"java/lang/Throwable", "fillInStackTrace", "()Ljava/lang/Throwable;"⟩ ⟨"java/lang/Throwable", "fillInStackTrace", "()Ljava/lang/Throwable;"⟩ ∈ zG := List.mem_filter.mpr ⟨List.mem_of_getElem? (i := 355) (by decide +kernel), rfl⟩
theorem q_356 : Cond.lays "java/lang/IllegalStateException" "java/lang/Throwable" "cause" "Ljava/lang/Throwable;" ∈ zG := List.mem_filter.mpr ⟨List.mem_of_getElem? (i := 356) (by decide +kernel), rfl⟩
theorem q_357 : Cond.lays "java/lang/Throwable" "java/lang/Throwable" "cause" "Ljava/lang/Throwable;" ∈ zG := List.mem_filter.mpr ⟨List.mem_of_getElem? (i := 357) (by decide +kernel), rfl⟩
theorem q_358 : Cond.lays "java/lang/IllegalStateException" "java/lang/Throwable" "stackTrace" "[Ljava/lang/StackTraceElement;" ∈ zG := List.mem_filter.mpr ⟨List.mem_of_getElem? (i := 358) (by decide +kernel), rfl⟩
theorem q_359 : Cond.lays "java/lang/Throwable" "java/lang/Throwable" "stackTrace" "[Ljava/lang/StackTraceElement;" ∈ zG := List.mem_filter.mpr ⟨List.mem_of_getElem? (i := 359) (by decide +kernel), rfl⟩
theorem q_360 : Cond.lays "java/lang/IllegalStateException" "java/lang/Throwable" "suppressedExceptions" "Ljava/util/List;" ∈ zG := List.mem_filter.mpr ⟨List.mem_of_getElem? (i := 360) (by decide +kernel), rfl⟩
theorem q_361 : Cond.lays "java/lang/Throwable" "java/lang/Throwable" "suppressedExceptions" "Ljava/util/List;" ∈ zG := List.mem_filter.mpr ⟨List.mem_of_getElem? (i := 361) (by decide +kernel), rfl⟩
theorem q_362 : Cond.lays "java/lang/IllegalStateException" "java/lang/Throwable" "detailMessage" "Ljava/lang/String;" ∈ zG := List.mem_filter.mpr ⟨List.mem_of_getElem? (i := 362) (by decide +kernel), rfl⟩
theorem q_363 : Cond.lays "java/lang/Throwable" "java/lang/Throwable" "detailMessage" "Ljava/lang/String;" ∈ zG := List.mem_filter.mpr ⟨List.mem_of_getElem? (i := 363) (by decide +kernel), rfl⟩
theorem q_364 : Cond.lays "java/lang/IllegalStateException" "java/lang/Throwable" "backtrace" "Ljava/lang/Object;" ∈ zG := List.mem_filter.mpr ⟨List.mem_of_getElem? (i := 364) (by decide +kernel), rfl⟩
theorem q_365 : Cond.lays "java/lang/Throwable" "java/lang/Throwable" "backtrace" "Ljava/lang/Object;" ∈ zG := List.mem_filter.mpr ⟨List.mem_of_getElem? (i := 365) (by decide +kernel), rfl⟩
theorem q_366 : Cond.fieldLink "java/lang/Throwable" 198 "java/lang/Throwable" "backtrace" "Ljava/lang/Object;" ∈ zG := List.mem_filter.mpr ⟨List.mem_of_getElem? (i := 366) (by decide +kernel), rfl⟩
theorem q_368 : Cond.instanceMethod ⟨"java/lang/Throwable", "<init>", "()V"⟩ ∈ zG := List.mem_filter.mpr ⟨List.mem_of_getElem? (i := 368) (by decide +kernel), rfl⟩
theorem q_369 : Cond.code ⟨"java/lang/Throwable", "<init>", "()V"⟩ prog_17_method_1_code 1 none ∈ zG := List.mem_filter.mpr ⟨List.mem_of_getElem? (i := 369) (by decide +kernel), rfl⟩
theorem q_370 : Cond.methodLink "java/lang/Throwable" 1 ⟨"java/lang/Object", "<init>", "()V"⟩ ∈ zG := List.mem_filter.mpr ⟨List.mem_of_getElem? (i := 370) (by decide +kernel), rfl⟩
theorem q_371 : Cond.fieldLink "java/lang/Throwable" 13 "java/lang/Throwable" "UNASSIGNED_STACK" "[Ljava/lang/StackTraceElement;" ∈ zG := List.mem_filter.mpr ⟨List.mem_of_getElem? (i := 371) (by decide +kernel), rfl⟩
theorem q_373 : Cond.fieldLink "java/lang/Throwable" 20 "java/lang/Throwable" "SUPPRESSED_SENTINEL" "Ljava/util/List;" ∈ zG := List.mem_filter.mpr ⟨List.mem_of_getElem? (i := 373) (by decide +kernel), rfl⟩
theorem q_375 : Cond.methodLink "java/lang/Throwable" 27 ⟨"java/lang/Throwable", "fillInStackTrace", "()Ljava/lang/Throwable;"⟩ ∈ zG := List.mem_filter.mpr ⟨List.mem_of_getElem? (i := 375) (by decide +kernel), rfl⟩
theorem q_376 : Cond.instanceMethod ⟨"java/lang/Throwable", "fillInStackTrace", "()Ljava/lang/Throwable;"⟩ ∈ zG := List.mem_filter.mpr ⟨List.mem_of_getElem? (i := 376) (by decide +kernel), rfl⟩
theorem q_378 : Cond.selects "java/lang/IllegalArgumentException" ⟨"java/lang/Throwable", "fillInStackTrace", "()Ljava/lang/Throwable;"⟩ ⟨"java/lang/Throwable", "fillInStackTrace", "()Ljava/lang/Throwable;"⟩ ∈ zG := List.mem_filter.mpr ⟨List.mem_of_getElem? (i := 378) (by decide +kernel), rfl⟩
theorem q_379 : Cond.selects "java/lang/IndexOutOfBoundsException" ⟨"java/lang/Throwable", "fillInStackTrace", "()Ljava/lang/Throwable;"⟩ ⟨"java/lang/Throwable", "fillInStackTrace", "()Ljava/lang/Throwable;"⟩ ∈ zG := List.mem_filter.mpr ⟨List.mem_of_getElem? (i := 379) (by decide +kernel), rfl⟩
theorem q_380 : Cond.selects "java/lang/UnsupportedOperationException" ⟨"java/lang/Throwable", "fillInStackTrace", "()Ljava/lang/Throwable;"⟩ ⟨"java/lang/Throwable", "fillInStackTrace", "()Ljava/lang/Throwable;"⟩ ∈ zG := List.mem_filter.mpr ⟨List.mem_of_getElem? (i := 380) (by decide +kernel), rfl⟩
theorem q_381 : Cond.selects "java/util/NoSuchElementException" ⟨"java/lang/Throwable", "fillInStackTrace", "()Ljava/lang/Throwable;"⟩ ⟨"java/lang/Throwable", "fillInStackTrace", "()Ljava/lang/Throwable;"⟩ ∈ zG := List.mem_filter.mpr ⟨List.mem_of_getElem? (i := 381) (by decide +kernel), rfl⟩
theorem q_383 : Cond.methodLink "java/lang/Throwable" 202 ⟨"java/lang/Throwable", "fillInStackTrace", "(I)Ljava/lang/Throwable;"⟩ ∈ zG := List.mem_filter.mpr ⟨List.mem_of_getElem? (i := 383) (by decide +kernel), rfl⟩
theorem q_385 : Cond.instanceMethod ⟨"java/lang/Throwable", "fillInStackTrace", "(I)Ljava/lang/Throwable;"⟩ ∈ zG := List.mem_filter.mpr ⟨List.mem_of_getElem? (i := 385) (by decide +kernel), rfl⟩
theorem q_386 : Cond.instantiable "java/lang/Throwable" 6 ∈ zG := List.mem_filter.mpr ⟨List.mem_of_getElem? (i := 386) (by decide +kernel), rfl⟩
theorem q_389 : Cond.methodLink "ShortBridge" 97 ⟨"java/lang/IllegalStateException", "<init>", "(Ljava/lang/String;)V"⟩ ∈ zG := List.mem_filter.mpr ⟨List.mem_of_getElem? (i := 389) (by decide +kernel), rfl⟩
theorem q_390 : Cond.instanceMethod ⟨"java/lang/IllegalStateException", "<init>", "(Ljava/lang/String;)V"⟩ ∈ zG := List.mem_filter.mpr ⟨List.mem_of_getElem? (i := 390) (by decide +kernel), rfl⟩
theorem q_391 : Cond.code ⟨"java/lang/IllegalStateException", "<init>", "(Ljava/lang/String;)V"⟩ prog_12_method_2_code 2 none ∈ zG := List.mem_filter.mpr ⟨List.mem_of_getElem? (i := 391) (by decide +kernel), rfl⟩
theorem q_392 : Cond.methodLink "java/lang/IllegalStateException" 7 ⟨"java/lang/RuntimeException", "<init>", "(Ljava/lang/String;)V"⟩ ∈ zG := List.mem_filter.mpr ⟨List.mem_of_getElem? (i := 392) (by decide +kernel), rfl⟩
theorem q_393 : Cond.instanceMethod ⟨"java/lang/RuntimeException", "<init>", "(Ljava/lang/String;)V"⟩ ∈ zG := List.mem_filter.mpr ⟨List.mem_of_getElem? (i := 393) (by decide +kernel), rfl⟩
theorem q_394 : Cond.code ⟨"java/lang/RuntimeException", "<init>", "(Ljava/lang/String;)V"⟩ prog_15_method_2_code 2 none ∈ zG := List.mem_filter.mpr ⟨List.mem_of_getElem? (i := 394) (by decide +kernel), rfl⟩
theorem q_395 : Cond.methodLink "java/lang/RuntimeException" 7 ⟨"java/lang/Exception", "<init>", "(Ljava/lang/String;)V"⟩ ∈ zG := List.mem_filter.mpr ⟨List.mem_of_getElem? (i := 395) (by decide +kernel), rfl⟩
theorem q_396 : Cond.instanceMethod ⟨"java/lang/Exception", "<init>", "(Ljava/lang/String;)V"⟩ ∈ zG := List.mem_filter.mpr ⟨List.mem_of_getElem? (i := 396) (by decide +kernel), rfl⟩
theorem q_397 : Cond.code ⟨"java/lang/Exception", "<init>", "(Ljava/lang/String;)V"⟩ prog_10_method_2_code 2 none ∈ zG := List.mem_filter.mpr ⟨List.mem_of_getElem? (i := 397) (by decide +kernel), rfl⟩
theorem q_398 : Cond.methodLink "java/lang/Exception" 7 ⟨"java/lang/Throwable", "<init>", "(Ljava/lang/String;)V"⟩ ∈ zG := List.mem_filter.mpr ⟨List.mem_of_getElem? (i := 398) (by decide +kernel), rfl⟩
theorem q_399 : Cond.instanceMethod ⟨"java/lang/Throwable", "<init>", "(Ljava/lang/String;)V"⟩ ∈ zG := List.mem_filter.mpr ⟨List.mem_of_getElem? (i := 399) (by decide +kernel), rfl⟩
theorem q_400 : Cond.code ⟨"java/lang/Throwable", "<init>", "(Ljava/lang/String;)V"⟩ prog_17_method_2_code 2 none ∈ zG := List.mem_filter.mpr ⟨List.mem_of_getElem? (i := 400) (by decide +kernel), rfl⟩
theorem q_402 : Cond.fieldLink "java/lang/Throwable" 31 "java/lang/Throwable" "detailMessage" "Ljava/lang/String;" ∈ zG := List.mem_filter.mpr ⟨List.mem_of_getElem? (i := 402) (by decide +kernel), rfl⟩
theorem q_403 : Cond.fieldLink "java/lang/Throwable" 7 "java/lang/Throwable" "cause" "Ljava/lang/Throwable;" ∈ zG := List.mem_filter.mpr ⟨List.mem_of_getElem? (i := 403) (by decide +kernel), rfl⟩
theorem q_404 : Cond.fieldLink "java/lang/Throwable" 17 "java/lang/Throwable" "stackTrace" "[Ljava/lang/StackTraceElement;" ∈ zG := List.mem_filter.mpr ⟨List.mem_of_getElem? (i := 404) (by decide +kernel), rfl⟩
theorem q_405 : Cond.fieldLink "java/lang/Throwable" 24 "java/lang/Throwable" "suppressedExceptions" "Ljava/util/List;" ∈ zG := List.mem_filter.mpr ⟨List.mem_of_getElem? (i := 405) (by decide +kernel), rfl⟩
theorem q_410 : Cond.lays "java/lang/IllegalStateException" "java/lang/Throwable" "depth" "I" ∈ zG := List.mem_filter.mpr ⟨List.mem_of_getElem? (i := 410) (by decide +kernel), rfl⟩
theorem q_414 : Cond.arrayClass FieldType.byte ∈ zG := List.mem_filter.mpr ⟨List.mem_of_getElem? (i := 414) (by decide +kernel), rfl⟩
theorem q_415 : Cond.methodLink "ShortBridge" 100 ⟨"ShortBridge$Auction", "isCall", "(I)Z"⟩ ∈ zG := List.mem_filter.mpr ⟨List.mem_of_getElem? (i := 415) (by decide +kernel), rfl⟩
theorem q_416 : Cond.static ⟨"ShortBridge$Auction", "isCall", "(I)Z"⟩ ∈ zG := List.mem_filter.mpr ⟨List.mem_of_getElem? (i := 416) (by decide +kernel), rfl⟩
theorem q_417 : Cond.code ⟨"ShortBridge$Auction", "isCall", "(I)Z"⟩ prog_2_method_2_code 1 (some FieldType.boolean) ∈ zG := List.mem_filter.mpr ⟨List.mem_of_getElem? (i := 417) (by decide +kernel), rfl⟩
theorem q_418 : Cond.classLink "ShortBridge" 103 "java/lang/IllegalArgumentException" ∈ zG := List.mem_filter.mpr ⟨List.mem_of_getElem? (i := 418) (by decide +kernel), rfl⟩
theorem q_419 : Cond.instantiable "java/lang/IllegalArgumentException" 6 ∈ zG := List.mem_filter.mpr ⟨List.mem_of_getElem? (i := 419) (by decide +kernel), rfl⟩
theorem q_421 : Cond.selects "java/lang/IllegalArgumentException" ⟨"java/lang/Throwable", "fillInStackTrace", "(I)Ljava/lang/Throwable;"⟩ ⟨"java/lang/Throwable", "fillInStackTrace", "(I)Ljava/lang/Throwable;"⟩ ∈ zG := List.mem_filter.mpr ⟨List.mem_of_getElem? (i := 421) (by decide +kernel), rfl⟩
theorem q_422 : Cond.lays "java/lang/IllegalArgumentException" "java/lang/Throwable" "cause" "Ljava/lang/Throwable;" ∈ zG := List.mem_filter.mpr ⟨List.mem_of_getElem? (i := 422) (by decide +kernel), rfl⟩
theorem q_423 : Cond.lays "java/lang/IllegalArgumentException" "java/lang/Throwable" "stackTrace" "[Ljava/lang/StackTraceElement;" ∈ zG := List.mem_filter.mpr ⟨List.mem_of_getElem? (i := 423) (by decide +kernel), rfl⟩
theorem q_424 : Cond.lays "java/lang/IllegalArgumentException" "java/lang/Throwable" "suppressedExceptions" "Ljava/util/List;" ∈ zG := List.mem_filter.mpr ⟨List.mem_of_getElem? (i := 424) (by decide +kernel), rfl⟩
theorem q_425 : Cond.lays "java/lang/IllegalArgumentException" "java/lang/Throwable" "detailMessage" "Ljava/lang/String;" ∈ zG := List.mem_filter.mpr ⟨List.mem_of_getElem? (i := 425) (by decide +kernel), rfl⟩
theorem q_426 : Cond.lays "java/lang/IllegalArgumentException" "java/lang/Throwable" "backtrace" "Ljava/lang/Object;" ∈ zG := List.mem_filter.mpr ⟨List.mem_of_getElem? (i := 426) (by decide +kernel), rfl⟩
theorem q_428 : Cond.methodLink "ShortBridge" 107 ⟨"java/lang/IllegalArgumentException", "<init>", "(Ljava/lang/String;)V"⟩ ∈ zG := List.mem_filter.mpr ⟨List.mem_of_getElem? (i := 428) (by decide +kernel), rfl⟩
theorem q_429 : Cond.instanceMethod ⟨"java/lang/IllegalArgumentException", "<init>", "(Ljava/lang/String;)V"⟩ ∈ zG := List.mem_filter.mpr ⟨List.mem_of_getElem? (i := 429) (by decide +kernel), rfl⟩
theorem q_430 : Cond.code ⟨"java/lang/IllegalArgumentException", "<init>", "(Ljava/lang/String;)V"⟩ prog_11_method_2_code 2 none ∈ zG := List.mem_filter.mpr ⟨List.mem_of_getElem? (i := 430) (by decide +kernel), rfl⟩
theorem q_431 : Cond.methodLink "java/lang/IllegalArgumentException" 7 ⟨"java/lang/RuntimeException", "<init>", "(Ljava/lang/String;)V"⟩ ∈ zG := List.mem_filter.mpr ⟨List.mem_of_getElem? (i := 431) (by decide +kernel), rfl⟩
theorem q_432 : Cond.lays "java/lang/IllegalArgumentException" "java/lang/Throwable" "depth" "I" ∈ zG := List.mem_filter.mpr ⟨List.mem_of_getElem? (i := 432) (by decide +kernel), rfl⟩
theorem q_434 : Cond.methodLink "ShortBridge" 108 ⟨"ShortBridge$Auction", "allows", "(I)Z"⟩ ∈ zG := List.mem_filter.mpr ⟨List.mem_of_getElem? (i := 434) (by decide +kernel), rfl⟩
theorem q_435 : Cond.instanceMethod ⟨"ShortBridge$Auction", "allows", "(I)Z"⟩ ∈ zG := List.mem_filter.mpr ⟨List.mem_of_getElem? (i := 435) (by decide +kernel), rfl⟩
theorem q_436 : Cond.selects "ShortBridge$Auction" ⟨"ShortBridge$Auction", "allows", "(I)Z"⟩ ⟨"ShortBridge$Auction", "allows", "(I)Z"⟩ ∈ zG := List.mem_filter.mpr ⟨List.mem_of_getElem? (i := 436) (by decide +kernel), rfl⟩
theorem q_437 : Cond.code ⟨"ShortBridge$Auction", "allows", "(I)Z"⟩ prog_2_method_7_code 2 (some FieldType.boolean) ∈ zG := List.mem_filter.mpr ⟨List.mem_of_getElem? (i := 437) (by decide +kernel), rfl⟩
theorem q_438 : Cond.methodLink "ShortBridge$Auction" 26 ⟨"ShortBridge$Auction", "latestOfOthers", "()I"⟩ ∈ zG := List.mem_filter.mpr ⟨List.mem_of_getElem? (i := 438) (by decide +kernel), rfl⟩
theorem q_440 : Cond.instanceMethod ⟨"ShortBridge$Auction", "latestOfOthers", "()I"⟩ ∈ zG := List.mem_filter.mpr ⟨List.mem_of_getElem? (i := 440) (by decide +kernel), rfl⟩
theorem q_441 : Cond.code ⟨"ShortBridge$Auction", "latestOfOthers", "()I"⟩ prog_2_method_14_code 2 (some FieldType.int) ∈ zG := List.mem_filter.mpr ⟨List.mem_of_getElem? (i := 441) (by decide +kernel), rfl⟩
theorem q_442 : Cond.methodLink "ShortBridge$Auction" 30 ⟨"ShortBridge$Auction", "bid", "()I"⟩ ∈ zG := List.mem_filter.mpr ⟨List.mem_of_getElem? (i := 442) (by decide +kernel), rfl⟩
theorem q_443 : Cond.classLink "ShortBridge" 111 "java/lang/UnsupportedOperationException" ∈ zG := List.mem_filter.mpr ⟨List.mem_of_getElem? (i := 443) (by decide +kernel), rfl⟩
theorem q_444 : Cond.instantiable "java/lang/UnsupportedOperationException" 6 ∈ zG := List.mem_filter.mpr ⟨List.mem_of_getElem? (i := 444) (by decide +kernel), rfl⟩
theorem q_446 : Cond.selects "java/lang/UnsupportedOperationException" ⟨"java/lang/Throwable", "fillInStackTrace", "(I)Ljava/lang/Throwable;"⟩ ⟨"java/lang/Throwable", "fillInStackTrace", "(I)Ljava/lang/Throwable;"⟩ ∈ zG := List.mem_filter.mpr ⟨List.mem_of_getElem? (i := 446) (by decide +kernel), rfl⟩
theorem q_447 : Cond.lays "java/lang/UnsupportedOperationException" "java/lang/Throwable" "cause" "Ljava/lang/Throwable;" ∈ zG := List.mem_filter.mpr ⟨List.mem_of_getElem? (i := 447) (by decide +kernel), rfl⟩
theorem q_448 : Cond.lays "java/lang/UnsupportedOperationException" "java/lang/Throwable" "stackTrace" "[Ljava/lang/StackTraceElement;" ∈ zG := List.mem_filter.mpr ⟨List.mem_of_getElem? (i := 448) (by decide +kernel), rfl⟩
theorem q_449 : Cond.lays "java/lang/UnsupportedOperationException" "java/lang/Throwable" "suppressedExceptions" "Ljava/util/List;" ∈ zG := List.mem_filter.mpr ⟨List.mem_of_getElem? (i := 449) (by decide +kernel), rfl⟩
theorem q_450 : Cond.lays "java/lang/UnsupportedOperationException" "java/lang/Throwable" "detailMessage" "Ljava/lang/String;" ∈ zG := List.mem_filter.mpr ⟨List.mem_of_getElem? (i := 450) (by decide +kernel), rfl⟩
theorem q_451 : Cond.lays "java/lang/UnsupportedOperationException" "java/lang/Throwable" "backtrace" "Ljava/lang/Object;" ∈ zG := List.mem_filter.mpr ⟨List.mem_of_getElem? (i := 451) (by decide +kernel), rfl⟩
theorem q_453 : Cond.methodLink "ShortBridge" 115 ⟨"java/lang/UnsupportedOperationException", "<init>", "(Ljava/lang/String;)V"⟩ ∈ zG := List.mem_filter.mpr ⟨List.mem_of_getElem? (i := 453) (by decide +kernel), rfl⟩
theorem q_454 : Cond.instanceMethod ⟨"java/lang/UnsupportedOperationException", "<init>", "(Ljava/lang/String;)V"⟩ ∈ zG := List.mem_filter.mpr ⟨List.mem_of_getElem? (i := 454) (by decide +kernel), rfl⟩
theorem q_455 : Cond.code ⟨"java/lang/UnsupportedOperationException", "<init>", "(Ljava/lang/String;)V"⟩ prog_18_method_2_code 2 none ∈ zG := List.mem_filter.mpr ⟨List.mem_of_getElem? (i := 455) (by decide +kernel), rfl⟩
theorem q_456 : Cond.methodLink "java/lang/UnsupportedOperationException" 7 ⟨"java/lang/RuntimeException", "<init>", "(Ljava/lang/String;)V"⟩ ∈ zG := List.mem_filter.mpr ⟨List.mem_of_getElem? (i := 456) (by decide +kernel), rfl⟩
theorem q_457 : Cond.lays "java/lang/UnsupportedOperationException" "java/lang/Throwable" "depth" "I" ∈ zG := List.mem_filter.mpr ⟨List.mem_of_getElem? (i := 457) (by decide +kernel), rfl⟩
theorem q_459 : Cond.methodLink "ShortBridge" 116 ⟨"ShortBridge$Auction", "add", "(I)V"⟩ ∈ zG := List.mem_filter.mpr ⟨List.mem_of_getElem? (i := 459) (by decide +kernel), rfl⟩
theorem q_460 : Cond.instanceMethod ⟨"ShortBridge$Auction", "add", "(I)V"⟩ ∈ zG := List.mem_filter.mpr ⟨List.mem_of_getElem? (i := 460) (by decide +kernel), rfl⟩
theorem q_461 : Cond.selects "ShortBridge$Auction" ⟨"ShortBridge$Auction", "add", "(I)V"⟩ ⟨"ShortBridge$Auction", "add", "(I)V"⟩ ∈ zG := List.mem_filter.mpr ⟨List.mem_of_getElem? (i := 461) (by decide +kernel), rfl⟩
theorem q_462 : Cond.code ⟨"ShortBridge$Auction", "add", "(I)V"⟩ prog_2_method_8_code 2 none ∈ zG := List.mem_filter.mpr ⟨List.mem_of_getElem? (i := 462) (by decide +kernel), rfl⟩
theorem q_463 : Cond.methodLink "ShortBridge" 123 ⟨"ShortBridge$Auction", "strain", "(I)I"⟩ ∈ zG := List.mem_filter.mpr ⟨List.mem_of_getElem? (i := 463) (by decide +kernel), rfl⟩
theorem q_464 : Cond.methodLink "ShortBridge" 127 ⟨"ShortBridge$Hands", "beginPlay", "(II)V"⟩ ∈ zG := List.mem_filter.mpr ⟨List.mem_of_getElem? (i := 464) (by decide +kernel), rfl⟩
theorem q_465 : Cond.instanceMethod ⟨"ShortBridge$Hands", "beginPlay", "(II)V"⟩ ∈ zG := List.mem_filter.mpr ⟨List.mem_of_getElem? (i := 465) (by decide +kernel), rfl⟩
theorem q_466 : Cond.selects "ShortBridge$Hands" ⟨"ShortBridge$Hands", "beginPlay", "(II)V"⟩ ⟨"ShortBridge$Hands", "beginPlay", "(II)V"⟩ ∈ zG := List.mem_filter.mpr ⟨List.mem_of_getElem? (i := 466) (by decide +kernel), rfl⟩
theorem q_467 : Cond.code ⟨"ShortBridge$Hands", "beginPlay", "(II)V"⟩ prog_4_method_3_code 3 none ∈ zG := List.mem_filter.mpr ⟨List.mem_of_getElem? (i := 467) (by decide +kernel), rfl⟩
theorem q_468 : Cond.methodLink "ShortBridgeLaw" 87 ⟨"ShortBridgeLaw", "play", "(LShortBridge;I)I"⟩ ∈ zG := List.mem_filter.mpr ⟨List.mem_of_getElem? (i := 468) (by decide +kernel), rfl⟩
theorem q_469 : Cond.static ⟨"ShortBridgeLaw", "play", "(LShortBridge;I)I"⟩ ∈ zG := List.mem_filter.mpr ⟨List.mem_of_getElem? (i := 469) (by decide +kernel), rfl⟩
theorem q_470 : Cond.codeWith ⟨"ShortBridgeLaw", "play", "(LShortBridge;I)I"⟩ method_4_code 3 (some FieldType.int) [(0, 5, 8, 13), (0, 5, 11, 22), (0, 5, 14, 17)] ∈ zG := List.mem_filter.mpr ⟨List.mem_of_getElem? (i := 470) (by decide +kernel), rfl⟩
theorem q_471 : Cond.classLink "ShortBridgeLaw" 22 "java/util/NoSuchElementException" ∈ zG := List.mem_filter.mpr ⟨List.mem_of_getElem? (i := 471) (by decide +kernel), rfl⟩
theorem q_472 : Cond.methodLink "ShortBridgeLaw" 19 ⟨"ShortBridge", "play", "(I)V"⟩ ∈ zG := List.mem_filter.mpr ⟨List.mem_of_getElem? (i := 472) (by decide +kernel), rfl⟩
theorem q_473 : Cond.instanceMethod ⟨"ShortBridge", "play", "(I)V"⟩ ∈ zG := List.mem_filter.mpr ⟨List.mem_of_getElem? (i := 473) (by decide +kernel), rfl⟩
theorem q_474 : Cond.selects "ShortBridge" ⟨"ShortBridge", "play", "(I)V"⟩ ⟨"ShortBridge", "play", "(I)V"⟩ ∈ zG := List.mem_filter.mpr ⟨List.mem_of_getElem? (i := 474) (by decide +kernel), rfl⟩
theorem q_475 : Cond.code ⟨"ShortBridge", "play", "(I)V"⟩ prog_1_method_9_code 2 none ∈ zG := List.mem_filter.mpr ⟨List.mem_of_getElem? (i := 475) (by decide +kernel), rfl⟩
theorem q_477 : Cond.classLink "ShortBridge" 132 "java/util/NoSuchElementException" ∈ zG := List.mem_filter.mpr ⟨List.mem_of_getElem? (i := 477) (by decide +kernel), rfl⟩
theorem q_478 : Cond.instantiable "java/util/NoSuchElementException" 6 ∈ zG := List.mem_filter.mpr ⟨List.mem_of_getElem? (i := 478) (by decide +kernel), rfl⟩
theorem q_480 : Cond.selects "java/util/NoSuchElementException" ⟨"java/lang/Throwable", "fillInStackTrace", "(I)Ljava/lang/Throwable;"⟩ ⟨"java/lang/Throwable", "fillInStackTrace", "(I)Ljava/lang/Throwable;"⟩ ∈ zG := List.mem_filter.mpr ⟨List.mem_of_getElem? (i := 480) (by decide +kernel), rfl⟩
theorem q_481 : Cond.lays "java/util/NoSuchElementException" "java/lang/Throwable" "cause" "Ljava/lang/Throwable;" ∈ zG := List.mem_filter.mpr ⟨List.mem_of_getElem? (i := 481) (by decide +kernel), rfl⟩
theorem q_482 : Cond.lays "java/util/NoSuchElementException" "java/lang/Throwable" "stackTrace" "[Ljava/lang/StackTraceElement;" ∈ zG := List.mem_filter.mpr ⟨List.mem_of_getElem? (i := 482) (by decide +kernel), rfl⟩
theorem q_483 : Cond.lays "java/util/NoSuchElementException" "java/lang/Throwable" "suppressedExceptions" "Ljava/util/List;" ∈ zG := List.mem_filter.mpr ⟨List.mem_of_getElem? (i := 483) (by decide +kernel), rfl⟩
theorem q_484 : Cond.lays "java/util/NoSuchElementException" "java/lang/Throwable" "detailMessage" "Ljava/lang/String;" ∈ zG := List.mem_filter.mpr ⟨List.mem_of_getElem? (i := 484) (by decide +kernel), rfl⟩
theorem q_485 : Cond.lays "java/util/NoSuchElementException" "java/lang/Throwable" "backtrace" "Ljava/lang/Object;" ∈ zG := List.mem_filter.mpr ⟨List.mem_of_getElem? (i := 485) (by decide +kernel), rfl⟩
theorem q_487 : Cond.methodLink "ShortBridge" 136 ⟨"java/util/NoSuchElementException", "<init>", "(Ljava/lang/String;)V"⟩ ∈ zG := List.mem_filter.mpr ⟨List.mem_of_getElem? (i := 487) (by decide +kernel), rfl⟩
theorem q_488 : Cond.instanceMethod ⟨"java/util/NoSuchElementException", "<init>", "(Ljava/lang/String;)V"⟩ ∈ zG := List.mem_filter.mpr ⟨List.mem_of_getElem? (i := 488) (by decide +kernel), rfl⟩
theorem q_489 : Cond.code ⟨"java/util/NoSuchElementException", "<init>", "(Ljava/lang/String;)V"⟩ prog_19_method_4_code 2 none ∈ zG := List.mem_filter.mpr ⟨List.mem_of_getElem? (i := 489) (by decide +kernel), rfl⟩
theorem q_490 : Cond.methodLink "java/util/NoSuchElementException" 13 ⟨"java/lang/RuntimeException", "<init>", "(Ljava/lang/String;)V"⟩ ∈ zG := List.mem_filter.mpr ⟨List.mem_of_getElem? (i := 490) (by decide +kernel), rfl⟩
theorem q_491 : Cond.lays "java/util/NoSuchElementException" "java/lang/Throwable" "depth" "I" ∈ zG := List.mem_filter.mpr ⟨List.mem_of_getElem? (i := 491) (by decide +kernel), rfl⟩
theorem q_493 : Cond.methodLink "ShortBridge" 137 ⟨"ShortBridge$Hands", "allow", "(I)Z"⟩ ∈ zG := List.mem_filter.mpr ⟨List.mem_of_getElem? (i := 493) (by decide +kernel), rfl⟩
theorem q_494 : Cond.instanceMethod ⟨"ShortBridge$Hands", "allow", "(I)Z"⟩ ∈ zG := List.mem_filter.mpr ⟨List.mem_of_getElem? (i := 494) (by decide +kernel), rfl⟩
theorem q_495 : Cond.selects "ShortBridge$Hands" ⟨"ShortBridge$Hands", "allow", "(I)Z"⟩ ⟨"ShortBridge$Hands", "allow", "(I)Z"⟩ ∈ zG := List.mem_filter.mpr ⟨List.mem_of_getElem? (i := 495) (by decide +kernel), rfl⟩
theorem q_496 : Cond.code ⟨"ShortBridge$Hands", "allow", "(I)Z"⟩ prog_4_method_8_code 2 (some FieldType.boolean) ∈ zG := List.mem_filter.mpr ⟨List.mem_of_getElem? (i := 496) (by decide +kernel), rfl⟩
theorem q_497 : Cond.methodLink "ShortBridge$Hands" 43 ⟨"ShortBridge$Hands", "allowed", "()I"⟩ ∈ zG := List.mem_filter.mpr ⟨List.mem_of_getElem? (i := 497) (by decide +kernel), rfl⟩
theorem q_498 : Cond.instanceMethod ⟨"ShortBridge$Hands", "allowed", "()I"⟩ ∈ zG := List.mem_filter.mpr ⟨List.mem_of_getElem? (i := 498) (by decide +kernel), rfl⟩
theorem q_499 : Cond.selects "ShortBridge$Hands" ⟨"ShortBridge$Hands", "allowed", "()I"⟩ ⟨"ShortBridge$Hands", "allowed", "()I"⟩ ∈ zG := List.mem_filter.mpr ⟨List.mem_of_getElem? (i := 499) (by decide +kernel), rfl⟩
theorem q_500 : Cond.code ⟨"ShortBridge$Hands", "allowed", "()I"⟩ prog_4_method_7_code 4 (some FieldType.int) ∈ zG := List.mem_filter.mpr ⟨List.mem_of_getElem? (i := 500) (by decide +kernel), rfl⟩
theorem q_502 : Cond.methodLink "ShortBridge" 142 ⟨"ShortBridge$Hands", "put", "(I)V"⟩ ∈ zG := List.mem_filter.mpr ⟨List.mem_of_getElem? (i := 502) (by decide +kernel), rfl⟩
theorem q_503 : Cond.instanceMethod ⟨"ShortBridge$Hands", "put", "(I)V"⟩ ∈ zG := List.mem_filter.mpr ⟨List.mem_of_getElem? (i := 503) (by decide +kernel), rfl⟩
theorem q_504 : Cond.selects "ShortBridge$Hands" ⟨"ShortBridge$Hands", "put", "(I)V"⟩ ⟨"ShortBridge$Hands", "put", "(I)V"⟩ ∈ zG := List.mem_filter.mpr ⟨List.mem_of_getElem? (i := 504) (by decide +kernel), rfl⟩
theorem q_505 : Cond.code ⟨"ShortBridge$Hands", "put", "(I)V"⟩ prog_4_method_9_code 2 none ∈ zG := List.mem_filter.mpr ⟨List.mem_of_getElem? (i := 505) (by decide +kernel), rfl⟩
theorem q_506 : Cond.methodLink "ShortBridge$Hands" 46 ⟨"ShortBridge$Hands", "winnerOf", "(I)I"⟩ ∈ zG := List.mem_filter.mpr ⟨List.mem_of_getElem? (i := 506) (by decide +kernel), rfl⟩
theorem q_508 : Cond.instanceMethod ⟨"ShortBridge$Hands", "winnerOf", "(I)I"⟩ ∈ zG := List.mem_filter.mpr ⟨List.mem_of_getElem? (i := 508) (by decide +kernel), rfl⟩
theorem q_509 : Cond.code ⟨"ShortBridge$Hands", "winnerOf", "(I)I"⟩ prog_4_method_15_code 5 (some FieldType.int) ∈ zG := List.mem_filter.mpr ⟨List.mem_of_getElem? (i := 509) (by decide +kernel), rfl⟩
theorem q_510 : Cond.methodLink "ShortBridge$Hands" 58 ⟨"ShortBridge$Hands", "beats", "(II)Z"⟩ ∈ zG := List.mem_filter.mpr ⟨List.mem_of_getElem? (i := 510) (by decide +kernel), rfl⟩
theorem q_512 : Cond.instanceMethod ⟨"ShortBridge$Hands", "beats", "(II)Z"⟩ ∈ zG := List.mem_filter.mpr ⟨List.mem_of_getElem? (i := 512) (by decide +kernel), rfl⟩
theorem q_513 : Cond.code ⟨"ShortBridge$Hands", "beats", "(II)Z"⟩ prog_4_method_16_code 4 (some FieldType.boolean) ∈ zG := List.mem_filter.mpr ⟨List.mem_of_getElem? (i := 513) (by decide +kernel), rfl⟩
theorem q_514 : Cond.methodLink "ShortBridgeLaw" 107 ⟨"ShortBridgeLaw", "score", "(LShortBridge;[J)I"⟩ ∈ zG := List.mem_filter.mpr ⟨List.mem_of_getElem? (i := 514) (by decide +kernel), rfl⟩
theorem q_515 : Cond.static ⟨"ShortBridgeLaw", "score", "(LShortBridge;[J)I"⟩ ∈ zG := List.mem_filter.mpr ⟨List.mem_of_getElem? (i := 515) (by decide +kernel), rfl⟩
theorem q_516 : Cond.codeWith ⟨"ShortBridgeLaw", "score", "(LShortBridge;[J)I"⟩ method_5_code 3 (some FieldType.int) [(0, 8, 11, 13)] ∈ zG := List.mem_filter.mpr ⟨List.mem_of_getElem? (i := 516) (by decide +kernel), rfl⟩
theorem q_517 : Cond.methodLink "ShortBridgeLaw" 24 ⟨"ShortBridge", "score", "()I"⟩ ∈ zG := List.mem_filter.mpr ⟨List.mem_of_getElem? (i := 517) (by decide +kernel), rfl⟩
theorem q_518 : Cond.instanceMethod ⟨"ShortBridge", "score", "()I"⟩ ∈ zG := List.mem_filter.mpr ⟨List.mem_of_getElem? (i := 518) (by decide +kernel), rfl⟩
theorem q_519 : Cond.selects "ShortBridge" ⟨"ShortBridge", "score", "()I"⟩ ⟨"ShortBridge", "score", "()I"⟩ ∈ zG := List.mem_filter.mpr ⟨List.mem_of_getElem? (i := 519) (by decide +kernel), rfl⟩
theorem q_520 : Cond.code ⟨"ShortBridge", "score", "()I"⟩ prog_1_method_14_code 1 (some FieldType.int) ∈ zG := List.mem_filter.mpr ⟨List.mem_of_getElem? (i := 520) (by decide +kernel), rfl⟩
theorem q_522 : Cond.methodLink "ShortBridge" 165 ⟨"ShortBridge", "scoreOfSide0", "()I"⟩ ∈ zG := List.mem_filter.mpr ⟨List.mem_of_getElem? (i := 522) (by decide +kernel), rfl⟩
theorem q_524 : Cond.instanceMethod ⟨"ShortBridge", "scoreOfSide0", "()I"⟩ ∈ zG := List.mem_filter.mpr ⟨List.mem_of_getElem? (i := 524) (by decide +kernel), rfl⟩
theorem q_525 : Cond.code ⟨"ShortBridge", "scoreOfSide0", "()I"⟩ prog_1_method_24_code 5 (some FieldType.int) ∈ zG := List.mem_filter.mpr ⟨List.mem_of_getElem? (i := 525) (by decide +kernel), rfl⟩
theorem q_526 : Cond.methodLink "ShortBridge" 170 ⟨"ShortBridge", "sideOf", "(I)I"⟩ ∈ zG := List.mem_filter.mpr ⟨List.mem_of_getElem? (i := 526) (by decide +kernel), rfl⟩
theorem q_527 : Cond.methodLink "ShortBridge" 217 ⟨"ShortBridge$Scoring", "scoreOf", "(IIIZ)I"⟩ ∈ zG := List.mem_filter.mpr ⟨List.mem_of_getElem? (i := 527) (by decide +kernel), rfl⟩
theorem q_528 : Cond.static ⟨"ShortBridge$Scoring", "scoreOf", "(IIIZ)I"⟩ ∈ zG := List.mem_filter.mpr ⟨List.mem_of_getElem? (i := 528) (by decide +kernel), rfl⟩
theorem q_529 : Cond.code ⟨"ShortBridge$Scoring", "scoreOf", "(IIIZ)I"⟩ prog_6_method_2_code 5 (some FieldType.int) ∈ zG := List.mem_filter.mpr ⟨List.mem_of_getElem? (i := 529) (by decide +kernel), rfl⟩
theorem q_530 : Cond.methodLink "ShortBridge$Scoring" 9 ⟨"ShortBridge$Auction", "level", "(I)I"⟩ ∈ zG := List.mem_filter.mpr ⟨List.mem_of_getElem? (i := 530) (by decide +kernel), rfl⟩
theorem q_531 : Cond.static ⟨"ShortBridge$Auction", "level", "(I)I"⟩ ∈ zG := List.mem_filter.mpr ⟨List.mem_of_getElem? (i := 531) (by decide +kernel), rfl⟩
theorem q_532 : Cond.code ⟨"ShortBridge$Auction", "level", "(I)I"⟩ prog_2_method_3_code 1 (some FieldType.int) ∈ zG := List.mem_filter.mpr ⟨List.mem_of_getElem? (i := 532) (by decide +kernel), rfl⟩
theorem q_533 : Cond.methodLink "ShortBridge$Scoring" 15 ⟨"ShortBridge$Scoring", "penalty", "(IIZ)I"⟩ ∈ zG := List.mem_filter.mpr ⟨List.mem_of_getElem? (i := 533) (by decide +kernel), rfl⟩
theorem q_534 : Cond.static ⟨"ShortBridge$Scoring", "penalty", "(IIZ)I"⟩ ∈ zG := List.mem_filter.mpr ⟨List.mem_of_getElem? (i := 534) (by decide +kernel), rfl⟩
theorem q_535 : Cond.code ⟨"ShortBridge$Scoring", "penalty", "(IIZ)I"⟩ prog_6_method_7_code 5 (some FieldType.int) ∈ zG := List.mem_filter.mpr ⟨List.mem_of_getElem? (i := 535) (by decide +kernel), rfl⟩
theorem q_536 : Cond.methodLink "ShortBridge$Scoring" 42 ⟨"ShortBridge$Scoring", "missingTrick", "(IZ)I"⟩ ∈ zG := List.mem_filter.mpr ⟨List.mem_of_getElem? (i := 536) (by decide +kernel), rfl⟩
theorem q_537 : Cond.static ⟨"ShortBridge$Scoring", "missingTrick", "(IZ)I"⟩ ∈ zG := List.mem_filter.mpr ⟨List.mem_of_getElem? (i := 537) (by decide +kernel), rfl⟩
theorem q_538 : Cond.code ⟨"ShortBridge$Scoring", "missingTrick", "(IZ)I"⟩ prog_6_method_8_code 2 (some FieldType.int) ∈ zG := List.mem_filter.mpr ⟨List.mem_of_getElem? (i := 538) (by decide +kernel), rfl⟩
theorem q_539 : Cond.methodLink "ShortBridge$Scoring" 21 ⟨"ShortBridge$Scoring", "made", "(IIZ)I"⟩ ∈ zG := List.mem_filter.mpr ⟨List.mem_of_getElem? (i := 539) (by decide +kernel), rfl⟩
theorem q_540 : Cond.static ⟨"ShortBridge$Scoring", "made", "(IIZ)I"⟩ ∈ zG := List.mem_filter.mpr ⟨List.mem_of_getElem? (i := 540) (by decide +kernel), rfl⟩
theorem q_541 : Cond.code ⟨"ShortBridge$Scoring", "made", "(IIZ)I"⟩ prog_6_method_5_code 6 (some FieldType.int) ∈ zG := List.mem_filter.mpr ⟨List.mem_of_getElem? (i := 541) (by decide +kernel), rfl⟩
theorem q_542 : Cond.methodLink "ShortBridge$Scoring" 36 ⟨"ShortBridge$Auction", "strain", "(I)I"⟩ ∈ zG := List.mem_filter.mpr ⟨List.mem_of_getElem? (i := 542) (by decide +kernel), rfl⟩
theorem q_543 : Cond.methodLink "ShortBridge$Scoring" 39 ⟨"ShortBridge$Scoring", "worth", "(I)I"⟩ ∈ zG := List.mem_filter.mpr ⟨List.mem_of_getElem? (i := 543) (by decide +kernel), rfl⟩
theorem q_544 : Cond.static ⟨"ShortBridge$Scoring", "worth", "(I)I"⟩ ∈ zG := List.mem_filter.mpr ⟨List.mem_of_getElem? (i := 544) (by decide +kernel), rfl⟩
theorem q_545 : Cond.code ⟨"ShortBridge$Scoring", "worth", "(I)I"⟩ prog_6_method_4_code 1 (some FieldType.int) ∈ zG := List.mem_filter.mpr ⟨List.mem_of_getElem? (i := 545) (by decide +kernel), rfl⟩
theorem q_546 : Cond.methodLink "ShortBridge$Scoring" 24 ⟨"ShortBridge$Scoring", "extraTrick", "(IIZ)I"⟩ ∈ zG := List.mem_filter.mpr ⟨List.mem_of_getElem? (i := 546) (by decide +kernel), rfl⟩
theorem q_547 : Cond.static ⟨"ShortBridge$Scoring", "extraTrick", "(IIZ)I"⟩ ∈ zG := List.mem_filter.mpr ⟨List.mem_of_getElem? (i := 547) (by decide +kernel), rfl⟩
theorem q_548 : Cond.code ⟨"ShortBridge$Scoring", "extraTrick", "(IIZ)I"⟩ prog_6_method_6_code 3 (some FieldType.int) ∈ zG := List.mem_filter.mpr ⟨List.mem_of_getElem? (i := 548) (by decide +kernel), rfl⟩
theorem q_549 : Cond.methodLink "ShortBridgeLaw" 111 ⟨"ShortBridgeLaw", "solve", "(LShortBridge;[J)I"⟩ ∈ zG := List.mem_filter.mpr ⟨List.mem_of_getElem? (i := 549) (by decide +kernel), rfl⟩
theorem q_550 : Cond.static ⟨"ShortBridgeLaw", "solve", "(LShortBridge;[J)I"⟩ ∈ zG := List.mem_filter.mpr ⟨List.mem_of_getElem? (i := 550) (by decide +kernel), rfl⟩
theorem q_551 : Cond.codeWith ⟨"ShortBridgeLaw", "solve", "(LShortBridge;[J)I"⟩ method_6_code 3 (some FieldType.int) [(0, 8, 11, 13), (0, 8, 14, 17)] ∈ zG := List.mem_filter.mpr ⟨List.mem_of_getElem? (i := 551) (by decide +kernel), rfl⟩
theorem q_552 : Cond.methodLink "ShortBridgeLaw" 28 ⟨"ShortBridge", "solve", "()I"⟩ ∈ zG := List.mem_filter.mpr ⟨List.mem_of_getElem? (i := 552) (by decide +kernel), rfl⟩
theorem q_553 : Cond.instanceMethod ⟨"ShortBridge", "solve", "()I"⟩ ∈ zG := List.mem_filter.mpr ⟨List.mem_of_getElem? (i := 553) (by decide +kernel), rfl⟩
theorem q_554 : Cond.selects "ShortBridge" ⟨"ShortBridge", "solve", "()I"⟩ ⟨"ShortBridge", "solve", "()I"⟩ ∈ zG := List.mem_filter.mpr ⟨List.mem_of_getElem? (i := 554) (by decide +kernel), rfl⟩
theorem q_555 : Cond.code ⟨"ShortBridge", "solve", "()I"⟩ prog_1_method_15_code 1 (some FieldType.int) ∈ zG := List.mem_filter.mpr ⟨List.mem_of_getElem? (i := 555) (by decide +kernel), rfl⟩
theorem q_557 : Cond.methodLink "ShortBridge" 173 ⟨"ShortBridge$Solver", "tricksOf", "(LShortBridge$Hands;I)I"⟩ ∈ zG := List.mem_filter.mpr ⟨List.mem_of_getElem? (i := 557) (by decide +kernel), rfl⟩
theorem q_558 : Cond.static ⟨"ShortBridge$Solver", "tricksOf", "(LShortBridge$Hands;I)I"⟩ ∈ zG := List.mem_filter.mpr ⟨List.mem_of_getElem? (i := 558) (by decide +kernel), rfl⟩
theorem q_559 : Cond.code ⟨"ShortBridge$Solver", "tricksOf", "(LShortBridge$Hands;I)I"⟩ prog_7_method_2_code 4 (some FieldType.int) ∈ zG := List.mem_filter.mpr ⟨List.mem_of_getElem? (i := 559) (by decide +kernel), rfl⟩
theorem q_560 : Cond.methodLink "ShortBridge$Solver" 15 ⟨"ShortBridge$Solver", "tricksIn", "(I)I"⟩ ∈ zG := List.mem_filter.mpr ⟨List.mem_of_getElem? (i := 560) (by decide +kernel), rfl⟩
theorem q_561 : Cond.static ⟨"ShortBridge$Solver", "tricksIn", "(I)I"⟩ ∈ zG := List.mem_filter.mpr ⟨List.mem_of_getElem? (i := 561) (by decide +kernel), rfl⟩
theorem q_562 : Cond.code ⟨"ShortBridge$Solver", "tricksIn", "(I)I"⟩ prog_7_method_3_code 1 (some FieldType.int) ∈ zG := List.mem_filter.mpr ⟨List.mem_of_getElem? (i := 562) (by decide +kernel), rfl⟩
theorem q_563 : Cond.methodLink "ShortBridge$Solver" 21 ⟨"ShortBridge$Solver", "reaches", "(LShortBridge$Hands;III)Z"⟩ ∈ zG := List.mem_filter.mpr ⟨List.mem_of_getElem? (i := 563) (by decide +kernel), rfl⟩
theorem q_564 : Cond.static ⟨"ShortBridge$Solver", "reaches", "(LShortBridge$Hands;III)Z"⟩ ∈ zG := List.mem_filter.mpr ⟨List.mem_of_getElem? (i := 564) (by decide +kernel), rfl⟩
theorem q_565 : Cond.code ⟨"ShortBridge$Solver", "reaches", "(LShortBridge$Hands;III)Z"⟩ prog_7_method_4_code 11 (some FieldType.boolean) ∈ zG := List.mem_filter.mpr ⟨List.mem_of_getElem? (i := 565) (by decide +kernel), rfl⟩
theorem q_566 : Cond.methodLink "ShortBridge$Solver" 28 ⟨"ShortBridge$Hands", "player", "()I"⟩ ∈ zG := List.mem_filter.mpr ⟨List.mem_of_getElem? (i := 566) (by decide +kernel), rfl⟩
theorem q_568 : Cond.methodLink "ShortBridge$Solver" 35 ⟨"ShortBridge$Hands", "allowed", "()I"⟩ ∈ zG := List.mem_filter.mpr ⟨List.mem_of_getElem? (i := 568) (by decide +kernel), rfl⟩
theorem q_569 : Cond.methodLink "ShortBridge$Solver" 38 ⟨"ShortBridge$Hands", "live", "()I"⟩ ∈ zG := List.mem_filter.mpr ⟨List.mem_of_getElem? (i := 569) (by decide +kernel), rfl⟩
theorem q_570 : Cond.instanceMethod ⟨"ShortBridge$Hands", "live", "()I"⟩ ∈ zG := List.mem_filter.mpr ⟨List.mem_of_getElem? (i := 570) (by decide +kernel), rfl⟩
theorem q_571 : Cond.selects "ShortBridge$Hands" ⟨"ShortBridge$Hands", "live", "()I"⟩ ⟨"ShortBridge$Hands", "live", "()I"⟩ ∈ zG := List.mem_filter.mpr ⟨List.mem_of_getElem? (i := 571) (by decide +kernel), rfl⟩
theorem q_572 : Cond.code ⟨"ShortBridge$Hands", "live", "()I"⟩ prog_4_method_13_code 3 (some FieldType.int) ∈ zG := List.mem_filter.mpr ⟨List.mem_of_getElem? (i := 572) (by decide +kernel), rfl⟩
theorem q_573 : Cond.methodLink "ShortBridge$Solver" 45 ⟨"ShortBridge$Solver", "areAlike", "(III)Z"⟩ ∈ zG := List.mem_filter.mpr ⟨List.mem_of_getElem? (i := 573) (by decide +kernel), rfl⟩
theorem q_574 : Cond.static ⟨"ShortBridge$Solver", "areAlike", "(III)Z"⟩ ∈ zG := List.mem_filter.mpr ⟨List.mem_of_getElem? (i := 574) (by decide +kernel), rfl⟩
theorem q_575 : Cond.code ⟨"ShortBridge$Solver", "areAlike", "(III)Z"⟩ prog_7_method_6_code 4 (some FieldType.boolean) ∈ zG := List.mem_filter.mpr ⟨List.mem_of_getElem? (i := 575) (by decide +kernel), rfl⟩
theorem q_576 : Cond.methodLink "ShortBridge$Solver" 49 ⟨"ShortBridge$Solver", "reachesWith", "(ILShortBridge$Hands;III)Z"⟩ ∈ zG := List.mem_filter.mpr ⟨List.mem_of_getElem? (i := 576) (by decide +kernel), rfl⟩
theorem q_577 : Cond.static ⟨"ShortBridge$Solver", "reachesWith", "(ILShortBridge$Hands;III)Z"⟩ ∈ zG := List.mem_filter.mpr ⟨List.mem_of_getElem? (i := 577) (by decide +kernel), rfl⟩
theorem q_578 : Cond.code ⟨"ShortBridge$Solver", "reachesWith", "(ILShortBridge$Hands;III)Z"⟩ prog_7_method_5_code 7 (some FieldType.boolean) ∈ zG := List.mem_filter.mpr ⟨List.mem_of_getElem? (i := 578) (by decide +kernel), rfl⟩
theorem q_579 : Cond.methodLink "ShortBridge$Solver" 53 ⟨"ShortBridge$Hands", "put", "(I)V"⟩ ∈ zG := List.mem_filter.mpr ⟨List.mem_of_getElem? (i := 579) (by decide +kernel), rfl⟩
theorem q_580 : Cond.methodLink "ShortBridge$Solver" 57 ⟨"ShortBridge$Hands", "takeBack", "()V"⟩ ∈ zG := List.mem_filter.mpr ⟨List.mem_of_getElem? (i := 580) (by decide +kernel), rfl⟩
theorem q_581 : Cond.methodLink "ShortBridge$Solver" 25 ⟨"ShortBridge$Hands", "won", "(I)I"⟩ ∈ zG := List.mem_filter.mpr ⟨List.mem_of_getElem? (i := 581) (by decide +kernel), rfl⟩
theorem q_582 : Cond.methodLink "ShortBridgeLaw" 114 ⟨"ShortBridgeLaw", "record", "(LShortBridge;[J)I"⟩ ∈ zG := List.mem_filter.mpr ⟨List.mem_of_getElem? (i := 582) (by decide +kernel), rfl⟩
theorem q_583 : Cond.static ⟨"ShortBridgeLaw", "record", "(LShortBridge;[J)I"⟩ ∈ zG := List.mem_filter.mpr ⟨List.mem_of_getElem? (i := 583) (by decide +kernel), rfl⟩
theorem q_584 : Cond.codeWith ⟨"ShortBridgeLaw", "record", "(LShortBridge;[J)I"⟩ method_7_code 3 (some FieldType.int) [(0, 8, 11, 13), (0, 8, 14, 17)] ∈ zG := List.mem_filter.mpr ⟨List.mem_of_getElem? (i := 584) (by decide +kernel), rfl⟩
theorem q_585 : Cond.methodLink "ShortBridgeLaw" 31 ⟨"ShortBridge", "record", "()I"⟩ ∈ zG := List.mem_filter.mpr ⟨List.mem_of_getElem? (i := 585) (by decide +kernel), rfl⟩
theorem q_586 : Cond.instanceMethod ⟨"ShortBridge", "record", "()I"⟩ ∈ zG := List.mem_filter.mpr ⟨List.mem_of_getElem? (i := 586) (by decide +kernel), rfl⟩
theorem q_587 : Cond.selects "ShortBridge" ⟨"ShortBridge", "record", "()I"⟩ ⟨"ShortBridge", "record", "()I"⟩ ∈ zG := List.mem_filter.mpr ⟨List.mem_of_getElem? (i := 587) (by decide +kernel), rfl⟩
theorem q_588 : Cond.code ⟨"ShortBridge", "record", "()I"⟩ prog_1_method_16_code 1 (some FieldType.int) ∈ zG := List.mem_filter.mpr ⟨List.mem_of_getElem? (i := 588) (by decide +kernel), rfl⟩
theorem q_589 : Cond.methodLink "ShortBridge" 179 ⟨"ShortBridge$Results", "areFull", "()Z"⟩ ∈ zG := List.mem_filter.mpr ⟨List.mem_of_getElem? (i := 589) (by decide +kernel), rfl⟩
theorem q_590 : Cond.instanceMethod ⟨"ShortBridge$Results", "areFull", "()Z"⟩ ∈ zG := List.mem_filter.mpr ⟨List.mem_of_getElem? (i := 590) (by decide +kernel), rfl⟩
theorem q_591 : Cond.selects "ShortBridge$Results" ⟨"ShortBridge$Results", "areFull", "()Z"⟩ ⟨"ShortBridge$Results", "areFull", "()Z"⟩ ∈ zG := List.mem_filter.mpr ⟨List.mem_of_getElem? (i := 591) (by decide +kernel), rfl⟩
theorem q_592 : Cond.code ⟨"ShortBridge$Results", "areFull", "()Z"⟩ prog_5_method_2_code 1 (some FieldType.boolean) ∈ zG := List.mem_filter.mpr ⟨List.mem_of_getElem? (i := 592) (by decide +kernel), rfl⟩
theorem q_594 : Cond.methodLink "ShortBridge" 184 ⟨"ShortBridge$Results", "add", "(JI)V"⟩ ∈ zG := List.mem_filter.mpr ⟨List.mem_of_getElem? (i := 594) (by decide +kernel), rfl⟩
theorem q_595 : Cond.instanceMethod ⟨"ShortBridge$Results", "add", "(JI)V"⟩ ∈ zG := List.mem_filter.mpr ⟨List.mem_of_getElem? (i := 595) (by decide +kernel), rfl⟩
theorem q_596 : Cond.selects "ShortBridge$Results" ⟨"ShortBridge$Results", "add", "(JI)V"⟩ ⟨"ShortBridge$Results", "add", "(JI)V"⟩ ∈ zG := List.mem_filter.mpr ⟨List.mem_of_getElem? (i := 596) (by decide +kernel), rfl⟩
theorem q_597 : Cond.code ⟨"ShortBridge$Results", "add", "(JI)V"⟩ prog_5_method_4_code 4 none ∈ zG := List.mem_filter.mpr ⟨List.mem_of_getElem? (i := 597) (by decide +kernel), rfl⟩
theorem q_598 : Cond.methodLink "ShortBridgeLaw" 117 ⟨"ShortBridgeLaw", "points", "(LShortBridge;II[J)I"⟩ ∈ zG := List.mem_filter.mpr ⟨List.mem_of_getElem? (i := 598) (by decide +kernel), rfl⟩
theorem q_599 : Cond.static ⟨"ShortBridgeLaw", "points", "(LShortBridge;II[J)I"⟩ ∈ zG := List.mem_filter.mpr ⟨List.mem_of_getElem? (i := 599) (by decide +kernel), rfl⟩
theorem q_600 : Cond.codeWith ⟨"ShortBridgeLaw", "points", "(LShortBridge;II[J)I"⟩ method_8_code 5 (some FieldType.int) [(0, 10, 13, 38)] ∈ zG := List.mem_filter.mpr ⟨List.mem_of_getElem? (i := 600) (by decide +kernel), rfl⟩
theorem q_601 : Cond.classLink "ShortBridgeLaw" 38 "java/lang/IndexOutOfBoundsException" ∈ zG := List.mem_filter.mpr ⟨List.mem_of_getElem? (i := 601) (by decide +kernel), rfl⟩
theorem q_602 : Cond.methodLink "ShortBridgeLaw" 34 ⟨"ShortBridge", "points", "(II)I"⟩ ∈ zG := List.mem_filter.mpr ⟨List.mem_of_getElem? (i := 602) (by decide +kernel), rfl⟩
theorem q_603 : Cond.instanceMethod ⟨"ShortBridge", "points", "(II)I"⟩ ∈ zG := List.mem_filter.mpr ⟨List.mem_of_getElem? (i := 603) (by decide +kernel), rfl⟩
theorem q_604 : Cond.selects "ShortBridge" ⟨"ShortBridge", "points", "(II)I"⟩ ⟨"ShortBridge", "points", "(II)I"⟩ ∈ zG := List.mem_filter.mpr ⟨List.mem_of_getElem? (i := 604) (by decide +kernel), rfl⟩
theorem q_605 : Cond.code ⟨"ShortBridge", "points", "(II)I"⟩ prog_1_method_17_code 3 (some FieldType.int) ∈ zG := List.mem_filter.mpr ⟨List.mem_of_getElem? (i := 605) (by decide +kernel), rfl⟩
theorem q_606 : Cond.methodLink "ShortBridge" 188 ⟨"ShortBridge$Results", "contain", "(I)Z"⟩ ∈ zG := List.mem_filter.mpr ⟨List.mem_of_getElem? (i := 606) (by decide +kernel), rfl⟩
theorem q_607 : Cond.instanceMethod ⟨"ShortBridge$Results", "contain", "(I)Z"⟩ ∈ zG := List.mem_filter.mpr ⟨List.mem_of_getElem? (i := 607) (by decide +kernel), rfl⟩
theorem q_608 : Cond.selects "ShortBridge$Results" ⟨"ShortBridge$Results", "contain", "(I)Z"⟩ ⟨"ShortBridge$Results", "contain", "(I)Z"⟩ ∈ zG := List.mem_filter.mpr ⟨List.mem_of_getElem? (i := 608) (by decide +kernel), rfl⟩
theorem q_609 : Cond.code ⟨"ShortBridge$Results", "contain", "(I)Z"⟩ prog_5_method_3_code 2 (some FieldType.boolean) ∈ zG := List.mem_filter.mpr ⟨List.mem_of_getElem? (i := 609) (by decide +kernel), rfl⟩
theorem q_610 : Cond.classLink "ShortBridge" 191 "java/lang/IndexOutOfBoundsException" ∈ zG := List.mem_filter.mpr ⟨List.mem_of_getElem? (i := 610) (by decide +kernel), rfl⟩
theorem q_611 : Cond.instantiable "java/lang/IndexOutOfBoundsException" 6 ∈ zG := List.mem_filter.mpr ⟨List.mem_of_getElem? (i := 611) (by decide +kernel), rfl⟩
theorem q_613 : Cond.selects "java/lang/IndexOutOfBoundsException" ⟨"java/lang/Throwable", "fillInStackTrace", "(I)Ljava/lang/Throwable;"⟩ ⟨"java/lang/Throwable", "fillInStackTrace", "(I)Ljava/lang/Throwable;"⟩ ∈ zG := List.mem_filter.mpr ⟨List.mem_of_getElem? (i := 613) (by decide +kernel), rfl⟩
theorem q_614 : Cond.lays "java/lang/IndexOutOfBoundsException" "java/lang/Throwable" "cause" "Ljava/lang/Throwable;" ∈ zG := List.mem_filter.mpr ⟨List.mem_of_getElem? (i := 614) (by decide +kernel), rfl⟩
theorem q_615 : Cond.lays "java/lang/IndexOutOfBoundsException" "java/lang/Throwable" "stackTrace" "[Ljava/lang/StackTraceElement;" ∈ zG := List.mem_filter.mpr ⟨List.mem_of_getElem? (i := 615) (by decide +kernel), rfl⟩
theorem q_616 : Cond.lays "java/lang/IndexOutOfBoundsException" "java/lang/Throwable" "suppressedExceptions" "Ljava/util/List;" ∈ zG := List.mem_filter.mpr ⟨List.mem_of_getElem? (i := 616) (by decide +kernel), rfl⟩
theorem q_617 : Cond.lays "java/lang/IndexOutOfBoundsException" "java/lang/Throwable" "detailMessage" "Ljava/lang/String;" ∈ zG := List.mem_filter.mpr ⟨List.mem_of_getElem? (i := 617) (by decide +kernel), rfl⟩
theorem q_618 : Cond.lays "java/lang/IndexOutOfBoundsException" "java/lang/Throwable" "backtrace" "Ljava/lang/Object;" ∈ zG := List.mem_filter.mpr ⟨List.mem_of_getElem? (i := 618) (by decide +kernel), rfl⟩
theorem q_620 : Cond.methodLink "ShortBridge" 195 ⟨"java/lang/IndexOutOfBoundsException", "<init>", "(Ljava/lang/String;)V"⟩ ∈ zG := List.mem_filter.mpr ⟨List.mem_of_getElem? (i := 620) (by decide +kernel), rfl⟩
theorem q_621 : Cond.instanceMethod ⟨"java/lang/IndexOutOfBoundsException", "<init>", "(Ljava/lang/String;)V"⟩ ∈ zG := List.mem_filter.mpr ⟨List.mem_of_getElem? (i := 621) (by decide +kernel), rfl⟩
theorem q_622 : Cond.code ⟨"java/lang/IndexOutOfBoundsException", "<init>", "(Ljava/lang/String;)V"⟩ prog_13_method_2_code 2 none ∈ zG := List.mem_filter.mpr ⟨List.mem_of_getElem? (i := 622) (by decide +kernel), rfl⟩
theorem q_623 : Cond.methodLink "java/lang/IndexOutOfBoundsException" 7 ⟨"java/lang/RuntimeException", "<init>", "(Ljava/lang/String;)V"⟩ ∈ zG := List.mem_filter.mpr ⟨List.mem_of_getElem? (i := 623) (by decide +kernel), rfl⟩
theorem q_624 : Cond.lays "java/lang/IndexOutOfBoundsException" "java/lang/Throwable" "depth" "I" ∈ zG := List.mem_filter.mpr ⟨List.mem_of_getElem? (i := 624) (by decide +kernel), rfl⟩
theorem q_626 : Cond.methodLink "ShortBridge" 200 ⟨"ShortBridge$Scoring", "pointsOf", "(I)I"⟩ ∈ zG := List.mem_filter.mpr ⟨List.mem_of_getElem? (i := 626) (by decide +kernel), rfl⟩
theorem q_627 : Cond.static ⟨"ShortBridge$Scoring", "pointsOf", "(I)I"⟩ ∈ zG := List.mem_filter.mpr ⟨List.mem_of_getElem? (i := 627) (by decide +kernel), rfl⟩
theorem q_628 : Cond.code ⟨"ShortBridge$Scoring", "pointsOf", "(I)I"⟩ prog_6_method_3_code 4 (some FieldType.int) ∈ zG := List.mem_filter.mpr ⟨List.mem_of_getElem? (i := 628) (by decide +kernel), rfl⟩
theorem q_629 : Cond.methodLink "ShortBridge$Scoring" 27 ⟨"java/lang/Math", "abs", "(I)I"⟩ ∈ zG := List.mem_filter.mpr ⟨List.mem_of_getElem? (i := 629) (by decide +kernel), rfl⟩
theorem q_630 : Cond.static ⟨"java/lang/Math", "abs", "(I)I"⟩ ∈ zG := List.mem_filter.mpr ⟨List.mem_of_getElem? (i := 630) (by decide +kernel), rfl⟩
theorem q_631 : Cond.code ⟨"java/lang/Math", "abs", "(I)I"⟩ prog_14_method_59_code 1 (some FieldType.int) ∈ zG := List.mem_filter.mpr ⟨List.mem_of_getElem? (i := 631) (by decide +kernel), rfl⟩
theorem q_632 : Cond.fieldLink "ShortBridge$Scoring" 32 "ShortBridge$Scoring" "STEPS" "[I" ∈ zG := List.mem_filter.mpr ⟨List.mem_of_getElem? (i := 632) (by decide +kernel), rfl⟩
theorem q_634 : Cond.methodLink "ShortBridgeLaw" 121 ⟨"ShortBridgeLaw", "places", "(LShortBridge;I[J)I"⟩ ∈ zG := List.mem_filter.mpr ⟨List.mem_of_getElem? (i := 634) (by decide +kernel), rfl⟩
theorem q_635 : Cond.static ⟨"ShortBridgeLaw", "places", "(LShortBridge;I[J)I"⟩ ∈ zG := List.mem_filter.mpr ⟨List.mem_of_getElem? (i := 635) (by decide +kernel), rfl⟩
theorem q_636 : Cond.codeWith ⟨"ShortBridgeLaw", "places", "(LShortBridge;I[J)I"⟩ method_9_code 4 (some FieldType.int) [(0, 9, 12, 38)] ∈ zG := List.mem_filter.mpr ⟨List.mem_of_getElem? (i := 636) (by decide +kernel), rfl⟩
theorem q_637 : Cond.methodLink "ShortBridgeLaw" 40 ⟨"ShortBridge", "places", "(I)I"⟩ ∈ zG := List.mem_filter.mpr ⟨List.mem_of_getElem? (i := 637) (by decide +kernel), rfl⟩
theorem q_638 : Cond.instanceMethod ⟨"ShortBridge", "places", "(I)I"⟩ ∈ zG := List.mem_filter.mpr ⟨List.mem_of_getElem? (i := 638) (by decide +kernel), rfl⟩
theorem q_639 : Cond.selects "ShortBridge" ⟨"ShortBridge", "places", "(I)I"⟩ ⟨"ShortBridge", "places", "(I)I"⟩ ∈ zG := List.mem_filter.mpr ⟨List.mem_of_getElem? (i := 639) (by decide +kernel), rfl⟩
theorem q_640 : Cond.code ⟨"ShortBridge", "places", "(I)I"⟩ prog_1_method_18_code 2 (some FieldType.int) ∈ zG := List.mem_filter.mpr ⟨List.mem_of_getElem? (i := 640) (by decide +kernel), rfl⟩
theorem q_641 : Cond.methodLink "ShortBridge" 205 ⟨"ShortBridge$Results", "compare", "(I)I"⟩ ∈ zG := List.mem_filter.mpr ⟨List.mem_of_getElem? (i := 641) (by decide +kernel), rfl⟩
theorem q_642 : Cond.instanceMethod ⟨"ShortBridge$Results", "compare", "(I)I"⟩ ∈ zG := List.mem_filter.mpr ⟨List.mem_of_getElem? (i := 642) (by decide +kernel), rfl⟩
theorem q_643 : Cond.selects "ShortBridge$Results" ⟨"ShortBridge$Results", "compare", "(I)I"⟩ ⟨"ShortBridge$Results", "compare", "(I)I"⟩ ∈ zG := List.mem_filter.mpr ⟨List.mem_of_getElem? (i := 643) (by decide +kernel), rfl⟩
theorem q_644 : Cond.code ⟨"ShortBridge$Results", "compare", "(I)I"⟩ prog_5_method_5_code 4 (some FieldType.int) ∈ zG := List.mem_filter.mpr ⟨List.mem_of_getElem? (i := 644) (by decide +kernel), rfl⟩
theorem q_645 : Cond.methodLink "ShortBridge$Results" 21 ⟨"ShortBridge$Results", "worthAgainst", "(II)I"⟩ ∈ zG := List.mem_filter.mpr ⟨List.mem_of_getElem? (i := 645) (by decide +kernel), rfl⟩
theorem q_646 : Cond.static ⟨"ShortBridge$Results", "worthAgainst", "(II)I"⟩ ∈ zG := List.mem_filter.mpr ⟨List.mem_of_getElem? (i := 646) (by decide +kernel), rfl⟩
theorem q_647 : Cond.code ⟨"ShortBridge$Results", "worthAgainst", "(II)I"⟩ prog_5_method_6_code 2 (some FieldType.int) ∈ zG := List.mem_filter.mpr ⟨List.mem_of_getElem? (i := 647) (by decide +kernel), rfl⟩
theorem q_648 : Cond.classLink "ShortBridgeLaw" 45 "ShortBridgeModel" ∈ zG := List.mem_filter.mpr ⟨List.mem_of_getElem? (i := 648) (by decide +kernel), rfl⟩
theorem q_649 : Cond.instantiable "ShortBridgeModel" 25 ∈ zG := List.mem_filter.mpr ⟨List.mem_of_getElem? (i := 649) (by decide +kernel), rfl⟩
theorem q_650 : Cond.methodLink "ShortBridgeLaw" 47 ⟨"ShortBridgeModel", "<init>", "()V"⟩ ∈ zG := List.mem_filter.mpr ⟨List.mem_of_getElem? (i := 650) (by decide +kernel), rfl⟩
theorem q_651 : Cond.instanceMethod ⟨"ShortBridgeModel", "<init>", "()V"⟩ ∈ zG := List.mem_filter.mpr ⟨List.mem_of_getElem? (i := 651) (by decide +kernel), rfl⟩
theorem q_652 : Cond.code ⟨"ShortBridgeModel", "<init>", "()V"⟩ prog_9_method_1_code 3 none ∈ zG := List.mem_filter.mpr ⟨List.mem_of_getElem? (i := 652) (by decide +kernel), rfl⟩
theorem q_653 : Cond.methodLink "ShortBridgeModel" 1 ⟨"java/lang/Object", "<init>", "()V"⟩ ∈ zG := List.mem_filter.mpr ⟨List.mem_of_getElem? (i := 653) (by decide +kernel), rfl⟩
theorem q_654 : Cond.fieldLink "ShortBridgeModel" 50 "ShortBridgeModel" "code" "I" ∈ zG := List.mem_filter.mpr ⟨List.mem_of_getElem? (i := 654) (by decide +kernel), rfl⟩
theorem q_655 : Cond.fieldLink "ShortBridgeModel" 63 "ShortBridgeModel" "board" "Z" ∈ zG := List.mem_filter.mpr ⟨List.mem_of_getElem? (i := 655) (by decide +kernel), rfl⟩
theorem q_656 : Cond.fieldLink "ShortBridgeModel" 71 "ShortBridgeModel" "dealNumber" "J" ∈ zG := List.mem_filter.mpr ⟨List.mem_of_getElem? (i := 656) (by decide +kernel), rfl⟩
theorem q_657 : Cond.fieldLink "ShortBridgeModel" 75 "ShortBridgeModel" "dealer" "I" ∈ zG := List.mem_filter.mpr ⟨List.mem_of_getElem? (i := 657) (by decide +kernel), rfl⟩
theorem q_658 : Cond.fieldLink "ShortBridgeModel" 78 "ShortBridgeModel" "vulnerable" "I" ∈ zG := List.mem_filter.mpr ⟨List.mem_of_getElem? (i := 658) (by decide +kernel), rfl⟩
theorem q_659 : Cond.fieldLink "ShortBridgeModel" 7 "ShortBridgeModel" "owner" "[I" ∈ zG := List.mem_filter.mpr ⟨List.mem_of_getElem? (i := 659) (by decide +kernel), rfl⟩
theorem q_660 : Cond.fieldLink "ShortBridgeModel" 13 "ShortBridgeModel" "ways" "[J" ∈ zG := List.mem_filter.mpr ⟨List.mem_of_getElem? (i := 660) (by decide +kernel), rfl⟩
theorem q_661 : Cond.fieldLink "ShortBridgeModel" 81 "ShortBridgeModel" "calls" "I" ∈ zG := List.mem_filter.mpr ⟨List.mem_of_getElem? (i := 661) (by decide +kernel), rfl⟩
theorem q_662 : Cond.fieldLink "ShortBridgeModel" 17 "ShortBridgeModel" "call" "[I" ∈ zG := List.mem_filter.mpr ⟨List.mem_of_getElem? (i := 662) (by decide +kernel), rfl⟩
theorem q_663 : Cond.fieldLink "ShortBridgeModel" 84 "ShortBridgeModel" "cards" "I" ∈ zG := List.mem_filter.mpr ⟨List.mem_of_getElem? (i := 663) (by decide +kernel), rfl⟩
theorem q_664 : Cond.fieldLink "ShortBridgeModel" 20 "ShortBridgeModel" "card" "[I" ∈ zG := List.mem_filter.mpr ⟨List.mem_of_getElem? (i := 664) (by decide +kernel), rfl⟩
theorem q_665 : Cond.fieldLink "ShortBridgeModel" 107 "ShortBridgeModel" "bid" "I" ∈ zG := List.mem_filter.mpr ⟨List.mem_of_getElem? (i := 665) (by decide +kernel), rfl⟩
theorem q_666 : Cond.fieldLink "ShortBridgeModel" 110 "ShortBridgeModel" "doubled" "I" ∈ zG := List.mem_filter.mpr ⟨List.mem_of_getElem? (i := 666) (by decide +kernel), rfl⟩
theorem q_667 : Cond.fieldLink "ShortBridgeModel" 117 "ShortBridgeModel" "declarer" "I" ∈ zG := List.mem_filter.mpr ⟨List.mem_of_getElem? (i := 667) (by decide +kernel), rfl⟩
theorem q_668 : Cond.fieldLink "ShortBridgeModel" 123 "ShortBridgeModel" "ended" "Z" ∈ zG := List.mem_filter.mpr ⟨List.mem_of_getElem? (i := 668) (by decide +kernel), rfl⟩
theorem q_669 : Cond.fieldLink "ShortBridgeModel" 23 "ShortBridgeModel" "turnAt" "[I" ∈ zG := List.mem_filter.mpr ⟨List.mem_of_getElem? (i := 669) (by decide +kernel), rfl⟩
theorem q_670 : Cond.fieldLink "ShortBridgeModel" 26 "ShortBridgeModel" "wonAt" "[I" ∈ zG := List.mem_filter.mpr ⟨List.mem_of_getElem? (i := 670) (by decide +kernel), rfl⟩
theorem q_671 : Cond.fieldLink "ShortBridgeModel" 29 "ShortBridgeModel" "goneAt" "[I" ∈ zG := List.mem_filter.mpr ⟨List.mem_of_getElem? (i := 671) (by decide +kernel), rfl⟩
theorem q_672 : Cond.fieldLink "ShortBridgeModel" 32 "ShortBridgeModel" "look" "[I" ∈ zG := List.mem_filter.mpr ⟨List.mem_of_getElem? (i := 672) (by decide +kernel), rfl⟩
theorem q_673 : Cond.fieldLink "ShortBridgeModel" 35 "ShortBridgeModel" "best" "[I" ∈ zG := List.mem_filter.mpr ⟨List.mem_of_getElem? (i := 673) (by decide +kernel), rfl⟩
theorem q_674 : Cond.fieldLink "ShortBridgeModel" 38 "ShortBridgeModel" "low" "[I" ∈ zG := List.mem_filter.mpr ⟨List.mem_of_getElem? (i := 674) (by decide +kernel), rfl⟩
theorem q_675 : Cond.fieldLink "ShortBridgeModel" 41 "ShortBridgeModel" "high" "[I" ∈ zG := List.mem_filter.mpr ⟨List.mem_of_getElem? (i := 675) (by decide +kernel), rfl⟩
theorem q_676 : Cond.fieldLink "ShortBridgeModel" 184 "ShortBridgeModel" "results" "I" ∈ zG := List.mem_filter.mpr ⟨List.mem_of_getElem? (i := 676) (by decide +kernel), rfl⟩
theorem q_677 : Cond.fieldLink "ShortBridgeModel" 44 "ShortBridgeModel" "scores" "[I" ∈ zG := List.mem_filter.mpr ⟨List.mem_of_getElem? (i := 677) (by decide +kernel), rfl⟩
theorem q_678 : Cond.fieldLink "ShortBridgeModel" 47 "ShortBridgeModel" "numbers" "[J" ∈ zG := List.mem_filter.mpr ⟨List.mem_of_getElem? (i := 678) (by decide +kernel), rfl⟩
theorem q_679 : Cond.lays "ShortBridgeModel" "ShortBridgeModel" "code" "I" ∈ zG := List.mem_filter.mpr ⟨List.mem_of_getElem? (i := 679) (by decide +kernel), rfl⟩
theorem q_681 : Cond.lays "ShortBridgeModel" "ShortBridgeModel" "board" "Z" ∈ zG := List.mem_filter.mpr ⟨List.mem_of_getElem? (i := 681) (by decide +kernel), rfl⟩
theorem q_683 : Cond.lays "ShortBridgeModel" "ShortBridgeModel" "dealNumber" "J" ∈ zG := List.mem_filter.mpr ⟨List.mem_of_getElem? (i := 683) (by decide +kernel), rfl⟩
theorem q_685 : Cond.lays "ShortBridgeModel" "ShortBridgeModel" "dealer" "I" ∈ zG := List.mem_filter.mpr ⟨List.mem_of_getElem? (i := 685) (by decide +kernel), rfl⟩
theorem q_687 : Cond.lays "ShortBridgeModel" "ShortBridgeModel" "vulnerable" "I" ∈ zG := List.mem_filter.mpr ⟨List.mem_of_getElem? (i := 687) (by decide +kernel), rfl⟩
theorem q_689 : Cond.laysFinal "ShortBridgeModel" "ShortBridgeModel" "owner" "[I" ∈ zG := List.mem_filter.mpr ⟨List.mem_of_getElem? (i := 689) (by decide +kernel), rfl⟩
theorem q_691 : Cond.laysFinal "ShortBridgeModel" "ShortBridgeModel" "ways" "[J" ∈ zG := List.mem_filter.mpr ⟨List.mem_of_getElem? (i := 691) (by decide +kernel), rfl⟩
theorem q_693 : Cond.lays "ShortBridgeModel" "ShortBridgeModel" "calls" "I" ∈ zG := List.mem_filter.mpr ⟨List.mem_of_getElem? (i := 693) (by decide +kernel), rfl⟩
theorem q_695 : Cond.laysFinal "ShortBridgeModel" "ShortBridgeModel" "call" "[I" ∈ zG := List.mem_filter.mpr ⟨List.mem_of_getElem? (i := 695) (by decide +kernel), rfl⟩
theorem q_697 : Cond.lays "ShortBridgeModel" "ShortBridgeModel" "cards" "I" ∈ zG := List.mem_filter.mpr ⟨List.mem_of_getElem? (i := 697) (by decide +kernel), rfl⟩
theorem q_699 : Cond.laysFinal "ShortBridgeModel" "ShortBridgeModel" "card" "[I" ∈ zG := List.mem_filter.mpr ⟨List.mem_of_getElem? (i := 699) (by decide +kernel), rfl⟩
theorem q_701 : Cond.lays "ShortBridgeModel" "ShortBridgeModel" "bid" "I" ∈ zG := List.mem_filter.mpr ⟨List.mem_of_getElem? (i := 701) (by decide +kernel), rfl⟩
theorem q_703 : Cond.lays "ShortBridgeModel" "ShortBridgeModel" "doubled" "I" ∈ zG := List.mem_filter.mpr ⟨List.mem_of_getElem? (i := 703) (by decide +kernel), rfl⟩
theorem q_705 : Cond.lays "ShortBridgeModel" "ShortBridgeModel" "declarer" "I" ∈ zG := List.mem_filter.mpr ⟨List.mem_of_getElem? (i := 705) (by decide +kernel), rfl⟩
theorem q_707 : Cond.lays "ShortBridgeModel" "ShortBridgeModel" "ended" "Z" ∈ zG := List.mem_filter.mpr ⟨List.mem_of_getElem? (i := 707) (by decide +kernel), rfl⟩
theorem q_709 : Cond.laysFinal "ShortBridgeModel" "ShortBridgeModel" "turnAt" "[I" ∈ zG := List.mem_filter.mpr ⟨List.mem_of_getElem? (i := 709) (by decide +kernel), rfl⟩
theorem q_711 : Cond.laysFinal "ShortBridgeModel" "ShortBridgeModel" "wonAt" "[I" ∈ zG := List.mem_filter.mpr ⟨List.mem_of_getElem? (i := 711) (by decide +kernel), rfl⟩
theorem q_713 : Cond.laysFinal "ShortBridgeModel" "ShortBridgeModel" "goneAt" "[I" ∈ zG := List.mem_filter.mpr ⟨List.mem_of_getElem? (i := 713) (by decide +kernel), rfl⟩
theorem q_715 : Cond.laysFinal "ShortBridgeModel" "ShortBridgeModel" "look" "[I" ∈ zG := List.mem_filter.mpr ⟨List.mem_of_getElem? (i := 715) (by decide +kernel), rfl⟩
theorem q_717 : Cond.laysFinal "ShortBridgeModel" "ShortBridgeModel" "best" "[I" ∈ zG := List.mem_filter.mpr ⟨List.mem_of_getElem? (i := 717) (by decide +kernel), rfl⟩
theorem q_719 : Cond.laysFinal "ShortBridgeModel" "ShortBridgeModel" "low" "[I" ∈ zG := List.mem_filter.mpr ⟨List.mem_of_getElem? (i := 719) (by decide +kernel), rfl⟩
theorem q_721 : Cond.laysFinal "ShortBridgeModel" "ShortBridgeModel" "high" "[I" ∈ zG := List.mem_filter.mpr ⟨List.mem_of_getElem? (i := 721) (by decide +kernel), rfl⟩
theorem q_723 : Cond.lays "ShortBridgeModel" "ShortBridgeModel" "results" "I" ∈ zG := List.mem_filter.mpr ⟨List.mem_of_getElem? (i := 723) (by decide +kernel), rfl⟩
theorem q_725 : Cond.laysFinal "ShortBridgeModel" "ShortBridgeModel" "scores" "[I" ∈ zG := List.mem_filter.mpr ⟨List.mem_of_getElem? (i := 725) (by decide +kernel), rfl⟩
theorem q_727 : Cond.laysFinal "ShortBridgeModel" "ShortBridgeModel" "numbers" "[J" ∈ zG := List.mem_filter.mpr ⟨List.mem_of_getElem? (i := 727) (by decide +kernel), rfl⟩
theorem q_730 : Cond.methodLink "ShortBridgeLaw" 84 ⟨"ShortBridgeModel", "thrown", "()I"⟩ ∈ zG := List.mem_filter.mpr ⟨List.mem_of_getElem? (i := 730) (by decide +kernel), rfl⟩
theorem q_731 : Cond.instanceMethod ⟨"ShortBridgeModel", "thrown", "()I"⟩ ∈ zG := List.mem_filter.mpr ⟨List.mem_of_getElem? (i := 731) (by decide +kernel), rfl⟩
theorem q_732 : Cond.selects "ShortBridgeModel" ⟨"ShortBridgeModel", "thrown", "()I"⟩ ⟨"ShortBridgeModel", "thrown", "()I"⟩ ∈ zG := List.mem_filter.mpr ⟨List.mem_of_getElem? (i := 732) (by decide +kernel), rfl⟩
theorem q_733 : Cond.code ⟨"ShortBridgeModel", "thrown", "()I"⟩ prog_9_method_2_code 1 (some FieldType.int) ∈ zG := List.mem_filter.mpr ⟨List.mem_of_getElem? (i := 733) (by decide +kernel), rfl⟩
theorem q_734 : Cond.methodLink "ShortBridgeLaw" 54 ⟨"ShortBridgeModel", "deal", "(JII)Z"⟩ ∈ zG := List.mem_filter.mpr ⟨List.mem_of_getElem? (i := 734) (by decide +kernel), rfl⟩
theorem q_735 : Cond.instanceMethod ⟨"ShortBridgeModel", "deal", "(JII)Z"⟩ ∈ zG := List.mem_filter.mpr ⟨List.mem_of_getElem? (i := 735) (by decide +kernel), rfl⟩
theorem q_736 : Cond.selects "ShortBridgeModel" ⟨"ShortBridgeModel", "deal", "(JII)Z"⟩ ⟨"ShortBridgeModel", "deal", "(JII)Z"⟩ ∈ zG := List.mem_filter.mpr ⟨List.mem_of_getElem? (i := 736) (by decide +kernel), rfl⟩
theorem q_737 : Cond.code ⟨"ShortBridgeModel", "deal", "(JII)Z"⟩ prog_9_method_9_code 5 (some FieldType.boolean) ∈ zG := List.mem_filter.mpr ⟨List.mem_of_getElem? (i := 737) (by decide +kernel), rfl⟩
theorem q_738 : Cond.constantLong "ShortBridgeModel" 87 11732745024 ∈ zG := List.mem_filter.mpr ⟨List.mem_of_getElem? (i := 738) (by decide +kernel), rfl⟩
theorem q_739 : Cond.methodLink "ShortBridgeModel" 89 ⟨"ShortBridgeModel", "isPlayer", "(I)Z"⟩ ∈ zG := List.mem_filter.mpr ⟨List.mem_of_getElem? (i := 739) (by decide +kernel), rfl⟩
theorem q_740 : Cond.static ⟨"ShortBridgeModel", "isPlayer", "(I)Z"⟩ ∈ zG := List.mem_filter.mpr ⟨List.mem_of_getElem? (i := 740) (by decide +kernel), rfl⟩
theorem q_741 : Cond.code ⟨"ShortBridgeModel", "isPlayer", "(I)Z"⟩ prog_9_method_8_code 1 (some FieldType.boolean) ∈ zG := List.mem_filter.mpr ⟨List.mem_of_getElem? (i := 741) (by decide +kernel), rfl⟩
theorem q_742 : Cond.methodLink "ShortBridgeModel" 93 ⟨"ShortBridgeModel", "unrank", "(J)V"⟩ ∈ zG := List.mem_filter.mpr ⟨List.mem_of_getElem? (i := 742) (by decide +kernel), rfl⟩
theorem q_744 : Cond.instanceMethod ⟨"ShortBridgeModel", "unrank", "(J)V"⟩ ∈ zG := List.mem_filter.mpr ⟨List.mem_of_getElem? (i := 744) (by decide +kernel), rfl⟩
theorem q_745 : Cond.code ⟨"ShortBridgeModel", "unrank", "(J)V"⟩ prog_9_method_5_code 8 none ∈ zG := List.mem_filter.mpr ⟨List.mem_of_getElem? (i := 745) (by decide +kernel), rfl⟩
theorem q_746 : Cond.constant "ShortBridgeModel" 58 169125 ∈ zG := List.mem_filter.mpr ⟨List.mem_of_getElem? (i := 746) (by decide +kernel), rfl⟩
theorem q_747 : Cond.methodLink "ShortBridgeModel" 59 ⟨"ShortBridgeModel", "rowsWith", "(II)J"⟩ ∈ zG := List.mem_filter.mpr ⟨List.mem_of_getElem? (i := 747) (by decide +kernel), rfl⟩
theorem q_749 : Cond.instanceMethod ⟨"ShortBridgeModel", "rowsWith", "(II)J"⟩ ∈ zG := List.mem_filter.mpr ⟨List.mem_of_getElem? (i := 749) (by decide +kernel), rfl⟩
theorem q_750 : Cond.code ⟨"ShortBridgeModel", "rowsWith", "(II)J"⟩ prog_9_method_4_code 7 (some FieldType.long) ∈ zG := List.mem_filter.mpr ⟨List.mem_of_getElem? (i := 750) (by decide +kernel), rfl⟩
theorem q_751 : Cond.methodLink "ShortBridgeModel" 54 ⟨"ShortBridgeModel", "rows", "(IIII)J"⟩ ∈ zG := List.mem_filter.mpr ⟨List.mem_of_getElem? (i := 751) (by decide +kernel), rfl⟩
theorem q_753 : Cond.instanceMethod ⟨"ShortBridgeModel", "rows", "(IIII)J"⟩ ∈ zG := List.mem_filter.mpr ⟨List.mem_of_getElem? (i := 753) (by decide +kernel), rfl⟩
theorem q_754 : Cond.code ⟨"ShortBridgeModel", "rows", "(IIII)J"⟩ prog_9_method_3_code 5 (some FieldType.long) ∈ zG := List.mem_filter.mpr ⟨List.mem_of_getElem? (i := 754) (by decide +kernel), rfl⟩
theorem q_755 : Cond.methodLink "ShortBridgeModel" 97 ⟨"ShortBridgeModel", "begin", "(II)V"⟩ ∈ zG := List.mem_filter.mpr ⟨List.mem_of_getElem? (i := 755) (by decide +kernel), rfl⟩
theorem q_757 : Cond.instanceMethod ⟨"ShortBridgeModel", "begin", "(II)V"⟩ ∈ zG := List.mem_filter.mpr ⟨List.mem_of_getElem? (i := 757) (by decide +kernel), rfl⟩
theorem q_758 : Cond.code ⟨"ShortBridgeModel", "begin", "(II)V"⟩ prog_9_method_7_code 3 none ∈ zG := List.mem_filter.mpr ⟨List.mem_of_getElem? (i := 758) (by decide +kernel), rfl⟩
theorem q_759 : Cond.methodLink "ShortBridgeModel" 67 ⟨"ShortBridgeModel", "rank", "()J"⟩ ∈ zG := List.mem_filter.mpr ⟨List.mem_of_getElem? (i := 759) (by decide +kernel), rfl⟩
theorem q_761 : Cond.instanceMethod ⟨"ShortBridgeModel", "rank", "()J"⟩ ∈ zG := List.mem_filter.mpr ⟨List.mem_of_getElem? (i := 761) (by decide +kernel), rfl⟩
theorem q_762 : Cond.code ⟨"ShortBridgeModel", "rank", "()J"⟩ prog_9_method_6_code 6 (some FieldType.long) ∈ zG := List.mem_filter.mpr ⟨List.mem_of_getElem? (i := 762) (by decide +kernel), rfl⟩
theorem q_763 : Cond.methodLink "ShortBridgeLaw" 59 ⟨"ShortBridgeModel", "shuffle", "(JII)J"⟩ ∈ zG := List.mem_filter.mpr ⟨List.mem_of_getElem? (i := 763) (by decide +kernel), rfl⟩
theorem q_764 : Cond.instanceMethod ⟨"ShortBridgeModel", "shuffle", "(JII)J"⟩ ∈ zG := List.mem_filter.mpr ⟨List.mem_of_getElem? (i := 764) (by decide +kernel), rfl⟩
theorem q_765 : Cond.selects "ShortBridgeModel" ⟨"ShortBridgeModel", "shuffle", "(JII)J"⟩ ⟨"ShortBridgeModel", "shuffle", "(JII)J"⟩ ∈ zG := List.mem_filter.mpr ⟨List.mem_of_getElem? (i := 765) (by decide +kernel), rfl⟩
theorem q_766 : Cond.code ⟨"ShortBridgeModel", "shuffle", "(JII)J"⟩ prog_9_method_10_code 10 (some FieldType.long) ∈ zG := List.mem_filter.mpr ⟨List.mem_of_getElem? (i := 766) (by decide +kernel), rfl⟩
theorem q_767 : Cond.constantLong "ShortBridgeModel" 101 (-1) ∈ zG := List.mem_filter.mpr ⟨List.mem_of_getElem? (i := 767) (by decide +kernel), rfl⟩
theorem q_768 : Cond.constantLong "ShortBridgeModel" 103 6364136223846793005 ∈ zG := List.mem_filter.mpr ⟨List.mem_of_getElem? (i := 768) (by decide +kernel), rfl⟩
theorem q_769 : Cond.constantLong "ShortBridgeModel" 105 1442695040888963407 ∈ zG := List.mem_filter.mpr ⟨List.mem_of_getElem? (i := 769) (by decide +kernel), rfl⟩
theorem q_770 : Cond.methodLink "ShortBridgeLaw" 64 ⟨"ShortBridgeModel", "number", "()J"⟩ ∈ zG := List.mem_filter.mpr ⟨List.mem_of_getElem? (i := 770) (by decide +kernel), rfl⟩
theorem q_771 : Cond.instanceMethod ⟨"ShortBridgeModel", "number", "()J"⟩ ∈ zG := List.mem_filter.mpr ⟨List.mem_of_getElem? (i := 771) (by decide +kernel), rfl⟩
theorem q_772 : Cond.selects "ShortBridgeModel" ⟨"ShortBridgeModel", "number", "()J"⟩ ⟨"ShortBridgeModel", "number", "()J"⟩ ∈ zG := List.mem_filter.mpr ⟨List.mem_of_getElem? (i := 772) (by decide +kernel), rfl⟩
theorem q_773 : Cond.code ⟨"ShortBridgeModel", "number", "()J"⟩ prog_9_method_11_code 1 (some FieldType.long) ∈ zG := List.mem_filter.mpr ⟨List.mem_of_getElem? (i := 773) (by decide +kernel), rfl⟩
theorem q_774 : Cond.methodLink "ShortBridgeLaw" 68 ⟨"ShortBridgeModel", "phase", "()I"⟩ ∈ zG := List.mem_filter.mpr ⟨List.mem_of_getElem? (i := 774) (by decide +kernel), rfl⟩
theorem q_775 : Cond.instanceMethod ⟨"ShortBridgeModel", "phase", "()I"⟩ ∈ zG := List.mem_filter.mpr ⟨List.mem_of_getElem? (i := 775) (by decide +kernel), rfl⟩
theorem q_776 : Cond.selects "ShortBridgeModel" ⟨"ShortBridgeModel", "phase", "()I"⟩ ⟨"ShortBridgeModel", "phase", "()I"⟩ ∈ zG := List.mem_filter.mpr ⟨List.mem_of_getElem? (i := 776) (by decide +kernel), rfl⟩
theorem q_777 : Cond.code ⟨"ShortBridgeModel", "phase", "()I"⟩ prog_9_method_17_code 1 (some FieldType.int) ∈ zG := List.mem_filter.mpr ⟨List.mem_of_getElem? (i := 777) (by decide +kernel), rfl⟩
theorem q_778 : Cond.methodLink "ShortBridgeModel" 132 ⟨"ShortBridgeModel", "phaseNow", "()I"⟩ ∈ zG := List.mem_filter.mpr ⟨List.mem_of_getElem? (i := 778) (by decide +kernel), rfl⟩
theorem q_780 : Cond.instanceMethod ⟨"ShortBridgeModel", "phaseNow", "()I"⟩ ∈ zG := List.mem_filter.mpr ⟨List.mem_of_getElem? (i := 780) (by decide +kernel), rfl⟩
theorem q_781 : Cond.code ⟨"ShortBridgeModel", "phaseNow", "()I"⟩ prog_9_method_16_code 1 (some FieldType.int) ∈ zG := List.mem_filter.mpr ⟨List.mem_of_getElem? (i := 781) (by decide +kernel), rfl⟩
theorem q_782 : Cond.methodLink "ShortBridgeModel" 129 ⟨"ShortBridgeModel", "readCalls", "()V"⟩ ∈ zG := List.mem_filter.mpr ⟨List.mem_of_getElem? (i := 782) (by decide +kernel), rfl⟩
theorem q_784 : Cond.instanceMethod ⟨"ShortBridgeModel", "readCalls", "()V"⟩ ∈ zG := List.mem_filter.mpr ⟨List.mem_of_getElem? (i := 784) (by decide +kernel), rfl⟩
theorem q_785 : Cond.code ⟨"ShortBridgeModel", "readCalls", "()V"⟩ prog_9_method_14_code 2 none ∈ zG := List.mem_filter.mpr ⟨List.mem_of_getElem? (i := 785) (by decide +kernel), rfl⟩
theorem q_786 : Cond.methodLink "ShortBridgeModel" 113 ⟨"ShortBridgeModel", "firstOf", "(I)I"⟩ ∈ zG := List.mem_filter.mpr ⟨List.mem_of_getElem? (i := 786) (by decide +kernel), rfl⟩
theorem q_788 : Cond.instanceMethod ⟨"ShortBridgeModel", "firstOf", "(I)I"⟩ ∈ zG := List.mem_filter.mpr ⟨List.mem_of_getElem? (i := 788) (by decide +kernel), rfl⟩
theorem q_789 : Cond.code ⟨"ShortBridgeModel", "firstOf", "(I)I"⟩ prog_9_method_15_code 4 (some FieldType.int) ∈ zG := List.mem_filter.mpr ⟨List.mem_of_getElem? (i := 789) (by decide +kernel), rfl⟩
theorem q_790 : Cond.methodLink "ShortBridgeModel" 126 ⟨"ShortBridgeModel", "callerAt", "(I)I"⟩ ∈ zG := List.mem_filter.mpr ⟨List.mem_of_getElem? (i := 790) (by decide +kernel), rfl⟩
theorem q_792 : Cond.instanceMethod ⟨"ShortBridgeModel", "callerAt", "(I)I"⟩ ∈ zG := List.mem_filter.mpr ⟨List.mem_of_getElem? (i := 792) (by decide +kernel), rfl⟩
theorem q_793 : Cond.code ⟨"ShortBridgeModel", "callerAt", "(I)I"⟩ prog_9_method_12_code 2 (some FieldType.int) ∈ zG := List.mem_filter.mpr ⟨List.mem_of_getElem? (i := 793) (by decide +kernel), rfl⟩
theorem q_794 : Cond.methodLink "ShortBridgeModel" 120 ⟨"ShortBridgeModel", "latestBefore", "(I)I"⟩ ∈ zG := List.mem_filter.mpr ⟨List.mem_of_getElem? (i := 794) (by decide +kernel), rfl⟩
theorem q_796 : Cond.instanceMethod ⟨"ShortBridgeModel", "latestBefore", "(I)I"⟩ ∈ zG := List.mem_filter.mpr ⟨List.mem_of_getElem? (i := 796) (by decide +kernel), rfl⟩
theorem q_797 : Cond.code ⟨"ShortBridgeModel", "latestBefore", "(I)I"⟩ prog_9_method_13_code 3 (some FieldType.int) ∈ zG := List.mem_filter.mpr ⟨List.mem_of_getElem? (i := 797) (by decide +kernel), rfl⟩
theorem q_798 : Cond.methodLink "ShortBridgeLaw" 83 ⟨"ShortBridgeModel", "call", "(I)V"⟩ ∈ zG := List.mem_filter.mpr ⟨List.mem_of_getElem? (i := 798) (by decide +kernel), rfl⟩
theorem q_799 : Cond.instanceMethod ⟨"ShortBridgeModel", "call", "(I)V"⟩ ∈ zG := List.mem_filter.mpr ⟨List.mem_of_getElem? (i := 799) (by decide +kernel), rfl⟩
theorem q_800 : Cond.selects "ShortBridgeModel" ⟨"ShortBridgeModel", "call", "(I)V"⟩ ⟨"ShortBridgeModel", "call", "(I)V"⟩ ∈ zG := List.mem_filter.mpr ⟨List.mem_of_getElem? (i := 800) (by decide +kernel), rfl⟩
theorem q_801 : Cond.code ⟨"ShortBridgeModel", "call", "(I)V"⟩ prog_9_method_19_code 2 none ∈ zG := List.mem_filter.mpr ⟨List.mem_of_getElem? (i := 801) (by decide +kernel), rfl⟩
theorem q_802 : Cond.methodLink "ShortBridgeModel" 136 ⟨"ShortBridgeModel", "allowed", "(I)Z"⟩ ∈ zG := List.mem_filter.mpr ⟨List.mem_of_getElem? (i := 802) (by decide +kernel), rfl⟩
theorem q_804 : Cond.instanceMethod ⟨"ShortBridgeModel", "allowed", "(I)Z"⟩ ∈ zG := List.mem_filter.mpr ⟨List.mem_of_getElem? (i := 804) (by decide +kernel), rfl⟩
theorem q_805 : Cond.code ⟨"ShortBridgeModel", "allowed", "(I)Z"⟩ prog_9_method_18_code 4 (some FieldType.boolean) ∈ zG := List.mem_filter.mpr ⟨List.mem_of_getElem? (i := 805) (by decide +kernel), rfl⟩
theorem q_806 : Cond.methodLink "ShortBridgeLaw" 98 ⟨"ShortBridgeModel", "contract", "(I)I"⟩ ∈ zG := List.mem_filter.mpr ⟨List.mem_of_getElem? (i := 806) (by decide +kernel), rfl⟩
theorem q_807 : Cond.instanceMethod ⟨"ShortBridgeModel", "contract", "(I)I"⟩ ∈ zG := List.mem_filter.mpr ⟨List.mem_of_getElem? (i := 807) (by decide +kernel), rfl⟩
theorem q_808 : Cond.selects "ShortBridgeModel" ⟨"ShortBridgeModel", "contract", "(I)I"⟩ ⟨"ShortBridgeModel", "contract", "(I)I"⟩ ∈ zG := List.mem_filter.mpr ⟨List.mem_of_getElem? (i := 808) (by decide +kernel), rfl⟩
theorem q_809 : Cond.code ⟨"ShortBridgeModel", "contract", "(I)I"⟩ prog_9_method_20_code 2 (some FieldType.int) ∈ zG := List.mem_filter.mpr ⟨List.mem_of_getElem? (i := 809) (by decide +kernel), rfl⟩
theorem q_810 : Cond.methodLink "ShortBridgeLaw" 72 ⟨"ShortBridgeModel", "turn", "()I"⟩ ∈ zG := List.mem_filter.mpr ⟨List.mem_of_getElem? (i := 810) (by decide +kernel), rfl⟩
theorem q_811 : Cond.instanceMethod ⟨"ShortBridgeModel", "turn", "()I"⟩ ∈ zG := List.mem_filter.mpr ⟨List.mem_of_getElem? (i := 811) (by decide +kernel), rfl⟩
theorem q_812 : Cond.selects "ShortBridgeModel" ⟨"ShortBridgeModel", "turn", "()I"⟩ ⟨"ShortBridgeModel", "turn", "()I"⟩ ∈ zG := List.mem_filter.mpr ⟨List.mem_of_getElem? (i := 812) (by decide +kernel), rfl⟩
theorem q_813 : Cond.code ⟨"ShortBridgeModel", "turn", "()I"⟩ prog_9_method_27_code 2 (some FieldType.int) ∈ zG := List.mem_filter.mpr ⟨List.mem_of_getElem? (i := 813) (by decide +kernel), rfl⟩
theorem q_814 : Cond.methodLink "ShortBridgeModel" 154 ⟨"ShortBridgeModel", "readCards", "()V"⟩ ∈ zG := List.mem_filter.mpr ⟨List.mem_of_getElem? (i := 814) (by decide +kernel), rfl⟩
theorem q_816 : Cond.instanceMethod ⟨"ShortBridgeModel", "readCards", "()V"⟩ ∈ zG := List.mem_filter.mpr ⟨List.mem_of_getElem? (i := 816) (by decide +kernel), rfl⟩
theorem q_817 : Cond.code ⟨"ShortBridgeModel", "readCards", "()V"⟩ prog_9_method_24_code 2 none ∈ zG := List.mem_filter.mpr ⟨List.mem_of_getElem? (i := 817) (by decide +kernel), rfl⟩
theorem q_818 : Cond.methodLink "ShortBridgeModel" 146 ⟨"ShortBridgeModel", "goOn", "(I)V"⟩ ∈ zG := List.mem_filter.mpr ⟨List.mem_of_getElem? (i := 818) (by decide +kernel), rfl⟩
theorem q_820 : Cond.instanceMethod ⟨"ShortBridgeModel", "goOn", "(I)V"⟩ ∈ zG := List.mem_filter.mpr ⟨List.mem_of_getElem? (i := 820) (by decide +kernel), rfl⟩
theorem q_821 : Cond.code ⟨"ShortBridgeModel", "goOn", "(I)V"⟩ prog_9_method_23_code 5 none ∈ zG := List.mem_filter.mpr ⟨List.mem_of_getElem? (i := 821) (by decide +kernel), rfl⟩
theorem q_822 : Cond.methodLink "ShortBridgeModel" 142 ⟨"ShortBridgeModel", "height", "(II)I"⟩ ∈ zG := List.mem_filter.mpr ⟨List.mem_of_getElem? (i := 822) (by decide +kernel), rfl⟩
theorem q_824 : Cond.instanceMethod ⟨"ShortBridgeModel", "height", "(II)I"⟩ ∈ zG := List.mem_filter.mpr ⟨List.mem_of_getElem? (i := 824) (by decide +kernel), rfl⟩
theorem q_825 : Cond.code ⟨"ShortBridgeModel", "height", "(II)I"⟩ prog_9_method_22_code 3 (some FieldType.int) ∈ zG := List.mem_filter.mpr ⟨List.mem_of_getElem? (i := 825) (by decide +kernel), rfl⟩
theorem q_826 : Cond.methodLink "ShortBridgeModel" 139 ⟨"ShortBridgeModel", "trump", "()I"⟩ ∈ zG := List.mem_filter.mpr ⟨List.mem_of_getElem? (i := 826) (by decide +kernel), rfl⟩
theorem q_828 : Cond.instanceMethod ⟨"ShortBridgeModel", "trump", "()I"⟩ ∈ zG := List.mem_filter.mpr ⟨List.mem_of_getElem? (i := 828) (by decide +kernel), rfl⟩
theorem q_829 : Cond.code ⟨"ShortBridgeModel", "trump", "()I"⟩ prog_9_method_21_code 1 (some FieldType.int) ∈ zG := List.mem_filter.mpr ⟨List.mem_of_getElem? (i := 829) (by decide +kernel), rfl⟩
theorem q_830 : Cond.methodLink "ShortBridgeLaw" 77 ⟨"ShortBridgeModel", "has", "(II)Z"⟩ ∈ zG := List.mem_filter.mpr ⟨List.mem_of_getElem? (i := 830) (by decide +kernel), rfl⟩
theorem q_831 : Cond.instanceMethod ⟨"ShortBridgeModel", "has", "(II)Z"⟩ ∈ zG := List.mem_filter.mpr ⟨List.mem_of_getElem? (i := 831) (by decide +kernel), rfl⟩
theorem q_832 : Cond.selects "ShortBridgeModel" ⟨"ShortBridgeModel", "has", "(II)Z"⟩ ⟨"ShortBridgeModel", "has", "(II)Z"⟩ ∈ zG := List.mem_filter.mpr ⟨List.mem_of_getElem? (i := 832) (by decide +kernel), rfl⟩
theorem q_833 : Cond.code ⟨"ShortBridgeModel", "has", "(II)Z"⟩ prog_9_method_28_code 3 (some FieldType.boolean) ∈ zG := List.mem_filter.mpr ⟨List.mem_of_getElem? (i := 833) (by decide +kernel), rfl⟩
theorem q_834 : Cond.methodLink "ShortBridgeModel" 150 ⟨"ShortBridgeModel", "holds", "(III)Z"⟩ ∈ zG := List.mem_filter.mpr ⟨List.mem_of_getElem? (i := 834) (by decide +kernel), rfl⟩
theorem q_836 : Cond.instanceMethod ⟨"ShortBridgeModel", "holds", "(III)Z"⟩ ∈ zG := List.mem_filter.mpr ⟨List.mem_of_getElem? (i := 836) (by decide +kernel), rfl⟩
theorem q_837 : Cond.code ⟨"ShortBridgeModel", "holds", "(III)Z"⟩ prog_9_method_25_code 4 (some FieldType.boolean) ∈ zG := List.mem_filter.mpr ⟨List.mem_of_getElem? (i := 837) (by decide +kernel), rfl⟩
theorem q_838 : Cond.methodLink "ShortBridgeLaw" 89 ⟨"ShortBridgeModel", "play", "(I)V"⟩ ∈ zG := List.mem_filter.mpr ⟨List.mem_of_getElem? (i := 838) (by decide +kernel), rfl⟩
theorem q_839 : Cond.instanceMethod ⟨"ShortBridgeModel", "play", "(I)V"⟩ ∈ zG := List.mem_filter.mpr ⟨List.mem_of_getElem? (i := 839) (by decide +kernel), rfl⟩
theorem q_840 : Cond.selects "ShortBridgeModel" ⟨"ShortBridgeModel", "play", "(I)V"⟩ ⟨"ShortBridgeModel", "play", "(I)V"⟩ ∈ zG := List.mem_filter.mpr ⟨List.mem_of_getElem? (i := 840) (by decide +kernel), rfl⟩
theorem q_841 : Cond.code ⟨"ShortBridgeModel", "play", "(I)V"⟩ prog_9_method_29_code 3 none ∈ zG := List.mem_filter.mpr ⟨List.mem_of_getElem? (i := 841) (by decide +kernel), rfl⟩
theorem q_842 : Cond.methodLink "ShortBridgeModel" 157 ⟨"ShortBridgeModel", "follows", "(II)Z"⟩ ∈ zG := List.mem_filter.mpr ⟨List.mem_of_getElem? (i := 842) (by decide +kernel), rfl⟩
theorem q_844 : Cond.instanceMethod ⟨"ShortBridgeModel", "follows", "(II)Z"⟩ ∈ zG := List.mem_filter.mpr ⟨List.mem_of_getElem? (i := 844) (by decide +kernel), rfl⟩
theorem q_845 : Cond.code ⟨"ShortBridgeModel", "follows", "(II)Z"⟩ prog_9_method_26_code 6 (some FieldType.boolean) ∈ zG := List.mem_filter.mpr ⟨List.mem_of_getElem? (i := 845) (by decide +kernel), rfl⟩
theorem q_846 : Cond.methodLink "ShortBridgeLaw" 94 ⟨"ShortBridgeModel", "back", "()Z"⟩ ∈ zG := List.mem_filter.mpr ⟨List.mem_of_getElem? (i := 846) (by decide +kernel), rfl⟩
theorem q_847 : Cond.instanceMethod ⟨"ShortBridgeModel", "back", "()Z"⟩ ∈ zG := List.mem_filter.mpr ⟨List.mem_of_getElem? (i := 847) (by decide +kernel), rfl⟩
theorem q_848 : Cond.selects "ShortBridgeModel" ⟨"ShortBridgeModel", "back", "()Z"⟩ ⟨"ShortBridgeModel", "back", "()Z"⟩ ∈ zG := List.mem_filter.mpr ⟨List.mem_of_getElem? (i := 848) (by decide +kernel), rfl⟩
theorem q_849 : Cond.code ⟨"ShortBridgeModel", "back", "()Z"⟩ prog_9_method_30_code 3 (some FieldType.boolean) ∈ zG := List.mem_filter.mpr ⟨List.mem_of_getElem? (i := 849) (by decide +kernel), rfl⟩
theorem q_850 : Cond.methodLink "ShortBridgeLaw" 102 ⟨"ShortBridgeModel", "tricks", "(I)I"⟩ ∈ zG := List.mem_filter.mpr ⟨List.mem_of_getElem? (i := 850) (by decide +kernel), rfl⟩
theorem q_851 : Cond.instanceMethod ⟨"ShortBridgeModel", "tricks", "(I)I"⟩ ∈ zG := List.mem_filter.mpr ⟨List.mem_of_getElem? (i := 851) (by decide +kernel), rfl⟩
theorem q_852 : Cond.selects "ShortBridgeModel" ⟨"ShortBridgeModel", "tricks", "(I)I"⟩ ⟨"ShortBridgeModel", "tricks", "(I)I"⟩ ∈ zG := List.mem_filter.mpr ⟨List.mem_of_getElem? (i := 852) (by decide +kernel), rfl⟩
theorem q_853 : Cond.code ⟨"ShortBridgeModel", "tricks", "(I)I"⟩ prog_9_method_31_code 2 (some FieldType.int) ∈ zG := List.mem_filter.mpr ⟨List.mem_of_getElem? (i := 853) (by decide +kernel), rfl⟩
theorem q_854 : Cond.methodLink "ShortBridgeLaw" 106 ⟨"ShortBridgeModel", "table", "(I)I"⟩ ∈ zG := List.mem_filter.mpr ⟨List.mem_of_getElem? (i := 854) (by decide +kernel), rfl⟩
theorem q_855 : Cond.instanceMethod ⟨"ShortBridgeModel", "table", "(I)I"⟩ ∈ zG := List.mem_filter.mpr ⟨List.mem_of_getElem? (i := 855) (by decide +kernel), rfl⟩
theorem q_856 : Cond.selects "ShortBridgeModel" ⟨"ShortBridgeModel", "table", "(I)I"⟩ ⟨"ShortBridgeModel", "table", "(I)I"⟩ ∈ zG := List.mem_filter.mpr ⟨List.mem_of_getElem? (i := 856) (by decide +kernel), rfl⟩
theorem q_857 : Cond.code ⟨"ShortBridgeModel", "table", "(I)I"⟩ prog_9_method_32_code 2 (some FieldType.int) ∈ zG := List.mem_filter.mpr ⟨List.mem_of_getElem? (i := 857) (by decide +kernel), rfl⟩
theorem q_858 : Cond.methodLink "ShortBridgeLaw" 110 ⟨"ShortBridgeModel", "score", "()I"⟩ ∈ zG := List.mem_filter.mpr ⟨List.mem_of_getElem? (i := 858) (by decide +kernel), rfl⟩
theorem q_859 : Cond.instanceMethod ⟨"ShortBridgeModel", "score", "()I"⟩ ∈ zG := List.mem_filter.mpr ⟨List.mem_of_getElem? (i := 859) (by decide +kernel), rfl⟩
theorem q_860 : Cond.selects "ShortBridgeModel" ⟨"ShortBridgeModel", "score", "()I"⟩ ⟨"ShortBridgeModel", "score", "()I"⟩ ∈ zG := List.mem_filter.mpr ⟨List.mem_of_getElem? (i := 860) (by decide +kernel), rfl⟩
theorem q_861 : Cond.code ⟨"ShortBridgeModel", "score", "()I"⟩ prog_9_method_35_code 1 (some FieldType.int) ∈ zG := List.mem_filter.mpr ⟨List.mem_of_getElem? (i := 861) (by decide +kernel), rfl⟩
theorem q_862 : Cond.methodLink "ShortBridgeModel" 165 ⟨"ShortBridgeModel", "scoreNow", "()I"⟩ ∈ zG := List.mem_filter.mpr ⟨List.mem_of_getElem? (i := 862) (by decide +kernel), rfl⟩
theorem q_864 : Cond.instanceMethod ⟨"ShortBridgeModel", "scoreNow", "()I"⟩ ∈ zG := List.mem_filter.mpr ⟨List.mem_of_getElem? (i := 864) (by decide +kernel), rfl⟩
theorem q_865 : Cond.code ⟨"ShortBridgeModel", "scoreNow", "()I"⟩ prog_9_method_34_code 10 (some FieldType.int) ∈ zG := List.mem_filter.mpr ⟨List.mem_of_getElem? (i := 865) (by decide +kernel), rfl⟩
theorem q_866 : Cond.methodLink "ShortBridgeModel" 161 ⟨"ShortBridgeModel", "lostBy", "(IIZ)I"⟩ ∈ zG := List.mem_filter.mpr ⟨List.mem_of_getElem? (i := 866) (by decide +kernel), rfl⟩
theorem q_867 : Cond.static ⟨"ShortBridgeModel", "lostBy", "(IIZ)I"⟩ ∈ zG := List.mem_filter.mpr ⟨List.mem_of_getElem? (i := 867) (by decide +kernel), rfl⟩
theorem q_868 : Cond.code ⟨"ShortBridgeModel", "lostBy", "(IIZ)I"⟩ prog_9_method_33_code 5 (some FieldType.int) ∈ zG := List.mem_filter.mpr ⟨List.mem_of_getElem? (i := 868) (by decide +kernel), rfl⟩
theorem q_869 : Cond.methodLink "ShortBridgeLaw" 113 ⟨"ShortBridgeModel", "solve", "()I"⟩ ∈ zG := List.mem_filter.mpr ⟨List.mem_of_getElem? (i := 869) (by decide +kernel), rfl⟩
theorem q_870 : Cond.instanceMethod ⟨"ShortBridgeModel", "solve", "()I"⟩ ∈ zG := List.mem_filter.mpr ⟨List.mem_of_getElem? (i := 870) (by decide +kernel), rfl⟩
theorem q_871 : Cond.selects "ShortBridgeModel" ⟨"ShortBridgeModel", "solve", "()I"⟩ ⟨"ShortBridgeModel", "solve", "()I"⟩ ∈ zG := List.mem_filter.mpr ⟨List.mem_of_getElem? (i := 871) (by decide +kernel), rfl⟩
theorem q_872 : Cond.code ⟨"ShortBridgeModel", "solve", "()I"⟩ prog_9_method_41_code 5 (some FieldType.int) ∈ zG := List.mem_filter.mpr ⟨List.mem_of_getElem? (i := 872) (by decide +kernel), rfl⟩
theorem q_873 : Cond.methodLink "ShortBridgeModel" 181 ⟨"ShortBridgeModel", "solveFrom", "(I)I"⟩ ∈ zG := List.mem_filter.mpr ⟨List.mem_of_getElem? (i := 873) (by decide +kernel), rfl⟩
theorem q_875 : Cond.instanceMethod ⟨"ShortBridgeModel", "solveFrom", "(I)I"⟩ ∈ zG := List.mem_filter.mpr ⟨List.mem_of_getElem? (i := 875) (by decide +kernel), rfl⟩
theorem q_876 : Cond.code ⟨"ShortBridgeModel", "solveFrom", "(I)I"⟩ prog_9_method_40_code 6 (some FieldType.int) ∈ zG := List.mem_filter.mpr ⟨List.mem_of_getElem? (i := 876) (by decide +kernel), rfl⟩
theorem q_877 : Cond.methodLink "ShortBridgeModel" 171 ⟨"ShortBridgeModel", "enter", "(III)V"⟩ ∈ zG := List.mem_filter.mpr ⟨List.mem_of_getElem? (i := 877) (by decide +kernel), rfl⟩
theorem q_879 : Cond.instanceMethod ⟨"ShortBridgeModel", "enter", "(III)V"⟩ ∈ zG := List.mem_filter.mpr ⟨List.mem_of_getElem? (i := 879) (by decide +kernel), rfl⟩
theorem q_880 : Cond.code ⟨"ShortBridgeModel", "enter", "(III)V"⟩ prog_9_method_36_code 4 none ∈ zG := List.mem_filter.mpr ⟨List.mem_of_getElem? (i := 880) (by decide +kernel), rfl⟩
theorem q_881 : Cond.methodLink "ShortBridgeModel" 168 ⟨"ShortBridgeModel", "ours", "(I)Z"⟩ ∈ zG := List.mem_filter.mpr ⟨List.mem_of_getElem? (i := 881) (by decide +kernel), rfl⟩
theorem q_883 : Cond.instanceMethod ⟨"ShortBridgeModel", "ours", "(I)Z"⟩ ∈ zG := List.mem_filter.mpr ⟨List.mem_of_getElem? (i := 883) (by decide +kernel), rfl⟩
theorem q_884 : Cond.code ⟨"ShortBridgeModel", "ours", "(I)Z"⟩ prog_9_method_37_code 2 (some FieldType.boolean) ∈ zG := List.mem_filter.mpr ⟨List.mem_of_getElem? (i := 884) (by decide +kernel), rfl⟩
theorem q_885 : Cond.methodLink "ShortBridgeModel" 175 ⟨"ShortBridgeModel", "nextTry", "(I)I"⟩ ∈ zG := List.mem_filter.mpr ⟨List.mem_of_getElem? (i := 885) (by decide +kernel), rfl⟩
theorem q_887 : Cond.instanceMethod ⟨"ShortBridgeModel", "nextTry", "(I)I"⟩ ∈ zG := List.mem_filter.mpr ⟨List.mem_of_getElem? (i := 887) (by decide +kernel), rfl⟩
theorem q_888 : Cond.code ⟨"ShortBridgeModel", "nextTry", "(I)I"⟩ prog_9_method_38_code 3 (some FieldType.int) ∈ zG := List.mem_filter.mpr ⟨List.mem_of_getElem? (i := 888) (by decide +kernel), rfl⟩
theorem q_889 : Cond.methodLink "ShortBridgeModel" 178 ⟨"ShortBridgeModel", "take", "(II)V"⟩ ∈ zG := List.mem_filter.mpr ⟨List.mem_of_getElem? (i := 889) (by decide +kernel), rfl⟩
theorem q_891 : Cond.instanceMethod ⟨"ShortBridgeModel", "take", "(II)V"⟩ ∈ zG := List.mem_filter.mpr ⟨List.mem_of_getElem? (i := 891) (by decide +kernel), rfl⟩
theorem q_892 : Cond.code ⟨"ShortBridgeModel", "take", "(II)V"⟩ prog_9_method_39_code 3 none ∈ zG := List.mem_filter.mpr ⟨List.mem_of_getElem? (i := 892) (by decide +kernel), rfl⟩
theorem q_893 : Cond.methodLink "ShortBridgeLaw" 116 ⟨"ShortBridgeModel", "record", "()I"⟩ ∈ zG := List.mem_filter.mpr ⟨List.mem_of_getElem? (i := 893) (by decide +kernel), rfl⟩
theorem q_894 : Cond.instanceMethod ⟨"ShortBridgeModel", "record", "()I"⟩ ∈ zG := List.mem_filter.mpr ⟨List.mem_of_getElem? (i := 894) (by decide +kernel), rfl⟩
theorem q_895 : Cond.selects "ShortBridgeModel" ⟨"ShortBridgeModel", "record", "()I"⟩ ⟨"ShortBridgeModel", "record", "()I"⟩ ∈ zG := List.mem_filter.mpr ⟨List.mem_of_getElem? (i := 895) (by decide +kernel), rfl⟩
theorem q_896 : Cond.code ⟨"ShortBridgeModel", "record", "()I"⟩ prog_9_method_42_code 1 (some FieldType.int) ∈ zG := List.mem_filter.mpr ⟨List.mem_of_getElem? (i := 896) (by decide +kernel), rfl⟩
theorem q_897 : Cond.methodLink "ShortBridgeLaw" 120 ⟨"ShortBridgeModel", "points", "(II)I"⟩ ∈ zG := List.mem_filter.mpr ⟨List.mem_of_getElem? (i := 897) (by decide +kernel), rfl⟩
theorem q_898 : Cond.instanceMethod ⟨"ShortBridgeModel", "points", "(II)I"⟩ ∈ zG := List.mem_filter.mpr ⟨List.mem_of_getElem? (i := 898) (by decide +kernel), rfl⟩
theorem q_899 : Cond.selects "ShortBridgeModel" ⟨"ShortBridgeModel", "points", "(II)I"⟩ ⟨"ShortBridgeModel", "points", "(II)I"⟩ ∈ zG := List.mem_filter.mpr ⟨List.mem_of_getElem? (i := 899) (by decide +kernel), rfl⟩
theorem q_900 : Cond.code ⟨"ShortBridgeModel", "points", "(II)I"⟩ prog_9_method_45_code 7 (some FieldType.int) ∈ zG := List.mem_filter.mpr ⟨List.mem_of_getElem? (i := 900) (by decide +kernel), rfl⟩
theorem q_901 : Cond.methodLink "ShortBridgeModel" 187 ⟨"ShortBridgeModel", "isResult", "(I)Z"⟩ ∈ zG := List.mem_filter.mpr ⟨List.mem_of_getElem? (i := 901) (by decide +kernel), rfl⟩
theorem q_903 : Cond.instanceMethod ⟨"ShortBridgeModel", "isResult", "(I)Z"⟩ ∈ zG := List.mem_filter.mpr ⟨List.mem_of_getElem? (i := 903) (by decide +kernel), rfl⟩
theorem q_904 : Cond.code ⟨"ShortBridgeModel", "isResult", "(I)Z"⟩ prog_9_method_43_code 2 (some FieldType.boolean) ∈ zG := List.mem_filter.mpr ⟨List.mem_of_getElem? (i := 904) (by decide +kernel), rfl⟩
theorem q_905 : Cond.methodLink "ShortBridgeModel" 190 ⟨"ShortBridgeModel", "step", "(I)I"⟩ ∈ zG := List.mem_filter.mpr ⟨List.mem_of_getElem? (i := 905) (by decide +kernel), rfl⟩
theorem q_906 : Cond.static ⟨"ShortBridgeModel", "step", "(I)I"⟩ ∈ zG := List.mem_filter.mpr ⟨List.mem_of_getElem? (i := 906) (by decide +kernel), rfl⟩
theorem q_907 : Cond.code ⟨"ShortBridgeModel", "step", "(I)I"⟩ prog_9_method_44_code 1 (some FieldType.int) ∈ zG := List.mem_filter.mpr ⟨List.mem_of_getElem? (i := 907) (by decide +kernel), rfl⟩
theorem q_908 : Cond.methodLink "ShortBridgeLaw" 124 ⟨"ShortBridgeModel", "places", "(I)I"⟩ ∈ zG := List.mem_filter.mpr ⟨List.mem_of_getElem? (i := 908) (by decide +kernel), rfl⟩
theorem q_909 : Cond.instanceMethod ⟨"ShortBridgeModel", "places", "(I)I"⟩ ∈ zG := List.mem_filter.mpr ⟨List.mem_of_getElem? (i := 909) (by decide +kernel), rfl⟩
theorem q_910 : Cond.selects "ShortBridgeModel" ⟨"ShortBridgeModel", "places", "(I)I"⟩ ⟨"ShortBridgeModel", "places", "(I)I"⟩ ∈ zG := List.mem_filter.mpr ⟨List.mem_of_getElem? (i := 910) (by decide +kernel), rfl⟩
theorem q_911 : Cond.code ⟨"ShortBridgeModel", "places", "(I)I"⟩ prog_9_method_46_code 4 (some FieldType.int) ∈ zG := List.mem_filter.mpr ⟨List.mem_of_getElem? (i := 911) (by decide +kernel), rfl⟩
theorem q_912 : Cond.constantLong "ShortBridgeLaw" 48 4294967295 ∈ zG := List.mem_filter.mpr ⟨List.mem_of_getElem? (i := 912) (by decide +kernel), rfl⟩
def R_X : String := "ShortBridge"
def T_X : u_T := fun k => match k with
  | 0 => ("ShortBridge", "dealt", "LShortBridge$Deal;", true)
  | 1 => ("ShortBridge", "auction", "LShortBridge$Auction;", true)
  | 2 => ("ShortBridge", "hands", "LShortBridge$Hands;", true)
  | 3 => ("ShortBridge", "results", "LShortBridge$Results;", true)
  | 4 => ("ShortBridge", "hasBoard", "Z", false)
  | _ => ("ShortBridge", "vulnerability", "I", false)
def ty_X : Nat → FieldType := fun k => match k with
  | 0 => .object "ShortBridge$Deal"
  | 1 => .object "ShortBridge$Auction"
  | 2 => .object "ShortBridge$Hands"
  | 3 => .object "ShortBridge$Results"
  | 4 => .boolean
  | _ => .int
theorem nm_X : ∀ a, a < 6 → ∀ b, b < 6 → a ≠ b → (T_X a).2.1 ≠ (T_X b).2.1 := by decide +kernel
theorem tyo_X : ∀ k, k < 6 → parseFieldDescriptor (T_X k).2.2.1 = some (ty_X k) := by decide +kernel
theorem in_X : ∀ w ∈ u_ws R_X T_X 6, w ∈ zG := by
  intro w hw
  obtain ⟨k, hk, rfl⟩ := List.mem_map.mp hw
  rw [List.mem_range] at hk
  match k, hk with
  | 0, _ => exact q_156
  | 1, _ => exact q_158
  | 2, _ => exact q_160
  | 3, _ => exact q_162
  | 4, _ => exact q_164
  | 5, _ => exact q_166
  | k + 6, hk => omega
def R_Deal : String := "ShortBridge$Deal"
def T_Deal : u_T := fun k => match k with
  | 0 => ("ShortBridge$Deal", "owners", "[I", true)
  | 1 => ("ShortBridge$Deal", "row", "[I", true)
  | 2 => ("ShortBridge$Deal", "left", "[I", true)
  | _ => ("ShortBridge$Deal", "rank", "J", false)
def ty_Deal : Nat → FieldType := fun k => match k with
  | 0 => .array .int
  | 1 => .array .int
  | 2 => .array .int
  | _ => .long
theorem nm_Deal : ∀ a, a < 4 → ∀ b, b < 4 → a ≠ b → (T_Deal a).2.1 ≠ (T_Deal b).2.1 := by decide +kernel
theorem tyo_Deal : ∀ k, k < 4 → parseFieldDescriptor (T_Deal k).2.2.1 = some (ty_Deal k) := by decide +kernel
theorem in_Deal : ∀ w ∈ u_ws R_Deal T_Deal 4, w ∈ zG := by
  intro w hw
  obtain ⟨k, hk, rfl⟩ := List.mem_map.mp hw
  rw [List.mem_range] at hk
  match k, hk with
  | 0, _ => exact q_76
  | 1, _ => exact q_78
  | 2, _ => exact q_80
  | 3, _ => exact q_82
  | k + 4, hk => omega
def R_Auction : String := "ShortBridge$Auction"
def T_Auction : u_T := fun k => match k with
  | 0 => ("ShortBridge$Auction", "calls", "[I", true)
  | 1 => ("ShortBridge$Auction", "count", "I", false)
  | _ => ("ShortBridge$Auction", "dealer", "I", false)
def ty_Auction : Nat → FieldType := fun k => match k with
  | 0 => .array .int
  | 1 => .int
  | _ => .int
theorem nm_Auction : ∀ a, a < 3 → ∀ b, b < 3 → a ≠ b → (T_Auction a).2.1 ≠ (T_Auction b).2.1 := by decide +kernel
theorem tyo_Auction : ∀ k, k < 3 → parseFieldDescriptor (T_Auction k).2.2.1 = some (ty_Auction k) := by decide +kernel
theorem in_Auction : ∀ w ∈ u_ws R_Auction T_Auction 3, w ∈ zG := by
  intro w hw
  obtain ⟨k, hk, rfl⟩ := List.mem_map.mp hw
  rw [List.mem_range] at hk
  match k, hk with
  | 0, _ => exact q_96
  | 1, _ => exact q_98
  | 2, _ => exact q_100
  | k + 3, hk => omega
def R_Hands : String := "ShortBridge$Hands"
def T_Hands : u_T := fun k => match k with
  | 0 => ("ShortBridge$Hands", "held", "[I", true)
  | 1 => ("ShortBridge$Hands", "cards", "[I", true)
  | 2 => ("ShortBridge$Hands", "played", "[I", true)
  | 3 => ("ShortBridge$Hands", "leaders", "[I", true)
  | 4 => ("ShortBridge$Hands", "count", "I", false)
  | _ => ("ShortBridge$Hands", "trump", "I", false)
def ty_Hands : Nat → FieldType := fun k => match k with
  | 0 => .array .int
  | 1 => .array .int
  | 2 => .array .int
  | 3 => .array .int
  | 4 => .int
  | _ => .int
theorem nm_Hands : ∀ a, a < 6 → ∀ b, b < 6 → a ≠ b → (T_Hands a).2.1 ≠ (T_Hands b).2.1 := by decide +kernel
theorem tyo_Hands : ∀ k, k < 6 → parseFieldDescriptor (T_Hands k).2.2.1 = some (ty_Hands k) := by decide +kernel
theorem in_Hands : ∀ w ∈ u_ws R_Hands T_Hands 6, w ∈ zG := by
  intro w hw
  obtain ⟨k, hk, rfl⟩ := List.mem_map.mp hw
  rw [List.mem_range] at hk
  match k, hk with
  | 0, _ => exact q_118
  | 1, _ => exact q_120
  | 2, _ => exact q_122
  | 3, _ => exact q_124
  | 4, _ => exact q_126
  | 5, _ => exact q_128
  | k + 6, hk => omega
def R_Results : String := "ShortBridge$Results"
def T_Results : u_T := fun k => match k with
  | 0 => ("ShortBridge$Results", "numbers", "[J", true)
  | 1 => ("ShortBridge$Results", "scores", "[I", true)
  | _ => ("ShortBridge$Results", "count", "I", false)
def ty_Results : Nat → FieldType := fun k => match k with
  | 0 => .array .long
  | 1 => .array .int
  | _ => .int
theorem nm_Results : ∀ a, a < 3 → ∀ b, b < 3 → a ≠ b → (T_Results a).2.1 ≠ (T_Results b).2.1 := by decide +kernel
theorem tyo_Results : ∀ k, k < 3 → parseFieldDescriptor (T_Results k).2.2.1 = some (ty_Results k) := by decide +kernel
theorem in_Results : ∀ w ∈ u_ws R_Results T_Results 3, w ∈ zG := by
  intro w hw
  obtain ⟨k, hk, rfl⟩ := List.mem_map.mp hw
  rw [List.mem_range] at hk
  match k, hk with
  | 0, _ => exact q_142
  | 1, _ => exact q_144
  | 2, _ => exact q_146
  | k + 3, hk => omega
def R_M : String := "ShortBridgeModel"
def T_M : u_T := fun k => match k with
  | 0 => ("ShortBridgeModel", "code", "I", false)
  | 1 => ("ShortBridgeModel", "board", "Z", false)
  | 2 => ("ShortBridgeModel", "dealNumber", "J", false)
  | 3 => ("ShortBridgeModel", "dealer", "I", false)
  | 4 => ("ShortBridgeModel", "vulnerable", "I", false)
  | 5 => ("ShortBridgeModel", "owner", "[I", true)
  | 6 => ("ShortBridgeModel", "ways", "[J", true)
  | 7 => ("ShortBridgeModel", "calls", "I", false)
  | 8 => ("ShortBridgeModel", "call", "[I", true)
  | 9 => ("ShortBridgeModel", "cards", "I", false)
  | 10 => ("ShortBridgeModel", "card", "[I", true)
  | 11 => ("ShortBridgeModel", "bid", "I", false)
  | 12 => ("ShortBridgeModel", "doubled", "I", false)
  | 13 => ("ShortBridgeModel", "declarer", "I", false)
  | 14 => ("ShortBridgeModel", "ended", "Z", false)
  | 15 => ("ShortBridgeModel", "turnAt", "[I", true)
  | 16 => ("ShortBridgeModel", "wonAt", "[I", true)
  | 17 => ("ShortBridgeModel", "goneAt", "[I", true)
  | 18 => ("ShortBridgeModel", "look", "[I", true)
  | 19 => ("ShortBridgeModel", "best", "[I", true)
  | 20 => ("ShortBridgeModel", "low", "[I", true)
  | 21 => ("ShortBridgeModel", "high", "[I", true)
  | 22 => ("ShortBridgeModel", "results", "I", false)
  | 23 => ("ShortBridgeModel", "scores", "[I", true)
  | _ => ("ShortBridgeModel", "numbers", "[J", true)
def ty_M : Nat → FieldType := fun k => match k with
  | 0 => .int
  | 1 => .boolean
  | 2 => .long
  | 3 => .int
  | 4 => .int
  | 5 => .array .int
  | 6 => .array .long
  | 7 => .int
  | 8 => .array .int
  | 9 => .int
  | 10 => .array .int
  | 11 => .int
  | 12 => .int
  | 13 => .int
  | 14 => .boolean
  | 15 => .array .int
  | 16 => .array .int
  | 17 => .array .int
  | 18 => .array .int
  | 19 => .array .int
  | 20 => .array .int
  | 21 => .array .int
  | 22 => .int
  | 23 => .array .int
  | _ => .array .long
theorem nm_M : ∀ a, a < 25 → ∀ b, b < 25 → a ≠ b → (T_M a).2.1 ≠ (T_M b).2.1 := by decide +kernel
theorem tyo_M : ∀ k, k < 25 → parseFieldDescriptor (T_M k).2.2.1 = some (ty_M k) := by decide +kernel
theorem in_M : ∀ w ∈ u_ws R_M T_M 25, w ∈ zG := by
  intro w hw
  obtain ⟨k, hk, rfl⟩ := List.mem_map.mp hw
  rw [List.mem_range] at hk
  match k, hk with
  | 0, _ => exact q_679
  | 1, _ => exact q_681
  | 2, _ => exact q_683
  | 3, _ => exact q_685
  | 4, _ => exact q_687
  | 5, _ => exact q_689
  | 6, _ => exact q_691
  | 7, _ => exact q_693
  | 8, _ => exact q_695
  | 9, _ => exact q_697
  | 10, _ => exact q_699
  | 11, _ => exact q_701
  | 12, _ => exact q_703
  | 13, _ => exact q_705
  | 14, _ => exact q_707
  | 15, _ => exact q_709
  | 16, _ => exact q_711
  | 17, _ => exact q_713
  | 18, _ => exact q_715
  | 19, _ => exact q_717
  | 20, _ => exact q_719
  | 21, _ => exact q_721
  | 22, _ => exact q_723
  | 23, _ => exact q_725
  | 24, _ => exact q_727
  | k + 25, hk => omega
abbrev vwCl : List vw_C := [(R_X, T_X, 6), (R_Deal, T_Deal, 4), (R_Auction, T_Auction, 3), (R_Hands, T_Hands, 6), (R_Results, T_Results, 3), (R_M, T_M, 25)]
