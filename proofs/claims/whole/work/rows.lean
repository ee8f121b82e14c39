section
/-- a private method of a class that the tables say can be made, by its rows of tables_1 -/
def lw_okq (q : MethodName × Nat) : Prop := (q.1.cls ≠ "java/lang/invoke/MethodHandle" ∧ q.1.cls ≠ "java/lang/invoke/VarHandle") ∧ Cond.instantiable q.1.cls q.2 ∈ tables_1 ∧ Cond.privateMethod q.1 ∈ tables_1 ∧ Cond.instanceMethod q.1 ∈ tables_1
theorem lw_p0 : lw_okq (⟨"ShortBridge$Deal", "fillLeft", "()V"⟩, 4) := ⟨⟨by decide +kernel, by decide +kernel⟩, List.mem_of_getElem? (i := 27) (by decide +kernel), List.mem_of_getElem? (i := 150) (by decide +kernel), List.mem_of_getElem? (i := 151) (by decide +kernel)⟩
theorem lw_p1 : lw_okq (⟨"ShortBridge$Deal", "share", "(JII)J"⟩, 4) := ⟨⟨by decide +kernel, by decide +kernel⟩, List.mem_of_getElem? (i := 27) (by decide +kernel), List.mem_of_getElem? (i := 154) (by decide +kernel), List.mem_of_getElem? (i := 155) (by decide +kernel)⟩
theorem lw_p2 : lw_okq (⟨"ShortBridge", "begin", "(II)V"⟩, 6) := ⟨⟨by decide +kernel, by decide +kernel⟩, List.mem_of_getElem? (i := 19) (by decide +kernel), List.mem_of_getElem? (i := 158) (by decide +kernel), List.mem_of_getElem? (i := 159) (by decide +kernel)⟩
theorem lw_p3 : lw_okq (⟨"ShortBridge$Hands", "takeHand", "(LShortBridge$Deal;I)V"⟩, 6) := ⟨⟨by decide +kernel, by decide +kernel⟩, List.mem_of_getElem? (i := 66) (by decide +kernel), List.mem_of_getElem? (i := 170) (by decide +kernel), List.mem_of_getElem? (i := 171) (by decide +kernel)⟩
theorem lw_p4 : lw_okq (⟨"ShortBridge$Deal", "shuffleRow", "(J)V"⟩, 4) := ⟨⟨by decide +kernel, by decide +kernel⟩, List.mem_of_getElem? (i := 27) (by decide +kernel), List.mem_of_getElem? (i := 183) (by decide +kernel), List.mem_of_getElem? (i := 184) (by decide +kernel)⟩
theorem lw_p5 : lw_okq (⟨"ShortBridge$Deal", "rankOfOwners", "()J"⟩, 4) := ⟨⟨by decide +kernel, by decide +kernel⟩, List.mem_of_getElem? (i := 27) (by decide +kernel), List.mem_of_getElem? (i := 189) (by decide +kernel), List.mem_of_getElem? (i := 190) (by decide +kernel)⟩
theorem lw_p6 : lw_okq (⟨"ShortBridge$Auction", "placeOfLatest", "(I)I"⟩, 3) := ⟨⟨by decide +kernel, by decide +kernel⟩, List.mem_of_getElem? (i := 49) (by decide +kernel), List.mem_of_getElem? (i := 205) (by decide +kernel), List.mem_of_getElem? (i := 206) (by decide +kernel)⟩
theorem lw_p7 : lw_okq (⟨"ShortBridge$Auction", "callerOf", "(I)I"⟩, 3) := ⟨⟨by decide +kernel, by decide +kernel⟩, List.mem_of_getElem? (i := 49) (by decide +kernel), List.mem_of_getElem? (i := 226) (by decide +kernel), List.mem_of_getElem? (i := 227) (by decide +kernel)⟩
theorem lw_p8 : lw_okq (⟨"ShortBridge$Auction", "isSameSide", "(II)Z"⟩, 3) := ⟨⟨by decide +kernel, by decide +kernel⟩, List.mem_of_getElem? (i := 49) (by decide +kernel), List.mem_of_getElem? (i := 271) (by decide +kernel), List.mem_of_getElem? (i := 272) (by decide +kernel)⟩
theorem lw_p9 : lw_okq (⟨"java/lang/Throwable", "fillInStackTrace", "(I)Ljava/lang/Throwable;"⟩, 6) := ⟨⟨by decide +kernel, by decide +kernel⟩, List.mem_of_getElem? (i := 348) (by decide +kernel), List.mem_of_getElem? (i := 346) (by decide +kernel), List.mem_of_getElem? (i := 347) (by decide +kernel)⟩
theorem lw_p10 : lw_okq (⟨"ShortBridge$Auction", "latestOfOthers", "()I"⟩, 3) := ⟨⟨by decide +kernel, by decide +kernel⟩, List.mem_of_getElem? (i := 49) (by decide +kernel), List.mem_of_getElem? (i := 401) (by decide +kernel), List.mem_of_getElem? (i := 402) (by decide +kernel)⟩
theorem lw_p11 : lw_okq (⟨"ShortBridge$Hands", "winnerOf", "(I)I"⟩, 6) := ⟨⟨by decide +kernel, by decide +kernel⟩, List.mem_of_getElem? (i := 66) (by decide +kernel), List.mem_of_getElem? (i := 469) (by decide +kernel), List.mem_of_getElem? (i := 470) (by decide +kernel)⟩
theorem lw_p12 : lw_okq (⟨"ShortBridge$Hands", "beats", "(II)Z"⟩, 6) := ⟨⟨by decide +kernel, by decide +kernel⟩, List.mem_of_getElem? (i := 66) (by decide +kernel), List.mem_of_getElem? (i := 473) (by decide +kernel), List.mem_of_getElem? (i := 474) (by decide +kernel)⟩
theorem lw_p13 : lw_okq (⟨"ShortBridge", "scoreOfSide0", "()I"⟩, 6) := ⟨⟨by decide +kernel, by decide +kernel⟩, List.mem_of_getElem? (i := 19) (by decide +kernel), List.mem_of_getElem? (i := 485) (by decide +kernel), List.mem_of_getElem? (i := 486) (by decide +kernel)⟩
theorem lw_p14 : lw_okq (⟨"ShortBridgeModel", "unrank", "(J)V"⟩, 25) := ⟨⟨by decide +kernel, by decide +kernel⟩, List.mem_of_getElem? (i := 611) (by decide +kernel), List.mem_of_getElem? (i := 705) (by decide +kernel), List.mem_of_getElem? (i := 706) (by decide +kernel)⟩
theorem lw_p15 : lw_okq (⟨"ShortBridgeModel", "rowsWith", "(II)J"⟩, 25) := ⟨⟨by decide +kernel, by decide +kernel⟩, List.mem_of_getElem? (i := 611) (by decide +kernel), List.mem_of_getElem? (i := 710) (by decide +kernel), List.mem_of_getElem? (i := 711) (by decide +kernel)⟩
def lw_privs_1 : List (MethodName × Nat) := [(⟨"ShortBridge$Deal", "fillLeft", "()V"⟩, 4), (⟨"ShortBridge$Deal", "share", "(JII)J"⟩, 4), (⟨"ShortBridge", "begin", "(II)V"⟩, 6), (⟨"ShortBridge$Hands", "takeHand", "(LShortBridge$Deal;I)V"⟩, 6), (⟨"ShortBridge$Deal", "shuffleRow", "(J)V"⟩, 4), (⟨"ShortBridge$Deal", "rankOfOwners", "()J"⟩, 4), (⟨"ShortBridge$Auction", "placeOfLatest", "(I)I"⟩, 3), (⟨"ShortBridge$Auction", "callerOf", "(I)I"⟩, 3), (⟨"ShortBridge$Auction", "isSameSide", "(II)Z"⟩, 3), (⟨"java/lang/Throwable", "fillInStackTrace", "(I)Ljava/lang/Throwable;"⟩, 6), (⟨"ShortBridge$Auction", "latestOfOthers", "()I"⟩, 3), (⟨"ShortBridge$Hands", "winnerOf", "(I)I"⟩, 6), (⟨"ShortBridge$Hands", "beats", "(II)Z"⟩, 6), (⟨"ShortBridge", "scoreOfSide0", "()I"⟩, 6), (⟨"ShortBridgeModel", "unrank", "(J)V"⟩, 25), (⟨"ShortBridgeModel", "rowsWith", "(II)J"⟩, 25)]
theorem lw_r1 : ∀ q ∈ lw_privs_1, lw_okq q := List.forall_mem_cons.mpr ⟨lw_p0, List.forall_mem_cons.mpr ⟨lw_p1, List.forall_mem_cons.mpr ⟨lw_p2, List.forall_mem_cons.mpr ⟨lw_p3, List.forall_mem_cons.mpr ⟨lw_p4, List.forall_mem_cons.mpr ⟨lw_p5, List.forall_mem_cons.mpr ⟨lw_p6, List.forall_mem_cons.mpr ⟨lw_p7, List.forall_mem_cons.mpr ⟨lw_p8, List.forall_mem_cons.mpr ⟨lw_p9, List.forall_mem_cons.mpr ⟨lw_p10, List.forall_mem_cons.mpr ⟨lw_p11, List.forall_mem_cons.mpr ⟨lw_p12, List.forall_mem_cons.mpr ⟨lw_p13, List.forall_mem_cons.mpr ⟨lw_p14, List.forall_mem_cons.mpr ⟨lw_p15, fun _ h => absurd h List.not_mem_nil⟩⟩⟩⟩⟩⟩⟩⟩⟩⟩⟩⟩⟩⟩⟩⟩
theorem lw_p16 : lw_okq (⟨"ShortBridgeModel", "rows", "(IIII)J"⟩, 25) := ⟨⟨by decide +kernel, by decide +kernel⟩, List.mem_of_getElem? (i := 611) (by decide +kernel), List.mem_of_getElem? (i := 714) (by decide +kernel), List.mem_of_getElem? (i := 715) (by decide +kernel)⟩
theorem lw_p17 : lw_okq (⟨"ShortBridgeModel", "begin", "(II)V"⟩, 25) := ⟨⟨by decide +kernel, by decide +kernel⟩, List.mem_of_getElem? (i := 611) (by decide +kernel), List.mem_of_getElem? (i := 718) (by decide +kernel), List.mem_of_getElem? (i := 719) (by decide +kernel)⟩
theorem lw_p18 : lw_okq (⟨"ShortBridgeModel", "rank", "()J"⟩, 25) := ⟨⟨by decide +kernel, by decide +kernel⟩, List.mem_of_getElem? (i := 611) (by decide +kernel), List.mem_of_getElem? (i := 722) (by decide +kernel), List.mem_of_getElem? (i := 723) (by decide +kernel)⟩
theorem lw_p19 : lw_okq (⟨"ShortBridgeModel", "phaseNow", "()I"⟩, 25) := ⟨⟨by decide +kernel, by decide +kernel⟩, List.mem_of_getElem? (i := 611) (by decide +kernel), List.mem_of_getElem? (i := 741) (by decide +kernel), List.mem_of_getElem? (i := 742) (by decide +kernel)⟩
theorem lw_p20 : lw_okq (⟨"ShortBridgeModel", "readCalls", "()V"⟩, 25) := ⟨⟨by decide +kernel, by decide +kernel⟩, List.mem_of_getElem? (i := 611) (by decide +kernel), List.mem_of_getElem? (i := 745) (by decide +kernel), List.mem_of_getElem? (i := 746) (by decide +kernel)⟩
theorem lw_p21 : lw_okq (⟨"ShortBridgeModel", "firstOf", "(I)I"⟩, 25) := ⟨⟨by decide +kernel, by decide +kernel⟩, List.mem_of_getElem? (i := 611) (by decide +kernel), List.mem_of_getElem? (i := 749) (by decide +kernel), List.mem_of_getElem? (i := 750) (by decide +kernel)⟩
theorem lw_p22 : lw_okq (⟨"ShortBridgeModel", "callerAt", "(I)I"⟩, 25) := ⟨⟨by decide +kernel, by decide +kernel⟩, List.mem_of_getElem? (i := 611) (by decide +kernel), List.mem_of_getElem? (i := 753) (by decide +kernel), List.mem_of_getElem? (i := 754) (by decide +kernel)⟩
theorem lw_p23 : lw_okq (⟨"ShortBridgeModel", "latestBefore", "(I)I"⟩, 25) := ⟨⟨by decide +kernel, by decide +kernel⟩, List.mem_of_getElem? (i := 611) (by decide +kernel), List.mem_of_getElem? (i := 757) (by decide +kernel), List.mem_of_getElem? (i := 758) (by decide +kernel)⟩
theorem lw_p24 : lw_okq (⟨"ShortBridgeModel", "allowed", "(I)Z"⟩, 25) := ⟨⟨by decide +kernel, by decide +kernel⟩, List.mem_of_getElem? (i := 611) (by decide +kernel), List.mem_of_getElem? (i := 765) (by decide +kernel), List.mem_of_getElem? (i := 766) (by decide +kernel)⟩
theorem lw_p25 : lw_okq (⟨"ShortBridgeModel", "readCards", "()V"⟩, 25) := ⟨⟨by decide +kernel, by decide +kernel⟩, List.mem_of_getElem? (i := 611) (by decide +kernel), List.mem_of_getElem? (i := 777) (by decide +kernel), List.mem_of_getElem? (i := 778) (by decide +kernel)⟩
theorem lw_p26 : lw_okq (⟨"ShortBridgeModel", "goOn", "(I)V"⟩, 25) := ⟨⟨by decide +kernel, by decide +kernel⟩, List.mem_of_getElem? (i := 611) (by decide +kernel), List.mem_of_getElem? (i := 781) (by decide +kernel), List.mem_of_getElem? (i := 782) (by decide +kernel)⟩
theorem lw_p27 : lw_okq (⟨"ShortBridgeModel", "height", "(II)I"⟩, 25) := ⟨⟨by decide +kernel, by decide +kernel⟩, List.mem_of_getElem? (i := 611) (by decide +kernel), List.mem_of_getElem? (i := 785) (by decide +kernel), List.mem_of_getElem? (i := 786) (by decide +kernel)⟩
theorem lw_p28 : lw_okq (⟨"ShortBridgeModel", "trump", "()I"⟩, 25) := ⟨⟨by decide +kernel, by decide +kernel⟩, List.mem_of_getElem? (i := 611) (by decide +kernel), List.mem_of_getElem? (i := 789) (by decide +kernel), List.mem_of_getElem? (i := 790) (by decide +kernel)⟩
theorem lw_p29 : lw_okq (⟨"ShortBridgeModel", "holds", "(III)Z"⟩, 25) := ⟨⟨by decide +kernel, by decide +kernel⟩, List.mem_of_getElem? (i := 611) (by decide +kernel), List.mem_of_getElem? (i := 797) (by decide +kernel), List.mem_of_getElem? (i := 798) (by decide +kernel)⟩
theorem lw_p30 : lw_okq (⟨"ShortBridgeModel", "follows", "(II)Z"⟩, 25) := ⟨⟨by decide +kernel, by decide +kernel⟩, List.mem_of_getElem? (i := 611) (by decide +kernel), List.mem_of_getElem? (i := 805) (by decide +kernel), List.mem_of_getElem? (i := 806) (by decide +kernel)⟩
theorem lw_p31 : lw_okq (⟨"ShortBridgeModel", "scoreNow", "()I"⟩, 25) := ⟨⟨by decide +kernel, by decide +kernel⟩, List.mem_of_getElem? (i := 611) (by decide +kernel), List.mem_of_getElem? (i := 825) (by decide +kernel), List.mem_of_getElem? (i := 826) (by decide +kernel)⟩
def lw_privs_2 : List (MethodName × Nat) := [(⟨"ShortBridgeModel", "rows", "(IIII)J"⟩, 25), (⟨"ShortBridgeModel", "begin", "(II)V"⟩, 25), (⟨"ShortBridgeModel", "rank", "()J"⟩, 25), (⟨"ShortBridgeModel", "phaseNow", "()I"⟩, 25), (⟨"ShortBridgeModel", "readCalls", "()V"⟩, 25), (⟨"ShortBridgeModel", "firstOf", "(I)I"⟩, 25), (⟨"ShortBridgeModel", "callerAt", "(I)I"⟩, 25), (⟨"ShortBridgeModel", "latestBefore", "(I)I"⟩, 25), (⟨"ShortBridgeModel", "allowed", "(I)Z"⟩, 25), (⟨"ShortBridgeModel", "readCards", "()V"⟩, 25), (⟨"ShortBridgeModel", "goOn", "(I)V"⟩, 25), (⟨"ShortBridgeModel", "height", "(II)I"⟩, 25), (⟨"ShortBridgeModel", "trump", "()I"⟩, 25), (⟨"ShortBridgeModel", "holds", "(III)Z"⟩, 25), (⟨"ShortBridgeModel", "follows", "(II)Z"⟩, 25), (⟨"ShortBridgeModel", "scoreNow", "()I"⟩, 25)]
theorem lw_r2 : ∀ q ∈ lw_privs_2, lw_okq q := List.forall_mem_cons.mpr ⟨lw_p16, List.forall_mem_cons.mpr ⟨lw_p17, List.forall_mem_cons.mpr ⟨lw_p18, List.forall_mem_cons.mpr ⟨lw_p19, List.forall_mem_cons.mpr ⟨lw_p20, List.forall_mem_cons.mpr ⟨lw_p21, List.forall_mem_cons.mpr ⟨lw_p22, List.forall_mem_cons.mpr ⟨lw_p23, List.forall_mem_cons.mpr ⟨lw_p24, List.forall_mem_cons.mpr ⟨lw_p25, List.forall_mem_cons.mpr ⟨lw_p26, List.forall_mem_cons.mpr ⟨lw_p27, List.forall_mem_cons.mpr ⟨lw_p28, List.forall_mem_cons.mpr ⟨lw_p29, List.forall_mem_cons.mpr ⟨lw_p30, List.forall_mem_cons.mpr ⟨lw_p31, fun _ h => absurd h List.not_mem_nil⟩⟩⟩⟩⟩⟩⟩⟩⟩⟩⟩⟩⟩⟩⟩⟩
theorem lw_p32 : lw_okq (⟨"ShortBridgeModel", "solveFrom", "(I)I"⟩, 25) := ⟨⟨by decide +kernel, by decide +kernel⟩, List.mem_of_getElem? (i := 611) (by decide +kernel), List.mem_of_getElem? (i := 836) (by decide +kernel), List.mem_of_getElem? (i := 837) (by decide +kernel)⟩
theorem lw_p33 : lw_okq (⟨"ShortBridgeModel", "enter", "(III)V"⟩, 25) := ⟨⟨by decide +kernel, by decide +kernel⟩, List.mem_of_getElem? (i := 611) (by decide +kernel), List.mem_of_getElem? (i := 840) (by decide +kernel), List.mem_of_getElem? (i := 841) (by decide +kernel)⟩
theorem lw_p34 : lw_okq (⟨"ShortBridgeModel", "ours", "(I)Z"⟩, 25) := ⟨⟨by decide +kernel, by decide +kernel⟩, List.mem_of_getElem? (i := 611) (by decide +kernel), List.mem_of_getElem? (i := 844) (by decide +kernel), List.mem_of_getElem? (i := 845) (by decide +kernel)⟩
theorem lw_p35 : lw_okq (⟨"ShortBridgeModel", "nextTry", "(I)I"⟩, 25) := ⟨⟨by decide +kernel, by decide +kernel⟩, List.mem_of_getElem? (i := 611) (by decide +kernel), List.mem_of_getElem? (i := 848) (by decide +kernel), List.mem_of_getElem? (i := 849) (by decide +kernel)⟩
theorem lw_p36 : lw_okq (⟨"ShortBridgeModel", "take", "(II)V"⟩, 25) := ⟨⟨by decide +kernel, by decide +kernel⟩, List.mem_of_getElem? (i := 611) (by decide +kernel), List.mem_of_getElem? (i := 852) (by decide +kernel), List.mem_of_getElem? (i := 853) (by decide +kernel)⟩
theorem lw_p37 : lw_okq (⟨"ShortBridgeModel", "isResult", "(I)Z"⟩, 25) := ⟨⟨by decide +kernel, by decide +kernel⟩, List.mem_of_getElem? (i := 611) (by decide +kernel), List.mem_of_getElem? (i := 864) (by decide +kernel), List.mem_of_getElem? (i := 865) (by decide +kernel)⟩
def lw_privs_3 : List (MethodName × Nat) := [(⟨"ShortBridgeModel", "solveFrom", "(I)I"⟩, 25), (⟨"ShortBridgeModel", "enter", "(III)V"⟩, 25), (⟨"ShortBridgeModel", "ours", "(I)Z"⟩, 25), (⟨"ShortBridgeModel", "nextTry", "(I)I"⟩, 25), (⟨"ShortBridgeModel", "take", "(II)V"⟩, 25), (⟨"ShortBridgeModel", "isResult", "(I)Z"⟩, 25)]
theorem lw_r3 : ∀ q ∈ lw_privs_3, lw_okq q := List.forall_mem_cons.mpr ⟨lw_p32, List.forall_mem_cons.mpr ⟨lw_p33, List.forall_mem_cons.mpr ⟨lw_p34, List.forall_mem_cons.mpr ⟨lw_p35, List.forall_mem_cons.mpr ⟨lw_p36, List.forall_mem_cons.mpr ⟨lw_p37, fun _ h => absurd h List.not_mem_nil⟩⟩⟩⟩⟩⟩
def lw_privs : List (MethodName × Nat) := lw_privs_1 ++ (lw_privs_2 ++ (lw_privs_3))
def lw_tbl : List Cond := k2_sels lw_privs ++ tables_1
theorem lw_privs_ok : ∀ q ∈ lw_privs, lw_okq q := by
  show ∀ q ∈ lw_privs_1 ++ (lw_privs_2 ++ (lw_privs_3)), lw_okq q
  exact List.forall_mem_append.mpr ⟨lw_r1, List.forall_mem_append.mpr ⟨lw_r2, lw_r3⟩⟩
end
section
/-- the tables' words that stay true -/
def zG : List Cond := lw_tbl.filter goodWord
theorem q_0 : Cond.selects "ShortBridge$Deal" ⟨"ShortBridge$Deal", "fillLeft", "()V"⟩ ⟨"ShortBridge$Deal", "fillLeft", "()V"⟩ ∈ zG := List.mem_filter.mpr ⟨List.mem_of_getElem? (i := 0) (by decide +kernel), rfl⟩
theorem q_1 : Cond.selects "ShortBridge$Deal" ⟨"ShortBridge$Deal", "share", "(JII)J"⟩ ⟨"ShortBridge$Deal", "share", "(JII)J"⟩ ∈ zG := List.mem_filter.mpr ⟨List.mem_of_getElem? (i := 1) (by decide +kernel), rfl⟩
theorem q_2 : Cond.selects "ShortBridge" ⟨"ShortBridge", "begin", "(II)V"⟩ ⟨"ShortBridge", "begin", "(II)V"⟩ ∈ zG := List.mem_filter.mpr ⟨List.mem_of_getElem? (i := 2) (by decide +kernel), rfl⟩
theorem q_3 : Cond.selects "ShortBridge$Hands" ⟨"ShortBridge$Hands", "takeHand", "(LShortBridge$Deal;I)V"⟩ ⟨"ShortBridge$Hands", "takeHand", "(LShortBridge$Deal;I)V"⟩ ∈ zG := List.mem_filter.mpr ⟨List.mem_of_getElem? (i := 3) (by decide +kernel), rfl⟩
theorem q_4 : Cond.selects "ShortBridge$Deal" ⟨"ShortBridge$Deal", "shuffleRow", "(J)V"⟩ ⟨"ShortBridge$Deal", "shuffleRow", "(J)V"⟩ ∈ zG := List.mem_filter.mpr ⟨List.mem_of_getElem? (i := 4) (by decide +kernel), rfl⟩
theorem q_5 : Cond.selects "ShortBridge$Deal" ⟨"ShortBridge$Deal", "rankOfOwners", "()J"⟩ ⟨"ShortBridge$Deal", "rankOfOwners", "()J"⟩ ∈ zG := List.mem_filter.mpr ⟨List.mem_of_getElem? (i := 5) (by decide +kernel), rfl⟩
theorem q_6 : Cond.selects "ShortBridge$Auction" ⟨"ShortBridge$Auction", "placeOfLatest", "(I)I"⟩ ⟨"ShortBridge$Auction", "placeOfLatest", "(I)I"⟩ ∈ zG := List.mem_filter.mpr ⟨List.mem_of_getElem? (i := 6) (by decide +kernel), rfl⟩
theorem q_7 : Cond.selects "ShortBridge$Auction" ⟨"ShortBridge$Auction", "callerOf", "(I)I"⟩ ⟨"ShortBridge$Auction", "callerOf", "(I)I"⟩ ∈ zG := List.mem_filter.mpr ⟨List.mem_of_getElem? (i := 7) (by decide +kernel), rfl⟩
theorem q_8 : Cond.selects "ShortBridge$Auction" ⟨"ShortBridge$Auction", "isSameSide", "(II)Z"⟩ ⟨"ShortBridge$Auction", "isSameSide", "(II)Z"⟩ ∈ zG := List.mem_filter.mpr ⟨List.mem_of_getElem? (i := 8) (by decide +kernel), rfl⟩
theorem q_9 : Cond.selects "java/lang/Throwable" ⟨"java/lang/Throwable", "fillInStackTrace", "(I)Ljava/lang/Throwable;"⟩ ⟨"java/lang/Throwable", "fillInStackTrace", "(I)Ljava/lang/Throwable;"⟩ ∈ zG := List.mem_filter.mpr ⟨List.mem_of_getElem? (i := 9) (by decide +kernel), rfl⟩
theorem q_10 : Cond.selects "ShortBridge$Auction" ⟨"ShortBridge$Auction", "latestOfOthers", "()I"⟩ ⟨"ShortBridge$Auction", "latestOfOthers", "()I"⟩ ∈ zG := List.mem_filter.mpr ⟨List.mem_of_getElem? (i := 10) (by decide +kernel), rfl⟩
theorem q_11 : Cond.selects "ShortBridge$Hands" ⟨"ShortBridge$Hands", "winnerOf", "(I)I"⟩ ⟨"ShortBridge$Hands", "winnerOf", "(I)I"⟩ ∈ zG := List.mem_filter.mpr ⟨List.mem_of_getElem? (i := 11) (by decide +kernel), rfl⟩
theorem q_12 : Cond.selects "ShortBridge$Hands" ⟨"ShortBridge$Hands", "beats", "(II)Z"⟩ ⟨"ShortBridge$Hands", "beats", "(II)Z"⟩ ∈ zG := List.mem_filter.mpr ⟨List.mem_of_getElem? (i := 12) (by decide +kernel), rfl⟩
theorem q_13 : Cond.selects "ShortBridge" ⟨"ShortBridge", "scoreOfSide0", "()I"⟩ ⟨"ShortBridge", "scoreOfSide0", "()I"⟩ ∈ zG := List.mem_filter.mpr ⟨List.mem_of_getElem? (i := 13) (by decide +kernel), rfl⟩
theorem q_14 : Cond.selects "ShortBridgeModel" ⟨"ShortBridgeModel", "unrank", "(J)V"⟩ ⟨"ShortBridgeModel", "unrank", "(J)V"⟩ ∈ zG := List.mem_filter.mpr ⟨List.mem_of_getElem? (i := 14) (by decide +kernel), rfl⟩
theorem q_15 : Cond.selects "ShortBridgeModel" ⟨"ShortBridgeModel", "rowsWith", "(II)J"⟩ ⟨"ShortBridgeModel", "rowsWith", "(II)J"⟩ ∈ zG := List.mem_filter.mpr ⟨List.mem_of_getElem? (i := 15) (by decide +kernel), rfl⟩
theorem q_16 : Cond.selects "ShortBridgeModel" ⟨"ShortBridgeModel", "rows", "(IIII)J"⟩ ⟨"ShortBridgeModel", "rows", "(IIII)J"⟩ ∈ zG := List.mem_filter.mpr ⟨List.mem_of_getElem? (i := 16) (by decide +kernel), rfl⟩
theorem q_17 : Cond.selects "ShortBridgeModel" ⟨"ShortBridgeModel", "begin", "(II)V"⟩ ⟨"ShortBridgeModel", "begin", "(II)V"⟩ ∈ zG := List.mem_filter.mpr ⟨List.mem_of_getElem? (i := 17) (by decide +kernel), rfl⟩
theorem q_18 : Cond.selects "ShortBridgeModel" ⟨"ShortBridgeModel", "rank", "()J"⟩ ⟨"ShortBridgeModel", "rank", "()J"⟩ ∈ zG := List.mem_filter.mpr ⟨List.mem_of_getElem? (i := 18) (by decide +kernel), rfl⟩
theorem q_19 : Cond.selects "ShortBridgeModel" ⟨"ShortBridgeModel", "phaseNow", "()I"⟩ ⟨"ShortBridgeModel", "phaseNow", "()I"⟩ ∈ zG := List.mem_filter.mpr ⟨List.mem_of_getElem? (i := 19) (by decide +kernel), rfl⟩
theorem q_20 : Cond.selects "ShortBridgeModel" ⟨"ShortBridgeModel", "readCalls", "()V"⟩ ⟨"ShortBridgeModel", "readCalls", "()V"⟩ ∈ zG := List.mem_filter.mpr ⟨List.mem_of_getElem? (i := 20) (by decide +kernel), rfl⟩
theorem q_21 : Cond.selects "ShortBridgeModel" ⟨"ShortBridgeModel", "firstOf", "(I)I"⟩ ⟨"ShortBridgeModel", "firstOf", "(I)I"⟩ ∈ zG := List.mem_filter.mpr ⟨List.mem_of_getElem? (i := 21) (by decide +kernel), rfl⟩
theorem q_22 : Cond.selects "ShortBridgeModel" ⟨"ShortBridgeModel", "callerAt", "(I)I"⟩ ⟨"ShortBridgeModel", "callerAt", "(I)I"⟩ ∈ zG := List.mem_filter.mpr ⟨List.mem_of_getElem? (i := 22) (by decide +kernel), rfl⟩
theorem q_23 : Cond.selects "ShortBridgeModel" ⟨"ShortBridgeModel", "latestBefore", "(I)I"⟩ ⟨"ShortBridgeModel", "latestBefore", "(I)I"⟩ ∈ zG := List.mem_filter.mpr ⟨List.mem_of_getElem? (i := 23) (by decide +kernel), rfl⟩
theorem q_24 : Cond.selects "ShortBridgeModel" ⟨"ShortBridgeModel", "allowed", "(I)Z"⟩ ⟨"ShortBridgeModel", "allowed", "(I)Z"⟩ ∈ zG := List.mem_filter.mpr ⟨List.mem_of_getElem? (i := 24) (by decide +kernel), rfl⟩
theorem q_25 : Cond.selects "ShortBridgeModel" ⟨"ShortBridgeModel", "readCards", "()V"⟩ ⟨"ShortBridgeModel", "readCards", "()V"⟩ ∈ zG := List.mem_filter.mpr ⟨List.mem_of_getElem? (i := 25) (by decide +kernel), rfl⟩
theorem q_26 : Cond.selects "ShortBridgeModel" ⟨"ShortBridgeModel", "goOn", "(I)V"⟩ ⟨"ShortBridgeModel", "goOn", "(I)V"⟩ ∈ zG := List.mem_filter.mpr ⟨List.mem_of_getElem? (i := 26) (by decide +kernel), rfl⟩
theorem q_27 : Cond.selects "ShortBridgeModel" ⟨"ShortBridgeModel", "height", "(II)I"⟩ ⟨"ShortBridgeModel", "height", "(II)I"⟩ ∈ zG := List.mem_filter.mpr ⟨List.mem_of_getElem? (i := 27) (by decide +kernel), rfl⟩
theorem q_28 : Cond.selects "ShortBridgeModel" ⟨"ShortBridgeModel", "trump", "()I"⟩ ⟨"ShortBridgeModel", "trump", "()I"⟩ ∈ zG := List.mem_filter.mpr ⟨List.mem_of_getElem? (i := 28) (by decide +kernel), rfl⟩
theorem q_29 : Cond.selects "ShortBridgeModel" ⟨"ShortBridgeModel", "holds", "(III)Z"⟩ ⟨"ShortBridgeModel", "holds", "(III)Z"⟩ ∈ zG := List.mem_filter.mpr ⟨List.mem_of_getElem? (i := 29) (by decide +kernel), rfl⟩
theorem q_30 : Cond.selects "ShortBridgeModel" ⟨"ShortBridgeModel", "follows", "(II)Z"⟩ ⟨"ShortBridgeModel", "follows", "(II)Z"⟩ ∈ zG := List.mem_filter.mpr ⟨List.mem_of_getElem? (i := 30) (by decide +kernel), rfl⟩
theorem q_31 : Cond.selects "ShortBridgeModel" ⟨"ShortBridgeModel", "scoreNow", "()I"⟩ ⟨"ShortBridgeModel", "scoreNow", "()I"⟩ ∈ zG := List.mem_filter.mpr ⟨List.mem_of_getElem? (i := 31) (by decide +kernel), rfl⟩
theorem q_32 : Cond.selects "ShortBridgeModel" ⟨"ShortBridgeModel", "solveFrom", "(I)I"⟩ ⟨"ShortBridgeModel", "solveFrom", "(I)I"⟩ ∈ zG := List.mem_filter.mpr ⟨List.mem_of_getElem? (i := 32) (by decide +kernel), rfl⟩
theorem q_33 : Cond.selects "ShortBridgeModel" ⟨"ShortBridgeModel", "enter", "(III)V"⟩ ⟨"ShortBridgeModel", "enter", "(III)V"⟩ ∈ zG := List.mem_filter.mpr ⟨List.mem_of_getElem? (i := 33) (by decide +kernel), rfl⟩
theorem q_34 : Cond.selects "ShortBridgeModel" ⟨"ShortBridgeModel", "ours", "(I)Z"⟩ ⟨"ShortBridgeModel", "ours", "(I)Z"⟩ ∈ zG := List.mem_filter.mpr ⟨List.mem_of_getElem? (i := 34) (by decide +kernel), rfl⟩
theorem q_35 : Cond.selects "ShortBridgeModel" ⟨"ShortBridgeModel", "nextTry", "(I)I"⟩ ⟨"ShortBridgeModel", "nextTry", "(I)I"⟩ ∈ zG := List.mem_filter.mpr ⟨List.mem_of_getElem? (i := 35) (by decide +kernel), rfl⟩
theorem q_36 : Cond.selects "ShortBridgeModel" ⟨"ShortBridgeModel", "take", "(II)V"⟩ ⟨"ShortBridgeModel", "take", "(II)V"⟩ ∈ zG := List.mem_filter.mpr ⟨List.mem_of_getElem? (i := 36) (by decide +kernel), rfl⟩
theorem q_37 : Cond.selects "ShortBridgeModel" ⟨"ShortBridgeModel", "isResult", "(I)Z"⟩ ⟨"ShortBridgeModel", "isResult", "(I)Z"⟩ ∈ zG := List.mem_filter.mpr ⟨List.mem_of_getElem? (i := 37) (by decide +kernel), rfl⟩
theorem q_38 : Cond.initialized "ShortBridgeLaw" ∈ zG := List.mem_filter.mpr ⟨List.mem_of_getElem? (i := 38) (by decide +kernel), rfl⟩
theorem q_39 : Cond.initialized "ShortBridge" ∈ zG := List.mem_filter.mpr ⟨List.mem_of_getElem? (i := 39) (by decide +kernel), rfl⟩
theorem q_40 : Cond.initialized "ShortBridge$Deal" ∈ zG := List.mem_filter.mpr ⟨List.mem_of_getElem? (i := 40) (by decide +kernel), rfl⟩
theorem q_41 : Cond.initialized "ShortBridge$Auction" ∈ zG := List.mem_filter.mpr ⟨List.mem_of_getElem? (i := 41) (by decide +kernel), rfl⟩
theorem q_42 : Cond.initialized "ShortBridge$Hands" ∈ zG := List.mem_filter.mpr ⟨List.mem_of_getElem? (i := 42) (by decide +kernel), rfl⟩
theorem q_43 : Cond.initialized "ShortBridge$Results" ∈ zG := List.mem_filter.mpr ⟨List.mem_of_getElem? (i := 43) (by decide +kernel), rfl⟩
theorem q_44 : Cond.initialized "ShortBridgeModel" ∈ zG := List.mem_filter.mpr ⟨List.mem_of_getElem? (i := 44) (by decide +kernel), rfl⟩
theorem q_45 : Cond.initialized "java/lang/Throwable" ∈ zG := List.mem_filter.mpr ⟨List.mem_of_getElem? (i := 45) (by decide +kernel), rfl⟩
theorem q_46 : Cond.initialized "java/lang/Exception" ∈ zG := List.mem_filter.mpr ⟨List.mem_of_getElem? (i := 46) (by decide +kernel), rfl⟩
theorem q_47 : Cond.initialized "java/lang/RuntimeException" ∈ zG := List.mem_filter.mpr ⟨List.mem_of_getElem? (i := 47) (by decide +kernel), rfl⟩
theorem q_48 : Cond.initialized "java/lang/IllegalStateException" ∈ zG := List.mem_filter.mpr ⟨List.mem_of_getElem? (i := 48) (by decide +kernel), rfl⟩
theorem q_49 : Cond.initialized "java/lang/IllegalArgumentException" ∈ zG := List.mem_filter.mpr ⟨List.mem_of_getElem? (i := 49) (by decide +kernel), rfl⟩
theorem q_50 : Cond.initialized "java/lang/UnsupportedOperationException" ∈ zG := List.mem_filter.mpr ⟨List.mem_of_getElem? (i := 50) (by decide +kernel), rfl⟩
theorem q_51 : Cond.initialized "java/util/NoSuchElementException" ∈ zG := List.mem_filter.mpr ⟨List.mem_of_getElem? (i := 51) (by decide +kernel), rfl⟩
theorem q_52 : Cond.initialized "ShortBridge$Scoring" ∈ zG := List.mem_filter.mpr ⟨List.mem_of_getElem? (i := 52) (by decide +kernel), rfl⟩
theorem q_53 : Cond.initialized "ShortBridge$Solver" ∈ zG := List.mem_filter.mpr ⟨List.mem_of_getElem? (i := 53) (by decide +kernel), rfl⟩
theorem q_54 : Cond.initialized "java/lang/IndexOutOfBoundsException" ∈ zG := List.mem_filter.mpr ⟨List.mem_of_getElem? (i := 54) (by decide +kernel), rfl⟩
theorem q_55 : Cond.initialized "java/lang/Math" ∈ zG := List.mem_filter.mpr ⟨List.mem_of_getElem? (i := 55) (by decide +kernel), rfl⟩
theorem q_56 : Cond.classLink "ShortBridgeLaw" 8 "ShortBridge" ∈ zG := List.mem_filter.mpr ⟨List.mem_of_getElem? (i := 56) (by decide +kernel), rfl⟩
theorem q_57 : Cond.instantiable "ShortBridge" 6 ∈ zG := List.mem_filter.mpr ⟨List.mem_of_getElem? (i := 57) (by decide +kernel), rfl⟩
theorem q_58 : Cond.methodLink "ShortBridgeLaw" 44 ⟨"ShortBridge", "<init>", "()V"⟩ ∈ zG := List.mem_filter.mpr ⟨List.mem_of_getElem? (i := 58) (by decide +kernel), rfl⟩
theorem q_59 : Cond.instanceMethod ⟨"ShortBridge", "<init>", "()V"⟩ ∈ zG := List.mem_filter.mpr ⟨List.mem_of_getElem? (i := 59) (by decide +kernel), rfl⟩
theorem q_60 : Cond.code ⟨"ShortBridge", "<init>", "()V"⟩ prog_1_method_1_code 1 none ∈ zG := List.mem_filter.mpr ⟨List.mem_of_getElem? (i := 60) (by decide +kernel), rfl⟩
theorem q_61 : Cond.methodLink "ShortBridge" 1 ⟨"java/lang/Object", "<init>", "()V"⟩ ∈ zG := List.mem_filter.mpr ⟨List.mem_of_getElem? (i := 61) (by decide +kernel), rfl⟩
theorem q_62 : Cond.instanceMethod ⟨"java/lang/Object", "<init>", "()V"⟩ ∈ zG := List.mem_filter.mpr ⟨List.mem_of_getElem? (i := 62) (by decide +kernel), rfl⟩
theorem q_63 : Cond.code ⟨"java/lang/Object", "<init>", "()V"⟩ object_method_1_code 1 none ∈ zG := List.mem_filter.mpr ⟨List.mem_of_getElem? (i := 63) (by decide +kernel), rfl⟩
theorem q_64 : Cond.classLink "ShortBridge" 7 "ShortBridge$Deal" ∈ zG := List.mem_filter.mpr ⟨List.mem_of_getElem? (i := 64) (by decide +kernel), rfl⟩
theorem q_65 : Cond.instantiable "ShortBridge$Deal" 4 ∈ zG := List.mem_filter.mpr ⟨List.mem_of_getElem? (i := 65) (by decide +kernel), rfl⟩
theorem q_67 : Cond.instanceMethod ⟨"ShortBridge$Deal", "<init>", "()V"⟩ ∈ zG := List.mem_filter.mpr ⟨List.mem_of_getElem? (i := 67) (by decide +kernel), rfl⟩
theorem q_68 : Cond.code ⟨"ShortBridge$Deal", "<init>", "()V"⟩ prog_3_method_1_code 1 none ∈ zG := List.mem_filter.mpr ⟨List.mem_of_getElem? (i := 68) (by decide +kernel), rfl⟩
theorem q_69 : Cond.methodLink "ShortBridge$Deal" 3 ⟨"java/lang/Object", "<init>", "()V"⟩ ∈ zG := List.mem_filter.mpr ⟨List.mem_of_getElem? (i := 69) (by decide +kernel), rfl⟩
theorem q_70 : Cond.fieldLink "ShortBridge$Deal" 9 "ShortBridge$Deal" "owners" "[I" ∈ zG := List.mem_filter.mpr ⟨List.mem_of_getElem? (i := 70) (by decide +kernel), rfl⟩
theorem q_72 : Cond.fieldLink "ShortBridge$Deal" 15 "ShortBridge$Deal" "row" "[I" ∈ zG := List.mem_filter.mpr ⟨List.mem_of_getElem? (i := 72) (by decide +kernel), rfl⟩
theorem q_73 : Cond.fieldLink "ShortBridge$Deal" 18 "ShortBridge$Deal" "left" "[I" ∈ zG := List.mem_filter.mpr ⟨List.mem_of_getElem? (i := 73) (by decide +kernel), rfl⟩
theorem q_74 : Cond.fieldLink "ShortBridge$Deal" 23 "ShortBridge$Deal" "rank" "J" ∈ zG := List.mem_filter.mpr ⟨List.mem_of_getElem? (i := 74) (by decide +kernel), rfl⟩
theorem q_76 : Cond.laysFinal "ShortBridge$Deal" "ShortBridge$Deal" "owners" "[I" ∈ zG := List.mem_filter.mpr ⟨List.mem_of_getElem? (i := 76) (by decide +kernel), rfl⟩
theorem q_78 : Cond.laysFinal "ShortBridge$Deal" "ShortBridge$Deal" "row" "[I" ∈ zG := List.mem_filter.mpr ⟨List.mem_of_getElem? (i := 78) (by decide +kernel), rfl⟩
theorem q_80 : Cond.laysFinal "ShortBridge$Deal" "ShortBridge$Deal" "left" "[I" ∈ zG := List.mem_filter.mpr ⟨List.mem_of_getElem? (i := 80) (by decide +kernel), rfl⟩
theorem q_82 : Cond.lays "ShortBridge$Deal" "ShortBridge$Deal" "rank" "J" ∈ zG := List.mem_filter.mpr ⟨List.mem_of_getElem? (i := 82) (by decide +kernel), rfl⟩
theorem q_85 : Cond.arrayClass FieldType.int ∈ zG := List.mem_filter.mpr ⟨List.mem_of_getElem? (i := 85) (by decide +kernel), rfl⟩
theorem q_86 : Cond.classLink "ShortBridge" 16 "ShortBridge$Auction" ∈ zG := List.mem_filter.mpr ⟨List.mem_of_getElem? (i := 86) (by decide +kernel), rfl⟩
theorem q_87 : Cond.instantiable "ShortBridge$Auction" 3 ∈ zG := List.mem_filter.mpr ⟨List.mem_of_getElem? (i := 87) (by decide +kernel), rfl⟩
theorem q_89 : Cond.instanceMethod ⟨"ShortBridge$Auction", "<init>", "()V"⟩ ∈ zG := List.mem_filter.mpr ⟨List.mem_of_getElem? (i := 89) (by decide +kernel), rfl⟩
theorem q_90 : Cond.code ⟨"ShortBridge$Auction", "<init>", "()V"⟩ prog_2_method_1_code 1 none ∈ zG := List.mem_filter.mpr ⟨List.mem_of_getElem? (i := 90) (by decide +kernel), rfl⟩
theorem q_91 : Cond.methodLink "ShortBridge$Auction" 3 ⟨"java/lang/Object", "<init>", "()V"⟩ ∈ zG := List.mem_filter.mpr ⟨List.mem_of_getElem? (i := 91) (by decide +kernel), rfl⟩
theorem q_92 : Cond.fieldLink "ShortBridge$Auction" 11 "ShortBridge$Auction" "calls" "[I" ∈ zG := List.mem_filter.mpr ⟨List.mem_of_getElem? (i := 92) (by decide +kernel), rfl⟩
theorem q_93 : Cond.fieldLink "ShortBridge$Auction" 19 "ShortBridge$Auction" "count" "I" ∈ zG := List.mem_filter.mpr ⟨List.mem_of_getElem? (i := 93) (by decide +kernel), rfl⟩
theorem q_95 : Cond.fieldLink "ShortBridge$Auction" 15 "ShortBridge$Auction" "dealer" "I" ∈ zG := List.mem_filter.mpr ⟨List.mem_of_getElem? (i := 95) (by decide +kernel), rfl⟩
theorem q_96 : Cond.laysFinal "ShortBridge$Auction" "ShortBridge$Auction" "calls" "[I" ∈ zG := List.mem_filter.mpr ⟨List.mem_of_getElem? (i := 96) (by decide +kernel), rfl⟩
theorem q_98 : Cond.lays "ShortBridge$Auction" "ShortBridge$Auction" "count" "I" ∈ zG := List.mem_filter.mpr ⟨List.mem_of_getElem? (i := 98) (by decide +kernel), rfl⟩
theorem q_100 : Cond.lays "ShortBridge$Auction" "ShortBridge$Auction" "dealer" "I" ∈ zG := List.mem_filter.mpr ⟨List.mem_of_getElem? (i := 100) (by decide +kernel), rfl⟩
theorem q_103 : Cond.classLink "ShortBridge" 23 "ShortBridge$Hands" ∈ zG := List.mem_filter.mpr ⟨List.mem_of_getElem? (i := 103) (by decide +kernel), rfl⟩
theorem q_104 : Cond.instantiable "ShortBridge$Hands" 6 ∈ zG := List.mem_filter.mpr ⟨List.mem_of_getElem? (i := 104) (by decide +kernel), rfl⟩
theorem q_106 : Cond.instanceMethod ⟨"ShortBridge$Hands", "<init>", "()V"⟩ ∈ zG := List.mem_filter.mpr ⟨List.mem_of_getElem? (i := 106) (by decide +kernel), rfl⟩
theorem q_107 : Cond.code ⟨"ShortBridge$Hands", "<init>", "()V"⟩ prog_4_method_1_code 1 none ∈ zG := List.mem_filter.mpr ⟨List.mem_of_getElem? (i := 107) (by decide +kernel), rfl⟩
theorem q_108 : Cond.methodLink "ShortBridge$Hands" 3 ⟨"java/lang/Object", "<init>", "()V"⟩ ∈ zG := List.mem_filter.mpr ⟨List.mem_of_getElem? (i := 108) (by decide +kernel), rfl⟩
theorem q_109 : Cond.fieldLink "ShortBridge$Hands" 9 "ShortBridge$Hands" "held" "[I" ∈ zG := List.mem_filter.mpr ⟨List.mem_of_getElem? (i := 109) (by decide +kernel), rfl⟩
theorem q_110 : Cond.fieldLink "ShortBridge$Hands" 15 "ShortBridge$Hands" "cards" "[I" ∈ zG := List.mem_filter.mpr ⟨List.mem_of_getElem? (i := 110) (by decide +kernel), rfl⟩
theorem q_112 : Cond.fieldLink "ShortBridge$Hands" 18 "ShortBridge$Hands" "played" "[I" ∈ zG := List.mem_filter.mpr ⟨List.mem_of_getElem? (i := 112) (by decide +kernel), rfl⟩
theorem q_113 : Cond.fieldLink "ShortBridge$Hands" 21 "ShortBridge$Hands" "leaders" "[I" ∈ zG := List.mem_filter.mpr ⟨List.mem_of_getElem? (i := 113) (by decide +kernel), rfl⟩
theorem q_115 : Cond.fieldLink "ShortBridge$Hands" 32 "ShortBridge$Hands" "count" "I" ∈ zG := List.mem_filter.mpr ⟨List.mem_of_getElem? (i := 115) (by decide +kernel), rfl⟩
theorem q_117 : Cond.fieldLink "ShortBridge$Hands" 24 "ShortBridge$Hands" "trump" "I" ∈ zG := List.mem_filter.mpr ⟨List.mem_of_getElem? (i := 117) (by decide +kernel), rfl⟩
theorem q_118 : Cond.laysFinal "ShortBridge$Hands" "ShortBridge$Hands" "held" "[I" ∈ zG := List.mem_filter.mpr ⟨List.mem_of_getElem? (i := 118) (by decide +kernel), rfl⟩
theorem q_120 : Cond.laysFinal "ShortBridge$Hands" "ShortBridge$Hands" "cards" "[I" ∈ zG := List.mem_filter.mpr ⟨List.mem_of_getElem? (i := 120) (by decide +kernel), rfl⟩
theorem q_122 : Cond.laysFinal "ShortBridge$Hands" "ShortBridge$Hands" "played" "[I" ∈ zG := List.mem_filter.mpr ⟨List.mem_of_getElem? (i := 122) (by decide +kernel), rfl⟩
theorem q_124 : Cond.laysFinal "ShortBridge$Hands" "ShortBridge$Hands" "leaders" "[I" ∈ zG := List.mem_filter.mpr ⟨List.mem_of_getElem? (i := 124) (by decide +kernel), rfl⟩
theorem q_126 : Cond.lays "ShortBridge$Hands" "ShortBridge$Hands" "count" "I" ∈ zG := List.mem_filter.mpr ⟨List.mem_of_getElem? (i := 126) (by decide +kernel), rfl⟩
theorem q_128 : Cond.lays "ShortBridge$Hands" "ShortBridge$Hands" "trump" "I" ∈ zG := List.mem_filter.mpr ⟨List.mem_of_getElem? (i := 128) (by decide +kernel), rfl⟩
theorem q_131 : Cond.classLink "ShortBridge" 30 "ShortBridge$Results" ∈ zG := List.mem_filter.mpr ⟨List.mem_of_getElem? (i := 131) (by decide +kernel), rfl⟩
theorem q_132 : Cond.instantiable "ShortBridge$Results" 3 ∈ zG := List.mem_filter.mpr ⟨List.mem_of_getElem? (i := 132) (by decide +kernel), rfl⟩
theorem q_134 : Cond.instanceMethod ⟨"ShortBridge$Results", "<init>", "()V"⟩ ∈ zG := List.mem_filter.mpr ⟨List.mem_of_getElem? (i := 134) (by decide +kernel), rfl⟩
theorem q_135 : Cond.code ⟨"ShortBridge$Results", "<init>", "()V"⟩ prog_5_method_1_code 1 none ∈ zG := List.mem_filter.mpr ⟨List.mem_of_getElem? (i := 135) (by decide +kernel), rfl⟩
theorem q_136 : Cond.methodLink "ShortBridge$Results" 1 ⟨"java/lang/Object", "<init>", "()V"⟩ ∈ zG := List.mem_filter.mpr ⟨List.mem_of_getElem? (i := 136) (by decide +kernel), rfl⟩
theorem q_137 : Cond.fieldLink "ShortBridge$Results" 9 "ShortBridge$Results" "numbers" "[J" ∈ zG := List.mem_filter.mpr ⟨List.mem_of_getElem? (i := 137) (by decide +kernel), rfl⟩
theorem q_138 : Cond.fieldLink "ShortBridge$Results" 13 "ShortBridge$Results" "scores" "[I" ∈ zG := List.mem_filter.mpr ⟨List.mem_of_getElem? (i := 138) (by decide +kernel), rfl⟩
theorem q_140 : Cond.fieldLink "ShortBridge$Results" 17 "ShortBridge$Results" "count" "I" ∈ zG := List.mem_filter.mpr ⟨List.mem_of_getElem? (i := 140) (by decide +kernel), rfl⟩
theorem q_142 : Cond.laysFinal "ShortBridge$Results" "ShortBridge$Results" "numbers" "[J" ∈ zG := List.mem_filter.mpr ⟨List.mem_of_getElem? (i := 142) (by decide +kernel), rfl⟩
theorem q_144 : Cond.laysFinal "ShortBridge$Results" "ShortBridge$Results" "scores" "[I" ∈ zG := List.mem_filter.mpr ⟨List.mem_of_getElem? (i := 144) (by decide +kernel), rfl⟩
theorem q_146 : Cond.lays "ShortBridge$Results" "ShortBridge$Results" "count" "I" ∈ zG := List.mem_filter.mpr ⟨List.mem_of_getElem? (i := 146) (by decide +kernel), rfl⟩
theorem q_149 : Cond.arrayClass FieldType.long ∈ zG := List.mem_filter.mpr ⟨List.mem_of_getElem? (i := 149) (by decide +kernel), rfl⟩
theorem q_150 : Cond.fieldLink "ShortBridge" 10 "ShortBridge" "dealt" "LShortBridge$Deal;" ∈ zG := List.mem_filter.mpr ⟨List.mem_of_getElem? (i := 150) (by decide +kernel), rfl⟩
theorem q_151 : Cond.fieldLink "ShortBridge" 19 "ShortBridge" "auction" "LShortBridge$Auction;" ∈ zG := List.mem_filter.mpr ⟨List.mem_of_getElem? (i := 151) (by decide +kernel), rfl⟩
theorem q_152 : Cond.fieldLink "ShortBridge" 26 "ShortBridge" "hands" "LShortBridge$Hands;" ∈ zG := List.mem_filter.mpr ⟨List.mem_of_getElem? (i := 152) (by decide +kernel), rfl⟩
theorem q_153 : Cond.fieldLink "ShortBridge" 33 "ShortBridge" "results" "LShortBridge$Results;" ∈ zG := List.mem_filter.mpr ⟨List.mem_of_getElem? (i := 153) (by decide +kernel), rfl⟩
theorem q_154 : Cond.fieldLink "ShortBridge" 62 "ShortBridge" "hasBoard" "Z" ∈ zG := List.mem_filter.mpr ⟨List.mem_of_getElem? (i := 154) (by decide +kernel), rfl⟩
theorem q_155 : Cond.fieldLink "ShortBridge" 208 "ShortBridge" "vulnerability" "I" ∈ zG := List.mem_filter.mpr ⟨List.mem_of_getElem? (i := 155) (by decide +kernel), rfl⟩
theorem q_156 : Cond.laysFinal "ShortBridge" "ShortBridge" "dealt" "LShortBridge$Deal;" ∈ zG := List.mem_filter.mpr ⟨List.mem_of_getElem? (i := 156) (by decide +kernel), rfl⟩
theorem q_158 : Cond.laysFinal "ShortBridge" "ShortBridge" "auction" "LShortBridge$Auction;" ∈ zG := List.mem_filter.mpr ⟨List.mem_of_getElem? (i := 158) (by decide +kernel), rfl⟩
theorem q_160 : Cond.laysFinal "ShortBridge" "ShortBridge" "hands" "LShortBridge$Hands;" ∈ zG := List.mem_filter.mpr ⟨List.mem_of_getElem? (i := 160) (by decide +kernel), rfl⟩
theorem q_162 : Cond.laysFinal "ShortBridge" "ShortBridge" "results" "LShortBridge$Results;" ∈ zG := List.mem_filter.mpr ⟨List.mem_of_getElem? (i := 162) (by decide +kernel), rfl⟩
theorem q_164 : Cond.lays "ShortBridge" "ShortBridge" "hasBoard" "Z" ∈ zG := List.mem_filter.mpr ⟨List.mem_of_getElem? (i := 164) (by decide +kernel), rfl⟩
theorem q_166 : Cond.lays "ShortBridge" "ShortBridge" "vulnerability" "I" ∈ zG := List.mem_filter.mpr ⟨List.mem_of_getElem? (i := 166) (by decide +kernel), rfl⟩
theorem q_169 : Cond.methodLink "ShortBridgeLaw" 50 ⟨"ShortBridge", "deal", "(JII)Z"⟩ ∈ zG := List.mem_filter.mpr ⟨List.mem_of_getElem? (i := 169) (by decide +kernel), rfl⟩
theorem q_170 : Cond.instanceMethod ⟨"ShortBridge", "deal", "(JII)Z"⟩ ∈ zG := List.mem_filter.mpr ⟨List.mem_of_getElem? (i := 170) (by decide +kernel), rfl⟩
theorem q_171 : Cond.selects "ShortBridge" ⟨"ShortBridge", "deal", "(JII)Z"⟩ ⟨"ShortBridge", "deal", "(JII)Z"⟩ ∈ zG := List.mem_filter.mpr ⟨List.mem_of_getElem? (i := 171) (by decide +kernel), rfl⟩
theorem q_172 : Cond.code ⟨"ShortBridge", "deal", "(JII)Z"⟩ prog_1_method_2_code 5 (some FieldType.boolean) ∈ zG := List.mem_filter.mpr ⟨List.mem_of_getElem? (i := 172) (by decide +kernel), rfl⟩
theorem q_173 : Cond.methodLink "ShortBridge" 37 ⟨"ShortBridge$Deal", "isNumber", "(J)Z"⟩ ∈ zG := List.mem_filter.mpr ⟨List.mem_of_getElem? (i := 173) (by decide +kernel), rfl⟩
theorem q_174 : Cond.static ⟨"ShortBridge$Deal", "isNumber", "(J)Z"⟩ ∈ zG := List.mem_filter.mpr ⟨List.mem_of_getElem? (i := 174) (by decide +kernel), rfl⟩
theorem q_175 : Cond.code ⟨"ShortBridge$Deal", "isNumber", "(J)Z"⟩ prog_3_method_2_code 2 (some FieldType.boolean) ∈ zG := List.mem_filter.mpr ⟨List.mem_of_getElem? (i := 175) (by decide +kernel), rfl⟩
theorem q_176 : Cond.constantLong "ShortBridge$Deal" 21 11732745024 ∈ zG := List.mem_filter.mpr ⟨List.mem_of_getElem? (i := 176) (by decide +kernel), rfl⟩
theorem q_177 : Cond.methodLink "ShortBridge" 41 ⟨"ShortBridge", "canBegin", "(II)Z"⟩ ∈ zG := List.mem_filter.mpr ⟨List.mem_of_getElem? (i := 177) (by decide +kernel), rfl⟩
theorem q_178 : Cond.static ⟨"ShortBridge", "canBegin", "(II)Z"⟩ ∈ zG := List.mem_filter.mpr ⟨List.mem_of_getElem? (i := 178) (by decide +kernel), rfl⟩
theorem q_179 : Cond.code ⟨"ShortBridge", "canBegin", "(II)Z"⟩ prog_1_method_22_code 2 (some FieldType.boolean) ∈ zG := List.mem_filter.mpr ⟨List.mem_of_getElem? (i := 179) (by decide +kernel), rfl⟩
theorem q_180 : Cond.methodLink "ShortBridge" 86 ⟨"ShortBridge", "isPlayer", "(I)Z"⟩ ∈ zG := List.mem_filter.mpr ⟨List.mem_of_getElem? (i := 180) (by decide +kernel), rfl⟩
theorem q_181 : Cond.static ⟨"ShortBridge", "isPlayer", "(I)Z"⟩ ∈ zG := List.mem_filter.mpr ⟨List.mem_of_getElem? (i := 181) (by decide +kernel), rfl⟩
theorem q_182 : Cond.code ⟨"ShortBridge", "isPlayer", "(I)Z"⟩ prog_1_method_19_code 1 (some FieldType.boolean) ∈ zG := List.mem_filter.mpr ⟨List.mem_of_getElem? (i := 182) (by decide +kernel), rfl⟩
theorem q_183 : Cond.methodLink "ShortBridge" 45 ⟨"ShortBridge$Deal", "takeNumber", "(J)V"⟩ ∈ zG := List.mem_filter.mpr ⟨List.mem_of_getElem? (i := 183) (by decide +kernel), rfl⟩
theorem q_184 : Cond.instanceMethod ⟨"ShortBridge$Deal", "takeNumber", "(J)V"⟩ ∈ zG := List.mem_filter.mpr ⟨List.mem_of_getElem? (i := 184) (by decide +kernel), rfl⟩
theorem q_185 : Cond.selects "ShortBridge$Deal" ⟨"ShortBridge$Deal", "takeNumber", "(J)V"⟩ ⟨"ShortBridge$Deal", "takeNumber", "(J)V"⟩ ∈ zG := List.mem_filter.mpr ⟨List.mem_of_getElem? (i := 185) (by decide +kernel), rfl⟩
theorem q_186 : Cond.code ⟨"ShortBridge$Deal", "takeNumber", "(J)V"⟩ prog_3_method_3_code 11 none ∈ zG := List.mem_filter.mpr ⟨List.mem_of_getElem? (i := 186) (by decide +kernel), rfl⟩
theorem q_187 : Cond.methodLink "ShortBridge$Deal" 27 ⟨"ShortBridge$Deal", "fillLeft", "()V"⟩ ∈ zG := List.mem_filter.mpr ⟨List.mem_of_getElem? (i := 187) (by decide +kernel), rfl⟩
theorem q_189 : Cond.instanceMethod ⟨"ShortBridge$Deal", "fillLeft", "()V"⟩ ∈ zG := List.mem_filter.mpr ⟨List.mem_of_getElem? (i := 189) (by decide +kernel), rfl⟩
theorem q_190 : Cond.code ⟨"ShortBridge$Deal", "fillLeft", "()V"⟩ prog_3_method_7_code 2 none ∈ zG := List.mem_filter.mpr ⟨List.mem_of_getElem? (i := 190) (by decide +kernel), rfl⟩
theorem q_191 : Cond.methodLink "ShortBridge$Deal" 30 ⟨"ShortBridge$Deal", "share", "(JII)J"⟩ ∈ zG := List.mem_filter.mpr ⟨List.mem_of_getElem? (i := 191) (by decide +kernel), rfl⟩
theorem q_193 : Cond.instanceMethod ⟨"ShortBridge$Deal", "share", "(JII)J"⟩ ∈ zG := List.mem_filter.mpr ⟨List.mem_of_getElem? (i := 193) (by decide +kernel), rfl⟩
theorem q_194 : Cond.code ⟨"ShortBridge$Deal", "share", "(JII)J"⟩ prog_3_method_8_code 5 (some FieldType.long) ∈ zG := List.mem_filter.mpr ⟨List.mem_of_getElem? (i := 194) (by decide +kernel), rfl⟩
theorem q_195 : Cond.methodLink "ShortBridge" 49 ⟨"ShortBridge", "begin", "(II)V"⟩ ∈ zG := List.mem_filter.mpr ⟨List.mem_of_getElem? (i := 195) (by decide +kernel), rfl⟩
theorem q_197 : Cond.instanceMethod ⟨"ShortBridge", "begin", "(II)V"⟩ ∈ zG := List.mem_filter.mpr ⟨List.mem_of_getElem? (i := 197) (by decide +kernel), rfl⟩
theorem q_198 : Cond.code ⟨"ShortBridge", "begin", "(II)V"⟩ prog_1_method_23_code 3 none ∈ zG := List.mem_filter.mpr ⟨List.mem_of_getElem? (i := 198) (by decide +kernel), rfl⟩
theorem q_199 : Cond.methodLink "ShortBridge" 211 ⟨"ShortBridge$Auction", "begin", "(I)V"⟩ ∈ zG := List.mem_filter.mpr ⟨List.mem_of_getElem? (i := 199) (by decide +kernel), rfl⟩
theorem q_200 : Cond.instanceMethod ⟨"ShortBridge$Auction", "begin", "(I)V"⟩ ∈ zG := List.mem_filter.mpr ⟨List.mem_of_getElem? (i := 200) (by decide +kernel), rfl⟩
theorem q_201 : Cond.selects "ShortBridge$Auction" ⟨"ShortBridge$Auction", "begin", "(I)V"⟩ ⟨"ShortBridge$Auction", "begin", "(I)V"⟩ ∈ zG := List.mem_filter.mpr ⟨List.mem_of_getElem? (i := 201) (by decide +kernel), rfl⟩
theorem q_202 : Cond.code ⟨"ShortBridge$Auction", "begin", "(I)V"⟩ prog_2_method_5_code 2 none ∈ zG := List.mem_filter.mpr ⟨List.mem_of_getElem? (i := 202) (by decide +kernel), rfl⟩
theorem q_203 : Cond.methodLink "ShortBridge" 213 ⟨"ShortBridge$Hands", "take", "(LShortBridge$Deal;)V"⟩ ∈ zG := List.mem_filter.mpr ⟨List.mem_of_getElem? (i := 203) (by decide +kernel), rfl⟩
theorem q_204 : Cond.instanceMethod ⟨"ShortBridge$Hands", "take", "(LShortBridge$Deal;)V"⟩ ∈ zG := List.mem_filter.mpr ⟨List.mem_of_getElem? (i := 204) (by decide +kernel), rfl⟩
theorem q_205 : Cond.selects "ShortBridge$Hands" ⟨"ShortBridge$Hands", "take", "(LShortBridge$Deal;)V"⟩ ⟨"ShortBridge$Hands", "take", "(LShortBridge$Deal;)V"⟩ ∈ zG := List.mem_filter.mpr ⟨List.mem_of_getElem? (i := 205) (by decide +kernel), rfl⟩
theorem q_206 : Cond.code ⟨"ShortBridge$Hands", "take", "(LShortBridge$Deal;)V"⟩ prog_4_method_2_code 3 none ∈ zG := List.mem_filter.mpr ⟨List.mem_of_getElem? (i := 206) (by decide +kernel), rfl⟩
theorem q_207 : Cond.methodLink "ShortBridge$Hands" 28 ⟨"ShortBridge$Hands", "takeHand", "(LShortBridge$Deal;I)V"⟩ ∈ zG := List.mem_filter.mpr ⟨List.mem_of_getElem? (i := 207) (by decide +kernel), rfl⟩
theorem q_209 : Cond.instanceMethod ⟨"ShortBridge$Hands", "takeHand", "(LShortBridge$Deal;I)V"⟩ ∈ zG := List.mem_filter.mpr ⟨List.mem_of_getElem? (i := 209) (by decide +kernel), rfl⟩
theorem q_210 : Cond.code ⟨"ShortBridge$Hands", "takeHand", "(LShortBridge$Deal;I)V"⟩ prog_4_method_14_code 5 none ∈ zG := List.mem_filter.mpr ⟨List.mem_of_getElem? (i := 210) (by decide +kernel), rfl⟩
theorem q_211 : Cond.methodLink "ShortBridgeLaw" 55 ⟨"ShortBridge", "shuffle", "(JII)J"⟩ ∈ zG := List.mem_filter.mpr ⟨List.mem_of_getElem? (i := 211) (by decide +kernel), rfl⟩
theorem q_212 : Cond.instanceMethod ⟨"ShortBridge", "shuffle", "(JII)J"⟩ ∈ zG := List.mem_filter.mpr ⟨List.mem_of_getElem? (i := 212) (by decide +kernel), rfl⟩
theorem q_213 : Cond.selects "ShortBridge" ⟨"ShortBridge", "shuffle", "(JII)J"⟩ ⟨"ShortBridge", "shuffle", "(JII)J"⟩ ∈ zG := List.mem_filter.mpr ⟨List.mem_of_getElem? (i := 213) (by decide +kernel), rfl⟩
theorem q_214 : Cond.code ⟨"ShortBridge", "shuffle", "(JII)J"⟩ prog_1_method_3_code 5 (some FieldType.long) ∈ zG := List.mem_filter.mpr ⟨List.mem_of_getElem? (i := 214) (by decide +kernel), rfl⟩
theorem q_215 : Cond.constantLong "ShortBridge" 53 (-1) ∈ zG := List.mem_filter.mpr ⟨List.mem_of_getElem? (i := 215) (by decide +kernel), rfl⟩
theorem q_216 : Cond.methodLink "ShortBridge" 55 ⟨"ShortBridge$Deal", "takeSeed", "(J)V"⟩ ∈ zG := List.mem_filter.mpr ⟨List.mem_of_getElem? (i := 216) (by decide +kernel), rfl⟩
theorem q_217 : Cond.instanceMethod ⟨"ShortBridge$Deal", "takeSeed", "(J)V"⟩ ∈ zG := List.mem_filter.mpr ⟨List.mem_of_getElem? (i := 217) (by decide +kernel), rfl⟩
theorem q_218 : Cond.selects "ShortBridge$Deal" ⟨"ShortBridge$Deal", "takeSeed", "(J)V"⟩ ⟨"ShortBridge$Deal", "takeSeed", "(J)V"⟩ ∈ zG := List.mem_filter.mpr ⟨List.mem_of_getElem? (i := 218) (by decide +kernel), rfl⟩
theorem q_219 : Cond.code ⟨"ShortBridge$Deal", "takeSeed", "(J)V"⟩ prog_3_method_4_code 4 none ∈ zG := List.mem_filter.mpr ⟨List.mem_of_getElem? (i := 219) (by decide +kernel), rfl⟩
theorem q_220 : Cond.methodLink "ShortBridge$Deal" 34 ⟨"ShortBridge$Deal", "shuffleRow", "(J)V"⟩ ∈ zG := List.mem_filter.mpr ⟨List.mem_of_getElem? (i := 220) (by decide +kernel), rfl⟩
theorem q_222 : Cond.instanceMethod ⟨"ShortBridge$Deal", "shuffleRow", "(J)V"⟩ ∈ zG := List.mem_filter.mpr ⟨List.mem_of_getElem? (i := 222) (by decide +kernel), rfl⟩
theorem q_223 : Cond.code ⟨"ShortBridge$Deal", "shuffleRow", "(J)V"⟩ prog_3_method_5_code 8 none ∈ zG := List.mem_filter.mpr ⟨List.mem_of_getElem? (i := 223) (by decide +kernel), rfl⟩
theorem q_224 : Cond.constantLong "ShortBridge$Deal" 42 6364136223846793005 ∈ zG := List.mem_filter.mpr ⟨List.mem_of_getElem? (i := 224) (by decide +kernel), rfl⟩
theorem q_225 : Cond.constantLong "ShortBridge$Deal" 44 1442695040888963407 ∈ zG := List.mem_filter.mpr ⟨List.mem_of_getElem? (i := 225) (by decide +kernel), rfl⟩
theorem q_226 : Cond.methodLink "ShortBridge$Deal" 38 ⟨"ShortBridge$Deal", "rankOfOwners", "()J"⟩ ∈ zG := List.mem_filter.mpr ⟨List.mem_of_getElem? (i := 226) (by decide +kernel), rfl⟩
theorem q_228 : Cond.instanceMethod ⟨"ShortBridge$Deal", "rankOfOwners", "()J"⟩ ∈ zG := List.mem_filter.mpr ⟨List.mem_of_getElem? (i := 228) (by decide +kernel), rfl⟩
theorem q_229 : Cond.code ⟨"ShortBridge$Deal", "rankOfOwners", "()J"⟩ prog_3_method_6_code 8 (some FieldType.long) ∈ zG := List.mem_filter.mpr ⟨List.mem_of_getElem? (i := 229) (by decide +kernel), rfl⟩
theorem q_230 : Cond.methodLink "ShortBridgeLaw" 60 ⟨"ShortBridge", "number", "()J"⟩ ∈ zG := List.mem_filter.mpr ⟨List.mem_of_getElem? (i := 230) (by decide +kernel), rfl⟩
theorem q_231 : Cond.instanceMethod ⟨"ShortBridge", "number", "()J"⟩ ∈ zG := List.mem_filter.mpr ⟨List.mem_of_getElem? (i := 231) (by decide +kernel), rfl⟩
theorem q_232 : Cond.selects "ShortBridge" ⟨"ShortBridge", "number", "()J"⟩ ⟨"ShortBridge", "number", "()J"⟩ ∈ zG := List.mem_filter.mpr ⟨List.mem_of_getElem? (i := 232) (by decide +kernel), rfl⟩
theorem q_233 : Cond.code ⟨"ShortBridge", "number", "()J"⟩ prog_1_method_4_code 1 (some FieldType.long) ∈ zG := List.mem_filter.mpr ⟨List.mem_of_getElem? (i := 233) (by decide +kernel), rfl⟩
theorem q_234 : Cond.methodLink "ShortBridgeLaw" 65 ⟨"ShortBridge", "phase", "()I"⟩ ∈ zG := List.mem_filter.mpr ⟨List.mem_of_getElem? (i := 234) (by decide +kernel), rfl⟩
theorem q_235 : Cond.instanceMethod ⟨"ShortBridge", "phase", "()I"⟩ ∈ zG := List.mem_filter.mpr ⟨List.mem_of_getElem? (i := 235) (by decide +kernel), rfl⟩
theorem q_236 : Cond.selects "ShortBridge" ⟨"ShortBridge", "phase", "()I"⟩ ⟨"ShortBridge", "phase", "()I"⟩ ∈ zG := List.mem_filter.mpr ⟨List.mem_of_getElem? (i := 236) (by decide +kernel), rfl⟩
theorem q_237 : Cond.code ⟨"ShortBridge", "phase", "()I"⟩ prog_1_method_5_code 1 (some FieldType.int) ∈ zG := List.mem_filter.mpr ⟨List.mem_of_getElem? (i := 237) (by decide +kernel), rfl⟩
theorem q_238 : Cond.methodLink "ShortBridge" 66 ⟨"ShortBridge$Auction", "hasEnded", "()Z"⟩ ∈ zG := List.mem_filter.mpr ⟨List.mem_of_getElem? (i := 238) (by decide +kernel), rfl⟩
theorem q_239 : Cond.instanceMethod ⟨"ShortBridge$Auction", "hasEnded", "()Z"⟩ ∈ zG := List.mem_filter.mpr ⟨List.mem_of_getElem? (i := 239) (by decide +kernel), rfl⟩
theorem q_240 : Cond.selects "ShortBridge$Auction" ⟨"ShortBridge$Auction", "hasEnded", "()Z"⟩ ⟨"ShortBridge$Auction", "hasEnded", "()Z"⟩ ∈ zG := List.mem_filter.mpr ⟨List.mem_of_getElem? (i := 240) (by decide +kernel), rfl⟩
theorem q_241 : Cond.code ⟨"ShortBridge$Auction", "hasEnded", "()Z"⟩ prog_2_method_10_code 3 (some FieldType.boolean) ∈ zG := List.mem_filter.mpr ⟨List.mem_of_getElem? (i := 241) (by decide +kernel), rfl⟩
theorem q_242 : Cond.methodLink "ShortBridge$Auction" 33 ⟨"ShortBridge$Auction", "placeOfLatest", "(I)I"⟩ ∈ zG := List.mem_filter.mpr ⟨List.mem_of_getElem? (i := 242) (by decide +kernel), rfl⟩
theorem q_244 : Cond.instanceMethod ⟨"ShortBridge$Auction", "placeOfLatest", "(I)I"⟩ ∈ zG := List.mem_filter.mpr ⟨List.mem_of_getElem? (i := 244) (by decide +kernel), rfl⟩
theorem q_245 : Cond.code ⟨"ShortBridge$Auction", "placeOfLatest", "(I)I"⟩ prog_2_method_15_code 3 (some FieldType.int) ∈ zG := List.mem_filter.mpr ⟨List.mem_of_getElem? (i := 245) (by decide +kernel), rfl⟩
theorem q_246 : Cond.methodLink "ShortBridge" 70 ⟨"ShortBridge$Auction", "bid", "()I"⟩ ∈ zG := List.mem_filter.mpr ⟨List.mem_of_getElem? (i := 246) (by decide +kernel), rfl⟩
theorem q_247 : Cond.instanceMethod ⟨"ShortBridge$Auction", "bid", "()I"⟩ ∈ zG := List.mem_filter.mpr ⟨List.mem_of_getElem? (i := 247) (by decide +kernel), rfl⟩
theorem q_248 : Cond.selects "ShortBridge$Auction" ⟨"ShortBridge$Auction", "bid", "()I"⟩ ⟨"ShortBridge$Auction", "bid", "()I"⟩ ∈ zG := List.mem_filter.mpr ⟨List.mem_of_getElem? (i := 248) (by decide +kernel), rfl⟩
theorem q_249 : Cond.code ⟨"ShortBridge$Auction", "bid", "()I"⟩ prog_2_method_11_code 2 (some FieldType.int) ∈ zG := List.mem_filter.mpr ⟨List.mem_of_getElem? (i := 249) (by decide +kernel), rfl⟩
theorem q_250 : Cond.methodLink "ShortBridge" 74 ⟨"ShortBridge$Hands", "areEmpty", "()Z"⟩ ∈ zG := List.mem_filter.mpr ⟨List.mem_of_getElem? (i := 250) (by decide +kernel), rfl⟩
theorem q_251 : Cond.instanceMethod ⟨"ShortBridge$Hands", "areEmpty", "()Z"⟩ ∈ zG := List.mem_filter.mpr ⟨List.mem_of_getElem? (i := 251) (by decide +kernel), rfl⟩
theorem q_252 : Cond.selects "ShortBridge$Hands" ⟨"ShortBridge$Hands", "areEmpty", "()Z"⟩ ⟨"ShortBridge$Hands", "areEmpty", "()Z"⟩ ∈ zG := List.mem_filter.mpr ⟨List.mem_of_getElem? (i := 252) (by decide +kernel), rfl⟩
theorem q_253 : Cond.code ⟨"ShortBridge$Hands", "areEmpty", "()Z"⟩ prog_4_method_4_code 1 (some FieldType.boolean) ∈ zG := List.mem_filter.mpr ⟨List.mem_of_getElem? (i := 253) (by decide +kernel), rfl⟩
theorem q_254 : Cond.methodLink "ShortBridgeLaw" 69 ⟨"ShortBridge", "turn", "()I"⟩ ∈ zG := List.mem_filter.mpr ⟨List.mem_of_getElem? (i := 254) (by decide +kernel), rfl⟩
theorem q_255 : Cond.instanceMethod ⟨"ShortBridge", "turn", "()I"⟩ ∈ zG := List.mem_filter.mpr ⟨List.mem_of_getElem? (i := 255) (by decide +kernel), rfl⟩
theorem q_256 : Cond.selects "ShortBridge" ⟨"ShortBridge", "turn", "()I"⟩ ⟨"ShortBridge", "turn", "()I"⟩ ∈ zG := List.mem_filter.mpr ⟨List.mem_of_getElem? (i := 256) (by decide +kernel), rfl⟩
theorem q_257 : Cond.code ⟨"ShortBridge", "turn", "()I"⟩ prog_1_method_6_code 1 (some FieldType.int) ∈ zG := List.mem_filter.mpr ⟨List.mem_of_getElem? (i := 257) (by decide +kernel), rfl⟩
theorem q_258 : Cond.methodLink "ShortBridge" 77 ⟨"ShortBridge", "phase", "()I"⟩ ∈ zG := List.mem_filter.mpr ⟨List.mem_of_getElem? (i := 258) (by decide +kernel), rfl⟩
theorem q_259 : Cond.methodLink "ShortBridge" 80 ⟨"ShortBridge$Auction", "caller", "()I"⟩ ∈ zG := List.mem_filter.mpr ⟨List.mem_of_getElem? (i := 259) (by decide +kernel), rfl⟩
theorem q_260 : Cond.instanceMethod ⟨"ShortBridge$Auction", "caller", "()I"⟩ ∈ zG := List.mem_filter.mpr ⟨List.mem_of_getElem? (i := 260) (by decide +kernel), rfl⟩
theorem q_261 : Cond.selects "ShortBridge$Auction" ⟨"ShortBridge$Auction", "caller", "()I"⟩ ⟨"ShortBridge$Auction", "caller", "()I"⟩ ∈ zG := List.mem_filter.mpr ⟨List.mem_of_getElem? (i := 261) (by decide +kernel), rfl⟩
theorem q_262 : Cond.code ⟨"ShortBridge$Auction", "caller", "()I"⟩ prog_2_method_6_code 1 (some FieldType.int) ∈ zG := List.mem_filter.mpr ⟨List.mem_of_getElem? (i := 262) (by decide +kernel), rfl⟩
theorem q_263 : Cond.methodLink "ShortBridge$Auction" 22 ⟨"ShortBridge$Auction", "callerOf", "(I)I"⟩ ∈ zG := List.mem_filter.mpr ⟨List.mem_of_getElem? (i := 263) (by decide +kernel), rfl⟩
theorem q_265 : Cond.instanceMethod ⟨"ShortBridge$Auction", "callerOf", "(I)I"⟩ ∈ zG := List.mem_filter.mpr ⟨List.mem_of_getElem? (i := 265) (by decide +kernel), rfl⟩
theorem q_266 : Cond.code ⟨"ShortBridge$Auction", "callerOf", "(I)I"⟩ prog_2_method_16_code 2 (some FieldType.int) ∈ zG := List.mem_filter.mpr ⟨List.mem_of_getElem? (i := 266) (by decide +kernel), rfl⟩
theorem q_268 : Cond.static ⟨"ShortBridge", "playerBehind", "(II)I"⟩ ∈ zG := List.mem_filter.mpr ⟨List.mem_of_getElem? (i := 268) (by decide +kernel), rfl⟩
theorem q_269 : Cond.code ⟨"ShortBridge", "playerBehind", "(II)I"⟩ prog_1_method_21_code 2 (some FieldType.int) ∈ zG := List.mem_filter.mpr ⟨List.mem_of_getElem? (i := 269) (by decide +kernel), rfl⟩
theorem q_270 : Cond.methodLink "ShortBridge" 83 ⟨"ShortBridge$Hands", "player", "()I"⟩ ∈ zG := List.mem_filter.mpr ⟨List.mem_of_getElem? (i := 270) (by decide +kernel), rfl⟩
theorem q_271 : Cond.instanceMethod ⟨"ShortBridge$Hands", "player", "()I"⟩ ∈ zG := List.mem_filter.mpr ⟨List.mem_of_getElem? (i := 271) (by decide +kernel), rfl⟩
theorem q_272 : Cond.selects "ShortBridge$Hands" ⟨"ShortBridge$Hands", "player", "()I"⟩ ⟨"ShortBridge$Hands", "player", "()I"⟩ ∈ zG := List.mem_filter.mpr ⟨List.mem_of_getElem? (i := 272) (by decide +kernel), rfl⟩
theorem q_273 : Cond.code ⟨"ShortBridge$Hands", "player", "()I"⟩ prog_4_method_5_code 1 (some FieldType.int) ∈ zG := List.mem_filter.mpr ⟨List.mem_of_getElem? (i := 273) (by decide +kernel), rfl⟩
theorem q_275 : Cond.methodLink "ShortBridgeLaw" 73 ⟨"ShortBridge", "has", "(II)Z"⟩ ∈ zG := List.mem_filter.mpr ⟨List.mem_of_getElem? (i := 275) (by decide +kernel), rfl⟩
theorem q_276 : Cond.instanceMethod ⟨"ShortBridge", "has", "(II)Z"⟩ ∈ zG := List.mem_filter.mpr ⟨List.mem_of_getElem? (i := 276) (by decide +kernel), rfl⟩
theorem q_277 : Cond.selects "ShortBridge" ⟨"ShortBridge", "has", "(II)Z"⟩ ⟨"ShortBridge", "has", "(II)Z"⟩ ∈ zG := List.mem_filter.mpr ⟨List.mem_of_getElem? (i := 277) (by decide +kernel), rfl⟩
theorem q_278 : Cond.code ⟨"ShortBridge", "has", "(II)Z"⟩ prog_1_method_7_code 3 (some FieldType.boolean) ∈ zG := List.mem_filter.mpr ⟨List.mem_of_getElem? (i := 278) (by decide +kernel), rfl⟩
theorem q_279 : Cond.methodLink "ShortBridge" 90 ⟨"ShortBridge$Hands", "holds", "(II)Z"⟩ ∈ zG := List.mem_filter.mpr ⟨List.mem_of_getElem? (i := 279) (by decide +kernel), rfl⟩
theorem q_280 : Cond.instanceMethod ⟨"ShortBridge$Hands", "holds", "(II)Z"⟩ ∈ zG := List.mem_filter.mpr ⟨List.mem_of_getElem? (i := 280) (by decide +kernel), rfl⟩
theorem q_281 : Cond.selects "ShortBridge$Hands" ⟨"ShortBridge$Hands", "holds", "(II)Z"⟩ ⟨"ShortBridge$Hands", "holds", "(II)Z"⟩ ∈ zG := List.mem_filter.mpr ⟨List.mem_of_getElem? (i := 281) (by decide +kernel), rfl⟩
theorem q_282 : Cond.code ⟨"ShortBridge$Hands", "holds", "(II)Z"⟩ prog_4_method_6_code 3 (some FieldType.boolean) ∈ zG := List.mem_filter.mpr ⟨List.mem_of_getElem? (i := 282) (by decide +kernel), rfl⟩
theorem q_283 : Cond.methodLink "ShortBridgeLaw" 90 ⟨"ShortBridge", "back", "()Z"⟩ ∈ zG := List.mem_filter.mpr ⟨List.mem_of_getElem? (i := 283) (by decide +kernel), rfl⟩
theorem q_284 : Cond.instanceMethod ⟨"ShortBridge", "back", "()Z"⟩ ∈ zG := List.mem_filter.mpr ⟨List.mem_of_getElem? (i := 284) (by decide +kernel), rfl⟩
theorem q_285 : Cond.selects "ShortBridge" ⟨"ShortBridge", "back", "()Z"⟩ ⟨"ShortBridge", "back", "()Z"⟩ ∈ zG := List.mem_filter.mpr ⟨List.mem_of_getElem? (i := 285) (by decide +kernel), rfl⟩
theorem q_286 : Cond.code ⟨"ShortBridge", "back", "()Z"⟩ prog_1_method_10_code 1 (some FieldType.boolean) ∈ zG := List.mem_filter.mpr ⟨List.mem_of_getElem? (i := 286) (by decide +kernel), rfl⟩
theorem q_287 : Cond.methodLink "ShortBridge" 149 ⟨"ShortBridge$Hands", "takeBack", "()V"⟩ ∈ zG := List.mem_filter.mpr ⟨List.mem_of_getElem? (i := 287) (by decide +kernel), rfl⟩
theorem q_288 : Cond.instanceMethod ⟨"ShortBridge$Hands", "takeBack", "()V"⟩ ∈ zG := List.mem_filter.mpr ⟨List.mem_of_getElem? (i := 288) (by decide +kernel), rfl⟩
theorem q_289 : Cond.selects "ShortBridge$Hands" ⟨"ShortBridge$Hands", "takeBack", "()V"⟩ ⟨"ShortBridge$Hands", "takeBack", "()V"⟩ ∈ zG := List.mem_filter.mpr ⟨List.mem_of_getElem? (i := 289) (by decide +kernel), rfl⟩
theorem q_290 : Cond.code ⟨"ShortBridge$Hands", "takeBack", "()V"⟩ prog_4_method_10_code 1 none ∈ zG := List.mem_filter.mpr ⟨List.mem_of_getElem? (i := 290) (by decide +kernel), rfl⟩
theorem q_291 : Cond.methodLink "ShortBridge$Hands" 39 ⟨"ShortBridge$Hands", "player", "()I"⟩ ∈ zG := List.mem_filter.mpr ⟨List.mem_of_getElem? (i := 291) (by decide +kernel), rfl⟩
theorem q_292 : Cond.methodLink "ShortBridge" 153 ⟨"ShortBridge$Auction", "takeBack", "()V"⟩ ∈ zG := List.mem_filter.mpr ⟨List.mem_of_getElem? (i := 292) (by decide +kernel), rfl⟩
theorem q_293 : Cond.instanceMethod ⟨"ShortBridge$Auction", "takeBack", "()V"⟩ ∈ zG := List.mem_filter.mpr ⟨List.mem_of_getElem? (i := 293) (by decide +kernel), rfl⟩
theorem q_294 : Cond.selects "ShortBridge$Auction" ⟨"ShortBridge$Auction", "takeBack", "()V"⟩ ⟨"ShortBridge$Auction", "takeBack", "()V"⟩ ∈ zG := List.mem_filter.mpr ⟨List.mem_of_getElem? (i := 294) (by decide +kernel), rfl⟩
theorem q_295 : Cond.code ⟨"ShortBridge$Auction", "takeBack", "()V"⟩ prog_2_method_9_code 1 none ∈ zG := List.mem_filter.mpr ⟨List.mem_of_getElem? (i := 295) (by decide +kernel), rfl⟩
theorem q_296 : Cond.methodLink "ShortBridgeLaw" 95 ⟨"ShortBridge", "contract", "(I)I"⟩ ∈ zG := List.mem_filter.mpr ⟨List.mem_of_getElem? (i := 296) (by decide +kernel), rfl⟩
theorem q_297 : Cond.instanceMethod ⟨"ShortBridge", "contract", "(I)I"⟩ ∈ zG := List.mem_filter.mpr ⟨List.mem_of_getElem? (i := 297) (by decide +kernel), rfl⟩
theorem q_298 : Cond.selects "ShortBridge" ⟨"ShortBridge", "contract", "(I)I"⟩ ⟨"ShortBridge", "contract", "(I)I"⟩ ∈ zG := List.mem_filter.mpr ⟨List.mem_of_getElem? (i := 298) (by decide +kernel), rfl⟩
theorem q_299 : Cond.code ⟨"ShortBridge", "contract", "(I)I"⟩ prog_1_method_11_code 2 (some FieldType.int) ∈ zG := List.mem_filter.mpr ⟨List.mem_of_getElem? (i := 299) (by decide +kernel), rfl⟩
theorem q_300 : Cond.methodLink "ShortBridge" 154 ⟨"ShortBridge$Auction", "doubled", "()I"⟩ ∈ zG := List.mem_filter.mpr ⟨List.mem_of_getElem? (i := 300) (by decide +kernel), rfl⟩
theorem q_301 : Cond.instanceMethod ⟨"ShortBridge$Auction", "doubled", "()I"⟩ ∈ zG := List.mem_filter.mpr ⟨List.mem_of_getElem? (i := 301) (by decide +kernel), rfl⟩
theorem q_302 : Cond.selects "ShortBridge$Auction" ⟨"ShortBridge$Auction", "doubled", "()I"⟩ ⟨"ShortBridge$Auction", "doubled", "()I"⟩ ∈ zG := List.mem_filter.mpr ⟨List.mem_of_getElem? (i := 302) (by decide +kernel), rfl⟩
theorem q_303 : Cond.code ⟨"ShortBridge$Auction", "doubled", "()I"⟩ prog_2_method_12_code 2 (some FieldType.int) ∈ zG := List.mem_filter.mpr ⟨List.mem_of_getElem? (i := 303) (by decide +kernel), rfl⟩
theorem q_304 : Cond.methodLink "ShortBridge" 120 ⟨"ShortBridge$Auction", "declarer", "()I"⟩ ∈ zG := List.mem_filter.mpr ⟨List.mem_of_getElem? (i := 304) (by decide +kernel), rfl⟩
theorem q_305 : Cond.instanceMethod ⟨"ShortBridge$Auction", "declarer", "()I"⟩ ∈ zG := List.mem_filter.mpr ⟨List.mem_of_getElem? (i := 305) (by decide +kernel), rfl⟩
theorem q_306 : Cond.selects "ShortBridge$Auction" ⟨"ShortBridge$Auction", "declarer", "()I"⟩ ⟨"ShortBridge$Auction", "declarer", "()I"⟩ ∈ zG := List.mem_filter.mpr ⟨List.mem_of_getElem? (i := 306) (by decide +kernel), rfl⟩
theorem q_307 : Cond.code ⟨"ShortBridge$Auction", "declarer", "()I"⟩ prog_2_method_13_code 3 (some FieldType.int) ∈ zG := List.mem_filter.mpr ⟨List.mem_of_getElem? (i := 307) (by decide +kernel), rfl⟩
theorem q_308 : Cond.methodLink "ShortBridge$Auction" 36 ⟨"ShortBridge$Auction", "isSameSide", "(II)Z"⟩ ∈ zG := List.mem_filter.mpr ⟨List.mem_of_getElem? (i := 308) (by decide +kernel), rfl⟩
theorem q_310 : Cond.instanceMethod ⟨"ShortBridge$Auction", "isSameSide", "(II)Z"⟩ ∈ zG := List.mem_filter.mpr ⟨List.mem_of_getElem? (i := 310) (by decide +kernel), rfl⟩
theorem q_311 : Cond.code ⟨"ShortBridge$Auction", "isSameSide", "(II)Z"⟩ prog_2_method_17_code 3 (some FieldType.boolean) ∈ zG := List.mem_filter.mpr ⟨List.mem_of_getElem? (i := 311) (by decide +kernel), rfl⟩
theorem q_313 : Cond.static ⟨"ShortBridge", "sideOf", "(I)I"⟩ ∈ zG := List.mem_filter.mpr ⟨List.mem_of_getElem? (i := 313) (by decide +kernel), rfl⟩
theorem q_314 : Cond.code ⟨"ShortBridge", "sideOf", "(I)I"⟩ prog_1_method_20_code 1 (some FieldType.int) ∈ zG := List.mem_filter.mpr ⟨List.mem_of_getElem? (i := 314) (by decide +kernel), rfl⟩
theorem q_315 : Cond.methodLink "ShortBridge$Auction" 40 ⟨"ShortBridge$Auction", "strain", "(I)I"⟩ ∈ zG := List.mem_filter.mpr ⟨List.mem_of_getElem? (i := 315) (by decide +kernel), rfl⟩
theorem q_316 : Cond.static ⟨"ShortBridge$Auction", "strain", "(I)I"⟩ ∈ zG := List.mem_filter.mpr ⟨List.mem_of_getElem? (i := 316) (by decide +kernel), rfl⟩
theorem q_317 : Cond.code ⟨"ShortBridge$Auction", "strain", "(I)I"⟩ prog_2_method_4_code 1 (some FieldType.int) ∈ zG := List.mem_filter.mpr ⟨List.mem_of_getElem? (i := 317) (by decide +kernel), rfl⟩
theorem q_318 : Cond.methodLink "ShortBridgeLaw" 99 ⟨"ShortBridge", "tricks", "(I)I"⟩ ∈ zG := List.mem_filter.mpr ⟨List.mem_of_getElem? (i := 318) (by decide +kernel), rfl⟩
theorem q_319 : Cond.instanceMethod ⟨"ShortBridge", "tricks", "(I)I"⟩ ∈ zG := List.mem_filter.mpr ⟨List.mem_of_getElem? (i := 319) (by decide +kernel), rfl⟩
theorem q_320 : Cond.selects "ShortBridge" ⟨"ShortBridge", "tricks", "(I)I"⟩ ⟨"ShortBridge", "tricks", "(I)I"⟩ ∈ zG := List.mem_filter.mpr ⟨List.mem_of_getElem? (i := 320) (by decide +kernel), rfl⟩
theorem q_321 : Cond.code ⟨"ShortBridge", "tricks", "(I)I"⟩ prog_1_method_12_code 2 (some FieldType.int) ∈ zG := List.mem_filter.mpr ⟨List.mem_of_getElem? (i := 321) (by decide +kernel), rfl⟩
theorem q_322 : Cond.methodLink "ShortBridge" 157 ⟨"ShortBridge$Hands", "won", "(I)I"⟩ ∈ zG := List.mem_filter.mpr ⟨List.mem_of_getElem? (i := 322) (by decide +kernel), rfl⟩
theorem q_323 : Cond.instanceMethod ⟨"ShortBridge$Hands", "won", "(I)I"⟩ ∈ zG := List.mem_filter.mpr ⟨List.mem_of_getElem? (i := 323) (by decide +kernel), rfl⟩
theorem q_324 : Cond.selects "ShortBridge$Hands" ⟨"ShortBridge$Hands", "won", "(I)I"⟩ ⟨"ShortBridge$Hands", "won", "(I)I"⟩ ∈ zG := List.mem_filter.mpr ⟨List.mem_of_getElem? (i := 324) (by decide +kernel), rfl⟩
theorem q_325 : Cond.code ⟨"ShortBridge$Hands", "won", "(I)I"⟩ prog_4_method_11_code 4 (some FieldType.int) ∈ zG := List.mem_filter.mpr ⟨List.mem_of_getElem? (i := 325) (by decide +kernel), rfl⟩
theorem q_327 : Cond.methodLink "ShortBridgeLaw" 103 ⟨"ShortBridge", "table", "(I)I"⟩ ∈ zG := List.mem_filter.mpr ⟨List.mem_of_getElem? (i := 327) (by decide +kernel), rfl⟩
theorem q_328 : Cond.instanceMethod ⟨"ShortBridge", "table", "(I)I"⟩ ∈ zG := List.mem_filter.mpr ⟨List.mem_of_getElem? (i := 328) (by decide +kernel), rfl⟩
theorem q_329 : Cond.selects "ShortBridge" ⟨"ShortBridge", "table", "(I)I"⟩ ⟨"ShortBridge", "table", "(I)I"⟩ ∈ zG := List.mem_filter.mpr ⟨List.mem_of_getElem? (i := 329) (by decide +kernel), rfl⟩
theorem q_330 : Cond.code ⟨"ShortBridge", "table", "(I)I"⟩ prog_1_method_13_code 2 (some FieldType.int) ∈ zG := List.mem_filter.mpr ⟨List.mem_of_getElem? (i := 330) (by decide +kernel), rfl⟩
theorem q_331 : Cond.methodLink "ShortBridge" 160 ⟨"ShortBridge$Hands", "onTable", "(I)I"⟩ ∈ zG := List.mem_filter.mpr ⟨List.mem_of_getElem? (i := 331) (by decide +kernel), rfl⟩
theorem q_332 : Cond.instanceMethod ⟨"ShortBridge$Hands", "onTable", "(I)I"⟩ ∈ zG := List.mem_filter.mpr ⟨List.mem_of_getElem? (i := 332) (by decide +kernel), rfl⟩
theorem q_333 : Cond.selects "ShortBridge$Hands" ⟨"ShortBridge$Hands", "onTable", "(I)I"⟩ ⟨"ShortBridge$Hands", "onTable", "(I)I"⟩ ∈ zG := List.mem_filter.mpr ⟨List.mem_of_getElem? (i := 333) (by decide +kernel), rfl⟩
theorem q_334 : Cond.code ⟨"ShortBridge$Hands", "onTable", "(I)I"⟩ prog_4_method_12_code 3 (some FieldType.int) ∈ zG := List.mem_filter.mpr ⟨List.mem_of_getElem? (i := 334) (by decide +kernel), rfl⟩
theorem q_335 : Cond.methodLink "ShortBridgeLaw" 78 ⟨"ShortBridgeLaw", "call", "(LShortBridge;I)I"⟩ ∈ zG := List.mem_filter.mpr ⟨List.mem_of_getElem? (i := 335) (by decide +kernel), rfl⟩
theorem q_336 : Cond.static ⟨"ShortBridgeLaw", "call", "(LShortBridge;I)I"⟩ ∈ zG := List.mem_filter.mpr ⟨List.mem_of_getElem? (i := 336) (by decide +kernel), rfl⟩
theorem q_338 : Cond.classLink "ShortBridgeLaw" 13 "java/lang/IllegalStateException" ∈ zG := List.mem_filter.mpr ⟨List.mem_of_getElem? (i := 338) (by decide +kernel), rfl⟩
theorem q_339 : Cond.classLink "ShortBridgeLaw" 15 "java/lang/IllegalArgumentException" ∈ zG := List.mem_filter.mpr ⟨List.mem_of_getElem? (i := 339) (by decide +kernel), rfl⟩
theorem q_340 : Cond.classLink "ShortBridgeLaw" 17 "java/lang/UnsupportedOperationException" ∈ zG := List.mem_filter.mpr ⟨List.mem_of_getElem? (i := 340) (by decide +kernel), rfl⟩
theorem q_341 : Cond.methodLink "ShortBridgeLaw" 7 ⟨"ShortBridge", "call", "(I)V"⟩ ∈ zG := List.mem_filter.mpr ⟨List.mem_of_getElem? (i := 341) (by decide +kernel), rfl⟩
theorem q_342 : Cond.instanceMethod ⟨"ShortBridge", "call", "(I)V"⟩ ∈ zG := List.mem_filter.mpr ⟨List.mem_of_getElem? (i := 342) (by decide +kernel), rfl⟩
theorem q_343 : Cond.selects "ShortBridge" ⟨"ShortBridge", "call", "(I)V"⟩ ⟨"ShortBridge", "call", "(I)V"⟩ ∈ zG := List.mem_filter.mpr ⟨List.mem_of_getElem? (i := 343) (by decide +kernel), rfl⟩
theorem q_344 : Cond.code ⟨"ShortBridge", "call", "(I)V"⟩ prog_1_method_8_code 2 none ∈ zG := List.mem_filter.mpr ⟨List.mem_of_getElem? (i := 344) (by decide +kernel), rfl⟩
theorem q_345 : Cond.classLink "ShortBridge" 93 "java/lang/IllegalStateException" ∈ zG := List.mem_filter.mpr ⟨List.mem_of_getElem? (i := 345) (by decide +kernel), rfl⟩
theorem q_346 : Cond.instantiable "java/lang/IllegalStateException" 6 ∈ zG := List.mem_filter.mpr ⟨List.mem_of_getElem? (i := 346) (by decide +kernel), rfl⟩
theorem q_354 : Cond.selects "java/lang/IllegalStateException" ⟨"java/lang/Throwable", "fillInStackTrace", "(I)Ljava/lang/Throwable;"⟩ ⟨"java/lang/Throwable", "fillInStackTrace", "(I)Ljava/lang/Throwable;"⟩ ∈ zG := List.mem_filter.mpr ⟨List.mem_of_getElem? (i := 354) (by decide +kernel), rfl⟩
theorem q_355 : Cond.selects "java/lang/IllegalStateException" ⟨"java/lang/Throwable", "fillInStackTrace", "()Ljava/lang/Throwable;"⟩ ⟨"java/lang/Throwable", "fillInStackTrace", "()Ljava/lang/Throwable;"⟩ ∈ zG := List.mem_filter.mpr ⟨List.mem_of_getElem? (i := 355) (by decide +kernel), rfl⟩
theorem q_356 : Cond.lays "java/lang/IllegalStateException" "java/lang/Throwable" "cause" "Ljava/lang/Throwable;" ∈ zG := List.mem_filter.mpr ⟨List.mem_of_getElem? (i := 356) (by decide +kernel), rfl⟩
theorem q_357 : Cond.lays "java/lang/Throwable" "java/lang/Throwable" "cause" "Ljava/lang/Throwable;" ∈ zG := List.mem_filter.mpr ⟨List.mem_of_getElem? (i := 357) (by decide +kernel), rfl⟩
theorem q_358 : Cond.lays "java/lang/IllegalStateException" "java/lang/Throwable" "stackTrace" "[Ljava/lang/StackTraceElement;" ∈ zG := List.mem_filter.mpr ⟨List.mem_of_getElem? (i := 358) (by decide +kernel), rfl⟩
theorem q_359 : Cond.lays "java/lang/Throwable" "java/lang/Throwable" "stackTrace" "[Ljava/lang/StackTraceElement;" ∈ zG := List.mem_filter.mpr ⟨List.mem_of_getElem? (i := 359) (by decide +kernel), rfl⟩
theorem q_360 : Cond.lays "java/lang/IllegalStateException" "java/lang/Throwable" "suppressedExceptions" "Ljava/util/List;" ∈ zG := List.mem_filter.mpr ⟨List.mem_of_getElem? (i := 360) (by decide +kernel), rfl⟩
theorem q_361 : Cond.lays "java/lang/Throwable" "java/lang/Throwable" "suppressedExceptions" "Ljava/util/List;" ∈ zG := List.mem_filter.mpr ⟨List.mem_of_getElem? (i := 361) (by decide +kernel), rfl⟩
theorem q_362 : Cond.lays "java/lang/IllegalStateException" "java/lang/Throwable" "detailMessage" "Ljava/lang/String;" ∈ zG := List.mem_filter.mpr ⟨List.mem_of_getElem? (i := 362) (by decide +kernel), rfl⟩
theorem q_363 : Cond.lays "java/lang/Throwable" "java/lang/Throwable" "detailMessage" "Ljava/lang/String;" ∈ zG := List.mem_filter.mpr ⟨List.mem_of_getElem? (i := 363) (by decide +kernel), rfl⟩
theorem q_364 : Cond.lays "java/lang/IllegalStateException" "java/lang/Throwable" "backtrace" "Ljava/lang/Object;" ∈ zG := List.mem_filter.mpr ⟨List.mem_of_getElem? (i := 364) (by decide +kernel), rfl⟩
theorem q_365 : Cond.lays "java/lang/Throwable" "java/lang/Throwable" "backtrace" "Ljava/lang/Object;" ∈ zG := List.mem_filter.mpr ⟨List.mem_of_getElem? (i := 365) (by decide +kernel), rfl⟩
theorem q_366 : Cond.fieldLink "java/lang/Throwable" 198 "java/lang/Throwable" "backtrace" "Ljava/lang/Object;" ∈ zG := List.mem_filter.mpr ⟨List.mem_of_getElem? (i := 366) (by decide +kernel), rfl⟩
theorem q_368 : Cond.instanceMethod ⟨"java/lang/Throwable", "<init>", "()V"⟩ ∈ zG := List.mem_filter.mpr ⟨List.mem_of_getElem? (i := 368) (by decide +kernel), rfl⟩
theorem q_369 : Cond.code ⟨"java/lang/Throwable", "<init>", "()V"⟩ prog_17_method_1_code 1 none ∈ zG := List.mem_filter.mpr ⟨List.mem_of_getElem? (i := 369) (by decide +kernel), rfl⟩
theorem q_370 : Cond.methodLink "java/lang/Throwable" 1 ⟨"java/lang/Object", "<init>", "()V"⟩ ∈ zG := List.mem_filter.mpr ⟨List.mem_of_getElem? (i := 370) (by decide +kernel), rfl⟩
theorem q_371 : Cond.fieldLink "java/lang/Throwable" 13 "java/lang/Throwable" "UNASSIGNED_STACK" "[Ljava/lang/StackTraceElement;" ∈ zG := List.mem_filter.mpr ⟨List.mem_of_getElem? (i := 371) (by decide +kernel), rfl⟩
theorem q_373 : Cond.fieldLink "java/lang/Throwable" 20 "java/lang/Throwable" "SUPPRESSED_SENTINEL" "Ljava/util/List;" ∈ zG := List.mem_filter.mpr ⟨List.mem_of_getElem? (i := 373) (by decide +kernel), rfl⟩
theorem q_375 : Cond.methodLink "java/lang/Throwable" 27 ⟨"java/lang/Throwable", "fillInStackTrace", "()Ljava/lang/Throwable;"⟩ ∈ zG := List.mem_filter.mpr ⟨List.mem_of_getElem? (i := 375) (by decide +kernel), rfl⟩
theorem q_376 : Cond.instanceMethod ⟨"java/lang/Throwable", "fillInStackTrace", "()Ljava/lang/Throwable;"⟩ ∈ zG := List.mem_filter.mpr ⟨List.mem_of_getElem? (i := 376) (by decide +kernel), rfl⟩
theorem q_378 : Cond.selects "java/lang/IllegalArgumentException" ⟨"java/lang/Throwable", "fillInStackTrace", "()Ljava/lang/Throwable;"⟩ ⟨"java/lang/Throwable", "fillInStackTrace", "()Ljava/lang/Throwable;"⟩ ∈ zG := List.mem_filter.mpr ⟨List.mem_of_getElem? (i := 378) (by decide +kernel), rfl⟩
theorem q_379 : Cond.selects "java/lang/IndexOutOfBoundsException" ⟨"java/lang/Throwable", "fillInStackTrace", "()Ljava/lang/Throwable;"⟩ ⟨"java/lang/Throwable", "fillInStackTrace", "()Ljava/lang/Throwable;"⟩ ∈ zG := List.mem_filter.mpr ⟨List.mem_of_getElem? (i := 379) (by decide +kernel), rfl⟩
theorem q_380 : Cond.selects "java/lang/UnsupportedOperationException" ⟨"java/lang/Throwable", "fillInStackTrace", "()Ljava/lang/Throwable;"⟩ ⟨"java/lang/Throwable", "fillInStackTrace", "()Ljava/lang/Throwable;"⟩ ∈ zG := List.mem_filter.mpr ⟨List.mem_of_getElem? (i := 380) (by decide +kernel), rfl⟩
theorem q_381 : Cond.selects "java/util/NoSuchElementException" ⟨"java/lang/Throwable", "fillInStackTrace", "()Ljava/lang/Throwable;"⟩ ⟨"java/lang/Throwable", "fillInStackTrace", "()Ljava/lang/Throwable;"⟩ ∈ zG := List.mem_filter.mpr ⟨List.mem_of_getElem? (i := 381) (by decide +kernel), rfl⟩
theorem q_383 : Cond.methodLink "java/lang/Throwable" 202 ⟨"java/lang/Throwable", "fillInStackTrace", "(I)Ljava/lang/Throwable;"⟩ ∈ zG := List.mem_filter.mpr ⟨List.mem_of_getElem? (i := 383) (by decide +kernel), rfl⟩
theorem q_385 : Cond.instanceMethod ⟨"java/lang/Throwable", "fillInStackTrace", "(I)Ljava/lang/Throwable;"⟩ ∈ zG := List.mem_filter.mpr ⟨List.mem_of_getElem? (i := 385) (by decide +kernel), rfl⟩
theorem q_386 : Cond.instantiable "java/lang/Throwable" 6 ∈ zG := List.mem_filter.mpr ⟨List.mem_of_getElem? (i := 386) (by decide +kernel), rfl⟩
theorem q_389 : Cond.methodLink "ShortBridge" 97 ⟨"java/lang/IllegalStateException", "<init>", "(Ljava/lang/String;)V"⟩ ∈ zG := List.mem_filter.mpr ⟨List.mem_of_getElem? (i := 389) (by decide +kernel), rfl⟩
theorem q_390 : Cond.instanceMethod ⟨"java/lang/IllegalStateException", "<init>", "(Ljava/lang/String;)V"⟩ ∈ zG := List.mem_filter.mpr ⟨List.mem_of_getElem? (i := 390) (by decide +kernel), rfl⟩
theorem q_391 : Cond.code ⟨"java/lang/IllegalStateException", "<init>", "(Ljava/lang/String;)V"⟩ prog_12_method_2_code 2 none ∈ zG := List.mem_filter.mpr ⟨List.mem_of_getElem? (i := 391) (by decide +kernel), rfl⟩
theorem q_392 : Cond.methodLink "java/lang/IllegalStateException" 7 ⟨"java/lang/RuntimeException", "<init>", "(Ljava/lang/String;)V"⟩ ∈ zG := List.mem_filter.mpr ⟨List.mem_of_getElem? (i := 392) (by decide +kernel), rfl⟩
theorem q_393 : Cond.instanceMethod ⟨"java/lang/RuntimeException", "<init>", "(Ljava/lang/String;)V"⟩ ∈ zG := List.mem_filter.mpr ⟨List.mem_of_getElem? (i := 393) (by decide +kernel), rfl⟩
theorem q_394 : Cond.code ⟨"java/lang/RuntimeException", "<init>", "(Ljava/lang/String;)V"⟩ prog_15_method_2_code 2 none ∈ zG := List.mem_filter.mpr ⟨List.mem_of_getElem? (i := 394) (by decide +kernel), rfl⟩
theorem q_395 : Cond.methodLink "java/lang/RuntimeException" 7 ⟨"java/lang/Exception", "<init>", "(Ljava/lang/String;)V"⟩ ∈ zG := List.mem_filter.mpr ⟨List.mem_of_getElem? (i := 395) (by decide +kernel), rfl⟩
theorem q_396 : Cond.instanceMethod ⟨"java/lang/Exception", "<init>", "(Ljava/lang/String;)V"⟩ ∈ zG := List.mem_filter.mpr ⟨List.mem_of_getElem? (i := 396) (by decide +kernel), rfl⟩
theorem q_397 : Cond.code ⟨"java/lang/Exception", "<init>", "(Ljava/lang/String;)V"⟩ prog_10_method_2_code 2 none ∈ zG := List.mem_filter.mpr ⟨List.mem_of_getElem? (i := 397) (by decide +kernel), rfl⟩
theorem q_398 : Cond.methodLink "java/lang/Exception" 7 ⟨"java/lang/Throwable", "<init>", "(Ljava/lang/String;)V"⟩ ∈ zG := List.mem_filter.mpr ⟨List.mem_of_getElem? (i := 398) (by decide +kernel), rfl⟩
theorem q_399 : Cond.instanceMethod ⟨"java/lang/Throwable", "<init>", "(Ljava/lang/String;)V"⟩ ∈ zG := List.mem_filter.mpr ⟨List.mem_of_getElem? (i := 399) (by decide +kernel), rfl⟩
theorem q_400 : Cond.code ⟨"java/lang/Throwable", "<init>", "(Ljava/lang/String;)V"⟩ prog_17_method_2_code 2 none ∈ zG := List.mem_filter.mpr ⟨List.mem_of_getElem? (i := 400) (by decide +kernel), rfl⟩
theorem q_402 : Cond.fieldLink "java/lang/Throwable" 31 "java/lang/Throwable" "detailMessage" "Ljava/lang/String;" ∈ zG := List.mem_filter.mpr ⟨List.mem_of_getElem? (i := 402) (by decide +kernel), rfl⟩
theorem q_403 : Cond.fieldLink "java/lang/Throwable" 7 "java/lang/Throwable" "cause" "Ljava/lang/Throwable;" ∈ zG := List.mem_filter.mpr ⟨List.mem_of_getElem? (i := 403) (by decide +kernel), rfl⟩
theorem q_404 : Cond.fieldLink "java/lang/Throwable" 17 "java/lang/Throwable" "stackTrace" "[Ljava/lang/StackTraceElement;" ∈ zG := List.mem_filter.mpr ⟨List.mem_of_getElem? (i := 404) (by decide +kernel), rfl⟩
theorem q_405 : Cond.fieldLink "java/lang/Throwable" 24 "java/lang/Throwable" "suppressedExceptions" "Ljava/util/List;" ∈ zG := List.mem_filter.mpr ⟨List.mem_of_getElem? (i := 405) (by decide +kernel), rfl⟩
theorem q_410 : Cond.lays "java/lang/IllegalStateException" "java/lang/Throwable" "depth" "I" ∈ zG := List.mem_filter.mpr ⟨List.mem_of_getElem? (i := 410) (by decide +kernel), rfl⟩
theorem q_414 : Cond.arrayClass FieldType.byte ∈ zG := List.mem_filter.mpr ⟨List.mem_of_getElem? (i := 414) (by decide +kernel), rfl⟩
theorem q_415 : Cond.methodLink "ShortBridge" 100 ⟨"ShortBridge$Auction", "isCall", "(I)Z"⟩ ∈ zG := List.mem_filter.mpr ⟨List.mem_of_getElem? (i := 415) (by decide +kernel), rfl⟩
theorem q_416 : Cond.static ⟨"ShortBridge$Auction", "isCall", "(I)Z"⟩ ∈ zG := List.mem_filter.mpr ⟨List.mem_of_getElem? (i := 416) (by decide +kernel), rfl⟩
theorem q_417 : Cond.code ⟨"ShortBridge$Auction", "isCall", "(I)Z"⟩ prog_2_method_2_code 1 (some FieldType.boolean) ∈ zG := List.mem_filter.mpr ⟨List.mem_of_getElem? (i := 417) (by decide +kernel), rfl⟩
theorem q_418 : Cond.classLink "ShortBridge" 103 "java/lang/IllegalArgumentException" ∈ zG := List.mem_filter.mpr ⟨List.mem_of_getElem? (i := 418) (by decide +kernel), rfl⟩
theorem q_419 : Cond.instantiable "java/lang/IllegalArgumentException" 6 ∈ zG := List.mem_filter.mpr ⟨List.mem_of_getElem? (i := 419) (by decide +kernel), rfl⟩
theorem q_421 : Cond.selects "java/lang/IllegalArgumentException" ⟨"java/lang/Throwable", "fillInStackTrace", "(I)Ljava/lang/Throwable;"⟩ ⟨"java/lang/Throwable", "fillInStackTrace", "(I)Ljava/lang/Throwable;"⟩ ∈ zG := List.mem_filter.mpr ⟨List.mem_of_getElem? (i := 421) (by decide +kernel), rfl⟩
theorem q_422 : Cond.lays "java/lang/IllegalArgumentException" "java/lang/Throwable" "cause" "Ljava/lang/Throwable;" ∈ zG := List.mem_filter.mpr ⟨List.mem_of_getElem? (i := 422) (by decide +kernel), rfl⟩
theorem q_423 : Cond.lays "java/lang/IllegalArgumentException" "java/lang/Throwable" "stackTrace" "[Ljava/lang/StackTraceElement;" ∈ zG := List.mem_filter.mpr ⟨List.mem_of_getElem? (i := 423) (by decide +kernel), rfl⟩
theorem q_424 : Cond.lays "java/lang/IllegalArgumentException" "java/lang/Throwable" "suppressedExceptions" "Ljava/util/List;" ∈ zG := List.mem_filter.mpr ⟨List.mem_of_getElem? (i := 424) (by decide +kernel), rfl⟩
theorem q_425 : Cond.lays "java/lang/IllegalArgumentException" "java/lang/Throwable" "detailMessage" "Ljava/lang/String;" ∈ zG := List.mem_filter.mpr ⟨List.mem_of_getElem? (i := 425) (by decide +kernel), rfl⟩
theorem q_426 : Cond.lays "java/lang/IllegalArgumentException" "java/lang/Throwable" "backtrace" "Ljava/lang/Object;" ∈ zG := List.mem_filter.mpr ⟨List.mem_of_getElem? (i := 426) (by decide +kernel), rfl⟩
theorem q_428 : Cond.methodLink "ShortBridge" 107 ⟨"java/lang/IllegalArgumentException", "<init>", "(Ljava/lang/String;)V"⟩ ∈ zG := List.mem_filter.mpr ⟨List.mem_of_getElem? (i := 428) (by decide +kernel), rfl⟩
theorem q_429 : Cond.instanceMethod ⟨"java/lang/IllegalArgumentException", "<init>", "(Ljava/lang/String;)V"⟩ ∈ zG := List.mem_filter.mpr ⟨List.mem_of_getElem? (i := 429) (by decide +kernel), rfl⟩
theorem q_430 : Cond.code ⟨"java/lang/IllegalArgumentException", "<init>", "(Ljava/lang/String;)V"⟩ prog_11_method_2_code 2 none ∈ zG := List.mem_filter.mpr ⟨List.mem_of_getElem? (i := 430) (by decide +kernel), rfl⟩
theorem q_431 : Cond.methodLink "java/lang/IllegalArgumentException" 7 ⟨"java/lang/RuntimeException", "<init>", "(Ljava/lang/String;)V"⟩ ∈ zG := List.mem_filter.mpr ⟨List.mem_of_getElem? (i := 431) (by decide +kernel), rfl⟩
theorem q_432 : Cond.lays "java/lang/IllegalArgumentException" "java/lang/Throwable" "depth" "I" ∈ zG := List.mem_filter.mpr ⟨List.mem_of_getElem? (i := 432) (by decide +kernel), rfl⟩
theorem q_434 : Cond.methodLink "ShortBridge" 108 ⟨"ShortBridge$Auction", "allows", "(I)Z"⟩ ∈ zG := List.mem_filter.mpr ⟨List.mem_of_getElem? (i := 434) (by decide +kernel), rfl⟩
theorem q_435 : Cond.instanceMethod ⟨"ShortBridge$Auction", "allows", "(I)Z"⟩ ∈ zG := List.mem_filter.mpr ⟨List.mem_of_getElem? (i := 435) (by decide +kernel), rfl⟩
theorem q_436 : Cond.selects "ShortBridge$Auction" ⟨"ShortBridge$Auction", "allows", "(I)Z"⟩ ⟨"ShortBridge$Auction", "allows", "(I)Z"⟩ ∈ zG := List.mem_filter.mpr ⟨List.mem_of_getElem? (i := 436) (by decide +kernel), rfl⟩
theorem q_437 : Cond.code ⟨"ShortBridge$Auction", "allows", "(I)Z"⟩ prog_2_method_7_code 2 (some FieldType.boolean) ∈ zG := List.mem_filter.mpr ⟨List.mem_of_getElem? (i := 437) (by decide +kernel), rfl⟩
theorem q_438 : Cond.methodLink "ShortBridge$Auction" 26 ⟨"ShortBridge$Auction", "latestOfOthers", "()I"⟩ ∈ zG := List.mem_filter.mpr ⟨List.mem_of_getElem? (i := 438) (by decide +kernel), rfl⟩
theorem q_440 : Cond.instanceMethod ⟨"ShortBridge$Auction", "latestOfOthers", "()I"⟩ ∈ zG := List.mem_filter.mpr ⟨List.mem_of_getElem? (i := 440) (by decide +kernel), rfl⟩
theorem q_441 : Cond.code ⟨"ShortBridge$Auction", "latestOfOthers", "()I"⟩ prog_2_method_14_code 2 (some FieldType.int) ∈ zG := List.mem_filter.mpr ⟨List.mem_of_getElem? (i := 441) (by decide +kernel), rfl⟩
theorem q_442 : Cond.methodLink "ShortBridge$Auction" 30 ⟨"ShortBridge$Auction", "bid", "()I"⟩ ∈ zG := List.mem_filter.mpr ⟨List.mem_of_getElem? (i := 442) (by decide +kernel), rfl⟩
theorem q_443 : Cond.classLink "ShortBridge" 111 "java/lang/UnsupportedOperationException" ∈ zG := List.mem_filter.mpr ⟨List.mem_of_getElem? (i := 443) (by decide +kernel), rfl⟩
theorem q_444 : Cond.instantiable "java/lang/UnsupportedOperationException" 6 ∈ zG := List.mem_filter.mpr ⟨List.mem_of_getElem? (i := 444) (by decide +kernel), rfl⟩
theorem q_446 : Cond.selects "java/lang/UnsupportedOperationException" ⟨"java/lang/Throwable", "fillInStackTrace", "(I)Ljava/lang/Throwable;"⟩ ⟨"java/lang/Throwable", "fillInStackTrace", "(I)Ljava/lang/Throwable;"⟩ ∈ zG := List.mem_filter.mpr ⟨List.mem_of_getElem? (i := 446) (by decide +kernel), rfl⟩
theorem q_447 : Cond.lays "java/lang/UnsupportedOperationException" "java/lang/Throwable" "cause" "Ljava/lang/Throwable;" ∈ zG := List.mem_filter.mpr ⟨List.mem_of_getElem? (i := 447) (by decide +kernel), rfl⟩
theorem q_448 : Cond.lays "java/lang/UnsupportedOperationException" "java/lang/Throwable" "stackTrace" "[Ljava/lang/StackTraceElement;" ∈ zG := List.mem_filter.mpr ⟨List.mem_of_getElem? (i := 448) (by decide +kernel), rfl⟩
theorem q_449 : Cond.lays "java/lang/UnsupportedOperationException" "java/lang/Throwable" "suppressedExceptions" "Ljava/util/List;" ∈ zG := List.mem_filter.mpr ⟨List.mem_of_getElem? (i := 449) (by decide +kernel), rfl⟩
theorem q_450 : Cond.lays "java/lang/UnsupportedOperationException" "java/lang/Throwable" "detailMessage" "Ljava/lang/String;" ∈ zG := List.mem_filter.mpr ⟨List.mem_of_getElem? (i := 450) (by decide +kernel), rfl⟩
theorem q_451 : Cond.lays "java/lang/UnsupportedOperationException" "java/lang/Throwable" "backtrace" "Ljava/lang/Object;" ∈ zG := List.mem_filter.mpr ⟨List.mem_of_getElem? (i := 451) (by decide +kernel), rfl⟩
theorem q_453 : Cond.methodLink "ShortBridge" 115 ⟨"java/lang/UnsupportedOperationException", "<init>", "(Ljava/lang/String;)V"⟩ ∈ zG := List.mem_filter.mpr ⟨List.mem_of_getElem? (i := 453) (by decide +kernel), rfl⟩
theorem q_454 : Cond.instanceMethod ⟨"java/lang/UnsupportedOperationException", "<init>", "(Ljava/lang/String;)V"⟩ ∈ zG := List.mem_filter.mpr ⟨List.mem_of_getElem? (i := 454) (by decide +kernel), rfl⟩
theorem q_455 : Cond.code ⟨"java/lang/UnsupportedOperationException", "<init>", "(Ljava/lang/String;)V"⟩ prog_18_method_2_code 2 none ∈ zG := List.mem_filter.mpr ⟨List.mem_of_getElem? (i := 455) (by decide +kernel), rfl⟩
theorem q_456 : Cond.methodLink "java/lang/UnsupportedOperationException" 7 ⟨"java/lang/RuntimeException", "<init>", "(Ljava/lang/String;)V"⟩ ∈ zG := List.mem_filter.mpr ⟨List.mem_of_getElem? (i := 456) (by decide +kernel), rfl⟩
theorem q_457 : Cond.lays "java/lang/UnsupportedOperationException" "java/lang/Throwable" "depth" "I" ∈ zG := List.mem_filter.mpr ⟨List.mem_of_getElem? (i := 457) (by decide +kernel), rfl⟩
theorem q_459 : Cond.methodLink "ShortBridge" 116 ⟨"ShortBridge$Auction", "add", "(I)V"⟩ ∈ zG := List.mem_filter.mpr ⟨List.mem_of_getElem? (i := 459) (by decide +kernel), rfl⟩
theorem q_460 : Cond.instanceMethod ⟨"ShortBridge$Auction", "add", "(I)V"⟩ ∈ zG := List.mem_filter.mpr ⟨List.mem_of_getElem? (i := 460) (by decide +kernel), rfl⟩
theorem q_461 : Cond.selects "ShortBridge$Auction" ⟨"ShortBridge$Auction", "add", "(I)V"⟩ ⟨"ShortBridge$Auction", "add", "(I)V"⟩ ∈ zG := List.mem_filter.mpr ⟨List.mem_of_getElem? (i := 461) (by decide +kernel), rfl⟩
theorem q_462 : Cond.code ⟨"ShortBridge$Auction", "add", "(I)V"⟩ prog_2_method_8_code 2 none ∈ zG := List.mem_filter.mpr ⟨List.mem_of_getElem? (i := 462) (by decide +kernel), rfl⟩
theorem q_463 : Cond.methodLink "ShortBridge" 123 ⟨"ShortBridge$Auction", "strain", "(I)I"⟩ ∈ zG := List.mem_filter.mpr ⟨List.mem_of_getElem? (i := 463) (by decide +kernel), rfl⟩
theorem q_464 : Cond.methodLink "ShortBridge" 127 ⟨"ShortBridge$Hands", "beginPlay", "(II)V"⟩ ∈ zG := List.mem_filter.mpr ⟨List.mem_of_getElem? (i := 464) (by decide +kernel), rfl⟩
theorem q_465 : Cond.instanceMethod ⟨"ShortBridge$Hands", "beginPlay", "(II)V"⟩ ∈ zG := List.mem_filter.mpr ⟨List.mem_of_getElem? (i := 465) (by decide +kernel), rfl⟩
theorem q_466 : Cond.selects "ShortBridge$Hands" ⟨"ShortBridge$Hands", "beginPlay", "(II)V"⟩ ⟨"ShortBridge$Hands", "beginPlay", "(II)V"⟩ ∈ zG := List.mem_filter.mpr ⟨List.mem_of_getElem? (i := 466) (by decide +kernel), rfl⟩
theorem q_467 : Cond.code ⟨"ShortBridge$Hands", "beginPlay", "(II)V"⟩ prog_4_method_3_code 3 none ∈ zG := List.mem_filter.mpr ⟨List.mem_of_getElem? (i := 467) (by decide +kernel), rfl⟩
theorem q_468 : Cond.methodLink "ShortBridgeLaw" 87 ⟨"ShortBridgeLaw", "play", "(LShortBridge;I)I"⟩ ∈ zG := List.mem_filter.mpr ⟨List.mem_of_getElem? (i := 468) (by decide +kernel), rfl⟩
theorem q_469 : Cond.static ⟨"ShortBridgeLaw", "play", "(LShortBridge;I)I"⟩ ∈ zG := List.mem_filter.mpr ⟨List.mem_of_getElem? (i := 469) (by decide +kernel), rfl⟩
theorem q_471 : Cond.classLink "ShortBridgeLaw" 22 "java/util/NoSuchElementException" ∈ zG := List.mem_filter.mpr ⟨List.mem_of_getElem? (i := 471) (by decide +kernel), rfl⟩
theorem q_472 : Cond.methodLink "ShortBridgeLaw" 19 ⟨"ShortBridge", "play", "(I)V"⟩ ∈ zG := List.mem_filter.mpr ⟨List.mem_of_getElem? (i := 472) (by decide +kernel), rfl⟩
theorem q_473 : Cond.instanceMethod ⟨"ShortBridge", "play", "(I)V"⟩ ∈ zG := List.mem_filter.mpr ⟨List.mem_of_getElem? (i := 473) (by decide +kernel), rfl⟩
theorem q_474 : Cond.selects "ShortBridge" ⟨"ShortBridge", "play", "(I)V"⟩ ⟨"ShortBridge", "play", "(I)V"⟩ ∈ zG := List.mem_filter.mpr ⟨List.mem_of_getElem? (i := 474) (by decide +kernel), rfl⟩
theorem q_475 : Cond.code ⟨"ShortBridge", "play", "(I)V"⟩ prog_1_method_9_code 2 none ∈ zG := List.mem_filter.mpr ⟨List.mem_of_getElem? (i := 475) (by decide +kernel), rfl⟩
theorem q_477 : Cond.classLink "ShortBridge" 132 "java/util/NoSuchElementException" ∈ zG := List.mem_filter.mpr ⟨List.mem_of_getElem? (i := 477) (by decide +kernel), rfl⟩
theorem q_478 : Cond.instantiable "java/util/NoSuchElementException" 6 ∈ zG := List.mem_filter.mpr ⟨List.mem_of_getElem? (i := 478) (by decide +kernel), rfl⟩
theorem q_480 : Cond.selects "java/util/NoSuchElementException" ⟨"java/lang/Throwable", "fillInStackTrace", "(I)Ljava/lang/Throwable;"⟩ ⟨"java/lang/Throwable", "fillInStackTrace", "(I)Ljava/lang/Throwable;"⟩ ∈ zG := List.mem_filter.mpr ⟨List.mem_of_getElem? (i := 480) (by decide +kernel), rfl⟩
theorem q_481 : Cond.lays "java/util/NoSuchElementException" "java/lang/Throwable" "cause" "Ljava/lang/Throwable;" ∈ zG := List.mem_filter.mpr ⟨List.mem_of_getElem? (i := 481) (by decide +kernel), rfl⟩
theorem q_482 : Cond.lays "java/util/NoSuchElementException" "java/lang/Throwable" "stackTrace" "[Ljava/lang/StackTraceElement;" ∈ zG := List.mem_filter.mpr ⟨List.mem_of_getElem? (i := 482) (by decide +kernel), rfl⟩
theorem q_483 : Cond.lays "java/util/NoSuchElementException" "java/lang/Throwable" "suppressedExceptions" "Ljava/util/List;" ∈ zG := List.mem_filter.mpr ⟨List.mem_of_getElem? (i := 483) (by decide +kernel), rfl⟩
theorem q_484 : Cond.lays "java/util/NoSuchElementException" "java/lang/Throwable" "detailMessage" "Ljava/lang/String;" ∈ zG := List.mem_filter.mpr ⟨List.mem_of_getElem? (i := 484) (by decide +kernel), rfl⟩
theorem q_485 : Cond.lays "java/util/NoSuchElementException" "java/lang/Throwable" "backtrace" "Ljava/lang/Object;" ∈ zG := List.mem_filter.mpr ⟨List.mem_of_getElem? (i := 485) (by decide +kernel), rfl⟩
theorem q_487 : Cond.methodLink "ShortBridge" 136 ⟨"java/util/NoSuchElementException", "<init>", "(Ljava/lang/String;)V"⟩ ∈ zG := List.mem_filter.mpr ⟨List.mem_of_getElem? (i := 487) (by decide +kernel), rfl⟩
theorem q_488 : Cond.instanceMethod ⟨"java/util/NoSuchElementException", "<init>", "(Ljava/lang/String;)V"⟩ ∈ zG := List.mem_filter.mpr ⟨List.mem_of_getElem? (i := 488) (by decide +kernel), rfl⟩
theorem q_489 : Cond.code ⟨"java/util/NoSuchElementException", "<init>", "(Ljava/lang/String;)V"⟩ prog_19_method_4_code 2 none ∈ zG := List.mem_filter.mpr ⟨List.mem_of_getElem? (i := 489) (by decide +kernel), rfl⟩
theorem q_490 : Cond.methodLink "java/util/NoSuchElementException" 13 ⟨"java/lang/RuntimeException", "<init>", "(Ljava/lang/String;)V"⟩ ∈ zG := List.mem_filter.mpr ⟨List.mem_of_getElem? (i := 490) (by decide +kernel), rfl⟩
theorem q_491 : Cond.lays "java/util/NoSuchElementException" "java/lang/Throwable" "depth" "I" ∈ zG := List.mem_filter.mpr ⟨List.mem_of_getElem? (i := 491) (by decide +kernel), rfl⟩
theorem q_493 : Cond.methodLink "ShortBridge" 137 ⟨"ShortBridge$Hands", "allow", "(I)Z"⟩ ∈ zG := List.mem_filter.mpr ⟨List.mem_of_getElem? (i := 493) (by decide +kernel), rfl⟩
theorem q_494 : Cond.instanceMethod ⟨"ShortBridge$Hands", "allow", "(I)Z"⟩ ∈ zG := List.mem_filter.mpr ⟨List.mem_of_getElem? (i := 494) (by decide +kernel), rfl⟩
theorem q_495 : Cond.selects "ShortBridge$Hands" ⟨"ShortBridge$Hands", "allow", "(I)Z"⟩ ⟨"ShortBridge$Hands", "allow", "(I)Z"⟩ ∈ zG := List.mem_filter.mpr ⟨List.mem_of_getElem? (i := 495) (by decide +kernel), rfl⟩
theorem q_496 : Cond.code ⟨"ShortBridge$Hands", "allow", "(I)Z"⟩ prog_4_method_8_code 2 (some FieldType.boolean) ∈ zG := List.mem_filter.mpr ⟨List.mem_of_getElem? (i := 496) (by decide +kernel), rfl⟩
theorem q_497 : Cond.methodLink "ShortBridge$Hands" 43 ⟨"ShortBridge$Hands", "allowed", "()I"⟩ ∈ zG := List.mem_filter.mpr ⟨List.mem_of_getElem? (i := 497) (by decide +kernel), rfl⟩
theorem q_498 : Cond.instanceMethod ⟨"ShortBridge$Hands", "allowed", "()I"⟩ ∈ zG := List.mem_filter.mpr ⟨List.mem_of_getElem? (i := 498) (by decide +kernel), rfl⟩
theorem q_499 : Cond.selects "ShortBridge$Hands" ⟨"ShortBridge$Hands", "allowed", "()I"⟩ ⟨"ShortBridge$Hands", "allowed", "()I"⟩ ∈ zG := List.mem_filter.mpr ⟨List.mem_of_getElem? (i := 499) (by decide +kernel), rfl⟩
theorem q_500 : Cond.code ⟨"ShortBridge$Hands", "allowed", "()I"⟩ prog_4_method_7_code 4 (some FieldType.int) ∈ zG := List.mem_filter.mpr ⟨List.mem_of_getElem? (i := 500) (by decide +kernel), rfl⟩
theorem q_502 : Cond.methodLink "ShortBridge" 142 ⟨"ShortBridge$Hands", "put", "(I)V"⟩ ∈ zG := List.mem_filter.mpr ⟨List.mem_of_getElem? (i := 502) (by decide +kernel), rfl⟩
theorem q_503 : Cond.instanceMethod ⟨"ShortBridge$Hands", "put", "(I)V"⟩ ∈ zG := List.mem_filter.mpr ⟨List.mem_of_getElem? (i := 503) (by decide +kernel), rfl⟩
theorem q_504 : Cond.selects "ShortBridge$Hands" ⟨"ShortBridge$Hands", "put", "(I)V"⟩ ⟨"ShortBridge$Hands", "put", "(I)V"⟩ ∈ zG := List.mem_filter.mpr ⟨List.mem_of_getElem? (i := 504) (by decide +kernel), rfl⟩
theorem q_505 : Cond.code ⟨"ShortBridge$Hands", "put", "(I)V"⟩ prog_4_method_9_code 2 none ∈ zG := List.mem_filter.mpr ⟨List.mem_of_getElem? (i := 505) (by decide +kernel), rfl⟩
theorem q_506 : Cond.methodLink "ShortBridge$Hands" 46 ⟨"ShortBridge$Hands", "winnerOf", "(I)I"⟩ ∈ zG := List.mem_filter.mpr ⟨List.mem_of_getElem? (i := 506) (by decide +kernel), rfl⟩
theorem q_508 : Cond.instanceMethod ⟨"ShortBridge$Hands", "winnerOf", "(I)I"⟩ ∈ zG := List.mem_filter.mpr ⟨List.mem_of_getElem? (i := 508) (by decide +kernel), rfl⟩
theorem q_509 : Cond.code ⟨"ShortBridge$Hands", "winnerOf", "(I)I"⟩ prog_4_method_15_code 5 (some FieldType.int) ∈ zG := List.mem_filter.mpr ⟨List.mem_of_getElem? (i := 509) (by decide +kernel), rfl⟩
theorem q_510 : Cond.methodLink "ShortBridge$Hands" 58 ⟨"ShortBridge$Hands", "beats", "(II)Z"⟩ ∈ zG := List.mem_filter.mpr ⟨List.mem_of_getElem? (i := 510) (by decide +kernel), rfl⟩
theorem q_512 : Cond.instanceMethod ⟨"ShortBridge$Hands", "beats", "(II)Z"⟩ ∈ zG := List.mem_filter.mpr ⟨List.mem_of_getElem? (i := 512) (by decide +kernel), rfl⟩
theorem q_513 : Cond.code ⟨"ShortBridge$Hands", "beats", "(II)Z"⟩ prog_4_method_16_code 4 (some FieldType.boolean) ∈ zG := List.mem_filter.mpr ⟨List.mem_of_getElem? (i := 513) (by decide +kernel), rfl⟩
theorem q_514 : Cond.methodLink "ShortBridgeLaw" 107 ⟨"ShortBridgeLaw", "score", "(LShortBridge;[J)I"⟩ ∈ zG := List.mem_filter.mpr ⟨List.mem_of_getElem? (i := 514) (by decide +kernel), rfl⟩
theorem q_515 : Cond.static ⟨"ShortBridgeLaw", "score", "(LShortBridge;[J)I"⟩ ∈ zG := List.mem_filter.mpr ⟨List.mem_of_getElem? (i := 515) (by decide +kernel), rfl⟩
theorem q_517 : Cond.methodLink "ShortBridgeLaw" 24 ⟨"ShortBridge", "score", "()I"⟩ ∈ zG := List.mem_filter.mpr ⟨List.mem_of_getElem? (i := 517) (by decide +kernel), rfl⟩
theorem q_518 : Cond.instanceMethod ⟨"ShortBridge", "score", "()I"⟩ ∈ zG := List.mem_filter.mpr ⟨List.mem_of_getElem? (i := 518) (by decide +kernel), rfl⟩
theorem q_519 : Cond.selects "ShortBridge" ⟨"ShortBridge", "score", "()I"⟩ ⟨"ShortBridge", "score", "()I"⟩ ∈ zG := List.mem_filter.mpr ⟨List.mem_of_getElem? (i := 519) (by decide +kernel), rfl⟩
theorem q_520 : Cond.code ⟨"ShortBridge", "score", "()I"⟩ prog_1_method_14_code 1 (some FieldType.int) ∈ zG := List.mem_filter.mpr ⟨List.mem_of_getElem? (i := 520) (by decide +kernel), rfl⟩
theorem q_522 : Cond.methodLink "ShortBridge" 165 ⟨"ShortBridge", "scoreOfSide0", "()I"⟩ ∈ zG := List.mem_filter.mpr ⟨List.mem_of_getElem? (i := 522) (by decide +kernel), rfl⟩
theorem q_524 : Cond.instanceMethod ⟨"ShortBridge", "scoreOfSide0", "()I"⟩ ∈ zG := List.mem_filter.mpr ⟨List.mem_of_getElem? (i := 524) (by decide +kernel), rfl⟩
theorem q_525 : Cond.code ⟨"ShortBridge", "scoreOfSide0", "()I"⟩ prog_1_method_24_code 5 (some FieldType.int) ∈ zG := List.mem_filter.mpr ⟨List.mem_of_getElem? (i := 525) (by decide +kernel), rfl⟩
theorem q_526 : Cond.methodLink "ShortBridge" 170 ⟨"ShortBridge", "sideOf", "(I)I"⟩ ∈ zG := List.mem_filter.mpr ⟨List.mem_of_getElem? (i := 526) (by decide +kernel), rfl⟩
theorem q_527 : Cond.methodLink "ShortBridge" 217 ⟨"ShortBridge$Scoring", "scoreOf", "(IIIZ)I"⟩ ∈ zG := List.mem_filter.mpr ⟨List.mem_of_getElem? (i := 527) (by decide +kernel), rfl⟩
theorem q_528 : Cond.static ⟨"ShortBridge$Scoring", "scoreOf", "(IIIZ)I"⟩ ∈ zG := List.mem_filter.mpr ⟨List.mem_of_getElem? (i := 528) (by decide +kernel), rfl⟩
theorem q_529 : Cond.code ⟨"ShortBridge$Scoring", "scoreOf", "(IIIZ)I"⟩ prog_6_method_2_code 5 (some FieldType.int) ∈ zG := List.mem_filter.mpr ⟨List.mem_of_getElem? (i := 529) (by decide +kernel), rfl⟩
theorem q_530 : Cond.methodLink "ShortBridge$Scoring" 9 ⟨"ShortBridge$Auction", "level", "(I)I"⟩ ∈ zG := List.mem_filter.mpr ⟨List.mem_of_getElem? (i := 530) (by decide +kernel), rfl⟩
theorem q_531 : Cond.static ⟨"ShortBridge$Auction", "level", "(I)I"⟩ ∈ zG := List.mem_filter.mpr ⟨List.mem_of_getElem? (i := 531) (by decide +kernel), rfl⟩
theorem q_532 : Cond.code ⟨"ShortBridge$Auction", "level", "(I)I"⟩ prog_2_method_3_code 1 (some FieldType.int) ∈ zG := List.mem_filter.mpr ⟨List.mem_of_getElem? (i := 532) (by decide +kernel), rfl⟩
theorem q_533 : Cond.methodLink "ShortBridge$Scoring" 15 ⟨"ShortBridge$Scoring", "penalty", "(IIZ)I"⟩ ∈ zG := List.mem_filter.mpr ⟨List.mem_of_getElem? (i := 533) (by decide +kernel), rfl⟩
theorem q_534 : Cond.static ⟨"ShortBridge$Scoring", "penalty", "(IIZ)I"⟩ ∈ zG := List.mem_filter.mpr ⟨List.mem_of_getElem? (i := 534) (by decide +kernel), rfl⟩
theorem q_535 : Cond.code ⟨"ShortBridge$Scoring", "penalty", "(IIZ)I"⟩ prog_6_method_7_code 5 (some FieldType.int) ∈ zG := List.mem_filter.mpr ⟨List.mem_of_getElem? (i := 535) (by decide +kernel), rfl⟩
theorem q_536 : Cond.methodLink "ShortBridge$Scoring" 42 ⟨"ShortBridge$Scoring", "missingTrick", "(IZ)I"⟩ ∈ zG := List.mem_filter.mpr ⟨List.mem_of_getElem? (i := 536) (by decide +kernel), rfl⟩
theorem q_537 : Cond.static ⟨"ShortBridge$Scoring", "missingTrick", "(IZ)I"⟩ ∈ zG := List.mem_filter.mpr ⟨List.mem_of_getElem? (i := 537) (by decide +kernel), rfl⟩
theorem q_538 : Cond.code ⟨"ShortBridge$Scoring", "missingTrick", "(IZ)I"⟩ prog_6_method_8_code 2 (some FieldType.int) ∈ zG := List.mem_filter.mpr ⟨List.mem_of_getElem? (i := 538) (by decide +kernel), rfl⟩
theorem q_539 : Cond.methodLink "ShortBridge$Scoring" 21 ⟨"ShortBridge$Scoring", "made", "(IIZ)I"⟩ ∈ zG := List.mem_filter.mpr ⟨List.mem_of_getElem? (i := 539) (by decide +kernel), rfl⟩
theorem q_540 : Cond.static ⟨"ShortBridge$Scoring", "made", "(IIZ)I"⟩ ∈ zG := List.mem_filter.mpr ⟨List.mem_of_getElem? (i := 540) (by decide +kernel), rfl⟩
theorem q_541 : Cond.code ⟨"ShortBridge$Scoring", "made", "(IIZ)I"⟩ prog_6_method_5_code 6 (some FieldType.int) ∈ zG := List.mem_filter.mpr ⟨List.mem_of_getElem? (i := 541) (by decide +kernel), rfl⟩
theorem q_542 : Cond.methodLink "ShortBridge$Scoring" 36 ⟨"ShortBridge$Auction", "strain", "(I)I"⟩ ∈ zG := List.mem_filter.mpr ⟨List.mem_of_getElem? (i := 542) (by decide +kernel), rfl⟩
theorem q_543 : Cond.methodLink "ShortBridge$Scoring" 39 ⟨"ShortBridge$Scoring", "worth", "(I)I"⟩ ∈ zG := List.mem_filter.mpr ⟨List.mem_of_getElem? (i := 543) (by decide +kernel), rfl⟩
theorem q_544 : Cond.static ⟨"ShortBridge$Scoring", "worth", "(I)I"⟩ ∈ zG := List.mem_filter.mpr ⟨List.mem_of_getElem? (i := 544) (by decide +kernel), rfl⟩
theorem q_545 : Cond.code ⟨"ShortBridge$Scoring", "worth", "(I)I"⟩ prog_6_method_4_code 1 (some FieldType.int) ∈ zG := List.mem_filter.mpr ⟨List.mem_of_getElem? (i := 545) (by decide +kernel), rfl⟩
theorem q_546 : Cond.methodLink "ShortBridge$Scoring" 24 ⟨"ShortBridge$Scoring", "extraTrick", "(IIZ)I"⟩ ∈ zG := List.mem_filter.mpr ⟨List.mem_of_getElem? (i := 546) (by decide +kernel), rfl⟩
theorem q_547 : Cond.static ⟨"ShortBridge$Scoring", "extraTrick", "(IIZ)I"⟩ ∈ zG := List.mem_filter.mpr ⟨List.mem_of_getElem? (i := 547) (by decide +kernel), rfl⟩
theorem q_548 : Cond.code ⟨"ShortBridge$Scoring", "extraTrick", "(IIZ)I"⟩ prog_6_method_6_code 3 (some FieldType.int) ∈ zG := List.mem_filter.mpr ⟨List.mem_of_getElem? (i := 548) (by decide +kernel), rfl⟩
theorem q_549 : Cond.methodLink "ShortBridgeLaw" 111 ⟨"ShortBridgeLaw", "solve", "(LShortBridge;[J)I"⟩ ∈ zG := List.mem_filter.mpr ⟨List.mem_of_getElem? (i := 549) (by decide +kernel), rfl⟩
theorem q_550 : Cond.static ⟨"ShortBridgeLaw", "solve", "(LShortBridge;[J)I"⟩ ∈ zG := List.mem_filter.mpr ⟨List.mem_of_getElem? (i := 550) (by decide +kernel), rfl⟩
theorem q_552 : Cond.methodLink "ShortBridgeLaw" 28 ⟨"ShortBridge", "solve", "()I"⟩ ∈ zG := List.mem_filter.mpr ⟨List.mem_of_getElem? (i := 552) (by decide +kernel), rfl⟩
theorem q_553 : Cond.instanceMethod ⟨"ShortBridge", "solve", "()I"⟩ ∈ zG := List.mem_filter.mpr ⟨List.mem_of_getElem? (i := 553) (by decide +kernel), rfl⟩
theorem q_554 : Cond.selects "ShortBridge" ⟨"ShortBridge", "solve", "()I"⟩ ⟨"ShortBridge", "solve", "()I"⟩ ∈ zG := List.mem_filter.mpr ⟨List.mem_of_getElem? (i := 554) (by decide +kernel), rfl⟩
theorem q_555 : Cond.code ⟨"ShortBridge", "solve", "()I"⟩ prog_1_method_15_code 1 (some FieldType.int) ∈ zG := List.mem_filter.mpr ⟨List.mem_of_getElem? (i := 555) (by decide +kernel), rfl⟩
theorem q_557 : Cond.methodLink "ShortBridge" 173 ⟨"ShortBridge$Solver", "tricksOf", "(LShortBridge$Hands;I)I"⟩ ∈ zG := List.mem_filter.mpr ⟨List.mem_of_getElem? (i := 557) (by decide +kernel), rfl⟩
theorem q_558 : Cond.static ⟨"ShortBridge$Solver", "tricksOf", "(LShortBridge$Hands;I)I"⟩ ∈ zG := List.mem_filter.mpr ⟨List.mem_of_getElem? (i := 558) (by decide +kernel), rfl⟩
theorem q_559 : Cond.code ⟨"ShortBridge$Solver", "tricksOf", "(LShortBridge$Hands;I)I"⟩ prog_7_method_2_code 4 (some FieldType.int) ∈ zG := List.mem_filter.mpr ⟨List.mem_of_getElem? (i := 559) (by decide +kernel), rfl⟩
theorem q_560 : Cond.methodLink "ShortBridge$Solver" 15 ⟨"ShortBridge$Solver", "tricksIn", "(I)I"⟩ ∈ zG := List.mem_filter.mpr ⟨List.mem_of_getElem? (i := 560) (by decide +kernel), rfl⟩
theorem q_561 : Cond.static ⟨"ShortBridge$Solver", "tricksIn", "(I)I"⟩ ∈ zG := List.mem_filter.mpr ⟨List.mem_of_getElem? (i := 561) (by decide +kernel), rfl⟩
theorem q_562 : Cond.code ⟨"ShortBridge$Solver", "tricksIn", "(I)I"⟩ prog_7_method_3_code 1 (some FieldType.int) ∈ zG := List.mem_filter.mpr ⟨List.mem_of_getElem? (i := 562) (by decide +kernel), rfl⟩
theorem q_563 : Cond.methodLink "ShortBridge$Solver" 21 ⟨"ShortBridge$Solver", "reaches", "(LShortBridge$Hands;III)Z"⟩ ∈ zG := List.mem_filter.mpr ⟨List.mem_of_getElem? (i := 563) (by decide +kernel), rfl⟩
theorem q_564 : Cond.static ⟨"ShortBridge$Solver", "reaches", "(LShortBridge$Hands;III)Z"⟩ ∈ zG := List.mem_filter.mpr ⟨List.mem_of_getElem? (i := 564) (by decide +kernel), rfl⟩
theorem q_565 : Cond.code ⟨"ShortBridge$Solver", "reaches", "(LShortBridge$Hands;III)Z"⟩ prog_7_method_4_code 11 (some FieldType.boolean) ∈ zG := List.mem_filter.mpr ⟨List.mem_of_getElem? (i := 565) (by decide +kernel), rfl⟩
theorem q_566 : Cond.methodLink "ShortBridge$Solver" 28 ⟨"ShortBridge$Hands", "player", "()I"⟩ ∈ zG := List.mem_filter.mpr ⟨List.mem_of_getElem? (i := 566) (by decide +kernel), rfl⟩
theorem q_568 : Cond.methodLink "ShortBridge$Solver" 35 ⟨"ShortBridge$Hands", "allowed", "()I"⟩ ∈ zG := List.mem_filter.mpr ⟨List.mem_of_getElem? (i := 568) (by decide +kernel), rfl⟩
theorem q_569 : Cond.methodLink "ShortBridge$Solver" 38 ⟨"ShortBridge$Hands", "live", "()I"⟩ ∈ zG := List.mem_filter.mpr ⟨List.mem_of_getElem? (i := 569) (by decide +kernel), rfl⟩
theorem q_570 : Cond.instanceMethod ⟨"ShortBridge$Hands", "live", "()I"⟩ ∈ zG := List.mem_filter.mpr ⟨List.mem_of_getElem? (i := 570) (by decide +kernel), rfl⟩
theorem q_571 : Cond.selects "ShortBridge$Hands" ⟨"ShortBridge$Hands", "live", "()I"⟩ ⟨"ShortBridge$Hands", "live", "()I"⟩ ∈ zG := List.mem_filter.mpr ⟨List.mem_of_getElem? (i := 571) (by decide +kernel), rfl⟩
theorem q_572 : Cond.code ⟨"ShortBridge$Hands", "live", "()I"⟩ prog_4_method_13_code 3 (some FieldType.int) ∈ zG := List.mem_filter.mpr ⟨List.mem_of_getElem? (i := 572) (by decide +kernel), rfl⟩
theorem q_573 : Cond.methodLink "ShortBridge$Solver" 45 ⟨"ShortBridge$Solver", "areAlike", "(III)Z"⟩ ∈ zG := List.mem_filter.mpr ⟨List.mem_of_getElem? (i := 573) (by decide +kernel), rfl⟩
theorem q_574 : Cond.static ⟨"ShortBridge$Solver", "areAlike", "(III)Z"⟩ ∈ zG := List.mem_filter.mpr ⟨List.mem_of_getElem? (i := 574) (by decide +kernel), rfl⟩
theorem q_575 : Cond.code ⟨"ShortBridge$Solver", "areAlike", "(III)Z"⟩ prog_7_method_6_code 4 (some FieldType.boolean) ∈ zG := List.mem_filter.mpr ⟨List.mem_of_getElem? (i := 575) (by decide +kernel), rfl⟩
theorem q_576 : Cond.methodLink "ShortBridge$Solver" 49 ⟨"ShortBridge$Solver", "reachesWith", "(ILShortBridge$Hands;III)Z"⟩ ∈ zG := List.mem_filter.mpr ⟨List.mem_of_getElem? (i := 576) (by decide +kernel), rfl⟩
theorem q_577 : Cond.static ⟨"ShortBridge$Solver", "reachesWith", "(ILShortBridge$Hands;III)Z"⟩ ∈ zG := List.mem_filter.mpr ⟨List.mem_of_getElem? (i := 577) (by decide +kernel), rfl⟩
theorem q_578 : Cond.code ⟨"ShortBridge$Solver", "reachesWith", "(ILShortBridge$Hands;III)Z"⟩ prog_7_method_5_code 7 (some FieldType.boolean) ∈ zG := List.mem_filter.mpr ⟨List.mem_of_getElem? (i := 578) (by decide +kernel), rfl⟩
theorem q_579 : Cond.methodLink "ShortBridge$Solver" 53 ⟨"ShortBridge$Hands", "put", "(I)V"⟩ ∈ zG := List.mem_filter.mpr ⟨List.mem_of_getElem? (i := 579) (by decide +kernel), rfl⟩
theorem q_580 : Cond.methodLink "ShortBridge$Solver" 57 ⟨"ShortBridge$Hands", "takeBack", "()V"⟩ ∈ zG := List.mem_filter.mpr ⟨List.mem_of_getElem? (i := 580) (by decide +kernel), rfl⟩
theorem q_581 : Cond.methodLink "ShortBridge$Solver" 25 ⟨"ShortBridge$Hands", "won", "(I)I"⟩ ∈ zG := List.mem_filter.mpr ⟨List.mem_of_getElem? (i := 581) (by decide +kernel), rfl⟩
theorem q_582 : Cond.methodLink "ShortBridgeLaw" 114 ⟨"ShortBridgeLaw", "record", "(LShortBridge;[J)I"⟩ ∈ zG := List.mem_filter.mpr ⟨List.mem_of_getElem? (i := 582) (by decide +kernel), rfl⟩
theorem q_583 : Cond.static ⟨"ShortBridgeLaw", "record", "(LShortBridge;[J)I"⟩ ∈ zG := List.mem_filter.mpr ⟨List.mem_of_getElem? (i := 583) (by decide +kernel), rfl⟩
theorem q_585 : Cond.methodLink "ShortBridgeLaw" 31 ⟨"ShortBridge", "record", "()I"⟩ ∈ zG := List.mem_filter.mpr ⟨List.mem_of_getElem? (i := 585) (by decide +kernel), rfl⟩
theorem q_586 : Cond.instanceMethod ⟨"ShortBridge", "record", "()I"⟩ ∈ zG := List.mem_filter.mpr ⟨List.mem_of_getElem? (i := 586) (by decide +kernel), rfl⟩
theorem q_587 : Cond.selects "ShortBridge" ⟨"ShortBridge", "record", "()I"⟩ ⟨"ShortBridge", "record", "()I"⟩ ∈ zG := List.mem_filter.mpr ⟨List.mem_of_getElem? (i := 587) (by decide +kernel), rfl⟩
theorem q_588 : Cond.code ⟨"ShortBridge", "record", "()I"⟩ prog_1_method_16_code 1 (some FieldType.int) ∈ zG := List.mem_filter.mpr ⟨List.mem_of_getElem? (i := 588) (by decide +kernel), rfl⟩
theorem q_589 : Cond.methodLink "ShortBridge" 179 ⟨"ShortBridge$Results", "areFull", "()Z"⟩ ∈ zG := List.mem_filter.mpr ⟨List.mem_of_getElem? (i := 589) (by decide +kernel), rfl⟩
theorem q_590 : Cond.instanceMethod ⟨"ShortBridge$Results", "areFull", "()Z"⟩ ∈ zG := List.mem_filter.mpr ⟨List.mem_of_getElem? (i := 590) (by decide +kernel), rfl⟩
theorem q_591 : Cond.selects "ShortBridge$Results" ⟨"ShortBridge$Results", "areFull", "()Z"⟩ ⟨"ShortBridge$Results", "areFull", "()Z"⟩ ∈ zG := List.mem_filter.mpr ⟨List.mem_of_getElem? (i := 591) (by decide +kernel), rfl⟩
theorem q_592 : Cond.code ⟨"ShortBridge$Results", "areFull", "()Z"⟩ prog_5_method_2_code 1 (some FieldType.boolean) ∈ zG := List.mem_filter.mpr ⟨List.mem_of_getElem? (i := 592) (by decide +kernel), rfl⟩
theorem q_594 : Cond.methodLink "ShortBridge" 184 ⟨"ShortBridge$Results", "add", "(JI)V"⟩ ∈ zG := List.mem_filter.mpr ⟨List.mem_of_getElem? (i := 594) (by decide +kernel), rfl⟩
theorem q_595 : Cond.instanceMethod ⟨"ShortBridge$Results", "add", "(JI)V"⟩ ∈ zG := List.mem_filter.mpr ⟨List.mem_of_getElem? (i := 595) (by decide +kernel), rfl⟩
theorem q_596 : Cond.selects "ShortBridge$Results" ⟨"ShortBridge$Results", "add", "(JI)V"⟩ ⟨"ShortBridge$Results", "add", "(JI)V"⟩ ∈ zG := List.mem_filter.mpr ⟨List.mem_of_getElem? (i := 596) (by decide +kernel), rfl⟩
theorem q_597 : Cond.code ⟨"ShortBridge$Results", "add", "(JI)V"⟩ prog_5_method_4_code 4 none ∈ zG := List.mem_filter.mpr ⟨List.mem_of_getElem? (i := 597) (by decide +kernel), rfl⟩
theorem q_598 : Cond.methodLink "ShortBridgeLaw" 117 ⟨"ShortBridgeLaw", "points", "(LShortBridge;II[J)I"⟩ ∈ zG := List.mem_filter.mpr ⟨List.mem_of_getElem? (i := 598) (by decide +kernel), rfl⟩
theorem q_599 : Cond.static ⟨"ShortBridgeLaw", "points", "(LShortBridge;II[J)I"⟩ ∈ zG := List.mem_filter.mpr ⟨List.mem_of_getElem? (i := 599) (by decide +kernel), rfl⟩
theorem q_601 : Cond.classLink "ShortBridgeLaw" 38 "java/lang/IndexOutOfBoundsException" ∈ zG := List.mem_filter.mpr ⟨List.mem_of_getElem? (i := 601) (by decide +kernel), rfl⟩
theorem q_602 : Cond.methodLink "ShortBridgeLaw" 34 ⟨"ShortBridge", "points", "(II)I"⟩ ∈ zG := List.mem_filter.mpr ⟨List.mem_of_getElem? (i := 602) (by decide +kernel), rfl⟩
theorem q_603 : Cond.instanceMethod ⟨"ShortBridge", "points", "(II)I"⟩ ∈ zG := List.mem_filter.mpr ⟨List.mem_of_getElem? (i := 603) (by decide +kernel), rfl⟩
theorem q_604 : Cond.selects "ShortBridge" ⟨"ShortBridge", "points", "(II)I"⟩ ⟨"ShortBridge", "points", "(II)I"⟩ ∈ zG := List.mem_filter.mpr ⟨List.mem_of_getElem? (i := 604) (by decide +kernel), rfl⟩
theorem q_605 : Cond.code ⟨"ShortBridge", "points", "(II)I"⟩ prog_1_method_17_code 3 (some FieldType.int) ∈ zG := List.mem_filter.mpr ⟨List.mem_of_getElem? (i := 605) (by decide +kernel), rfl⟩
theorem q_606 : Cond.methodLink "ShortBridge" 188 ⟨"ShortBridge$Results", "contain", "(I)Z"⟩ ∈ zG := List.mem_filter.mpr ⟨List.mem_of_getElem? (i := 606) (by decide +kernel), rfl⟩
theorem q_607 : Cond.instanceMethod ⟨"ShortBridge$Results", "contain", "(I)Z"⟩ ∈ zG := List.mem_filter.mpr ⟨List.mem_of_getElem? (i := 607) (by decide +kernel), rfl⟩
theorem q_608 : Cond.selects "ShortBridge$Results" ⟨"ShortBridge$Results", "contain", "(I)Z"⟩ ⟨"ShortBridge$Results", "contain", "(I)Z"⟩ ∈ zG := List.mem_filter.mpr ⟨List.mem_of_getElem? (i := 608) (by decide +kernel), rfl⟩
theorem q_609 : Cond.code ⟨"ShortBridge$Results", "contain", "(I)Z"⟩ prog_5_method_3_code 2 (some FieldType.boolean) ∈ zG := List.mem_filter.mpr ⟨List.mem_of_getElem? (i := 609) (by decide +kernel), rfl⟩
theorem q_610 : Cond.classLink "ShortBridge" 191 "java/lang/IndexOutOfBoundsException" ∈ zG := List.mem_filter.mpr ⟨List.mem_of_getElem? (i := 610) (by decide +kernel), rfl⟩
theorem q_611 : Cond.instantiable "java/lang/IndexOutOfBoundsException" 6 ∈ zG := List.mem_filter.mpr ⟨List.mem_of_getElem? (i := 611) (by decide +kernel), rfl⟩
theorem q_613 : Cond.selects "java/lang/IndexOutOfBoundsException" ⟨"java/lang/Throwable", "fillInStackTrace", "(I)Ljava/lang/Throwable;"⟩ ⟨"java/lang/Throwable", "fillInStackTrace", "(I)Ljava/lang/Throwable;"⟩ ∈ zG := List.mem_filter.mpr ⟨List.mem_of_getElem? (i := 613) (by decide +kernel), rfl⟩
theorem q_614 : Cond.lays "java/lang/IndexOutOfBoundsException" "java/lang/Throwable" "cause" "Ljava/lang/Throwable;" ∈ zG := List.mem_filter.mpr ⟨List.mem_of_getElem? (i := 614) (by decide +kernel), rfl⟩
theorem q_615 : Cond.lays "java/lang/IndexOutOfBoundsException" "java/lang/Throwable" "stackTrace" "[Ljava/lang/StackTraceElement;" ∈ zG := List.mem_filter.mpr ⟨List.mem_of_getElem? (i := 615) (by decide +kernel), rfl⟩
theorem q_616 : Cond.lays "java/lang/IndexOutOfBoundsException" "java/lang/Throwable" "suppressedExceptions" "Ljava/util/List;" ∈ zG := List.mem_filter.mpr ⟨List.mem_of_getElem? (i := 616) (by decide +kernel), rfl⟩
theorem q_617 : Cond.lays "java/lang/IndexOutOfBoundsException" "java/lang/Throwable" "detailMessage" "Ljava/lang/String;" ∈ zG := List.mem_filter.mpr ⟨List.mem_of_getElem? (i := 617) (by decide +kernel), rfl⟩
theorem q_618 : Cond.lays "java/lang/IndexOutOfBoundsException" "java/lang/Throwable" "backtrace" "Ljava/lang/Object;" ∈ zG := List.mem_filter.mpr ⟨List.mem_of_getElem? (i := 618) (by decide +kernel), rfl⟩
theorem q_620 : Cond.methodLink "ShortBridge" 195 ⟨"java/lang/IndexOutOfBoundsException", "<init>", "(Ljava/lang/String;)V"⟩ ∈ zG := List.mem_filter.mpr ⟨List.mem_of_getElem? (i := 620) (by decide +kernel), rfl⟩
theorem q_621 : Cond.instanceMethod ⟨"java/lang/IndexOutOfBoundsException", "<init>", "(Ljava/lang/String;)V"⟩ ∈ zG := List.mem_filter.mpr ⟨List.mem_of_getElem? (i := 621) (by decide +kernel), rfl⟩
theorem q_622 : Cond.code ⟨"java/lang/IndexOutOfBoundsException", "<init>", "(Ljava/lang/String;)V"⟩ prog_13_method_2_code 2 none ∈ zG := List.mem_filter.mpr ⟨List.mem_of_getElem? (i := 622) (by decide +kernel), rfl⟩
theorem q_623 : Cond.methodLink "java/lang/IndexOutOfBoundsException" 7 ⟨"java/lang/RuntimeException", "<init>", "(Ljava/lang/String;)V"⟩ ∈ zG := List.mem_filter.mpr ⟨List.mem_of_getElem? (i := 623) (by decide +kernel), rfl⟩
theorem q_624 : Cond.lays "java/lang/IndexOutOfBoundsException" "java/lang/Throwable" "depth" "I" ∈ zG := List.mem_filter.mpr ⟨List.mem_of_getElem? (i := 624) (by decide +kernel), rfl⟩
theorem q_626 : Cond.methodLink "ShortBridge" 200 ⟨"ShortBridge$Scoring", "pointsOf", "(I)I"⟩ ∈ zG := List.mem_filter.mpr ⟨List.mem_of_getElem? (i := 626) (by decide +kernel), rfl⟩
theorem q_627 : Cond.static ⟨"ShortBridge$Scoring", "pointsOf", "(I)I"⟩ ∈ zG := List.mem_filter.mpr ⟨List.mem_of_getElem? (i := 627) (by decide +kernel), rfl⟩
theorem q_628 : Cond.code ⟨"ShortBridge$Scoring", "pointsOf", "(I)I"⟩ prog_6_method_3_code 4 (some FieldType.int) ∈ zG := List.mem_filter.mpr ⟨List.mem_of_getElem? (i := 628) (by decide +kernel), rfl⟩
theorem q_629 : Cond.methodLink "ShortBridge$Scoring" 27 ⟨"java/lang/Math", "abs", "(I)I"⟩ ∈ zG := List.mem_filter.mpr ⟨List.mem_of_getElem? (i := 629) (by decide +kernel), rfl⟩
theorem q_630 : Cond.static ⟨"java/lang/Math", "abs", "(I)I"⟩ ∈ zG := List.mem_filter.mpr ⟨List.mem_of_getElem? (i := 630) (by decide +kernel), rfl⟩
theorem q_631 : Cond.code ⟨"java/lang/Math", "abs", "(I)I"⟩ prog_14_method_59_code 1 (some FieldType.int) ∈ zG := List.mem_filter.mpr ⟨List.mem_of_getElem? (i := 631) (by decide +kernel), rfl⟩
theorem q_632 : Cond.fieldLink "ShortBridge$Scoring" 32 "ShortBridge$Scoring" "STEPS" "[I" ∈ zG := List.mem_filter.mpr ⟨List.mem_of_getElem? (i := 632) (by decide +kernel), rfl⟩
theorem q_634 : Cond.methodLink "ShortBridgeLaw" 121 ⟨"ShortBridgeLaw", "places", "(LShortBridge;I[J)I"⟩ ∈ zG := List.mem_filter.mpr ⟨List.mem_of_getElem? (i := 634) (by decide +kernel), rfl⟩
theorem q_635 : Cond.static ⟨"ShortBridgeLaw", "places", "(LShortBridge;I[J)I"⟩ ∈ zG := List.mem_filter.mpr ⟨List.mem_of_getElem? (i := 635) (by decide +kernel), rfl⟩
theorem q_637 : Cond.methodLink "ShortBridgeLaw" 40 ⟨"ShortBridge", "places", "(I)I"⟩ ∈ zG := List.mem_filter.mpr ⟨List.mem_of_getElem? (i := 637) (by decide +kernel), rfl⟩
theorem q_638 : Cond.instanceMethod ⟨"ShortBridge", "places", "(I)I"⟩ ∈ zG := List.mem_filter.mpr ⟨List.mem_of_getElem? (i := 638) (by decide +kernel), rfl⟩
theorem q_639 : Cond.selects "ShortBridge" ⟨"ShortBridge", "places", "(I)I"⟩ ⟨"ShortBridge", "places", "(I)I"⟩ ∈ zG := List.mem_filter.mpr ⟨List.mem_of_getElem? (i := 639) (by decide +kernel), rfl⟩
theorem q_640 : Cond.code ⟨"ShortBridge", "places", "(I)I"⟩ prog_1_method_18_code 2 (some FieldType.int) ∈ zG := List.mem_filter.mpr ⟨List.mem_of_getElem? (i := 640) (by decide +kernel), rfl⟩
theorem q_641 : Cond.methodLink "ShortBridge" 205 ⟨"ShortBridge$Results", "compare", "(I)I"⟩ ∈ zG := List.mem_filter.mpr ⟨List.mem_of_getElem? (i := 641) (by decide +kernel), rfl⟩
theorem q_642 : Cond.instanceMethod ⟨"ShortBridge$Results", "compare", "(I)I"⟩ ∈ zG := List.mem_filter.mpr ⟨List.mem_of_getElem? (i := 642) (by decide +kernel), rfl⟩
theorem q_643 : Cond.selects "ShortBridge$Results" ⟨"ShortBridge$Results", "compare", "(I)I"⟩ ⟨"ShortBridge$Results", "compare", "(I)I"⟩ ∈ zG := List.mem_filter.mpr ⟨List.mem_of_getElem? (i := 643) (by decide +kernel), rfl⟩
theorem q_644 : Cond.code ⟨"ShortBridge$Results", "compare", "(I)I"⟩ prog_5_method_5_code 4 (some FieldType.int) ∈ zG := List.mem_filter.mpr ⟨List.mem_of_getElem? (i := 644) (by decide +kernel), rfl⟩
theorem q_645 : Cond.methodLink "ShortBridge$Results" 21 ⟨"ShortBridge$Results", "worthAgainst", "(II)I"⟩ ∈ zG := List.mem_filter.mpr ⟨List.mem_of_getElem? (i := 645) (by decide +kernel), rfl⟩
theorem q_646 : Cond.static ⟨"ShortBridge$Results", "worthAgainst", "(II)I"⟩ ∈ zG := List.mem_filter.mpr ⟨List.mem_of_getElem? (i := 646) (by decide +kernel), rfl⟩
theorem q_647 : Cond.code ⟨"ShortBridge$Results", "worthAgainst", "(II)I"⟩ prog_5_method_6_code 2 (some FieldType.int) ∈ zG := List.mem_filter.mpr ⟨List.mem_of_getElem? (i := 647) (by decide +kernel), rfl⟩
theorem q_648 : Cond.classLink "ShortBridgeLaw" 45 "ShortBridgeModel" ∈ zG := List.mem_filter.mpr ⟨List.mem_of_getElem? (i := 648) (by decide +kernel), rfl⟩
theorem q_649 : Cond.instantiable "ShortBridgeModel" 25 ∈ zG := List.mem_filter.mpr ⟨List.mem_of_getElem? (i := 649) (by decide +kernel), rfl⟩
theorem q_650 : Cond.methodLink "ShortBridgeLaw" 47 ⟨"ShortBridgeModel", "<init>", "()V"⟩ ∈ zG := List.mem_filter.mpr ⟨List.mem_of_getElem? (i := 650) (by decide +kernel), rfl⟩
theorem q_651 : Cond.instanceMethod ⟨"ShortBridgeModel", "<init>", "()V"⟩ ∈ zG := List.mem_filter.mpr ⟨List.mem_of_getElem? (i := 651) (by decide +kernel), rfl⟩
theorem q_652 : Cond.code ⟨"ShortBridgeModel", "<init>", "()V"⟩ prog_9_method_1_code 3 none ∈ zG := List.mem_filter.mpr ⟨List.mem_of_getElem? (i := 652) (by decide +kernel), rfl⟩
theorem q_653 : Cond.methodLink "ShortBridgeModel" 1 ⟨"java/lang/Object", "<init>", "()V"⟩ ∈ zG := List.mem_filter.mpr ⟨List.mem_of_getElem? (i := 653) (by decide +kernel), rfl⟩
theorem q_654 : Cond.fieldLink "ShortBridgeModel" 50 "ShortBridgeModel" "code" "I" ∈ zG := List.mem_filter.mpr ⟨List.mem_of_getElem? (i := 654) (by decide +kernel), rfl⟩
theorem q_655 : Cond.fieldLink "ShortBridgeModel" 63 "ShortBridgeModel" "board" "Z" ∈ zG := List.mem_filter.mpr ⟨List.mem_of_getElem? (i := 655) (by decide +kernel), rfl⟩
theorem q_656 : Cond.fieldLink "ShortBridgeModel" 71 "ShortBridgeModel" "dealNumber" "J" ∈ zG := List.mem_filter.mpr ⟨List.mem_of_getElem? (i := 656) (by decide +kernel), rfl⟩
theorem q_657 : Cond.fieldLink "ShortBridgeModel" 75 "ShortBridgeModel" "dealer" "I" ∈ zG := List.mem_filter.mpr ⟨List.mem_of_getElem? (i := 657) (by decide +kernel), rfl⟩
theorem q_658 : Cond.fieldLink "ShortBridgeModel" 78 "ShortBridgeModel" "vulnerable" "I" ∈ zG := List.mem_filter.mpr ⟨List.mem_of_getElem? (i := 658) (by decide +kernel), rfl⟩
theorem q_659 : Cond.fieldLink "ShortBridgeModel" 7 "ShortBridgeModel" "owner" "[I" ∈ zG := List.mem_filter.mpr ⟨List.mem_of_getElem? (i := 659) (by decide +kernel), rfl⟩
theorem q_660 : Cond.fieldLink "ShortBridgeModel" 13 "ShortBridgeModel" "ways" "[J" ∈ zG := List.mem_filter.mpr ⟨List.mem_of_getElem? (i := 660) (by decide +kernel), rfl⟩
theorem q_661 : Cond.fieldLink "ShortBridgeModel" 81 "ShortBridgeModel" "calls" "I" ∈ zG := List.mem_filter.mpr ⟨List.mem_of_getElem? (i := 661) (by decide +kernel), rfl⟩
theorem q_662 : Cond.fieldLink "ShortBridgeModel" 17 "ShortBridgeModel" "call" "[I" ∈ zG := List.mem_filter.mpr ⟨List.mem_of_getElem? (i := 662) (by decide +kernel), rfl⟩
theorem q_663 : Cond.fieldLink "ShortBridgeModel" 84 "ShortBridgeModel" "cards" "I" ∈ zG := List.mem_filter.mpr ⟨List.mem_of_getElem? (i := 663) (by decide +kernel), rfl⟩
theorem q_664 : Cond.fieldLink "ShortBridgeModel" 20 "ShortBridgeModel" "card" "[I" ∈ zG := List.mem_filter.mpr ⟨List.mem_of_getElem? (i := 664) (by decide +kernel), rfl⟩
theorem q_665 : Cond.fieldLink "ShortBridgeModel" 107 "ShortBridgeModel" "bid" "I" ∈ zG := List.mem_filter.mpr ⟨List.mem_of_getElem? (i := 665) (by decide +kernel), rfl⟩
theorem q_666 : Cond.fieldLink "ShortBridgeModel" 110 "ShortBridgeModel" "doubled" "I" ∈ zG := List.mem_filter.mpr ⟨List.mem_of_getElem? (i := 666) (by decide +kernel), rfl⟩
theorem q_667 : Cond.fieldLink "ShortBridgeModel" 117 "ShortBridgeModel" "declarer" "I" ∈ zG := List.mem_filter.mpr ⟨List.mem_of_getElem? (i := 667) (by decide +kernel), rfl⟩
theorem q_668 : Cond.fieldLink "ShortBridgeModel" 123 "ShortBridgeModel" "ended" "Z" ∈ zG := List.mem_filter.mpr ⟨List.mem_of_getElem? (i := 668) (by decide +kernel), rfl⟩
theorem q_669 : Cond.fieldLink "ShortBridgeModel" 23 "ShortBridgeModel" "turnAt" "[I" ∈ zG := List.mem_filter.mpr ⟨List.mem_of_getElem? (i := 669) (by decide +kernel), rfl⟩
theorem q_670 : Cond.fieldLink "ShortBridgeModel" 26 "ShortBridgeModel" "wonAt" "[I" ∈ zG := List.mem_filter.mpr ⟨List.mem_of_getElem? (i := 670) (by decide +kernel), rfl⟩
theorem q_671 : Cond.fieldLink "ShortBridgeModel" 29 "ShortBridgeModel" "goneAt" "[I" ∈ zG := List.mem_filter.mpr ⟨List.mem_of_getElem? (i := 671) (by decide +kernel), rfl⟩
theorem q_672 : Cond.fieldLink "ShortBridgeModel" 32 "ShortBridgeModel" "look" "[I" ∈ zG := List.mem_filter.mpr ⟨List.mem_of_getElem? (i := 672) (by decide +kernel), rfl⟩
theorem q_673 : Cond.fieldLink "ShortBridgeModel" 35 "ShortBridgeModel" "best" "[I" ∈ zG := List.mem_filter.mpr ⟨List.mem_of_getElem? (i := 673) (by decide +kernel), rfl⟩
theorem q_674 : Cond.fieldLink "ShortBridgeModel" 38 "ShortBridgeModel" "low" "[I" ∈ zG := List.mem_filter.mpr ⟨List.mem_of_getElem? (i := 674) (by decide +kernel), rfl⟩
theorem q_675 : Cond.fieldLink "ShortBridgeModel" 41 "ShortBridgeModel" "high" "[I" ∈ zG := List.mem_filter.mpr ⟨List.mem_of_getElem? (i := 675) (by decide +kernel), rfl⟩
theorem q_676 : Cond.fieldLink "ShortBridgeModel" 184 "ShortBridgeModel" "results" "I" ∈ zG := List.mem_filter.mpr ⟨List.mem_of_getElem? (i := 676) (by decide +kernel), rfl⟩
theorem q_677 : Cond.fieldLink "ShortBridgeModel" 44 "ShortBridgeModel" "scores" "[I" ∈ zG := List.mem_filter.mpr ⟨List.mem_of_getElem? (i := 677) (by decide +kernel), rfl⟩
theorem q_678 : Cond.fieldLink "ShortBridgeModel" 47 "ShortBridgeModel" "numbers" "[J" ∈ zG := List.mem_filter.mpr ⟨List.mem_of_getElem? (i := 678) (by decide +kernel), rfl⟩
theorem q_679 : Cond.lays "ShortBridgeModel" "ShortBridgeModel" "code" "I" ∈ zG := List.mem_filter.mpr ⟨List.mem_of_getElem? (i := 679) (by decide +kernel), rfl⟩
theorem q_681 : Cond.lays "ShortBridgeModel" "ShortBridgeModel" "board" "Z" ∈ zG := List.mem_filter.mpr ⟨List.mem_of_getElem? (i := 681) (by decide +kernel), rfl⟩
theorem q_683 : Cond.lays "ShortBridgeModel" "ShortBridgeModel" "dealNumber" "J" ∈ zG := List.mem_filter.mpr ⟨List.mem_of_getElem? (i := 683) (by decide +kernel), rfl⟩
theorem q_685 : Cond.lays "ShortBridgeModel" "ShortBridgeModel" "dealer" "I" ∈ zG := List.mem_filter.mpr ⟨List.mem_of_getElem? (i := 685) (by decide +kernel), rfl⟩
theorem q_687 : Cond.lays "ShortBridgeModel" "ShortBridgeModel" "vulnerable" "I" ∈ zG := List.mem_filter.mpr ⟨List.mem_of_getElem? (i := 687) (by decide +kernel), rfl⟩
theorem q_689 : Cond.laysFinal "ShortBridgeModel" "ShortBridgeModel" "owner" "[I" ∈ zG := List.mem_filter.mpr ⟨List.mem_of_getElem? (i := 689) (by decide +kernel), rfl⟩
theorem q_691 : Cond.laysFinal "ShortBridgeModel" "ShortBridgeModel" "ways" "[J" ∈ zG := List.mem_filter.mpr ⟨List.mem_of_getElem? (i := 691) (by decide +kernel), rfl⟩
theorem q_693 : Cond.lays "ShortBridgeModel" "ShortBridgeModel" "calls" "I" ∈ zG := List.mem_filter.mpr ⟨List.mem_of_getElem? (i := 693) (by decide +kernel), rfl⟩
theorem q_695 : Cond.laysFinal "ShortBridgeModel" "ShortBridgeModel" "call" "[I" ∈ zG := List.mem_filter.mpr ⟨List.mem_of_getElem? (i := 695) (by decide +kernel), rfl⟩
theorem q_697 : Cond.lays "ShortBridgeModel" "ShortBridgeModel" "cards" "I" ∈ zG := List.mem_filter.mpr ⟨List.mem_of_getElem? (i := 697) (by decide +kernel), rfl⟩
theorem q_699 : Cond.laysFinal "ShortBridgeModel" "ShortBridgeModel" "card" "[I" ∈ zG := List.mem_filter.mpr ⟨List.mem_of_getElem? (i := 699) (by decide +kernel), rfl⟩
theorem q_701 : Cond.lays "ShortBridgeModel" "ShortBridgeModel" "bid" "I" ∈ zG := List.mem_filter.mpr ⟨List.mem_of_getElem? (i := 701) (by decide +kernel), rfl⟩
theorem q_703 : Cond.lays "ShortBridgeModel" "ShortBridgeModel" "doubled" "I" ∈ zG := List.mem_filter.mpr ⟨List.mem_of_getElem? (i := 703) (by decide +kernel), rfl⟩
theorem q_705 : Cond.lays "ShortBridgeModel" "ShortBridgeModel" "declarer" "I" ∈ zG := List.mem_filter.mpr ⟨List.mem_of_getElem? (i := 705) (by decide +kernel), rfl⟩
theorem q_707 : Cond.lays "ShortBridgeModel" "ShortBridgeModel" "ended" "Z" ∈ zG := List.mem_filter.mpr ⟨List.mem_of_getElem? (i := 707) (by decide +kernel), rfl⟩
theorem q_709 : Cond.laysFinal "ShortBridgeModel" "ShortBridgeModel" "turnAt" "[I" ∈ zG := List.mem_filter.mpr ⟨List.mem_of_getElem? (i := 709) (by decide +kernel), rfl⟩
theorem q_711 : Cond.laysFinal "ShortBridgeModel" "ShortBridgeModel" "wonAt" "[I" ∈ zG := List.mem_filter.mpr ⟨List.mem_of_getElem? (i := 711) (by decide +kernel), rfl⟩
theorem q_713 : Cond.laysFinal "ShortBridgeModel" "ShortBridgeModel" "goneAt" "[I" ∈ zG := List.mem_filter.mpr ⟨List.mem_of_getElem? (i := 713) (by decide +kernel), rfl⟩
theorem q_715 : Cond.laysFinal "ShortBridgeModel" "ShortBridgeModel" "look" "[I" ∈ zG := List.mem_filter.mpr ⟨List.mem_of_getElem? (i := 715) (by decide +kernel), rfl⟩
theorem q_717 : Cond.laysFinal "ShortBridgeModel" "ShortBridgeModel" "best" "[I" ∈ zG := List.mem_filter.mpr ⟨List.mem_of_getElem? (i := 717) (by decide +kernel), rfl⟩
theorem q_719 : Cond.laysFinal "ShortBridgeModel" "ShortBridgeModel" "low" "[I" ∈ zG := List.mem_filter.mpr ⟨List.mem_of_getElem? (i := 719) (by decide +kernel), rfl⟩
theorem q_721 : Cond.laysFinal "ShortBridgeModel" "ShortBridgeModel" "high" "[I" ∈ zG := List.mem_filter.mpr ⟨List.mem_of_getElem? (i := 721) (by decide +kernel), rfl⟩
theorem q_723 : Cond.lays "ShortBridgeModel" "ShortBridgeModel" "results" "I" ∈ zG := List.mem_filter.mpr ⟨List.mem_of_getElem? (i := 723) (by decide +kernel), rfl⟩
theorem q_725 : Cond.laysFinal "ShortBridgeModel" "ShortBridgeModel" "scores" "[I" ∈ zG := List.mem_filter.mpr ⟨List.mem_of_getElem? (i := 725) (by decide +kernel), rfl⟩
theorem q_727 : Cond.laysFinal "ShortBridgeModel" "ShortBridgeModel" "numbers" "[J" ∈ zG := List.mem_filter.mpr ⟨List.mem_of_getElem? (i := 727) (by decide +kernel), rfl⟩
theorem q_730 : Cond.methodLink "ShortBridgeLaw" 84 ⟨"ShortBridgeModel", "thrown", "()I"⟩ ∈ zG := List.mem_filter.mpr ⟨List.mem_of_getElem? (i := 730) (by decide +kernel), rfl⟩
theorem q_731 : Cond.instanceMethod ⟨"ShortBridgeModel", "thrown", "()I"⟩ ∈ zG := List.mem_filter.mpr ⟨List.mem_of_getElem? (i := 731) (by decide +kernel), rfl⟩
theorem q_732 : Cond.selects "ShortBridgeModel" ⟨"ShortBridgeModel", "thrown", "()I"⟩ ⟨"ShortBridgeModel", "thrown", "()I"⟩ ∈ zG := List.mem_filter.mpr ⟨List.mem_of_getElem? (i := 732) (by decide +kernel), rfl⟩
theorem q_733 : Cond.code ⟨"ShortBridgeModel", "thrown", "()I"⟩ prog_9_method_2_code 1 (some FieldType.int) ∈ zG := List.mem_filter.mpr ⟨List.mem_of_getElem? (i := 733) (by decide +kernel), rfl⟩
theorem q_734 : Cond.methodLink "ShortBridgeLaw" 54 ⟨"ShortBridgeModel", "deal", "(JII)Z"⟩ ∈ zG := List.mem_filter.mpr ⟨List.mem_of_getElem? (i := 734) (by decide +kernel), rfl⟩
theorem q_735 : Cond.instanceMethod ⟨"ShortBridgeModel", "deal", "(JII)Z"⟩ ∈ zG := List.mem_filter.mpr ⟨List.mem_of_getElem? (i := 735) (by decide +kernel), rfl⟩
theorem q_736 : Cond.selects "ShortBridgeModel" ⟨"ShortBridgeModel", "deal", "(JII)Z"⟩ ⟨"ShortBridgeModel", "deal", "(JII)Z"⟩ ∈ zG := List.mem_filter.mpr ⟨List.mem_of_getElem? (i := 736) (by decide +kernel), rfl⟩
theorem q_737 : Cond.code ⟨"ShortBridgeModel", "deal", "(JII)Z"⟩ prog_9_method_9_code 5 (some FieldType.boolean) ∈ zG := List.mem_filter.mpr ⟨List.mem_of_getElem? (i := 737) (by decide +kernel), rfl⟩
theorem q_738 : Cond.constantLong "ShortBridgeModel" 87 11732745024 ∈ zG := List.mem_filter.mpr ⟨List.mem_of_getElem? (i := 738) (by decide +kernel), rfl⟩
theorem q_739 : Cond.methodLink "ShortBridgeModel" 89 ⟨"ShortBridgeModel", "isPlayer", "(I)Z"⟩ ∈ zG := List.mem_filter.mpr ⟨List.mem_of_getElem? (i := 739) (by decide +kernel), rfl⟩
theorem q_740 : Cond.static ⟨"ShortBridgeModel", "isPlayer", "(I)Z"⟩ ∈ zG := List.mem_filter.mpr ⟨List.mem_of_getElem? (i := 740) (by decide +kernel), rfl⟩
theorem q_741 : Cond.code ⟨"ShortBridgeModel", "isPlayer", "(I)Z"⟩ prog_9_method_8_code 1 (some FieldType.boolean) ∈ zG := List.mem_filter.mpr ⟨List.mem_of_getElem? (i := 741) (by decide +kernel), rfl⟩
theorem q_742 : Cond.methodLink "ShortBridgeModel" 93 ⟨"ShortBridgeModel", "unrank", "(J)V"⟩ ∈ zG := List.mem_filter.mpr ⟨List.mem_of_getElem? (i := 742) (by decide +kernel), rfl⟩
theorem q_744 : Cond.instanceMethod ⟨"ShortBridgeModel", "unrank", "(J)V"⟩ ∈ zG := List.mem_filter.mpr ⟨List.mem_of_getElem? (i := 744) (by decide +kernel), rfl⟩
theorem q_745 : Cond.code ⟨"ShortBridgeModel", "unrank", "(J)V"⟩ prog_9_method_5_code 8 none ∈ zG := List.mem_filter.mpr ⟨List.mem_of_getElem? (i := 745) (by decide +kernel), rfl⟩
theorem q_746 : Cond.constant "ShortBridgeModel" 58 169125 ∈ zG := List.mem_filter.mpr ⟨List.mem_of_getElem? (i := 746) (by decide +kernel), rfl⟩
theorem q_747 : Cond.methodLink "ShortBridgeModel" 59 ⟨"ShortBridgeModel", "rowsWith", "(II)J"⟩ ∈ zG := List.mem_filter.mpr ⟨List.mem_of_getElem? (i := 747) (by decide +kernel), rfl⟩
theorem q_749 : Cond.instanceMethod ⟨"ShortBridgeModel", "rowsWith", "(II)J"⟩ ∈ zG := List.mem_filter.mpr ⟨List.mem_of_getElem? (i := 749) (by decide +kernel), rfl⟩
theorem q_750 : Cond.code ⟨"ShortBridgeModel", "rowsWith", "(II)J"⟩ prog_9_method_4_code 7 (some FieldType.long) ∈ zG := List.mem_filter.mpr ⟨List.mem_of_getElem? (i := 750) (by decide +kernel), rfl⟩
theorem q_751 : Cond.methodLink "ShortBridgeModel" 54 ⟨"ShortBridgeModel", "rows", "(IIII)J"⟩ ∈ zG := List.mem_filter.mpr ⟨List.mem_of_getElem? (i := 751) (by decide +kernel), rfl⟩
theorem q_753 : Cond.instanceMethod ⟨"ShortBridgeModel", "rows", "(IIII)J"⟩ ∈ zG := List.mem_filter.mpr ⟨List.mem_of_getElem? (i := 753) (by decide +kernel), rfl⟩
theorem q_754 : Cond.code ⟨"ShortBridgeModel", "rows", "(IIII)J"⟩ prog_9_method_3_code 5 (some FieldType.long) ∈ zG := List.mem_filter.mpr ⟨List.mem_of_getElem? (i := 754) (by decide +kernel), rfl⟩
theorem q_755 : Cond.methodLink "ShortBridgeModel" 97 ⟨"ShortBridgeModel", "begin", "(II)V"⟩ ∈ zG := List.mem_filter.mpr ⟨List.mem_of_getElem? (i := 755) (by decide +kernel), rfl⟩
theorem q_757 : Cond.instanceMethod ⟨"ShortBridgeModel", "begin", "(II)V"⟩ ∈ zG := List.mem_filter.mpr ⟨List.mem_of_getElem? (i := 757) (by decide +kernel), rfl⟩
theorem q_758 : Cond.code ⟨"ShortBridgeModel", "begin", "(II)V"⟩ prog_9_method_7_code 3 none ∈ zG := List.mem_filter.mpr ⟨List.mem_of_getElem? (i := 758) (by decide +kernel), rfl⟩
theorem q_759 : Cond.methodLink "ShortBridgeModel" 67 ⟨"ShortBridgeModel", "rank", "()J"⟩ ∈ zG := List.mem_filter.mpr ⟨List.mem_of_getElem? (i := 759) (by decide +kernel), rfl⟩
theorem q_761 : Cond.instanceMethod ⟨"ShortBridgeModel", "rank", "()J"⟩ ∈ zG := List.mem_filter.mpr ⟨List.mem_of_getElem? (i := 761) (by decide +kernel), rfl⟩
theorem q_762 : Cond.code ⟨"ShortBridgeModel", "rank", "()J"⟩ prog_9_method_6_code 6 (some FieldType.long) ∈ zG := List.mem_filter.mpr ⟨List.mem_of_getElem? (i := 762) (by decide +kernel), rfl⟩
theorem q_763 : Cond.methodLink "ShortBridgeLaw" 59 ⟨"ShortBridgeModel", "shuffle", "(JII)J"⟩ ∈ zG := List.mem_filter.mpr ⟨List.mem_of_getElem? (i := 763) (by decide +kernel), rfl⟩
theorem q_764 : Cond.instanceMethod ⟨"ShortBridgeModel", "shuffle", "(JII)J"⟩ ∈ zG := List.mem_filter.mpr ⟨List.mem_of_getElem? (i := 764) (by decide +kernel), rfl⟩
theorem q_765 : Cond.selects "ShortBridgeModel" ⟨"ShortBridgeModel", "shuffle", "(JII)J"⟩ ⟨"ShortBridgeModel", "shuffle", "(JII)J"⟩ ∈ zG := List.mem_filter.mpr ⟨List.mem_of_getElem? (i := 765) (by decide +kernel), rfl⟩
theorem q_766 : Cond.code ⟨"ShortBridgeModel", "shuffle", "(JII)J"⟩ prog_9_method_10_code 10 (some FieldType.long) ∈ zG := List.mem_filter.mpr ⟨List.mem_of_getElem? (i := 766) (by decide +kernel), rfl⟩
theorem q_767 : Cond.constantLong "ShortBridgeModel" 101 (-1) ∈ zG := List.mem_filter.mpr ⟨List.mem_of_getElem? (i := 767) (by decide +kernel), rfl⟩
theorem q_768 : Cond.constantLong "ShortBridgeModel" 103 6364136223846793005 ∈ zG := List.mem_filter.mpr ⟨List.mem_of_getElem? (i := 768) (by decide +kernel), rfl⟩
theorem q_769 : Cond.constantLong "ShortBridgeModel" 105 1442695040888963407 ∈ zG := List.mem_filter.mpr ⟨List.mem_of_getElem? (i := 769) (by decide +kernel), rfl⟩
theorem q_770 : Cond.methodLink "ShortBridgeLaw" 64 ⟨"ShortBridgeModel", "number", "()J"⟩ ∈ zG := List.mem_filter.mpr ⟨List.mem_of_getElem? (i := 770) (by decide +kernel), rfl⟩
theorem q_771 : Cond.instanceMethod ⟨"ShortBridgeModel", "number", "()J"⟩ ∈ zG := List.mem_filter.mpr ⟨List.mem_of_getElem? (i := 771) (by decide +kernel), rfl⟩
theorem q_772 : Cond.selects "ShortBridgeModel" ⟨"ShortBridgeModel", "number", "()J"⟩ ⟨"ShortBridgeModel", "number", "()J"⟩ ∈ zG := List.mem_filter.mpr ⟨List.mem_of_getElem? (i := 772) (by decide +kernel), rfl⟩
theorem q_773 : Cond.code ⟨"ShortBridgeModel", "number", "()J"⟩ prog_9_method_11_code 1 (some FieldType.long) ∈ zG := List.mem_filter.mpr ⟨List.mem_of_getElem? (i := 773) (by decide +kernel), rfl⟩
theorem q_774 : Cond.methodLink "ShortBridgeLaw" 68 ⟨"ShortBridgeModel", "phase", "()I"⟩ ∈ zG := List.mem_filter.mpr ⟨List.mem_of_getElem? (i := 774) (by decide +kernel), rfl⟩
theorem q_775 : Cond.instanceMethod ⟨"ShortBridgeModel", "phase", "()I"⟩ ∈ zG := List.mem_filter.mpr ⟨List.mem_of_getElem? (i := 775) (by decide +kernel), rfl⟩
theorem q_776 : Cond.selects "ShortBridgeModel" ⟨"ShortBridgeModel", "phase", "()I"⟩ ⟨"ShortBridgeModel", "phase", "()I"⟩ ∈ zG := List.mem_filter.mpr ⟨List.mem_of_getElem? (i := 776) (by decide +kernel), rfl⟩
theorem q_777 : Cond.code ⟨"ShortBridgeModel", "phase", "()I"⟩ prog_9_method_17_code 1 (some FieldType.int) ∈ zG := List.mem_filter.mpr ⟨List.mem_of_getElem? (i := 777) (by decide +kernel), rfl⟩
theorem q_778 : Cond.methodLink "ShortBridgeModel" 132 ⟨"ShortBridgeModel", "phaseNow", "()I"⟩ ∈ zG := List.mem_filter.mpr ⟨List.mem_of_getElem? (i := 778) (by decide +kernel), rfl⟩
theorem q_780 : Cond.instanceMethod ⟨"ShortBridgeModel", "phaseNow", "()I"⟩ ∈ zG := List.mem_filter.mpr ⟨List.mem_of_getElem? (i := 780) (by decide +kernel), rfl⟩
theorem q_781 : Cond.code ⟨"ShortBridgeModel", "phaseNow", "()I"⟩ prog_9_method_16_code 1 (some FieldType.int) ∈ zG := List.mem_filter.mpr ⟨List.mem_of_getElem? (i := 781) (by decide +kernel), rfl⟩
theorem q_782 : Cond.methodLink "ShortBridgeModel" 129 ⟨"ShortBridgeModel", "readCalls", "()V"⟩ ∈ zG := List.mem_filter.mpr ⟨List.mem_of_getElem? (i := 782) (by decide +kernel), rfl⟩
theorem q_784 : Cond.instanceMethod ⟨"ShortBridgeModel", "readCalls", "()V"⟩ ∈ zG := List.mem_filter.mpr ⟨List.mem_of_getElem? (i := 784) (by decide +kernel), rfl⟩
theorem q_785 : Cond.code ⟨"ShortBridgeModel", "readCalls", "()V"⟩ prog_9_method_14_code 2 none ∈ zG := List.mem_filter.mpr ⟨List.mem_of_getElem? (i := 785) (by decide +kernel), rfl⟩
theorem q_786 : Cond.methodLink "ShortBridgeModel" 113 ⟨"ShortBridgeModel", "firstOf", "(I)I"⟩ ∈ zG := List.mem_filter.mpr ⟨List.mem_of_getElem? (i := 786) (by decide +kernel), rfl⟩
theorem q_788 : Cond.instanceMethod ⟨"ShortBridgeModel", "firstOf", "(I)I"⟩ ∈ zG := List.mem_filter.mpr ⟨List.mem_of_getElem? (i := 788) (by decide +kernel), rfl⟩
theorem q_789 : Cond.code ⟨"ShortBridgeModel", "firstOf", "(I)I"⟩ prog_9_method_15_code 4 (some FieldType.int) ∈ zG := List.mem_filter.mpr ⟨List.mem_of_getElem? (i := 789) (by decide +kernel), rfl⟩
theorem q_790 : Cond.methodLink "ShortBridgeModel" 126 ⟨"ShortBridgeModel", "callerAt", "(I)I"⟩ ∈ zG := List.mem_filter.mpr ⟨List.mem_of_getElem? (i := 790) (by decide +kernel), rfl⟩
theorem q_792 : Cond.instanceMethod ⟨"ShortBridgeModel", "callerAt", "(I)I"⟩ ∈ zG := List.mem_filter.mpr ⟨List.mem_of_getElem? (i := 792) (by decide +kernel), rfl⟩
theorem q_793 : Cond.code ⟨"ShortBridgeModel", "callerAt", "(I)I"⟩ prog_9_method_12_code 2 (some FieldType.int) ∈ zG := List.mem_filter.mpr ⟨List.mem_of_getElem? (i := 793) (by decide +kernel), rfl⟩
theorem q_794 : Cond.methodLink "ShortBridgeModel" 120 ⟨"ShortBridgeModel", "latestBefore", "(I)I"⟩ ∈ zG := List.mem_filter.mpr ⟨List.mem_of_getElem? (i := 794) (by decide +kernel), rfl⟩
theorem q_796 : Cond.instanceMethod ⟨"ShortBridgeModel", "latestBefore", "(I)I"⟩ ∈ zG := List.mem_filter.mpr ⟨List.mem_of_getElem? (i := 796) (by decide +kernel), rfl⟩
theorem q_797 : Cond.code ⟨"ShortBridgeModel", "latestBefore", "(I)I"⟩ prog_9_method_13_code 3 (some FieldType.int) ∈ zG := List.mem_filter.mpr ⟨List.mem_of_getElem? (i := 797) (by decide +kernel), rfl⟩
theorem q_798 : Cond.methodLink "ShortBridgeLaw" 83 ⟨"ShortBridgeModel", "call", "(I)V"⟩ ∈ zG := List.mem_filter.mpr ⟨List.mem_of_getElem? (i := 798) (by decide +kernel), rfl⟩
theorem q_799 : Cond.instanceMethod ⟨"ShortBridgeModel", "call", "(I)V"⟩ ∈ zG := List.mem_filter.mpr ⟨List.mem_of_getElem? (i := 799) (by decide +kernel), rfl⟩
theorem q_800 : Cond.selects "ShortBridgeModel" ⟨"ShortBridgeModel", "call", "(I)V"⟩ ⟨"ShortBridgeModel", "call", "(I)V"⟩ ∈ zG := List.mem_filter.mpr ⟨List.mem_of_getElem? (i := 800) (by decide +kernel), rfl⟩
theorem q_801 : Cond.code ⟨"ShortBridgeModel", "call", "(I)V"⟩ prog_9_method_19_code 2 none ∈ zG := List.mem_filter.mpr ⟨List.mem_of_getElem? (i := 801) (by decide +kernel), rfl⟩
theorem q_802 : Cond.methodLink "ShortBridgeModel" 136 ⟨"ShortBridgeModel", "allowed", "(I)Z"⟩ ∈ zG := List.mem_filter.mpr ⟨List.mem_of_getElem? (i := 802) (by decide +kernel), rfl⟩
theorem q_804 : Cond.instanceMethod ⟨"ShortBridgeModel", "allowed", "(I)Z"⟩ ∈ zG := List.mem_filter.mpr ⟨List.mem_of_getElem? (i := 804) (by decide +kernel), rfl⟩
theorem q_805 : Cond.code ⟨"ShortBridgeModel", "allowed", "(I)Z"⟩ prog_9_method_18_code 4 (some FieldType.boolean) ∈ zG := List.mem_filter.mpr ⟨List.mem_of_getElem? (i := 805) (by decide +kernel), rfl⟩
theorem q_806 : Cond.methodLink "ShortBridgeLaw" 98 ⟨"ShortBridgeModel", "contract", "(I)I"⟩ ∈ zG := List.mem_filter.mpr ⟨List.mem_of_getElem? (i := 806) (by decide +kernel), rfl⟩
theorem q_807 : Cond.instanceMethod ⟨"ShortBridgeModel", "contract", "(I)I"⟩ ∈ zG := List.mem_filter.mpr ⟨List.mem_of_getElem? (i := 807) (by decide +kernel), rfl⟩
theorem q_808 : Cond.selects "ShortBridgeModel" ⟨"ShortBridgeModel", "contract", "(I)I"⟩ ⟨"ShortBridgeModel", "contract", "(I)I"⟩ ∈ zG := List.mem_filter.mpr ⟨List.mem_of_getElem? (i := 808) (by decide +kernel), rfl⟩
theorem q_809 : Cond.code ⟨"ShortBridgeModel", "contract", "(I)I"⟩ prog_9_method_20_code 2 (some FieldType.int) ∈ zG := List.mem_filter.mpr ⟨List.mem_of_getElem? (i := 809) (by decide +kernel), rfl⟩
theorem q_810 : Cond.methodLink "ShortBridgeLaw" 72 ⟨"ShortBridgeModel", "turn", "()I"⟩ ∈ zG := List.mem_filter.mpr ⟨List.mem_of_getElem? (i := 810) (by decide +kernel), rfl⟩
theorem q_811 : Cond.instanceMethod ⟨"ShortBridgeModel", "turn", "()I"⟩ ∈ zG := List.mem_filter.mpr ⟨List.mem_of_getElem? (i := 811) (by decide +kernel), rfl⟩
theorem q_812 : Cond.selects "ShortBridgeModel" ⟨"ShortBridgeModel", "turn", "()I"⟩ ⟨"ShortBridgeModel", "turn", "()I"⟩ ∈ zG := List.mem_filter.mpr ⟨List.mem_of_getElem? (i := 812) (by decide +kernel), rfl⟩
theorem q_813 : Cond.code ⟨"ShortBridgeModel", "turn", "()I"⟩ prog_9_method_27_code 2 (some FieldType.int) ∈ zG := List.mem_filter.mpr ⟨List.mem_of_getElem? (i := 813) (by decide +kernel), rfl⟩
theorem q_814 : Cond.methodLink "ShortBridgeModel" 154 ⟨"ShortBridgeModel", "readCards", "()V"⟩ ∈ zG := List.mem_filter.mpr ⟨List.mem_of_getElem? (i := 814) (by decide +kernel), rfl⟩
theorem q_816 : Cond.instanceMethod ⟨"ShortBridgeModel", "readCards", "()V"⟩ ∈ zG := List.mem_filter.mpr ⟨List.mem_of_getElem? (i := 816) (by decide +kernel), rfl⟩
theorem q_817 : Cond.code ⟨"ShortBridgeModel", "readCards", "()V"⟩ prog_9_method_24_code 2 none ∈ zG := List.mem_filter.mpr ⟨List.mem_of_getElem? (i := 817) (by decide +kernel), rfl⟩
theorem q_818 : Cond.methodLink "ShortBridgeModel" 146 ⟨"ShortBridgeModel", "goOn", "(I)V"⟩ ∈ zG := List.mem_filter.mpr ⟨List.mem_of_getElem? (i := 818) (by decide +kernel), rfl⟩
theorem q_820 : Cond.instanceMethod ⟨"ShortBridgeModel", "goOn", "(I)V"⟩ ∈ zG := List.mem_filter.mpr ⟨List.mem_of_getElem? (i := 820) (by decide +kernel), rfl⟩
theorem q_821 : Cond.code ⟨"ShortBridgeModel", "goOn", "(I)V"⟩ prog_9_method_23_code 5 none ∈ zG := List.mem_filter.mpr ⟨List.mem_of_getElem? (i := 821) (by decide +kernel), rfl⟩
theorem q_822 : Cond.methodLink "ShortBridgeModel" 142 ⟨"ShortBridgeModel", "height", "(II)I"⟩ ∈ zG := List.mem_filter.mpr ⟨List.mem_of_getElem? (i := 822) (by decide +kernel), rfl⟩
theorem q_824 : Cond.instanceMethod ⟨"ShortBridgeModel", "height", "(II)I"⟩ ∈ zG := List.mem_filter.mpr ⟨List.mem_of_getElem? (i := 824) (by decide +kernel), rfl⟩
theorem q_825 : Cond.code ⟨"ShortBridgeModel", "height", "(II)I"⟩ prog_9_method_22_code 3 (some FieldType.int) ∈ zG := List.mem_filter.mpr ⟨List.mem_of_getElem? (i := 825) (by decide +kernel), rfl⟩
theorem q_826 : Cond.methodLink "ShortBridgeModel" 139 ⟨"ShortBridgeModel", "trump", "()I"⟩ ∈ zG := List.mem_filter.mpr ⟨List.mem_of_getElem? (i := 826) (by decide +kernel), rfl⟩
theorem q_828 : Cond.instanceMethod ⟨"ShortBridgeModel", "trump", "()I"⟩ ∈ zG := List.mem_filter.mpr ⟨List.mem_of_getElem? (i := 828) (by decide +kernel), rfl⟩
theorem q_829 : Cond.code ⟨"ShortBridgeModel", "trump", "()I"⟩ prog_9_method_21_code 1 (some FieldType.int) ∈ zG := List.mem_filter.mpr ⟨List.mem_of_getElem? (i := 829) (by decide +kernel), rfl⟩
theorem q_830 : Cond.methodLink "ShortBridgeLaw" 77 ⟨"ShortBridgeModel", "has", "(II)Z"⟩ ∈ zG := List.mem_filter.mpr ⟨List.mem_of_getElem? (i := 830) (by decide +kernel), rfl⟩
theorem q_831 : Cond.instanceMethod ⟨"ShortBridgeModel", "has", "(II)Z"⟩ ∈ zG := List.mem_filter.mpr ⟨List.mem_of_getElem? (i := 831) (by decide +kernel), rfl⟩
theorem q_832 : Cond.selects "ShortBridgeModel" ⟨"ShortBridgeModel", "has", "(II)Z"⟩ ⟨"ShortBridgeModel", "has", "(II)Z"⟩ ∈ zG := List.mem_filter.mpr ⟨List.mem_of_getElem? (i := 832) (by decide +kernel), rfl⟩
theorem q_833 : Cond.code ⟨"ShortBridgeModel", "has", "(II)Z"⟩ prog_9_method_28_code 3 (some FieldType.boolean) ∈ zG := List.mem_filter.mpr ⟨List.mem_of_getElem? (i := 833) (by decide +kernel), rfl⟩
theorem q_834 : Cond.methodLink "ShortBridgeModel" 150 ⟨"ShortBridgeModel", "holds", "(III)Z"⟩ ∈ zG := List.mem_filter.mpr ⟨List.mem_of_getElem? (i := 834) (by decide +kernel), rfl⟩
theorem q_836 : Cond.instanceMethod ⟨"ShortBridgeModel", "holds", "(III)Z"⟩ ∈ zG := List.mem_filter.mpr ⟨List.mem_of_getElem? (i := 836) (by decide +kernel), rfl⟩
theorem q_837 : Cond.code ⟨"ShortBridgeModel", "holds", "(III)Z"⟩ prog_9_method_25_code 4 (some FieldType.boolean) ∈ zG := List.mem_filter.mpr ⟨List.mem_of_getElem? (i := 837) (by decide +kernel), rfl⟩
theorem q_838 : Cond.methodLink "ShortBridgeLaw" 89 ⟨"ShortBridgeModel", "play", "(I)V"⟩ ∈ zG := List.mem_filter.mpr ⟨List.mem_of_getElem? (i := 838) (by decide +kernel), rfl⟩
theorem q_839 : Cond.instanceMethod ⟨"ShortBridgeModel", "play", "(I)V"⟩ ∈ zG := List.mem_filter.mpr ⟨List.mem_of_getElem? (i := 839) (by decide +kernel), rfl⟩
theorem q_840 : Cond.selects "ShortBridgeModel" ⟨"ShortBridgeModel", "play", "(I)V"⟩ ⟨"ShortBridgeModel", "play", "(I)V"⟩ ∈ zG := List.mem_filter.mpr ⟨List.mem_of_getElem? (i := 840) (by decide +kernel), rfl⟩
theorem q_841 : Cond.code ⟨"ShortBridgeModel", "play", "(I)V"⟩ prog_9_method_29_code 3 none ∈ zG := List.mem_filter.mpr ⟨List.mem_of_getElem? (i := 841) (by decide +kernel), rfl⟩
theorem q_842 : Cond.methodLink "ShortBridgeModel" 157 ⟨"ShortBridgeModel", "follows", "(II)Z"⟩ ∈ zG := List.mem_filter.mpr ⟨List.mem_of_getElem? (i := 842) (by decide +kernel), rfl⟩
theorem q_844 : Cond.instanceMethod ⟨"ShortBridgeModel", "follows", "(II)Z"⟩ ∈ zG := List.mem_filter.mpr ⟨List.mem_of_getElem? (i := 844) (by decide +kernel), rfl⟩
theorem q_845 : Cond.code ⟨"ShortBridgeModel", "follows", "(II)Z"⟩ prog_9_method_26_code 6 (some FieldType.boolean) ∈ zG := List.mem_filter.mpr ⟨List.mem_of_getElem? (i := 845) (by decide +kernel), rfl⟩
theorem q_846 : Cond.methodLink "ShortBridgeLaw" 94 ⟨"ShortBridgeModel", "back", "()Z"⟩ ∈ zG := List.mem_filter.mpr ⟨List.mem_of_getElem? (i := 846) (by decide +kernel), rfl⟩
theorem q_847 : Cond.instanceMethod ⟨"ShortBridgeModel", "back", "()Z"⟩ ∈ zG := List.mem_filter.mpr ⟨List.mem_of_getElem? (i := 847) (by decide +kernel), rfl⟩
theorem q_848 : Cond.selects "ShortBridgeModel" ⟨"ShortBridgeModel", "back", "()Z"⟩ ⟨"ShortBridgeModel", "back", "()Z"⟩ ∈ zG := List.mem_filter.mpr ⟨List.mem_of_getElem? (i := 848) (by decide +kernel), rfl⟩
theorem q_849 : Cond.code ⟨"ShortBridgeModel", "back", "()Z"⟩ prog_9_method_30_code 3 (some FieldType.boolean) ∈ zG := List.mem_filter.mpr ⟨List.mem_of_getElem? (i := 849) (by decide +kernel), rfl⟩
theorem q_850 : Cond.methodLink "ShortBridgeLaw" 102 ⟨"ShortBridgeModel", "tricks", "(I)I"⟩ ∈ zG := List.mem_filter.mpr ⟨List.mem_of_getElem? (i := 850) (by decide +kernel), rfl⟩
theorem q_851 : Cond.instanceMethod ⟨"ShortBridgeModel", "tricks", "(I)I"⟩ ∈ zG := List.mem_filter.mpr ⟨List.mem_of_getElem? (i := 851) (by decide +kernel), rfl⟩
theorem q_852 : Cond.selects "ShortBridgeModel" ⟨"ShortBridgeModel", "tricks", "(I)I"⟩ ⟨"ShortBridgeModel", "tricks", "(I)I"⟩ ∈ zG := List.mem_filter.mpr ⟨List.mem_of_getElem? (i := 852) (by decide +kernel), rfl⟩
theorem q_853 : Cond.code ⟨"ShortBridgeModel", "tricks", "(I)I"⟩ prog_9_method_31_code 2 (some FieldType.int) ∈ zG := List.mem_filter.mpr ⟨List.mem_of_getElem? (i := 853) (by decide +kernel), rfl⟩
theorem q_854 : Cond.methodLink "ShortBridgeLaw" 106 ⟨"ShortBridgeModel", "table", "(I)I"⟩ ∈ zG := List.mem_filter.mpr ⟨List.mem_of_getElem? (i := 854) (by decide +kernel), rfl⟩
theorem q_855 : Cond.instanceMethod ⟨"ShortBridgeModel", "table", "(I)I"⟩ ∈ zG := List.mem_filter.mpr ⟨List.mem_of_getElem? (i := 855) (by decide +kernel), rfl⟩
theorem q_856 : Cond.selects "ShortBridgeModel" ⟨"ShortBridgeModel", "table", "(I)I"⟩ ⟨"ShortBridgeModel", "table", "(I)I"⟩ ∈ zG := List.mem_filter.mpr ⟨List.mem_of_getElem? (i := 856) (by decide +kernel), rfl⟩
theorem q_857 : Cond.code ⟨"ShortBridgeModel", "table", "(I)I"⟩ prog_9_method_32_code 2 (some FieldType.int) ∈ zG := List.mem_filter.mpr ⟨List.mem_of_getElem? (i := 857) (by decide +kernel), rfl⟩
theorem q_858 : Cond.methodLink "ShortBridgeLaw" 110 ⟨"ShortBridgeModel", "score", "()I"⟩ ∈ zG := List.mem_filter.mpr ⟨List.mem_of_getElem? (i := 858) (by decide +kernel), rfl⟩
theorem q_859 : Cond.instanceMethod ⟨"ShortBridgeModel", "score", "()I"⟩ ∈ zG := List.mem_filter.mpr ⟨List.mem_of_getElem? (i := 859) (by decide +kernel), rfl⟩
theorem q_860 : Cond.selects "ShortBridgeModel" ⟨"ShortBridgeModel", "score", "()I"⟩ ⟨"ShortBridgeModel", "score", "()I"⟩ ∈ zG := List.mem_filter.mpr ⟨List.mem_of_getElem? (i := 860) (by decide +kernel), rfl⟩
theorem q_861 : Cond.code ⟨"ShortBridgeModel", "score", "()I"⟩ prog_9_method_35_code 1 (some FieldType.int) ∈ zG := List.mem_filter.mpr ⟨List.mem_of_getElem? (i := 861) (by decide +kernel), rfl⟩
theorem q_862 : Cond.methodLink "ShortBridgeModel" 165 ⟨"ShortBridgeModel", "scoreNow", "()I"⟩ ∈ zG := List.mem_filter.mpr ⟨List.mem_of_getElem? (i := 862) (by decide +kernel), rfl⟩
theorem q_864 : Cond.instanceMethod ⟨"ShortBridgeModel", "scoreNow", "()I"⟩ ∈ zG := List.mem_filter.mpr ⟨List.mem_of_getElem? (i := 864) (by decide +kernel), rfl⟩
theorem q_865 : Cond.code ⟨"ShortBridgeModel", "scoreNow", "()I"⟩ prog_9_method_34_code 10 (some FieldType.int) ∈ zG := List.mem_filter.mpr ⟨List.mem_of_getElem? (i := 865) (by decide +kernel), rfl⟩
theorem q_866 : Cond.methodLink "ShortBridgeModel" 161 ⟨"ShortBridgeModel", "lostBy", "(IIZ)I"⟩ ∈ zG := List.mem_filter.mpr ⟨List.mem_of_getElem? (i := 866) (by decide +kernel), rfl⟩
theorem q_867 : Cond.static ⟨"ShortBridgeModel", "lostBy", "(IIZ)I"⟩ ∈ zG := List.mem_filter.mpr ⟨List.mem_of_getElem? (i := 867) (by decide +kernel), rfl⟩
theorem q_868 : Cond.code ⟨"ShortBridgeModel", "lostBy", "(IIZ)I"⟩ prog_9_method_33_code 5 (some FieldType.int) ∈ zG := List.mem_filter.mpr ⟨List.mem_of_getElem? (i := 868) (by decide +kernel), rfl⟩
theorem q_869 : Cond.methodLink "ShortBridgeLaw" 113 ⟨"ShortBridgeModel", "solve", "()I"⟩ ∈ zG := List.mem_filter.mpr ⟨List.mem_of_getElem? (i := 869) (by decide +kernel), rfl⟩
theorem q_870 : Cond.instanceMethod ⟨"ShortBridgeModel", "solve", "()I"⟩ ∈ zG := List.mem_filter.mpr ⟨List.mem_of_getElem? (i := 870) (by decide +kernel), rfl⟩
theorem q_871 : Cond.selects "ShortBridgeModel" ⟨"ShortBridgeModel", "solve", "()I"⟩ ⟨"ShortBridgeModel", "solve", "()I"⟩ ∈ zG := List.mem_filter.mpr ⟨List.mem_of_getElem? (i := 871) (by decide +kernel), rfl⟩
theorem q_872 : Cond.code ⟨"ShortBridgeModel", "solve", "()I"⟩ prog_9_method_41_code 5 (some FieldType.int) ∈ zG := List.mem_filter.mpr ⟨List.mem_of_getElem? (i := 872) (by decide +kernel), rfl⟩
theorem q_873 : Cond.methodLink "ShortBridgeModel" 181 ⟨"ShortBridgeModel", "solveFrom", "(I)I"⟩ ∈ zG := List.mem_filter.mpr ⟨List.mem_of_getElem? (i := 873) (by decide +kernel), rfl⟩
theorem q_875 : Cond.instanceMethod ⟨"ShortBridgeModel", "solveFrom", "(I)I"⟩ ∈ zG := List.mem_filter.mpr ⟨List.mem_of_getElem? (i := 875) (by decide +kernel), rfl⟩
theorem q_876 : Cond.code ⟨"ShortBridgeModel", "solveFrom", "(I)I"⟩ prog_9_method_40_code 6 (some FieldType.int) ∈ zG := List.mem_filter.mpr ⟨List.mem_of_getElem? (i := 876) (by decide +kernel), rfl⟩
theorem q_877 : Cond.methodLink "ShortBridgeModel" 171 ⟨"ShortBridgeModel", "enter", "(III)V"⟩ ∈ zG := List.mem_filter.mpr ⟨List.mem_of_getElem? (i := 877) (by decide +kernel), rfl⟩
theorem q_879 : Cond.instanceMethod ⟨"ShortBridgeModel", "enter", "(III)V"⟩ ∈ zG := List.mem_filter.mpr ⟨List.mem_of_getElem? (i := 879) (by decide +kernel), rfl⟩
theorem q_880 : Cond.code ⟨"ShortBridgeModel", "enter", "(III)V"⟩ prog_9_method_36_code 4 none ∈ zG := List.mem_filter.mpr ⟨List.mem_of_getElem? (i := 880) (by decide +kernel), rfl⟩
theorem q_881 : Cond.methodLink "ShortBridgeModel" 168 ⟨"ShortBridgeModel", "ours", "(I)Z"⟩ ∈ zG := List.mem_filter.mpr ⟨List.mem_of_getElem? (i := 881) (by decide +kernel), rfl⟩
theorem q_883 : Cond.instanceMethod ⟨"ShortBridgeModel", "ours", "(I)Z"⟩ ∈ zG := List.mem_filter.mpr ⟨List.mem_of_getElem? (i := 883) (by decide +kernel), rfl⟩
theorem q_884 : Cond.code ⟨"ShortBridgeModel", "ours", "(I)Z"⟩ prog_9_method_37_code 2 (some FieldType.boolean) ∈ zG := List.mem_filter.mpr ⟨List.mem_of_getElem? (i := 884) (by decide +kernel), rfl⟩
theorem q_885 : Cond.methodLink "ShortBridgeModel" 175 ⟨"ShortBridgeModel", "nextTry", "(I)I"⟩ ∈ zG := List.mem_filter.mpr ⟨List.mem_of_getElem? (i := 885) (by decide +kernel), rfl⟩
theorem q_887 : Cond.instanceMethod ⟨"ShortBridgeModel", "nextTry", "(I)I"⟩ ∈ zG := List.mem_filter.mpr ⟨List.mem_of_getElem? (i := 887) (by decide +kernel), rfl⟩
theorem q_888 : Cond.code ⟨"ShortBridgeModel", "nextTry", "(I)I"⟩ prog_9_method_38_code 3 (some FieldType.int) ∈ zG := List.mem_filter.mpr ⟨List.mem_of_getElem? (i := 888) (by decide +kernel), rfl⟩
theorem q_889 : Cond.methodLink "ShortBridgeModel" 178 ⟨"ShortBridgeModel", "take", "(II)V"⟩ ∈ zG := List.mem_filter.mpr ⟨List.mem_of_getElem? (i := 889) (by decide +kernel), rfl⟩
theorem q_891 : Cond.instanceMethod ⟨"ShortBridgeModel", "take", "(II)V"⟩ ∈ zG := List.mem_filter.mpr ⟨List.mem_of_getElem? (i := 891) (by decide +kernel), rfl⟩
theorem q_892 : Cond.code ⟨"ShortBridgeModel", "take", "(II)V"⟩ prog_9_method_39_code 3 none ∈ zG := List.mem_filter.mpr ⟨List.mem_of_getElem? (i := 892) (by decide +kernel), rfl⟩
theorem q_893 : Cond.methodLink "ShortBridgeLaw" 116 ⟨"ShortBridgeModel", "record", "()I"⟩ ∈ zG := List.mem_filter.mpr ⟨List.mem_of_getElem? (i := 893) (by decide +kernel), rfl⟩
theorem q_894 : Cond.instanceMethod ⟨"ShortBridgeModel", "record", "()I"⟩ ∈ zG := List.mem_filter.mpr ⟨List.mem_of_getElem? (i := 894) (by decide +kernel), rfl⟩
theorem q_895 : Cond.selects "ShortBridgeModel" ⟨"ShortBridgeModel", "record", "()I"⟩ ⟨"ShortBridgeModel", "record", "()I"⟩ ∈ zG := List.mem_filter.mpr ⟨List.mem_of_getElem? (i := 895) (by decide +kernel), rfl⟩
theorem q_896 : Cond.code ⟨"ShortBridgeModel", "record", "()I"⟩ prog_9_method_42_code 1 (some FieldType.int) ∈ zG := List.mem_filter.mpr ⟨List.mem_of_getElem? (i := 896) (by decide +kernel), rfl⟩
theorem q_897 : Cond.methodLink "ShortBridgeLaw" 120 ⟨"ShortBridgeModel", "points", "(II)I"⟩ ∈ zG := List.mem_filter.mpr ⟨List.mem_of_getElem? (i := 897) (by decide +kernel), rfl⟩
theorem q_898 : Cond.instanceMethod ⟨"ShortBridgeModel", "points", "(II)I"⟩ ∈ zG := List.mem_filter.mpr ⟨List.mem_of_getElem? (i := 898) (by decide +kernel), rfl⟩
theorem q_899 : Cond.selects "ShortBridgeModel" ⟨"ShortBridgeModel", "points", "(II)I"⟩ ⟨"ShortBridgeModel", "points", "(II)I"⟩ ∈ zG := List.mem_filter.mpr ⟨List.mem_of_getElem? (i := 899) (by decide +kernel), rfl⟩
theorem q_900 : Cond.code ⟨"ShortBridgeModel", "points", "(II)I"⟩ prog_9_method_45_code 7 (some FieldType.int) ∈ zG := List.mem_filter.mpr ⟨List.mem_of_getElem? (i := 900) (by decide +kernel), rfl⟩
theorem q_901 : Cond.methodLink "ShortBridgeModel" 187 ⟨"ShortBridgeModel", "isResult", "(I)Z"⟩ ∈ zG := List.mem_filter.mpr ⟨List.mem_of_getElem? (i := 901) (by decide +kernel), rfl⟩
theorem q_903 : Cond.instanceMethod ⟨"ShortBridgeModel", "isResult", "(I)Z"⟩ ∈ zG := List.mem_filter.mpr ⟨List.mem_of_getElem? (i := 903) (by decide +kernel), rfl⟩
theorem q_904 : Cond.code ⟨"ShortBridgeModel", "isResult", "(I)Z"⟩ prog_9_method_43_code 2 (some FieldType.boolean) ∈ zG := List.mem_filter.mpr ⟨List.mem_of_getElem? (i := 904) (by decide +kernel), rfl⟩
theorem q_905 : Cond.methodLink "ShortBridgeModel" 190 ⟨"ShortBridgeModel", "step", "(I)I"⟩ ∈ zG := List.mem_filter.mpr ⟨List.mem_of_getElem? (i := 905) (by decide +kernel), rfl⟩
theorem q_906 : Cond.static ⟨"ShortBridgeModel", "step", "(I)I"⟩ ∈ zG := List.mem_filter.mpr ⟨List.mem_of_getElem? (i := 906) (by decide +kernel), rfl⟩
theorem q_907 : Cond.code ⟨"ShortBridgeModel", "step", "(I)I"⟩ prog_9_method_44_code 1 (some FieldType.int) ∈ zG := List.mem_filter.mpr ⟨List.mem_of_getElem? (i := 907) (by decide +kernel), rfl⟩
theorem q_908 : Cond.methodLink "ShortBridgeLaw" 124 ⟨"ShortBridgeModel", "places", "(I)I"⟩ ∈ zG := List.mem_filter.mpr ⟨List.mem_of_getElem? (i := 908) (by decide +kernel), rfl⟩
theorem q_909 : Cond.instanceMethod ⟨"ShortBridgeModel", "places", "(I)I"⟩ ∈ zG := List.mem_filter.mpr ⟨List.mem_of_getElem? (i := 909) (by decide +kernel), rfl⟩
theorem q_910 : Cond.selects "ShortBridgeModel" ⟨"ShortBridgeModel", "places", "(I)I"⟩ ⟨"ShortBridgeModel", "places", "(I)I"⟩ ∈ zG := List.mem_filter.mpr ⟨List.mem_of_getElem? (i := 910) (by decide +kernel), rfl⟩
theorem q_911 : Cond.code ⟨"ShortBridgeModel", "places", "(I)I"⟩ prog_9_method_46_code 4 (some FieldType.int) ∈ zG := List.mem_filter.mpr ⟨List.mem_of_getElem? (i := 911) (by decide +kernel), rfl⟩
theorem q_912 : Cond.constantLong "ShortBridgeLaw" 48 4294967295 ∈ zG := List.mem_filter.mpr ⟨List.mem_of_getElem? (i := 912) (by decide +kernel), rfl⟩
def R_X : String := "ShortBridge"
def T_X : u_T := fun k => match k with
  | 0 => ("ShortBridge", "dealt", "LShortBridge$Deal;", true)
  | 1 => ("ShortBridge", "auction", "LShortBridge$Auction;", true)
  | 2 => ("ShortBridge", "hands", "LShortBridge$Hands;", true)
  | 3 => ("ShortBridge", "results", "LShortBridge$Results;", true)
  | 4 => ("ShortBridge", "hasBoard", "Z", false)
  | _ => ("ShortBridge", "vulnerability", "I", false)
def ty_X : Nat → FieldType := fun k => match k with
  | 0 => .object "ShortBridge$Deal"
  | 1 => .object "ShortBridge$Auction"
  | 2 => .object "ShortBridge$Hands"
  | 3 => .object "ShortBridge$Results"
  | 4 => .boolean
  | _ => .int
theorem nm_X : ∀ a, a < 6 → ∀ b, b < 6 → a ≠ b → (T_X a).2.1 ≠ (T_X b).2.1 := by decide +kernel
theorem tyo_X : ∀ k, k < 6 → parseFieldDescriptor (T_X k).2.2.1 = some (ty_X k) := by decide +kernel
theorem in_X : ∀ w ∈ u_ws R_X T_X 6, w ∈ zG := by
  intro w hw
  obtain ⟨k, hk, rfl⟩ := List.mem_map.mp hw
  rw [List.mem_range] at hk
  match k, hk with
  | 0, _ => exact q_156
  | 1, _ => exact q_158
  | 2, _ => exact q_160
  | 3, _ => exact q_162
  | 4, _ => exact q_164
  | 5, _ => exact q_166
  | k + 6, hk => omega
def R_Deal : String := "ShortBridge$Deal"
def T_Deal : u_T := fun k => match k with
  | 0 => ("ShortBridge$Deal", "owners", "[I", true)
  | 1 => ("ShortBridge$Deal", "row", "[I", true)
  | 2 => ("ShortBridge$Deal", "left", "[I", true)
  | _ => ("ShortBridge$Deal", "rank", "J", false)
def ty_Deal : Nat → FieldType := fun k => match k with
  | 0 => .array .int
  | 1 => .array .int
  | 2 => .array .int
  | _ => .long
theorem nm_Deal : ∀ a, a < 4 → ∀ b, b < 4 → a ≠ b → (T_Deal a).2.1 ≠ (T_Deal b).2.1 := by decide +kernel
theorem tyo_Deal : ∀ k, k < 4 → parseFieldDescriptor (T_Deal k).2.2.1 = some (ty_Deal k) := by decide +kernel
theorem in_Deal : ∀ w ∈ u_ws R_Deal T_Deal 4, w ∈ zG := by
  intro w hw
  obtain ⟨k, hk, rfl⟩ := List.mem_map.mp hw
  rw [List.mem_range] at hk
  match k, hk with
  | 0, _ => exact q_76
  | 1, _ => exact q_78
  | 2, _ => exact q_80
  | 3, _ => exact q_82
  | k + 4, hk => omega
def R_Auction : String := "ShortBridge$Auction"
def T_Auction : u_T := fun k => match k with
  | 0 => ("ShortBridge$Auction", "calls", "[I", true)
  | 1 => ("ShortBridge$Auction", "count", "I", false)
  | _ => ("ShortBridge$Auction", "dealer", "I", false)
def ty_Auction : Nat → FieldType := fun k => match k with
  | 0 => .array .int
  | 1 => .int
  | _ => .int
theorem nm_Auction : ∀ a, a < 3 → ∀ b, b < 3 → a ≠ b → (T_Auction a).2.1 ≠ (T_Auction b).2.1 := by decide +kernel
theorem tyo_Auction : ∀ k, k < 3 → parseFieldDescriptor (T_Auction k).2.2.1 = some (ty_Auction k) := by decide +kernel
theorem in_Auction : ∀ w ∈ u_ws R_Auction T_Auction 3, w ∈ zG := by
  intro w hw
  obtain ⟨k, hk, rfl⟩ := List.mem_map.mp hw
  rw [List.mem_range] at hk
  match k, hk with
  | 0, _ => exact q_96
  | 1, _ => exact q_98
  | 2, _ => exact q_100
  | k + 3, hk => omega
def R_Hands : String := "ShortBridge$Hands"
def T_Hands : u_T := fun k => match k with
  | 0 => ("ShortBridge$Hands", "held", "[I", true)
  | 1 => ("ShortBridge$Hands", "cards", "[I", true)
  | 2 => ("ShortBridge$Hands", "played", "[I", true)
  | 3 => ("ShortBridge$Hands", "leaders", "[I", true)
  | 4 => ("ShortBridge$Hands", "count", "I", false)
  | _ => ("ShortBridge$Hands", "trump", "I", false)
def ty_Hands : Nat → FieldType := fun k => match k with
  | 0 => .array .int
  | 1 => .array .int
  | 2 => .array .int
  | 3 => .array .int
  | 4 => .int
  | _ => .int
theorem nm_Hands : ∀ a, a < 6 → ∀ b, b < 6 → a ≠ b → (T_Hands a).2.1 ≠ (T_Hands b).2.1 := by decide +kernel
theorem tyo_Hands : ∀ k, k < 6 → parseFieldDescriptor (T_Hands k).2.2.1 = some (ty_Hands k) := by decide +kernel
theorem in_Hands : ∀ w ∈ u_ws R_Hands T_Hands 6, w ∈ zG := by
  intro w hw
  obtain ⟨k, hk, rfl⟩ := List.mem_map.mp hw
  rw [List.mem_range] at hk
  match k, hk with
  | 0, _ => exact q_118
  | 1, _ => exact q_120
  | 2, _ => exact q_122
  | 3, _ => exact q_124
  | 4, _ => exact q_126
  | 5, _ => exact q_128
  | k + 6, hk => omega
def R_Results : String := "ShortBridge$Results"
def T_Results : u_T := fun k => match k with
  | 0 => ("ShortBridge$Results", "numbers", "[J", true)
  | 1 => ("ShortBridge$Results", "scores", "[I", true)
  | _ => ("ShortBridge$Results", "count", "I", false)
def ty_Results : Nat → FieldType := fun k => match k with
  | 0 => .array .long
  | 1 => .array .int
  | _ => .int
theorem nm_Results : ∀ a, a < 3 → ∀ b, b < 3 → a ≠ b → (T_Results a).2.1 ≠ (T_Results b).2.1 := by decide +kernel
theorem tyo_Results : ∀ k, k < 3 → parseFieldDescriptor (T_Results k).2.2.1 = some (ty_Results k) := by decide +kernel
theorem in_Results : ∀ w ∈ u_ws R_Results T_Results 3, w ∈ zG := by
  intro w hw
  obtain ⟨k, hk, rfl⟩ := List.mem_map.mp hw
  rw [List.mem_range] at hk
  match k, hk with
  | 0, _ => exact q_142
  | 1, _ => exact q_144
  | 2, _ => exact q_146
  | k + 3, hk => omega
def R_M : String := "ShortBridgeModel"
def T_M : u_T := fun k => match k with
  | 0 => ("ShortBridgeModel", "code", "I", false)
  | 1 => ("ShortBridgeModel", "board", "Z", false)
  | 2 => ("ShortBridgeModel", "dealNumber", "J", false)
  | 3 => ("ShortBridgeModel", "dealer", "I", false)
  | 4 => ("ShortBridgeModel", "vulnerable", "I", false)
  | 5 => ("ShortBridgeModel", "owner", "[I", true)
  | 6 => ("ShortBridgeModel", "ways", "[J", true)
  | 7 => ("ShortBridgeModel", "calls", "I", false)
  | 8 => ("ShortBridgeModel", "call", "[I", true)
  | 9 => ("ShortBridgeModel", "cards", "I", false)
  | 10 => ("ShortBridgeModel", "card", "[I", true)
  | 11 => ("ShortBridgeModel", "bid", "I", false)
  | 12 => ("ShortBridgeModel", "doubled", "I", false)
  | 13 => ("ShortBridgeModel", "declarer", "I", false)
  | 14 => ("ShortBridgeModel", "ended", "Z", false)
  | 15 => ("ShortBridgeModel", "turnAt", "[I", true)
  | 16 => ("ShortBridgeModel", "wonAt", "[I", true)
  | 17 => ("ShortBridgeModel", "goneAt", "[I", true)
  | 18 => ("ShortBridgeModel", "look", "[I", true)
  | 19 => ("ShortBridgeModel", "best", "[I", true)
  | 20 => ("ShortBridgeModel", "low", "[I", true)
  | 21 => ("ShortBridgeModel", "high", "[I", true)
  | 22 => ("ShortBridgeModel", "results", "I", false)
  | 23 => ("ShortBridgeModel", "scores", "[I", true)
  | _ => ("ShortBridgeModel", "numbers", "[J", true)
def ty_M : Nat → FieldType := fun k => match k with
  | 0 => .int
  | 1 => .boolean
  | 2 => .long
  | 3 => .int
  | 4 => .int
  | 5 => .array .int
  | 6 => .array .long
  | 7 => .int
  | 8 => .array .int
  | 9 => .int
  | 10 => .array .int
  | 11 => .int
  | 12 => .int
  | 13 => .int
  | 14 => .boolean
  | 15 => .array .int
  | 16 => .array .int
  | 17 => .array .int
  | 18 => .array .int
  | 19 => .array .int
  | 20 => .array .int
  | 21 => .array .int
  | 22 => .int
  | 23 => .array .int
  | _ => .array .long
theorem nm_M : ∀ a, a < 25 → ∀ b, b < 25 → a ≠ b → (T_M a).2.1 ≠ (T_M b).2.1 := by decide +kernel
theorem tyo_M : ∀ k, k < 25 → parseFieldDescriptor (T_M k).2.2.1 = some (ty_M k) := by decide +kernel
theorem in_M : ∀ w ∈ u_ws R_M T_M 25, w ∈ zG := by
  intro w hw
  obtain ⟨k, hk, rfl⟩ := List.mem_map.mp hw
  rw [List.mem_range] at hk
  match k, hk with
  | 0, _ => exact q_679
  | 1, _ => exact q_681
  | 2, _ => exact q_683
  | 3, _ => exact q_685
  | 4, _ => exact q_687
  | 5, _ => exact q_689
  | 6, _ => exact q_691
  | 7, _ => exact q_693
  | 8, _ => exact q_695
  | 9, _ => exact q_697
  | 10, _ => exact q_699
  | 11, _ => exact q_701
  | 12, _ => exact q_703
  | 13, _ => exact q_705
  | 14, _ => exact q_707
  | 15, _ => exact q_709
  | 16, _ => exact q_711
  | 17, _ => exact q_713
  | 18, _ => exact q_715
  | 19, _ => exact q_717
  | 20, _ => exact q_719
  | 21, _ => exact q_721
  | 22, _ => exact q_723
  | 23, _ => exact q_725
  | 24, _ => exact q_727
  | k + 25, hk => omega
abbrev vwCl : List vw_C := [(R_X, T_X, 6), (R_Deal, T_Deal, 4), (R_Auction, T_Auction, 3), (R_Hands, T_Hands, 6), (R_Results, T_Results, 3), (R_M, T_M, 25)]
end
section
/-! a system's cells as a picture: int fields, long fields, int arrays, long arrays, each by a number of ours -/
abbrev ZS : Type := (Nat → Int32) × (Nat → Int64) × (Nat → Nat → Int32) × (Nat → Nat → Int64)
def fI (u : ZS) (k : Nat) : Int32 := u.1 k
def fJ (u : ZS) (k : Nat) : Int64 := u.2.1 k
def aI (u : ZS) (k : Nat) : Nat → Int32 := u.2.2.1 k
def aJ (u : ZS) (k : Nat) : Nat → Int64 := u.2.2.2 k
def sI (u : ZS) (k : Nat) (v : Int32) : ZS := (fun j => if j = k then v else u.1 j, u.2)
def sJ (u : ZS) (k : Nat) (v : Int64) : ZS := (u.1, fun j => if j = k then v else u.2.1 j, u.2.2)
def pI (u : ZS) (k i : Nat) (v : Int32) : ZS := (u.1, u.2.1, fun j => if j = k then upd (u.2.2.1 k) i v else u.2.2.1 j, u.2.2.2)
def pJ (u : ZS) (k i : Nat) (v : Int64) : ZS := (u.1, u.2.1, u.2.2.1, fun j => if j = k then vp_updL (u.2.2.2 k) i v else u.2.2.2 j)
/-- the world w stands in H; what may be written is A -/
def zw (D : va_G) (A : Nat → Prop) (H0 : Heap) (w : va_W) (H : Heap) (locs : List Loc) : Prop := va_P D vwCl w H ∧ va_D A w ∧ va_S A H0 H locs ∧ ∀ q, H0.size ≤ q → A q
/-- what every walk of a method has in hand -/
def zx (p : Program) (R : Room) (s : State) (m : MethodId) (args : Array Value) (meth : Method) (c : Code) (cc : ByteArray) (nL fr lc : Nat) (own : String) (ret : Option FieldType) (Ts Ns : List Cond) (D : va_G) (tys : List (ClassId × FieldType)) : Prop :=
  p.tables.exec = Jvm.exec ∧ c.code = cc ∧ c.maxLocals = nL ∧ s.vm.findClass own = some m.cls ∧ (∀ w ∈ Ts, w.before args s = true) ∧ (∀ w ∈ Ns, va_Nw w s) ∧ va_K D vwCl tys s ∧ meth.sig.returnType = ret ∧ meth.locks = false ∧ fr ≤ R.frames ∧ lc ≤ R.locals
def zP (D : va_G) (tys : List (ClassId × FieldType)) (Ns : List Cond) (wf : ZS → va_W) (sz : Nat) (u : ZS) (U : State) : Prop := U.heap.size = sz ∧ va_P D vwCl (wf u) U.heap ∧ va_K D vwCl tys U ∧ va_D (fun _ => True) (wf u) ∧ ∀ w ∈ Ns, va_Nw w U
def zE (D : va_G) (tys : List (ClassId × FieldType)) (wf : ZS → va_W) (A : Nat → Prop) (u : ZS) (t : State) : Prop := va_P D vwCl (wf u) t.heap ∧ va_K D vwCl tys t ∧ va_D A (wf u)
/-- contracts over a picture: from the picture u, with these arguments, the method returns and 'post' holds of its answer and the new picture -/
def zI (l : Launch) (y : MethodName) (ws : List Cond) (rm : Room) (D : va_G) (tys : List (ClassId × FieldType)) (Ns : List Cond) (wf : ZS → va_W) (av : List Value) (u : ZS) (post : Int32 → ZS → Prop) : Prop :=
  ∀ sz : Nat, Met l y ws rm (va_Pc av (zP D tys Ns wf sz u)) (va_Qi post (zE D tys wf (va_A (wf u) sz)) (va_A (wf u) sz)) 0 0 (va_A (wf u) sz)
def zJ (l : Launch) (y : MethodName) (ws : List Cond) (rm : Room) (D : va_G) (tys : List (ClassId × FieldType)) (Ns : List Cond) (wf : ZS → va_W) (av : List Value) (u : ZS) (post : Int64 → ZS → Prop) : Prop :=
  ∀ sz : Nat, Met l y ws rm (va_Pc av (zP D tys Ns wf sz u)) (va_Ql post (zE D tys wf (va_A (wf u) sz)) (va_A (wf u) sz)) 0 0 (va_A (wf u) sz)
def zV (l : Launch) (y : MethodName) (ws : List Cond) (rm : Room) (D : va_G) (tys : List (ClassId × FieldType)) (Ns : List Cond) (wf : ZS → va_W) (av : List Value) (u : ZS) (post : ZS → Prop) : Prop :=
  ∀ sz : Nat, Met l y ws rm (va_Pc av (zP D tys Ns wf sz u)) (va_Qv post (zE D tys wf (va_A (wf u) sz)) (va_A (wf u) sz)) 0 0 (va_A (wf u) sz)
/-- words of a nest stay true in warmer tables -/
def zn : Cond → Bool
  | .fieldLinkNest .. => true
  | .methodLinkNest .. => true
  | _ => false
theorem zn_warm {w : Cond} (hw : zn w = true) {s U : State} (hW : s.WarmedH U.vm) (h : va_Nw w s) : va_Nw w U := by
  cases w <;> first | exact va_Nw.warmF hW h | exact va_Nw.warmM hW h | exact absurd hw (by simp [zn])
section ZBody
variable {l : Launch} {y : MethodName} {cc : ByteArray} {maxL : Nat} {rm : Room} {D : va_G} {tys : List (ClassId × FieldType)} {Ts Ns : List Cond} {wf : ZS → va_W} {av : List Value} {u : ZS}
theorem zI_of {post : Int32 → ZS → Prop} {ret : Option FieldType} (hy : plainName y.cls = true) (hlen : (lg_sl av).length ≤ maxL)
    (body : ∀ (p : Program) (e : Env) (s : State) (m : MethodId) (args : Array Value) (below : List Frame) (meth : Method) (c : Code) (ls : Array Slot) (A : Nat → Prop), zx p rm s m args meth c cc maxL rm.frames rm.locals y.cls ret Ts Ns D tys → zw D A s.heap (wf u) s.heap [] → lv_has ls maxL (lv_args 0 av) →
      W p l e rm s m args below meth c s.heap [] 0 0 (MQ below (va_Qi post (zE D tys wf A) A) args s 0 0 A) (F0 m 0 ls [])) : zI l y (Cond.code y cc maxL ret :: Ts) rm D tys Ns wf av u post := by
  intro sz
  refine Met.ofW (cc := cc) (maxL := maxL) (ret := ret) hy rfl ?_
  intro p e s m args below meth c s₁ B hml hv
  obtain ⟨rfl, hsz, hP, hK, hD0, hN⟩ := hv
  have hts := atoms_spec (ws := Cond.code y cc maxL ret :: Ts) B.pre
  have hown : s.vm.findClass y.cls = some m.cls := findClass_of_methodNamed B.named
  subst hsz
  have hl := lv_entry av (n := maxL) hlen
  rw [lg_entry_eq]
  exact body p e s m _ below meth c _ _ ⟨B.exec, B.bytes, hml, hown, fun w h => hts w (List.mem_cons_of_mem _ h), hN, hK, B.returns, B.notSynchronized, Nat.le_refl _, Nat.le_refl _⟩ ⟨hP, hD0.self, va_S.rf, fun q h => Or.inr h⟩ hl
theorem zJ_of {post : Int64 → ZS → Prop} {ret : Option FieldType} (hy : plainName y.cls = true) (hlen : (lg_sl av).length ≤ maxL)
    (body : ∀ (p : Program) (e : Env) (s : State) (m : MethodId) (args : Array Value) (below : List Frame) (meth : Method) (c : Code) (ls : Array Slot) (A : Nat → Prop), zx p rm s m args meth c cc maxL rm.frames rm.locals y.cls ret Ts Ns D tys → zw D A s.heap (wf u) s.heap [] → lv_has ls maxL (lv_args 0 av) →
      W p l e rm s m args below meth c s.heap [] 0 0 (MQ below (va_Ql post (zE D tys wf A) A) args s 0 0 A) (F0 m 0 ls [])) : zJ l y (Cond.code y cc maxL ret :: Ts) rm D tys Ns wf av u post := by
  intro sz
  refine Met.ofW (cc := cc) (maxL := maxL) (ret := ret) hy rfl ?_
  intro p e s m args below meth c s₁ B hml hv
  obtain ⟨rfl, hsz, hP, hK, hD0, hN⟩ := hv
  have hts := atoms_spec (ws := Cond.code y cc maxL ret :: Ts) B.pre
  have hown : s.vm.findClass y.cls = some m.cls := findClass_of_methodNamed B.named
  subst hsz
  have hl := lv_entry av (n := maxL) hlen
  rw [lg_entry_eq]
  exact body p e s m _ below meth c _ _ ⟨B.exec, B.bytes, hml, hown, fun w h => hts w (List.mem_cons_of_mem _ h), hN, hK, B.returns, B.notSynchronized, Nat.le_refl _, Nat.le_refl _⟩ ⟨hP, hD0.self, va_S.rf, fun q h => Or.inr h⟩ hl
theorem zV_of {post : ZS → Prop} (hy : plainName y.cls = true) (hlen : (lg_sl av).length ≤ maxL)
    (body : ∀ (p : Program) (e : Env) (s : State) (m : MethodId) (args : Array Value) (below : List Frame) (meth : Method) (c : Code) (ls : Array Slot) (A : Nat → Prop), zx p rm s m args meth c cc maxL rm.frames rm.locals y.cls none Ts Ns D tys → zw D A s.heap (wf u) s.heap [] → lv_has ls maxL (lv_args 0 av) →
      W p l e rm s m args below meth c s.heap [] 0 0 (MQ below (va_Qv post (zE D tys wf A) A) args s 0 0 A) (F0 m 0 ls [])) : zV l y (Cond.code y cc maxL none :: Ts) rm D tys Ns wf av u post := by
  intro sz
  refine Met.ofW (cc := cc) (maxL := maxL) (ret := none) hy rfl ?_
  intro p e s m args below meth c s₁ B hml hv
  obtain ⟨rfl, hsz, hP, hK, hD0, hN⟩ := hv
  have hts := atoms_spec (ws := Cond.code y cc maxL none :: Ts) B.pre
  have hown : s.vm.findClass y.cls = some m.cls := findClass_of_methodNamed B.named
  subst hsz
  have hl := lv_entry av (n := maxL) hlen
  rw [lg_entry_eq]
  exact body p e s m _ below meth c _ _ ⟨B.exec, B.bytes, hml, hown, fun w h => hts w (List.mem_cons_of_mem _ h), hN, hK, B.returns, B.notSynchronized, Nat.le_refl _, Nat.le_refl _⟩ ⟨hP, hD0.self, va_S.rf, fun q h => Or.inr h⟩ hl
end ZBody
section ZEnd
variable {p : Program} {l : Launch} {e : Env} {R : Room} {s : State} {m : MethodId} {args : Array Value} {below : List Frame} {meth : Method} {c : Code} {H : Heap} {locs : List Loc}
variable {cc : ByteArray} {pc : Nat} {ls : Array Slot} {D : va_G} {tys : List (ClassId × FieldType)} {wf : ZS → va_W} {A : Nat → Prop} {u : ZS}
theorem zret_i {post : Int32 → ZS → Prop} {v : Int32} (hx : p.tables.exec = Jvm.exec) (hb : c.code = cc) (hr : meth.sig.returnType = some .int) (hlk : meth.locks = false) (hK : va_K D vwCl tys s) (hI : zw D A s.heap (wf u) H locs) (h : post v u) (d : decode cc pc = .ok (.ireturn, 1)) :
    W p l e R s m args below meth c H locs 0 0 (MQ below (va_Qi post (zE D tys wf A) A) args s 0 0 A) (F0 m pc ls [.int v]) :=
  W.iret hx hb hr (fun t ht hW => ⟨⟨v, u, rfl, h, by rw [ht]; exact hI.1, va_K.moved hW.alike hK, hI.2.1⟩, hI.2.2.1.F ht⟩) hI.2.2.1.2.2 d hlk
theorem zret_z {post : Int32 → ZS → Prop} {v : Int32} (hx : p.tables.exec = Jvm.exec) (hb : c.code = cc) (hr : meth.sig.returnType = some .boolean) (hlk : meth.locks = false) (hK : va_K D vwCl tys s) (hI : zw D A s.heap (wf u) H locs) (hz : v = 0 ∨ v = 1) (h : post v u) (d : decode cc pc = .ok (.ireturn, 1)) :
    W p l e R s m args below meth c H locs 0 0 (MQ below (va_Qi post (zE D tys wf A) A) args s 0 0 A) (F0 m pc ls [.int v]) :=
  W.zret hx hb hr (by rcases hz with rfl | rfl <;> decide) (fun t ht hW => ⟨⟨v, u, rfl, h, by rw [ht]; exact hI.1, va_K.moved hW.alike hK, hI.2.1⟩, hI.2.2.1.F ht⟩) hI.2.2.1.2.2 d hlk
theorem zret_l {post : Int64 → ZS → Prop} {v : Int64} (hx : p.tables.exec = Jvm.exec) (hb : c.code = cc) (hr : meth.sig.returnType = some .long) (hlk : meth.locks = false) (hK : va_K D vwCl tys s) (hI : zw D A s.heap (wf u) H locs) (h : post v u) (d : decode cc pc = .ok (.lreturn, 1)) :
    W p l e R s m args below meth c H locs 0 0 (MQ below (va_Ql post (zE D tys wf A) A) args s 0 0 A) (F0 m pc ls [.long v]) :=
  W.lret hx hb hr (fun t ht hW => ⟨⟨v, u, rfl, h, by rw [ht]; exact hI.1, va_K.moved hW.alike hK, hI.2.1⟩, hI.2.2.1.F ht⟩) hI.2.2.1.2.2 d hlk
theorem zret_v {post : ZS → Prop} (hx : p.tables.exec = Jvm.exec) (hb : c.code = cc) (hr : meth.sig.returnType = none) (hlk : meth.locks = false) (hK : va_K D vwCl tys s) (hI : zw D A s.heap (wf u) H locs) (h : post u) (d : decode cc pc = .ok (.return_, 1)) :
    W p l e R s m args below meth c H locs 0 0 (MQ below (va_Qv post (zE D tys wf A) A) args s 0 0 A) (F0 m pc ls []) :=
  W.vret hx hb hr (fun t ht hW => ⟨⟨u, rfl, h, by rw [ht]; exact hI.1, va_K.moved hW.alike hK, hI.2.1⟩, hI.2.2.1.F ht⟩) hI.2.2.1.2.2 d hlk
end ZEnd
section ZCall
variable {p : Program} {l : Launch} {e : Env} {R : Room} {s : State} {m : MethodId} {args : Array Value} {below : List Frame} {meth : Method} {c : Code} {H : Heap} {locs : List Loc} {cells slots : Nat} {Q : State → Prop}
variable {pc : Nat} {ls : Array Slot} {rest st0 : List Value} {a : Array Value} {D : va_G} {tys : List (ClassId × FieldType)} {Ns : List Cond} {wf : ZS → va_W} {A : Nat → Prop} {u : ZS}
theorem zn_on {w : Cond} (hw : zn w = true) : w.onTables = true := by
  cases w <;> first | rfl | exact absurd hw (by simp [zn])
theorem zP_blind (hz : ∀ w ∈ Ns, zn w = true) (av : List Value) (sz : Nat) : FrameBlind (va_Pc av (zP D tys Ns wf sz u)) := by
  intro a U g mk q
  obtain ⟨q0, q1, qP, qK, qD, qN⟩ := q
  exact ⟨q0, q1, qP, va_K.moved (u := U) (U := U.calling g mk a) (Vm.Alike.refl U.vm) qK, qD, fun w hw => va_Nw.same (u := U) (U := U.calling g mk a) (zn_on (hz w hw)) rfl (qN w hw)⟩
theorem z_preS (hz : ∀ w ∈ Ns, zn w = true) (hK : va_K D vwCl tys s) (hN : ∀ w ∈ Ns, va_Nw w s) (hI : zw D A s.heap (wf u) H locs) (av : List Value) : PreS s H (va_Pc av (zP D tys Ns wf H.size u)) av :=
  ⟨zP_blind hz av H.size, fun U hU hW => ⟨rfl, by rw [hU], by rw [hU]; exact hI.1, va_K.moved hW.alike hK, hI.2.1.weaken (fun _ _ _ _ => trivial), fun w hw => zn_warm (hz w hw) hW (hN w hw)⟩⟩
theorem z_preV (hz : ∀ w ∈ Ns, zn w = true) (hK : va_K D vwCl tys s) (hN : ∀ w ∈ Ns, va_Nw w s) (hI : zw D A s.heap (wf u) H locs) (q0 ci : Nat) {q : vw_C} {fs : List Value} {b : Nat} (hc : vwCl[ci]? = some q) (he : (wf u)[q0]? = some (b, .inr (ci, fs))) (av : List Value) : PreV s H q.1 b (va_Pc (.ref b :: av) (zP D tys Ns wf H.size u)) av :=
  ⟨zP_blind hz _ H.size, va_recv hK hI.1 hc he, (z_preS hz hK hN hI (.ref b :: av)).2⟩
theorem z_free (hI : zw D A s.heap (wf u) H locs) : ∀ q, va_A (wf u) H.size q → A q := by
  intro q h
  rcases h with ⟨k, e, h⟩ | h
  · exact hI.2.1.2 k (q, e) h
  · exact hI.2.2.2 q (Nat.le_trans hI.2.2.1.1 h)
theorem zr_i {post : Int32 → ZS → Prop} (hr : va_Run p l e R s m args below meth c H locs cells slots 0 0 (F0 m pc ls st0) rest (va_Qi post (zE D tys wf (va_A (wf u) H.size)) (va_A (wf u) H.size) a) (va_A (wf u) H.size)) (hI : zw D A s.heap (wf u) H locs)
    (kk : ∀ (r : Int32) (u1 : ZS) (H1 : Heap) (locs1 : List Loc), post r u1 → zw D A s.heap (wf u1) H1 locs1 → W p l e R s m args below meth c H1 locs1 cells slots Q (F0 m (pc + 3) ls (.int r :: rest))) : W p l e R s m args below meth c H locs cells slots Q (F0 m pc ls st0) :=
  va_calli hr hI.2.2.1 (fun q _ h => z_free hI q h) (z_free hI) (fun r u1 t H1 locs1 ht hvm hp hB _ _ hS => kk r u1 H1 locs1 hp ⟨by rw [← ht]; exact hB.1, hB.2.2.weaken (fun _ _ _ h => z_free hI _ h), hS, hI.2.2.2⟩)
theorem zr_l {post : Int64 → ZS → Prop} (hr : va_Run p l e R s m args below meth c H locs cells slots 0 0 (F0 m pc ls st0) rest (va_Ql post (zE D tys wf (va_A (wf u) H.size)) (va_A (wf u) H.size) a) (va_A (wf u) H.size)) (hI : zw D A s.heap (wf u) H locs)
    (kk : ∀ (r : Int64) (u1 : ZS) (H1 : Heap) (locs1 : List Loc), post r u1 → zw D A s.heap (wf u1) H1 locs1 → W p l e R s m args below meth c H1 locs1 cells slots Q (F0 m (pc + 3) ls (.long r :: rest))) : W p l e R s m args below meth c H locs cells slots Q (F0 m pc ls st0) :=
  va_calll hr hI.2.2.1 (fun q _ h => z_free hI q h) (z_free hI) (fun r u1 t H1 locs1 ht hvm hp hB _ _ hS => kk r u1 H1 locs1 hp ⟨by rw [← ht]; exact hB.1, hB.2.2.weaken (fun _ _ _ h => z_free hI _ h), hS, hI.2.2.2⟩)
theorem zr_v {post : ZS → Prop} (hr : va_Run p l e R s m args below meth c H locs cells slots 0 0 (F0 m pc ls st0) rest (va_Qv post (zE D tys wf (va_A (wf u) H.size)) (va_A (wf u) H.size) a) (va_A (wf u) H.size)) (hI : zw D A s.heap (wf u) H locs)
    (kk : ∀ (u1 : ZS) (H1 : Heap) (locs1 : List Loc), post u1 → zw D A s.heap (wf u1) H1 locs1 → W p l e R s m args below meth c H1 locs1 cells slots Q (F0 m (pc + 3) ls rest)) : W p l e R s m args below meth c H locs cells slots Q (F0 m pc ls st0) :=
  va_callv hr hI.2.2.1 (fun q _ h => z_free hI q h) (z_free hI) (fun u1 t H1 locs1 ht hvm hp hB _ _ hS => kk u1 H1 locs1 hp ⟨by rw [← ht]; exact hB.1, hB.2.2.weaken (fun _ _ _ h => z_free hI _ h), hS, hI.2.2.2⟩)
end ZCall
/-- the tables' words that every contract may use -/
theorem zG_good : GoodIn zG zG := fun w h => ⟨h, good_of_word (List.mem_filter.mp h).2⟩
section ZGood
variable {own C : String} {idx n : Nat} {y : MethodName} {b : ByteArray} {r : Option FieldType}
theorem zg_c (h5 : Cond.code y b n r ∈ zG) : GoodIn zG (Cond.code y b n r :: zG) := fun w hw => (List.mem_cons.mp hw).elim (fun e => by rw [e]; exact zG_good _ h5) (fun h => zG_good w h)
theorem zg_V (h1 : Cond.methodLink own idx y ∈ zG) (h2 : Cond.instanceMethod y ∈ zG) (h3 : Cond.selects C y y ∈ zG) (h4 : Cond.initialized C ∈ zG) (h5 : Cond.code y b n r ∈ zG) : GoodIn zG (wsV own idx C y (Cond.code y b n r :: zG)) := by
  intro w hw
  unfold wsV at hw
  rcases List.mem_append.mp hw with h | h
  · simp only [List.mem_cons, List.not_mem_nil, or_false] at h
    rcases h with h | h | h | h <;> rw [h]
    · exact zG_good _ h1
    · exact zG_good _ h2
    · exact zG_good _ h3
    · exact zG_good _ h4
  · exact zg_c h5 w h
theorem zg_S (h1 : Cond.methodLink own idx y ∈ zG) (h2 : Cond.static y ∈ zG) (h3 : Cond.initialized y.cls ∈ zG) (h5 : Cond.code y b n r ∈ zG) : GoodIn zG (va_wsS own idx y (Cond.code y b n r :: zG)) := by
  intro w hw
  unfold va_wsS at hw
  rcases List.mem_append.mp hw with h | h
  · simp only [List.mem_cons, List.not_mem_nil, or_false] at h
    rcases h with h | h | h <;> rw [h]
    · exact zG_good _ h1
    · exact zG_good _ h2
    · exact zG_good _ h3
  · exact zg_c h5 w h
end ZGood
end
section
abbrev c_x_init : ByteArray := prog_1_method_1_code
def y_x_init : MethodName := ⟨"ShortBridge", "<init>", "()V"⟩
theorem d_x_init_0 : decode c_x_init 0 = .ok (.aload_n 0, 1) := by decide +kernel
theorem d_x_init_1 : decode c_x_init 1 = .ok (.invokespecial 1, 3) := by decide +kernel
theorem d_x_init_4 : decode c_x_init 4 = .ok (.aload_n 0, 1) := by decide +kernel
theorem d_x_init_5 : decode c_x_init 5 = .ok (.new 7, 3) := by decide +kernel
theorem d_x_init_8 : decode c_x_init 8 = .ok (.dup, 1) := by decide +kernel
theorem d_x_init_9 : decode c_x_init 9 = .ok (.invokespecial 9, 3) := by decide +kernel
theorem d_x_init_12 : decode c_x_init 12 = .ok (.putfield 10, 3) := by decide +kernel
theorem d_x_init_15 : decode c_x_init 15 = .ok (.aload_n 0, 1) := by decide +kernel
theorem d_x_init_16 : decode c_x_init 16 = .ok (.new 16, 3) := by decide +kernel
theorem d_x_init_19 : decode c_x_init 19 = .ok (.dup, 1) := by decide +kernel
theorem d_x_init_20 : decode c_x_init 20 = .ok (.invokespecial 18, 3) := by decide +kernel
theorem d_x_init_23 : decode c_x_init 23 = .ok (.putfield 19, 3) := by decide +kernel
theorem d_x_init_26 : decode c_x_init 26 = .ok (.aload_n 0, 1) := by decide +kernel
theorem d_x_init_27 : decode c_x_init 27 = .ok (.new 23, 3) := by decide +kernel
theorem d_x_init_30 : decode c_x_init 30 = .ok (.dup, 1) := by decide +kernel
theorem d_x_init_31 : decode c_x_init 31 = .ok (.invokespecial 25, 3) := by decide +kernel
theorem d_x_init_34 : decode c_x_init 34 = .ok (.putfield 26, 3) := by decide +kernel
theorem d_x_init_37 : decode c_x_init 37 = .ok (.aload_n 0, 1) := by decide +kernel
theorem d_x_init_38 : decode c_x_init 38 = .ok (.new 30, 3) := by decide +kernel
theorem d_x_init_41 : decode c_x_init 41 = .ok (.dup, 1) := by decide +kernel
theorem d_x_init_42 : decode c_x_init 42 = .ok (.invokespecial 32, 3) := by decide +kernel
theorem d_x_init_45 : decode c_x_init 45 = .ok (.putfield 33, 3) := by decide +kernel
theorem d_x_init_48 : decode c_x_init 48 = .ok (.return_, 1) := by decide +kernel
abbrev c_x_deal : ByteArray := prog_1_method_2_code
def y_x_deal : MethodName := ⟨"ShortBridge", "deal", "(JII)Z"⟩
theorem d_x_deal_0 : decode c_x_deal 0 = .ok (.lload_n 1, 1) := by decide +kernel
theorem d_x_deal_1 : decode c_x_deal 1 = .ok (.invokestatic 37, 3) := by decide +kernel
theorem d_x_deal_4 : decode c_x_deal 4 = .ok (.ifCond .eq 12, 3) := by decide +kernel
theorem d_x_deal_7 : decode c_x_deal 7 = .ok (.iload_n 3, 1) := by decide +kernel
theorem d_x_deal_8 : decode c_x_deal 8 = .ok (.iload 4, 2) := by decide +kernel
theorem d_x_deal_10 : decode c_x_deal 10 = .ok (.invokestatic 41, 3) := by decide +kernel
theorem d_x_deal_13 : decode c_x_deal 13 = .ok (.ifCond .ne 5, 3) := by decide +kernel
theorem d_x_deal_16 : decode c_x_deal 16 = .ok (.iconst 0, 1) := by decide +kernel
theorem d_x_deal_17 : decode c_x_deal 17 = .ok (.ireturn, 1) := by decide +kernel
theorem d_x_deal_18 : decode c_x_deal 18 = .ok (.aload_n 0, 1) := by decide +kernel
theorem d_x_deal_19 : decode c_x_deal 19 = .ok (.getfield 10, 3) := by decide +kernel
theorem d_x_deal_22 : decode c_x_deal 22 = .ok (.lload_n 1, 1) := by decide +kernel
theorem d_x_deal_23 : decode c_x_deal 23 = .ok (.invokevirtual 45, 3) := by decide +kernel
theorem d_x_deal_26 : decode c_x_deal 26 = .ok (.aload_n 0, 1) := by decide +kernel
theorem d_x_deal_27 : decode c_x_deal 27 = .ok (.iload_n 3, 1) := by decide +kernel
theorem d_x_deal_28 : decode c_x_deal 28 = .ok (.iload 4, 2) := by decide +kernel
theorem d_x_deal_30 : decode c_x_deal 30 = .ok (.invokevirtual 49, 3) := by decide +kernel
theorem d_x_deal_33 : decode c_x_deal 33 = .ok (.iconst 1, 1) := by decide +kernel
theorem d_x_deal_34 : decode c_x_deal 34 = .ok (.ireturn, 1) := by decide +kernel
abbrev c_x_shuffle : ByteArray := prog_1_method_3_code
def y_x_shuffle : MethodName := ⟨"ShortBridge", "shuffle", "(JII)J"⟩
theorem d_x_shuffle_0 : decode c_x_shuffle 0 = .ok (.iload_n 3, 1) := by decide +kernel
theorem d_x_shuffle_1 : decode c_x_shuffle 1 = .ok (.iload 4, 2) := by decide +kernel
theorem d_x_shuffle_3 : decode c_x_shuffle 3 = .ok (.invokestatic 41, 3) := by decide +kernel
theorem d_x_shuffle_6 : decode c_x_shuffle 6 = .ok (.ifCond .ne 7, 3) := by decide +kernel
theorem d_x_shuffle_9 : decode c_x_shuffle 9 = .ok (.ldc2_w 53, 3) := by decide +kernel
theorem d_x_shuffle_12 : decode c_x_shuffle 12 = .ok (.lreturn, 1) := by decide +kernel
theorem d_x_shuffle_13 : decode c_x_shuffle 13 = .ok (.aload_n 0, 1) := by decide +kernel
theorem d_x_shuffle_14 : decode c_x_shuffle 14 = .ok (.getfield 10, 3) := by decide +kernel
theorem d_x_shuffle_17 : decode c_x_shuffle 17 = .ok (.lload_n 1, 1) := by decide +kernel
theorem d_x_shuffle_18 : decode c_x_shuffle 18 = .ok (.invokevirtual 55, 3) := by decide +kernel
theorem d_x_shuffle_21 : decode c_x_shuffle 21 = .ok (.aload_n 0, 1) := by decide +kernel
theorem d_x_shuffle_22 : decode c_x_shuffle 22 = .ok (.iload_n 3, 1) := by decide +kernel
theorem d_x_shuffle_23 : decode c_x_shuffle 23 = .ok (.iload 4, 2) := by decide +kernel
theorem d_x_shuffle_25 : decode c_x_shuffle 25 = .ok (.invokevirtual 49, 3) := by decide +kernel
theorem d_x_shuffle_28 : decode c_x_shuffle 28 = .ok (.aload_n 0, 1) := by decide +kernel
theorem d_x_shuffle_29 : decode c_x_shuffle 29 = .ok (.getfield 10, 3) := by decide +kernel
theorem d_x_shuffle_32 : decode c_x_shuffle 32 = .ok (.getfield 58, 3) := by decide +kernel
theorem d_x_shuffle_35 : decode c_x_shuffle 35 = .ok (.lreturn, 1) := by decide +kernel
abbrev c_x_number : ByteArray := prog_1_method_4_code
def y_x_number : MethodName := ⟨"ShortBridge", "number", "()J"⟩
theorem d_x_number_0 : decode c_x_number 0 = .ok (.aload_n 0, 1) := by decide +kernel
theorem d_x_number_1 : decode c_x_number 1 = .ok (.getfield 62, 3) := by decide +kernel
theorem d_x_number_4 : decode c_x_number 4 = .ok (.ifCond .eq 13, 3) := by decide +kernel
theorem d_x_number_7 : decode c_x_number 7 = .ok (.aload_n 0, 1) := by decide +kernel
theorem d_x_number_8 : decode c_x_number 8 = .ok (.getfield 10, 3) := by decide +kernel
theorem d_x_number_11 : decode c_x_number 11 = .ok (.getfield 58, 3) := by decide +kernel
theorem d_x_number_14 : decode c_x_number 14 = .ok (.goto 6, 3) := by decide +kernel
theorem d_x_number_17 : decode c_x_number 17 = .ok (.ldc2_w 53, 3) := by decide +kernel
theorem d_x_number_20 : decode c_x_number 20 = .ok (.lreturn, 1) := by decide +kernel
abbrev c_x_phase : ByteArray := prog_1_method_5_code
def y_x_phase : MethodName := ⟨"ShortBridge", "phase", "()I"⟩
theorem d_x_phase_0 : decode c_x_phase 0 = .ok (.aload_n 0, 1) := by decide +kernel
theorem d_x_phase_1 : decode c_x_phase 1 = .ok (.getfield 62, 3) := by decide +kernel
theorem d_x_phase_4 : decode c_x_phase 4 = .ok (.ifCond .ne 5, 3) := by decide +kernel
theorem d_x_phase_7 : decode c_x_phase 7 = .ok (.iconst 0, 1) := by decide +kernel
theorem d_x_phase_8 : decode c_x_phase 8 = .ok (.ireturn, 1) := by decide +kernel
theorem d_x_phase_9 : decode c_x_phase 9 = .ok (.aload_n 0, 1) := by decide +kernel
theorem d_x_phase_10 : decode c_x_phase 10 = .ok (.getfield 19, 3) := by decide +kernel
theorem d_x_phase_13 : decode c_x_phase 13 = .ok (.invokevirtual 66, 3) := by decide +kernel
theorem d_x_phase_16 : decode c_x_phase 16 = .ok (.ifCond .ne 5, 3) := by decide +kernel
theorem d_x_phase_19 : decode c_x_phase 19 = .ok (.iconst 1, 1) := by decide +kernel
theorem d_x_phase_20 : decode c_x_phase 20 = .ok (.ireturn, 1) := by decide +kernel
theorem d_x_phase_21 : decode c_x_phase 21 = .ok (.aload_n 0, 1) := by decide +kernel
theorem d_x_phase_22 : decode c_x_phase 22 = .ok (.getfield 19, 3) := by decide +kernel
theorem d_x_phase_25 : decode c_x_phase 25 = .ok (.invokevirtual 70, 3) := by decide +kernel
theorem d_x_phase_28 : decode c_x_phase 28 = .ok (.iconst (-1), 1) := by decide +kernel
theorem d_x_phase_29 : decode c_x_phase 29 = .ok (.if_icmp .eq 13, 3) := by decide +kernel
theorem d_x_phase_32 : decode c_x_phase 32 = .ok (.aload_n 0, 1) := by decide +kernel
theorem d_x_phase_33 : decode c_x_phase 33 = .ok (.getfield 26, 3) := by decide +kernel
theorem d_x_phase_36 : decode c_x_phase 36 = .ok (.invokevirtual 74, 3) := by decide +kernel
theorem d_x_phase_39 : decode c_x_phase 39 = .ok (.ifCond .eq 7, 3) := by decide +kernel
theorem d_x_phase_42 : decode c_x_phase 42 = .ok (.iconst 3, 1) := by decide +kernel
theorem d_x_phase_43 : decode c_x_phase 43 = .ok (.goto 4, 3) := by decide +kernel
theorem d_x_phase_46 : decode c_x_phase 46 = .ok (.iconst 2, 1) := by decide +kernel
theorem d_x_phase_47 : decode c_x_phase 47 = .ok (.ireturn, 1) := by decide +kernel
abbrev c_x_turn : ByteArray := prog_1_method_6_code
def y_x_turn : MethodName := ⟨"ShortBridge", "turn", "()I"⟩
theorem d_x_turn_0 : decode c_x_turn 0 = .ok (.aload_n 0, 1) := by decide +kernel
theorem d_x_turn_1 : decode c_x_turn 1 = .ok (.invokevirtual 77, 3) := by decide +kernel
theorem d_x_turn_4 : decode c_x_turn 4 = .ok (.lookupswitch 44 #[(1, 28), (2, 36)], 28) := by decide +kernel
theorem d_x_turn_32 : decode c_x_turn 32 = .ok (.aload_n 0, 1) := by decide +kernel
theorem d_x_turn_33 : decode c_x_turn 33 = .ok (.getfield 19, 3) := by decide +kernel
theorem d_x_turn_36 : decode c_x_turn 36 = .ok (.invokevirtual 80, 3) := by decide +kernel
theorem d_x_turn_39 : decode c_x_turn 39 = .ok (.ireturn, 1) := by decide +kernel
theorem d_x_turn_40 : decode c_x_turn 40 = .ok (.aload_n 0, 1) := by decide +kernel
theorem d_x_turn_41 : decode c_x_turn 41 = .ok (.getfield 26, 3) := by decide +kernel
theorem d_x_turn_44 : decode c_x_turn 44 = .ok (.invokevirtual 83, 3) := by decide +kernel
theorem d_x_turn_47 : decode c_x_turn 47 = .ok (.ireturn, 1) := by decide +kernel
theorem d_x_turn_48 : decode c_x_turn 48 = .ok (.iconst (-1), 1) := by decide +kernel
theorem d_x_turn_49 : decode c_x_turn 49 = .ok (.ireturn, 1) := by decide +kernel
abbrev c_x_has : ByteArray := prog_1_method_7_code
def y_x_has : MethodName := ⟨"ShortBridge", "has", "(II)Z"⟩
theorem d_x_has_0 : decode c_x_has 0 = .ok (.iload_n 1, 1) := by decide +kernel
theorem d_x_has_1 : decode c_x_has 1 = .ok (.invokestatic 86, 3) := by decide +kernel
theorem d_x_has_4 : decode c_x_has 4 = .ok (.ifCond .eq 19, 3) := by decide +kernel
theorem d_x_has_7 : decode c_x_has 7 = .ok (.aload_n 0, 1) := by decide +kernel
theorem d_x_has_8 : decode c_x_has 8 = .ok (.getfield 26, 3) := by decide +kernel
theorem d_x_has_11 : decode c_x_has 11 = .ok (.iload_n 1, 1) := by decide +kernel
theorem d_x_has_12 : decode c_x_has 12 = .ok (.iload_n 2, 1) := by decide +kernel
theorem d_x_has_13 : decode c_x_has 13 = .ok (.invokevirtual 90, 3) := by decide +kernel
theorem d_x_has_16 : decode c_x_has 16 = .ok (.ifCond .eq 7, 3) := by decide +kernel
theorem d_x_has_19 : decode c_x_has 19 = .ok (.iconst 1, 1) := by decide +kernel
theorem d_x_has_20 : decode c_x_has 20 = .ok (.goto 4, 3) := by decide +kernel
theorem d_x_has_23 : decode c_x_has 23 = .ok (.iconst 0, 1) := by decide +kernel
theorem d_x_has_24 : decode c_x_has 24 = .ok (.ireturn, 1) := by decide +kernel
abbrev c_x_call : ByteArray := prog_1_method_8_code
def y_x_call : MethodName := ⟨"ShortBridge", "call", "(I)V"⟩
theorem d_x_call_0 : decode c_x_call 0 = .ok (.aload_n 0, 1) := by decide +kernel
theorem d_x_call_1 : decode c_x_call 1 = .ok (.invokevirtual 77, 3) := by decide +kernel
theorem d_x_call_4 : decode c_x_call 4 = .ok (.iconst 1, 1) := by decide +kernel
theorem d_x_call_5 : decode c_x_call 5 = .ok (.if_icmp .eq 13, 3) := by decide +kernel
theorem d_x_call_8 : decode c_x_call 8 = .ok (.new 93, 3) := by decide +kernel
theorem d_x_call_11 : decode c_x_call 11 = .ok (.dup, 1) := by decide +kernel
theorem d_x_call_12 : decode c_x_call 12 = .ok (.ldc 95, 2) := by decide +kernel
theorem d_x_call_14 : decode c_x_call 14 = .ok (.invokespecial 97, 3) := by decide +kernel
theorem d_x_call_17 : decode c_x_call 17 = .ok (.athrow, 1) := by decide +kernel
theorem d_x_call_18 : decode c_x_call 18 = .ok (.iload_n 1, 1) := by decide +kernel
theorem d_x_call_19 : decode c_x_call 19 = .ok (.invokestatic 100, 3) := by decide +kernel
theorem d_x_call_22 : decode c_x_call 22 = .ok (.ifCond .ne 13, 3) := by decide +kernel
theorem d_x_call_25 : decode c_x_call 25 = .ok (.new 103, 3) := by decide +kernel
theorem d_x_call_28 : decode c_x_call 28 = .ok (.dup, 1) := by decide +kernel
theorem d_x_call_29 : decode c_x_call 29 = .ok (.ldc 105, 2) := by decide +kernel
theorem d_x_call_31 : decode c_x_call 31 = .ok (.invokespecial 107, 3) := by decide +kernel
theorem d_x_call_34 : decode c_x_call 34 = .ok (.athrow, 1) := by decide +kernel
theorem d_x_call_35 : decode c_x_call 35 = .ok (.aload_n 0, 1) := by decide +kernel
theorem d_x_call_36 : decode c_x_call 36 = .ok (.getfield 19, 3) := by decide +kernel
theorem d_x_call_39 : decode c_x_call 39 = .ok (.iload_n 1, 1) := by decide +kernel
theorem d_x_call_40 : decode c_x_call 40 = .ok (.invokevirtual 108, 3) := by decide +kernel
theorem d_x_call_43 : decode c_x_call 43 = .ok (.ifCond .ne 13, 3) := by decide +kernel
theorem d_x_call_46 : decode c_x_call 46 = .ok (.new 111, 3) := by decide +kernel
theorem d_x_call_49 : decode c_x_call 49 = .ok (.dup, 1) := by decide +kernel
theorem d_x_call_50 : decode c_x_call 50 = .ok (.ldc 113, 2) := by decide +kernel
theorem d_x_call_52 : decode c_x_call 52 = .ok (.invokespecial 115, 3) := by decide +kernel
theorem d_x_call_55 : decode c_x_call 55 = .ok (.athrow, 1) := by decide +kernel
theorem d_x_call_56 : decode c_x_call 56 = .ok (.aload_n 0, 1) := by decide +kernel
theorem d_x_call_57 : decode c_x_call 57 = .ok (.getfield 19, 3) := by decide +kernel
theorem d_x_call_60 : decode c_x_call 60 = .ok (.iload_n 1, 1) := by decide +kernel
theorem d_x_call_61 : decode c_x_call 61 = .ok (.invokevirtual 116, 3) := by decide +kernel
theorem d_x_call_64 : decode c_x_call 64 = .ok (.aload_n 0, 1) := by decide +kernel
theorem d_x_call_65 : decode c_x_call 65 = .ok (.invokevirtual 77, 3) := by decide +kernel
theorem d_x_call_68 : decode c_x_call 68 = .ok (.iconst 2, 1) := by decide +kernel
theorem d_x_call_69 : decode c_x_call 69 = .ok (.if_icmp .ne 27, 3) := by decide +kernel
theorem d_x_call_72 : decode c_x_call 72 = .ok (.aload_n 0, 1) := by decide +kernel
theorem d_x_call_73 : decode c_x_call 73 = .ok (.getfield 26, 3) := by decide +kernel
theorem d_x_call_76 : decode c_x_call 76 = .ok (.aload_n 0, 1) := by decide +kernel
theorem d_x_call_77 : decode c_x_call 77 = .ok (.getfield 19, 3) := by decide +kernel
theorem d_x_call_80 : decode c_x_call 80 = .ok (.invokevirtual 120, 3) := by decide +kernel
theorem d_x_call_83 : decode c_x_call 83 = .ok (.aload_n 0, 1) := by decide +kernel
theorem d_x_call_84 : decode c_x_call 84 = .ok (.getfield 19, 3) := by decide +kernel
theorem d_x_call_87 : decode c_x_call 87 = .ok (.invokevirtual 70, 3) := by decide +kernel
theorem d_x_call_90 : decode c_x_call 90 = .ok (.invokestatic 123, 3) := by decide +kernel
theorem d_x_call_93 : decode c_x_call 93 = .ok (.invokevirtual 127, 3) := by decide +kernel
theorem d_x_call_96 : decode c_x_call 96 = .ok (.return_, 1) := by decide +kernel
abbrev c_x_play : ByteArray := prog_1_method_9_code
def y_x_play : MethodName := ⟨"ShortBridge", "play", "(I)V"⟩
theorem d_x_play_0 : decode c_x_play 0 = .ok (.aload_n 0, 1) := by decide +kernel
theorem d_x_play_1 : decode c_x_play 1 = .ok (.invokevirtual 77, 3) := by decide +kernel
theorem d_x_play_4 : decode c_x_play 4 = .ok (.iconst 2, 1) := by decide +kernel
theorem d_x_play_5 : decode c_x_play 5 = .ok (.if_icmp .eq 13, 3) := by decide +kernel
theorem d_x_play_8 : decode c_x_play 8 = .ok (.new 93, 3) := by decide +kernel
theorem d_x_play_11 : decode c_x_play 11 = .ok (.dup, 1) := by decide +kernel
theorem d_x_play_12 : decode c_x_play 12 = .ok (.ldc 130, 2) := by decide +kernel
theorem d_x_play_14 : decode c_x_play 14 = .ok (.invokespecial 97, 3) := by decide +kernel
theorem d_x_play_17 : decode c_x_play 17 = .ok (.athrow, 1) := by decide +kernel
theorem d_x_play_18 : decode c_x_play 18 = .ok (.aload_n 0, 1) := by decide +kernel
theorem d_x_play_19 : decode c_x_play 19 = .ok (.getfield 26, 3) := by decide +kernel
theorem d_x_play_22 : decode c_x_play 22 = .ok (.aload_n 0, 1) := by decide +kernel
theorem d_x_play_23 : decode c_x_play 23 = .ok (.getfield 26, 3) := by decide +kernel
theorem d_x_play_26 : decode c_x_play 26 = .ok (.invokevirtual 83, 3) := by decide +kernel
theorem d_x_play_29 : decode c_x_play 29 = .ok (.iload_n 1, 1) := by decide +kernel
theorem d_x_play_30 : decode c_x_play 30 = .ok (.invokevirtual 90, 3) := by decide +kernel
theorem d_x_play_33 : decode c_x_play 33 = .ok (.ifCond .ne 13, 3) := by decide +kernel
theorem d_x_play_36 : decode c_x_play 36 = .ok (.new 132, 3) := by decide +kernel
theorem d_x_play_39 : decode c_x_play 39 = .ok (.dup, 1) := by decide +kernel
theorem d_x_play_40 : decode c_x_play 40 = .ok (.ldc 134, 2) := by decide +kernel
theorem d_x_play_42 : decode c_x_play 42 = .ok (.invokespecial 136, 3) := by decide +kernel
theorem d_x_play_45 : decode c_x_play 45 = .ok (.athrow, 1) := by decide +kernel
theorem d_x_play_46 : decode c_x_play 46 = .ok (.aload_n 0, 1) := by decide +kernel
theorem d_x_play_47 : decode c_x_play 47 = .ok (.getfield 26, 3) := by decide +kernel
theorem d_x_play_50 : decode c_x_play 50 = .ok (.iload_n 1, 1) := by decide +kernel
theorem d_x_play_51 : decode c_x_play 51 = .ok (.invokevirtual 137, 3) := by decide +kernel
theorem d_x_play_54 : decode c_x_play 54 = .ok (.ifCond .ne 13, 3) := by decide +kernel
theorem d_x_play_57 : decode c_x_play 57 = .ok (.new 111, 3) := by decide +kernel
theorem d_x_play_60 : decode c_x_play 60 = .ok (.dup, 1) := by decide +kernel
theorem d_x_play_61 : decode c_x_play 61 = .ok (.ldc 140, 2) := by decide +kernel
theorem d_x_play_63 : decode c_x_play 63 = .ok (.invokespecial 115, 3) := by decide +kernel
theorem d_x_play_66 : decode c_x_play 66 = .ok (.athrow, 1) := by decide +kernel
theorem d_x_play_67 : decode c_x_play 67 = .ok (.aload_n 0, 1) := by decide +kernel
theorem d_x_play_68 : decode c_x_play 68 = .ok (.getfield 26, 3) := by decide +kernel
theorem d_x_play_71 : decode c_x_play 71 = .ok (.iload_n 1, 1) := by decide +kernel
theorem d_x_play_72 : decode c_x_play 72 = .ok (.invokevirtual 142, 3) := by decide +kernel
theorem d_x_play_75 : decode c_x_play 75 = .ok (.return_, 1) := by decide +kernel
abbrev c_x_back : ByteArray := prog_1_method_10_code
def y_x_back : MethodName := ⟨"ShortBridge", "back", "()Z"⟩
theorem d_x_back_0 : decode c_x_back 0 = .ok (.aload_n 0, 1) := by decide +kernel
theorem d_x_back_1 : decode c_x_back 1 = .ok (.getfield 26, 3) := by decide +kernel
theorem d_x_back_4 : decode c_x_back 4 = .ok (.getfield 145, 3) := by decide +kernel
theorem d_x_back_7 : decode c_x_back 7 = .ok (.ifCond .le 12, 3) := by decide +kernel
theorem d_x_back_10 : decode c_x_back 10 = .ok (.aload_n 0, 1) := by decide +kernel
theorem d_x_back_11 : decode c_x_back 11 = .ok (.getfield 26, 3) := by decide +kernel
theorem d_x_back_14 : decode c_x_back 14 = .ok (.invokevirtual 149, 3) := by decide +kernel
theorem d_x_back_17 : decode c_x_back 17 = .ok (.iconst 1, 1) := by decide +kernel
theorem d_x_back_18 : decode c_x_back 18 = .ok (.ireturn, 1) := by decide +kernel
theorem d_x_back_19 : decode c_x_back 19 = .ok (.aload_n 0, 1) := by decide +kernel
theorem d_x_back_20 : decode c_x_back 20 = .ok (.invokevirtual 77, 3) := by decide +kernel
theorem d_x_back_23 : decode c_x_back 23 = .ok (.iconst 2, 1) := by decide +kernel
theorem d_x_back_24 : decode c_x_back 24 = .ok (.if_icmp .eq 13, 3) := by decide +kernel
theorem d_x_back_27 : decode c_x_back 27 = .ok (.aload_n 0, 1) := by decide +kernel
theorem d_x_back_28 : decode c_x_back 28 = .ok (.getfield 19, 3) := by decide +kernel
theorem d_x_back_31 : decode c_x_back 31 = .ok (.getfield 152, 3) := by decide +kernel
theorem d_x_back_34 : decode c_x_back 34 = .ok (.ifCond .ne 5, 3) := by decide +kernel
theorem d_x_back_37 : decode c_x_back 37 = .ok (.iconst 0, 1) := by decide +kernel
theorem d_x_back_38 : decode c_x_back 38 = .ok (.ireturn, 1) := by decide +kernel
theorem d_x_back_39 : decode c_x_back 39 = .ok (.aload_n 0, 1) := by decide +kernel
theorem d_x_back_40 : decode c_x_back 40 = .ok (.getfield 19, 3) := by decide +kernel
theorem d_x_back_43 : decode c_x_back 43 = .ok (.invokevirtual 153, 3) := by decide +kernel
theorem d_x_back_46 : decode c_x_back 46 = .ok (.iconst 1, 1) := by decide +kernel
theorem d_x_back_47 : decode c_x_back 47 = .ok (.ireturn, 1) := by decide +kernel
abbrev c_x_contract : ByteArray := prog_1_method_11_code
def y_x_contract : MethodName := ⟨"ShortBridge", "contract", "(I)I"⟩
theorem d_x_contract_0 : decode c_x_contract 0 = .ok (.aload_n 0, 1) := by decide +kernel
theorem d_x_contract_1 : decode c_x_contract 1 = .ok (.getfield 19, 3) := by decide +kernel
theorem d_x_contract_4 : decode c_x_contract 4 = .ok (.invokevirtual 70, 3) := by decide +kernel
theorem d_x_contract_7 : decode c_x_contract 7 = .ok (.iconst (-1), 1) := by decide +kernel
theorem d_x_contract_8 : decode c_x_contract 8 = .ok (.if_icmp .ne 5, 3) := by decide +kernel
theorem d_x_contract_11 : decode c_x_contract 11 = .ok (.iconst (-1), 1) := by decide +kernel
theorem d_x_contract_12 : decode c_x_contract 12 = .ok (.ireturn, 1) := by decide +kernel
theorem d_x_contract_13 : decode c_x_contract 13 = .ok (.iload_n 1, 1) := by decide +kernel
theorem d_x_contract_14 : decode c_x_contract 14 = .ok (.tableswitch 50 0 2 #[26, 34, 42], 26) := by decide +kernel
theorem d_x_contract_40 : decode c_x_contract 40 = .ok (.aload_n 0, 1) := by decide +kernel
theorem d_x_contract_41 : decode c_x_contract 41 = .ok (.getfield 19, 3) := by decide +kernel
theorem d_x_contract_44 : decode c_x_contract 44 = .ok (.invokevirtual 70, 3) := by decide +kernel
theorem d_x_contract_47 : decode c_x_contract 47 = .ok (.ireturn, 1) := by decide +kernel
theorem d_x_contract_48 : decode c_x_contract 48 = .ok (.aload_n 0, 1) := by decide +kernel
theorem d_x_contract_49 : decode c_x_contract 49 = .ok (.getfield 19, 3) := by decide +kernel
theorem d_x_contract_52 : decode c_x_contract 52 = .ok (.invokevirtual 154, 3) := by decide +kernel
theorem d_x_contract_55 : decode c_x_contract 55 = .ok (.ireturn, 1) := by decide +kernel
theorem d_x_contract_56 : decode c_x_contract 56 = .ok (.aload_n 0, 1) := by decide +kernel
theorem d_x_contract_57 : decode c_x_contract 57 = .ok (.getfield 19, 3) := by decide +kernel
theorem d_x_contract_60 : decode c_x_contract 60 = .ok (.invokevirtual 120, 3) := by decide +kernel
theorem d_x_contract_63 : decode c_x_contract 63 = .ok (.ireturn, 1) := by decide +kernel
theorem d_x_contract_64 : decode c_x_contract 64 = .ok (.iconst (-1), 1) := by decide +kernel
theorem d_x_contract_65 : decode c_x_contract 65 = .ok (.ireturn, 1) := by decide +kernel
abbrev c_x_tricks : ByteArray := prog_1_method_12_code
def y_x_tricks : MethodName := ⟨"ShortBridge", "tricks", "(I)I"⟩
theorem d_x_tricks_0 : decode c_x_tricks 0 = .ok (.iload_n 1, 1) := by decide +kernel
theorem d_x_tricks_1 : decode c_x_tricks 1 = .ok (.ifCond .eq 8, 3) := by decide +kernel
theorem d_x_tricks_4 : decode c_x_tricks 4 = .ok (.iload_n 1, 1) := by decide +kernel
theorem d_x_tricks_5 : decode c_x_tricks 5 = .ok (.iconst 1, 1) := by decide +kernel
theorem d_x_tricks_6 : decode c_x_tricks 6 = .ok (.if_icmp .ne 14, 3) := by decide +kernel
theorem d_x_tricks_9 : decode c_x_tricks 9 = .ok (.aload_n 0, 1) := by decide +kernel
theorem d_x_tricks_10 : decode c_x_tricks 10 = .ok (.getfield 26, 3) := by decide +kernel
theorem d_x_tricks_13 : decode c_x_tricks 13 = .ok (.iload_n 1, 1) := by decide +kernel
theorem d_x_tricks_14 : decode c_x_tricks 14 = .ok (.invokevirtual 157, 3) := by decide +kernel
theorem d_x_tricks_17 : decode c_x_tricks 17 = .ok (.goto 4, 3) := by decide +kernel
theorem d_x_tricks_20 : decode c_x_tricks 20 = .ok (.iconst (-1), 1) := by decide +kernel
theorem d_x_tricks_21 : decode c_x_tricks 21 = .ok (.ireturn, 1) := by decide +kernel
abbrev c_x_table : ByteArray := prog_1_method_13_code
def y_x_table : MethodName := ⟨"ShortBridge", "table", "(I)I"⟩
theorem d_x_table_0 : decode c_x_table 0 = .ok (.aload_n 0, 1) := by decide +kernel
theorem d_x_table_1 : decode c_x_table 1 = .ok (.getfield 26, 3) := by decide +kernel
theorem d_x_table_4 : decode c_x_table 4 = .ok (.iload_n 1, 1) := by decide +kernel
theorem d_x_table_5 : decode c_x_table 5 = .ok (.invokevirtual 160, 3) := by decide +kernel
theorem d_x_table_8 : decode c_x_table 8 = .ok (.ireturn, 1) := by decide +kernel
abbrev c_x_score : ByteArray := prog_1_method_14_code
def y_x_score : MethodName := ⟨"ShortBridge", "score", "()I"⟩
theorem d_x_score_0 : decode c_x_score 0 = .ok (.aload_n 0, 1) := by decide +kernel
theorem d_x_score_1 : decode c_x_score 1 = .ok (.invokevirtual 77, 3) := by decide +kernel
theorem d_x_score_4 : decode c_x_score 4 = .ok (.iconst 3, 1) := by decide +kernel
theorem d_x_score_5 : decode c_x_score 5 = .ok (.if_icmp .eq 13, 3) := by decide +kernel
theorem d_x_score_8 : decode c_x_score 8 = .ok (.new 93, 3) := by decide +kernel
theorem d_x_score_11 : decode c_x_score 11 = .ok (.dup, 1) := by decide +kernel
theorem d_x_score_12 : decode c_x_score 12 = .ok (.ldc 163, 2) := by decide +kernel
theorem d_x_score_14 : decode c_x_score 14 = .ok (.invokespecial 97, 3) := by decide +kernel
theorem d_x_score_17 : decode c_x_score 17 = .ok (.athrow, 1) := by decide +kernel
theorem d_x_score_18 : decode c_x_score 18 = .ok (.aload_n 0, 1) := by decide +kernel
theorem d_x_score_19 : decode c_x_score 19 = .ok (.invokevirtual 165, 3) := by decide +kernel
theorem d_x_score_22 : decode c_x_score 22 = .ok (.ireturn, 1) := by decide +kernel
abbrev c_x_solve : ByteArray := prog_1_method_15_code
def y_x_solve : MethodName := ⟨"ShortBridge", "solve", "()I"⟩
theorem d_x_solve_0 : decode c_x_solve 0 = .ok (.aload_n 0, 1) := by decide +kernel
theorem d_x_solve_1 : decode c_x_solve 1 = .ok (.invokevirtual 77, 3) := by decide +kernel
theorem d_x_solve_4 : decode c_x_solve 4 = .ok (.iconst 2, 1) := by decide +kernel
theorem d_x_solve_5 : decode c_x_solve 5 = .ok (.if_icmp .eq 13, 3) := by decide +kernel
theorem d_x_solve_8 : decode c_x_solve 8 = .ok (.new 93, 3) := by decide +kernel
theorem d_x_solve_11 : decode c_x_solve 11 = .ok (.dup, 1) := by decide +kernel
theorem d_x_solve_12 : decode c_x_solve 12 = .ok (.ldc 130, 2) := by decide +kernel
theorem d_x_solve_14 : decode c_x_solve 14 = .ok (.invokespecial 97, 3) := by decide +kernel
theorem d_x_solve_17 : decode c_x_solve 17 = .ok (.athrow, 1) := by decide +kernel
theorem d_x_solve_18 : decode c_x_solve 18 = .ok (.aload_n 0, 1) := by decide +kernel
theorem d_x_solve_19 : decode c_x_solve 19 = .ok (.getfield 26, 3) := by decide +kernel
theorem d_x_solve_22 : decode c_x_solve 22 = .ok (.getfield 145, 3) := by decide +kernel
theorem d_x_solve_25 : decode c_x_solve 25 = .ok (.iconst 4, 1) := by decide +kernel
theorem d_x_solve_26 : decode c_x_solve 26 = .ok (.if_icmp .ge 13, 3) := by decide +kernel
theorem d_x_solve_29 : decode c_x_solve 29 = .ok (.new 111, 3) := by decide +kernel
theorem d_x_solve_32 : decode c_x_solve 32 = .ok (.dup, 1) := by decide +kernel
theorem d_x_solve_33 : decode c_x_solve 33 = .ok (.ldc 168, 2) := by decide +kernel
theorem d_x_solve_35 : decode c_x_solve 35 = .ok (.invokespecial 115, 3) := by decide +kernel
theorem d_x_solve_38 : decode c_x_solve 38 = .ok (.athrow, 1) := by decide +kernel
theorem d_x_solve_39 : decode c_x_solve 39 = .ok (.aload_n 0, 1) := by decide +kernel
theorem d_x_solve_40 : decode c_x_solve 40 = .ok (.getfield 26, 3) := by decide +kernel
theorem d_x_solve_43 : decode c_x_solve 43 = .ok (.aload_n 0, 1) := by decide +kernel
theorem d_x_solve_44 : decode c_x_solve 44 = .ok (.getfield 19, 3) := by decide +kernel
theorem d_x_solve_47 : decode c_x_solve 47 = .ok (.invokevirtual 120, 3) := by decide +kernel
theorem d_x_solve_50 : decode c_x_solve 50 = .ok (.invokestatic 170, 3) := by decide +kernel
theorem d_x_solve_53 : decode c_x_solve 53 = .ok (.invokestatic 173, 3) := by decide +kernel
theorem d_x_solve_56 : decode c_x_solve 56 = .ok (.ireturn, 1) := by decide +kernel
abbrev c_x_record : ByteArray := prog_1_method_16_code
def y_x_record : MethodName := ⟨"ShortBridge", "record", "()I"⟩
theorem d_x_record_0 : decode c_x_record 0 = .ok (.aload_n 0, 1) := by decide +kernel
theorem d_x_record_1 : decode c_x_record 1 = .ok (.invokevirtual 77, 3) := by decide +kernel
theorem d_x_record_4 : decode c_x_record 4 = .ok (.iconst 3, 1) := by decide +kernel
theorem d_x_record_5 : decode c_x_record 5 = .ok (.if_icmp .eq 13, 3) := by decide +kernel
theorem d_x_record_8 : decode c_x_record 8 = .ok (.new 93, 3) := by decide +kernel
theorem d_x_record_11 : decode c_x_record 11 = .ok (.dup, 1) := by decide +kernel
theorem d_x_record_12 : decode c_x_record 12 = .ok (.ldc 163, 2) := by decide +kernel
theorem d_x_record_14 : decode c_x_record 14 = .ok (.invokespecial 97, 3) := by decide +kernel
theorem d_x_record_17 : decode c_x_record 17 = .ok (.athrow, 1) := by decide +kernel
theorem d_x_record_18 : decode c_x_record 18 = .ok (.aload_n 0, 1) := by decide +kernel
theorem d_x_record_19 : decode c_x_record 19 = .ok (.getfield 33, 3) := by decide +kernel
theorem d_x_record_22 : decode c_x_record 22 = .ok (.invokevirtual 179, 3) := by decide +kernel
theorem d_x_record_25 : decode c_x_record 25 = .ok (.ifCond .eq 13, 3) := by decide +kernel
theorem d_x_record_28 : decode c_x_record 28 = .ok (.new 111, 3) := by decide +kernel
theorem d_x_record_31 : decode c_x_record 31 = .ok (.dup, 1) := by decide +kernel
theorem d_x_record_32 : decode c_x_record 32 = .ok (.ldc 182, 2) := by decide +kernel
theorem d_x_record_34 : decode c_x_record 34 = .ok (.invokespecial 115, 3) := by decide +kernel
theorem d_x_record_37 : decode c_x_record 37 = .ok (.athrow, 1) := by decide +kernel
theorem d_x_record_38 : decode c_x_record 38 = .ok (.aload_n 0, 1) := by decide +kernel
theorem d_x_record_39 : decode c_x_record 39 = .ok (.getfield 33, 3) := by decide +kernel
theorem d_x_record_42 : decode c_x_record 42 = .ok (.aload_n 0, 1) := by decide +kernel
theorem d_x_record_43 : decode c_x_record 43 = .ok (.getfield 10, 3) := by decide +kernel
theorem d_x_record_46 : decode c_x_record 46 = .ok (.getfield 58, 3) := by decide +kernel
theorem d_x_record_49 : decode c_x_record 49 = .ok (.aload_n 0, 1) := by decide +kernel
theorem d_x_record_50 : decode c_x_record 50 = .ok (.invokevirtual 165, 3) := by decide +kernel
theorem d_x_record_53 : decode c_x_record 53 = .ok (.invokevirtual 184, 3) := by decide +kernel
theorem d_x_record_56 : decode c_x_record 56 = .ok (.aload_n 0, 1) := by decide +kernel
theorem d_x_record_57 : decode c_x_record 57 = .ok (.getfield 33, 3) := by decide +kernel
theorem d_x_record_60 : decode c_x_record 60 = .ok (.getfield 187, 3) := by decide +kernel
theorem d_x_record_63 : decode c_x_record 63 = .ok (.ireturn, 1) := by decide +kernel
abbrev c_x_points : ByteArray := prog_1_method_17_code
def y_x_points : MethodName := ⟨"ShortBridge", "points", "(II)I"⟩
theorem d_x_points_0 : decode c_x_points 0 = .ok (.aload_n 0, 1) := by decide +kernel
theorem d_x_points_1 : decode c_x_points 1 = .ok (.getfield 33, 3) := by decide +kernel
theorem d_x_points_4 : decode c_x_points 4 = .ok (.iload_n 1, 1) := by decide +kernel
theorem d_x_points_5 : decode c_x_points 5 = .ok (.invokevirtual 188, 3) := by decide +kernel
theorem d_x_points_8 : decode c_x_points 8 = .ok (.ifCond .eq 14, 3) := by decide +kernel
theorem d_x_points_11 : decode c_x_points 11 = .ok (.aload_n 0, 1) := by decide +kernel
theorem d_x_points_12 : decode c_x_points 12 = .ok (.getfield 33, 3) := by decide +kernel
theorem d_x_points_15 : decode c_x_points 15 = .ok (.iload_n 2, 1) := by decide +kernel
theorem d_x_points_16 : decode c_x_points 16 = .ok (.invokevirtual 188, 3) := by decide +kernel
theorem d_x_points_19 : decode c_x_points 19 = .ok (.ifCond .ne 13, 3) := by decide +kernel
theorem d_x_points_22 : decode c_x_points 22 = .ok (.new 191, 3) := by decide +kernel
theorem d_x_points_25 : decode c_x_points 25 = .ok (.dup, 1) := by decide +kernel
theorem d_x_points_26 : decode c_x_points 26 = .ok (.ldc 193, 2) := by decide +kernel
theorem d_x_points_28 : decode c_x_points 28 = .ok (.invokespecial 195, 3) := by decide +kernel
theorem d_x_points_31 : decode c_x_points 31 = .ok (.athrow, 1) := by decide +kernel
theorem d_x_points_32 : decode c_x_points 32 = .ok (.aload_n 0, 1) := by decide +kernel
theorem d_x_points_33 : decode c_x_points 33 = .ok (.getfield 33, 3) := by decide +kernel
theorem d_x_points_36 : decode c_x_points 36 = .ok (.getfield 196, 3) := by decide +kernel
theorem d_x_points_39 : decode c_x_points 39 = .ok (.iload_n 1, 1) := by decide +kernel
theorem d_x_points_40 : decode c_x_points 40 = .ok (.iaload, 1) := by decide +kernel
theorem d_x_points_41 : decode c_x_points 41 = .ok (.aload_n 0, 1) := by decide +kernel
theorem d_x_points_42 : decode c_x_points 42 = .ok (.getfield 33, 3) := by decide +kernel
theorem d_x_points_45 : decode c_x_points 45 = .ok (.getfield 196, 3) := by decide +kernel
theorem d_x_points_48 : decode c_x_points 48 = .ok (.iload_n 2, 1) := by decide +kernel
theorem d_x_points_49 : decode c_x_points 49 = .ok (.iaload, 1) := by decide +kernel
theorem d_x_points_50 : decode c_x_points 50 = .ok (.isub, 1) := by decide +kernel
theorem d_x_points_51 : decode c_x_points 51 = .ok (.invokestatic 200, 3) := by decide +kernel
theorem d_x_points_54 : decode c_x_points 54 = .ok (.ireturn, 1) := by decide +kernel
abbrev c_x_places : ByteArray := prog_1_method_18_code
def y_x_places : MethodName := ⟨"ShortBridge", "places", "(I)I"⟩
theorem d_x_places_0 : decode c_x_places 0 = .ok (.aload_n 0, 1) := by decide +kernel
theorem d_x_places_1 : decode c_x_places 1 = .ok (.getfield 33, 3) := by decide +kernel
theorem d_x_places_4 : decode c_x_places 4 = .ok (.iload_n 1, 1) := by decide +kernel
theorem d_x_places_5 : decode c_x_places 5 = .ok (.invokevirtual 188, 3) := by decide +kernel
theorem d_x_places_8 : decode c_x_places 8 = .ok (.ifCond .ne 13, 3) := by decide +kernel
theorem d_x_places_11 : decode c_x_places 11 = .ok (.new 191, 3) := by decide +kernel
theorem d_x_places_14 : decode c_x_places 14 = .ok (.dup, 1) := by decide +kernel
theorem d_x_places_15 : decode c_x_places 15 = .ok (.ldc 193, 2) := by decide +kernel
theorem d_x_places_17 : decode c_x_places 17 = .ok (.invokespecial 195, 3) := by decide +kernel
theorem d_x_places_20 : decode c_x_places 20 = .ok (.athrow, 1) := by decide +kernel
theorem d_x_places_21 : decode c_x_places 21 = .ok (.aload_n 0, 1) := by decide +kernel
theorem d_x_places_22 : decode c_x_places 22 = .ok (.getfield 33, 3) := by decide +kernel
theorem d_x_places_25 : decode c_x_places 25 = .ok (.iload_n 1, 1) := by decide +kernel
theorem d_x_places_26 : decode c_x_places 26 = .ok (.invokevirtual 205, 3) := by decide +kernel
theorem d_x_places_29 : decode c_x_places 29 = .ok (.ireturn, 1) := by decide +kernel
abbrev c_x_isPlayer : ByteArray := prog_1_method_19_code
def y_x_isPlayer : MethodName := ⟨"ShortBridge", "isPlayer", "(I)Z"⟩
theorem d_x_isPlayer_0 : decode c_x_isPlayer 0 = .ok (.iload_n 0, 1) := by decide +kernel
theorem d_x_isPlayer_1 : decode c_x_isPlayer 1 = .ok (.ifCond .lt 12, 3) := by decide +kernel
theorem d_x_isPlayer_4 : decode c_x_isPlayer 4 = .ok (.iload_n 0, 1) := by decide +kernel
theorem d_x_isPlayer_5 : decode c_x_isPlayer 5 = .ok (.iconst 4, 1) := by decide +kernel
theorem d_x_isPlayer_6 : decode c_x_isPlayer 6 = .ok (.if_icmp .ge 7, 3) := by decide +kernel
theorem d_x_isPlayer_9 : decode c_x_isPlayer 9 = .ok (.iconst 1, 1) := by decide +kernel
theorem d_x_isPlayer_10 : decode c_x_isPlayer 10 = .ok (.goto 4, 3) := by decide +kernel
theorem d_x_isPlayer_13 : decode c_x_isPlayer 13 = .ok (.iconst 0, 1) := by decide +kernel
theorem d_x_isPlayer_14 : decode c_x_isPlayer 14 = .ok (.ireturn, 1) := by decide +kernel
abbrev c_x_sideOf : ByteArray := prog_1_method_20_code
def y_x_sideOf : MethodName := ⟨"ShortBridge", "sideOf", "(I)I"⟩
theorem d_x_sideOf_0 : decode c_x_sideOf 0 = .ok (.iload_n 0, 1) := by decide +kernel
theorem d_x_sideOf_1 : decode c_x_sideOf 1 = .ok (.iconst 1, 1) := by decide +kernel
theorem d_x_sideOf_2 : decode c_x_sideOf 2 = .ok (.iand, 1) := by decide +kernel
theorem d_x_sideOf_3 : decode c_x_sideOf 3 = .ok (.ireturn, 1) := by decide +kernel
abbrev c_x_playerBehind : ByteArray := prog_1_method_21_code
def y_x_playerBehind : MethodName := ⟨"ShortBridge", "playerBehind", "(II)I"⟩
theorem d_x_playerBehind_0 : decode c_x_playerBehind 0 = .ok (.iload_n 0, 1) := by decide +kernel
theorem d_x_playerBehind_1 : decode c_x_playerBehind 1 = .ok (.iload_n 1, 1) := by decide +kernel
theorem d_x_playerBehind_2 : decode c_x_playerBehind 2 = .ok (.iadd, 1) := by decide +kernel
theorem d_x_playerBehind_3 : decode c_x_playerBehind 3 = .ok (.iconst 4, 1) := by decide +kernel
theorem d_x_playerBehind_4 : decode c_x_playerBehind 4 = .ok (.irem, 1) := by decide +kernel
theorem d_x_playerBehind_5 : decode c_x_playerBehind 5 = .ok (.ireturn, 1) := by decide +kernel
abbrev c_x_canBegin : ByteArray := prog_1_method_22_code
def y_x_canBegin : MethodName := ⟨"ShortBridge", "canBegin", "(II)Z"⟩
theorem d_x_canBegin_0 : decode c_x_canBegin 0 = .ok (.iload_n 0, 1) := by decide +kernel
theorem d_x_canBegin_1 : decode c_x_canBegin 1 = .ok (.invokestatic 86, 3) := by decide +kernel
theorem d_x_canBegin_4 : decode c_x_canBegin 4 = .ok (.ifCond .eq 16, 3) := by decide +kernel
theorem d_x_canBegin_7 : decode c_x_canBegin 7 = .ok (.iload_n 1, 1) := by decide +kernel
theorem d_x_canBegin_8 : decode c_x_canBegin 8 = .ok (.ifCond .lt 12, 3) := by decide +kernel
theorem d_x_canBegin_11 : decode c_x_canBegin 11 = .ok (.iload_n 1, 1) := by decide +kernel
theorem d_x_canBegin_12 : decode c_x_canBegin 12 = .ok (.iconst 3, 1) := by decide +kernel
theorem d_x_canBegin_13 : decode c_x_canBegin 13 = .ok (.if_icmp .gt 7, 3) := by decide +kernel
theorem d_x_canBegin_16 : decode c_x_canBegin 16 = .ok (.iconst 1, 1) := by decide +kernel
theorem d_x_canBegin_17 : decode c_x_canBegin 17 = .ok (.goto 4, 3) := by decide +kernel
theorem d_x_canBegin_20 : decode c_x_canBegin 20 = .ok (.iconst 0, 1) := by decide +kernel
theorem d_x_canBegin_21 : decode c_x_canBegin 21 = .ok (.ireturn, 1) := by decide +kernel
abbrev c_x_begin : ByteArray := prog_1_method_23_code
def y_x_begin : MethodName := ⟨"ShortBridge", "begin", "(II)V"⟩
theorem d_x_begin_0 : decode c_x_begin 0 = .ok (.aload_n 0, 1) := by decide +kernel
theorem d_x_begin_1 : decode c_x_begin 1 = .ok (.iconst 1, 1) := by decide +kernel
theorem d_x_begin_2 : decode c_x_begin 2 = .ok (.putfield 62, 3) := by decide +kernel
theorem d_x_begin_5 : decode c_x_begin 5 = .ok (.aload_n 0, 1) := by decide +kernel
theorem d_x_begin_6 : decode c_x_begin 6 = .ok (.iload_n 2, 1) := by decide +kernel
theorem d_x_begin_7 : decode c_x_begin 7 = .ok (.putfield 208, 3) := by decide +kernel
theorem d_x_begin_10 : decode c_x_begin 10 = .ok (.aload_n 0, 1) := by decide +kernel
theorem d_x_begin_11 : decode c_x_begin 11 = .ok (.getfield 19, 3) := by decide +kernel
theorem d_x_begin_14 : decode c_x_begin 14 = .ok (.iload_n 1, 1) := by decide +kernel
theorem d_x_begin_15 : decode c_x_begin 15 = .ok (.invokevirtual 211, 3) := by decide +kernel
theorem d_x_begin_18 : decode c_x_begin 18 = .ok (.aload_n 0, 1) := by decide +kernel
theorem d_x_begin_19 : decode c_x_begin 19 = .ok (.getfield 26, 3) := by decide +kernel
theorem d_x_begin_22 : decode c_x_begin 22 = .ok (.aload_n 0, 1) := by decide +kernel
theorem d_x_begin_23 : decode c_x_begin 23 = .ok (.getfield 10, 3) := by decide +kernel
theorem d_x_begin_26 : decode c_x_begin 26 = .ok (.invokevirtual 213, 3) := by decide +kernel
theorem d_x_begin_29 : decode c_x_begin 29 = .ok (.return_, 1) := by decide +kernel
abbrev c_x_scoreOfSide0 : ByteArray := prog_1_method_24_code
def y_x_scoreOfSide0 : MethodName := ⟨"ShortBridge", "scoreOfSide0", "()I"⟩
theorem d_x_scoreOfSide0_0 : decode c_x_scoreOfSide0 0 = .ok (.aload_n 0, 1) := by decide +kernel
theorem d_x_scoreOfSide0_1 : decode c_x_scoreOfSide0 1 = .ok (.getfield 19, 3) := by decide +kernel
theorem d_x_scoreOfSide0_4 : decode c_x_scoreOfSide0 4 = .ok (.invokevirtual 70, 3) := by decide +kernel
theorem d_x_scoreOfSide0_7 : decode c_x_scoreOfSide0 7 = .ok (.istore_n 1, 1) := by decide +kernel
theorem d_x_scoreOfSide0_8 : decode c_x_scoreOfSide0 8 = .ok (.iload_n 1, 1) := by decide +kernel
theorem d_x_scoreOfSide0_9 : decode c_x_scoreOfSide0 9 = .ok (.iconst (-1), 1) := by decide +kernel
theorem d_x_scoreOfSide0_10 : decode c_x_scoreOfSide0 10 = .ok (.if_icmp .ne 5, 3) := by decide +kernel
theorem d_x_scoreOfSide0_13 : decode c_x_scoreOfSide0 13 = .ok (.iconst 0, 1) := by decide +kernel
theorem d_x_scoreOfSide0_14 : decode c_x_scoreOfSide0 14 = .ok (.ireturn, 1) := by decide +kernel
theorem d_x_scoreOfSide0_15 : decode c_x_scoreOfSide0 15 = .ok (.aload_n 0, 1) := by decide +kernel
theorem d_x_scoreOfSide0_16 : decode c_x_scoreOfSide0 16 = .ok (.getfield 19, 3) := by decide +kernel
theorem d_x_scoreOfSide0_19 : decode c_x_scoreOfSide0 19 = .ok (.invokevirtual 120, 3) := by decide +kernel
theorem d_x_scoreOfSide0_22 : decode c_x_scoreOfSide0 22 = .ok (.invokestatic 170, 3) := by decide +kernel
theorem d_x_scoreOfSide0_25 : decode c_x_scoreOfSide0 25 = .ok (.istore_n 2, 1) := by decide +kernel
theorem d_x_scoreOfSide0_26 : decode c_x_scoreOfSide0 26 = .ok (.aload_n 0, 1) := by decide +kernel
theorem d_x_scoreOfSide0_27 : decode c_x_scoreOfSide0 27 = .ok (.getfield 208, 3) := by decide +kernel
theorem d_x_scoreOfSide0_30 : decode c_x_scoreOfSide0 30 = .ok (.iload_n 2, 1) := by decide +kernel
theorem d_x_scoreOfSide0_31 : decode c_x_scoreOfSide0 31 = .ok (.ishr, 1) := by decide +kernel
theorem d_x_scoreOfSide0_32 : decode c_x_scoreOfSide0 32 = .ok (.iconst 1, 1) := by decide +kernel
theorem d_x_scoreOfSide0_33 : decode c_x_scoreOfSide0 33 = .ok (.iand, 1) := by decide +kernel
theorem d_x_scoreOfSide0_34 : decode c_x_scoreOfSide0 34 = .ok (.iconst 1, 1) := by decide +kernel
theorem d_x_scoreOfSide0_35 : decode c_x_scoreOfSide0 35 = .ok (.if_icmp .ne 7, 3) := by decide +kernel
theorem d_x_scoreOfSide0_38 : decode c_x_scoreOfSide0 38 = .ok (.iconst 1, 1) := by decide +kernel
theorem d_x_scoreOfSide0_39 : decode c_x_scoreOfSide0 39 = .ok (.goto 4, 3) := by decide +kernel
theorem d_x_scoreOfSide0_42 : decode c_x_scoreOfSide0 42 = .ok (.iconst 0, 1) := by decide +kernel
theorem d_x_scoreOfSide0_43 : decode c_x_scoreOfSide0 43 = .ok (.istore_n 3, 1) := by decide +kernel
theorem d_x_scoreOfSide0_44 : decode c_x_scoreOfSide0 44 = .ok (.iload_n 1, 1) := by decide +kernel
theorem d_x_scoreOfSide0_45 : decode c_x_scoreOfSide0 45 = .ok (.aload_n 0, 1) := by decide +kernel
theorem d_x_scoreOfSide0_46 : decode c_x_scoreOfSide0 46 = .ok (.getfield 19, 3) := by decide +kernel
theorem d_x_scoreOfSide0_49 : decode c_x_scoreOfSide0 49 = .ok (.invokevirtual 154, 3) := by decide +kernel
theorem d_x_scoreOfSide0_52 : decode c_x_scoreOfSide0 52 = .ok (.aload_n 0, 1) := by decide +kernel
theorem d_x_scoreOfSide0_53 : decode c_x_scoreOfSide0 53 = .ok (.getfield 26, 3) := by decide +kernel
theorem d_x_scoreOfSide0_56 : decode c_x_scoreOfSide0 56 = .ok (.iload_n 2, 1) := by decide +kernel
theorem d_x_scoreOfSide0_57 : decode c_x_scoreOfSide0 57 = .ok (.invokevirtual 157, 3) := by decide +kernel
theorem d_x_scoreOfSide0_60 : decode c_x_scoreOfSide0 60 = .ok (.iload_n 3, 1) := by decide +kernel
theorem d_x_scoreOfSide0_61 : decode c_x_scoreOfSide0 61 = .ok (.invokestatic 217, 3) := by decide +kernel
theorem d_x_scoreOfSide0_64 : decode c_x_scoreOfSide0 64 = .ok (.istore 4, 2) := by decide +kernel
theorem d_x_scoreOfSide0_66 : decode c_x_scoreOfSide0 66 = .ok (.iload_n 2, 1) := by decide +kernel
theorem d_x_scoreOfSide0_67 : decode c_x_scoreOfSide0 67 = .ok (.ifCond .ne 8, 3) := by decide +kernel
theorem d_x_scoreOfSide0_70 : decode c_x_scoreOfSide0 70 = .ok (.iload 4, 2) := by decide +kernel
theorem d_x_scoreOfSide0_72 : decode c_x_scoreOfSide0 72 = .ok (.goto 6, 3) := by decide +kernel
theorem d_x_scoreOfSide0_75 : decode c_x_scoreOfSide0 75 = .ok (.iload 4, 2) := by decide +kernel
theorem d_x_scoreOfSide0_77 : decode c_x_scoreOfSide0 77 = .ok (.ineg, 1) := by decide +kernel
theorem d_x_scoreOfSide0_78 : decode c_x_scoreOfSide0 78 = .ok (.ireturn, 1) := by decide +kernel
abbrev c_au_init : ByteArray := prog_2_method_1_code
def y_au_init : MethodName := ⟨"ShortBridge$Auction", "<init>", "()V"⟩
theorem d_au_init_0 : decode c_au_init 0 = .ok (.aload_n 0, 1) := by decide +kernel
theorem d_au_init_1 : decode c_au_init 1 = .ok (.invokespecial 3, 3) := by decide +kernel
theorem d_au_init_4 : decode c_au_init 4 = .ok (.aload_n 0, 1) := by decide +kernel
theorem d_au_init_5 : decode c_au_init 5 = .ok (.sipush 139, 3) := by decide +kernel
theorem d_au_init_8 : decode c_au_init 8 = .ok (.newarray .int, 2) := by decide +kernel
theorem d_au_init_10 : decode c_au_init 10 = .ok (.putfield 11, 3) := by decide +kernel
theorem d_au_init_13 : decode c_au_init 13 = .ok (.return_, 1) := by decide +kernel
abbrev c_au_isCall : ByteArray := prog_2_method_2_code
def y_au_isCall : MethodName := ⟨"ShortBridge$Auction", "isCall", "(I)Z"⟩
theorem d_au_isCall_0 : decode c_au_isCall 0 = .ok (.iload_n 0, 1) := by decide +kernel
theorem d_au_isCall_1 : decode c_au_isCall 1 = .ok (.ifCond .lt 13, 3) := by decide +kernel
theorem d_au_isCall_4 : decode c_au_isCall 4 = .ok (.iload_n 0, 1) := by decide +kernel
theorem d_au_isCall_5 : decode c_au_isCall 5 = .ok (.bipush 17, 2) := by decide +kernel
theorem d_au_isCall_7 : decode c_au_isCall 7 = .ok (.if_icmp .gt 7, 3) := by decide +kernel
theorem d_au_isCall_10 : decode c_au_isCall 10 = .ok (.iconst 1, 1) := by decide +kernel
theorem d_au_isCall_11 : decode c_au_isCall 11 = .ok (.goto 4, 3) := by decide +kernel
theorem d_au_isCall_14 : decode c_au_isCall 14 = .ok (.iconst 0, 1) := by decide +kernel
theorem d_au_isCall_15 : decode c_au_isCall 15 = .ok (.ireturn, 1) := by decide +kernel
abbrev c_au_level : ByteArray := prog_2_method_3_code
def y_au_level : MethodName := ⟨"ShortBridge$Auction", "level", "(I)I"⟩
theorem d_au_level_0 : decode c_au_level 0 = .ok (.iconst 1, 1) := by decide +kernel
theorem d_au_level_1 : decode c_au_level 1 = .ok (.iload_n 0, 1) := by decide +kernel
theorem d_au_level_2 : decode c_au_level 2 = .ok (.iconst 3, 1) := by decide +kernel
theorem d_au_level_3 : decode c_au_level 3 = .ok (.isub, 1) := by decide +kernel
theorem d_au_level_4 : decode c_au_level 4 = .ok (.iconst 5, 1) := by decide +kernel
theorem d_au_level_5 : decode c_au_level 5 = .ok (.idiv, 1) := by decide +kernel
theorem d_au_level_6 : decode c_au_level 6 = .ok (.iadd, 1) := by decide +kernel
theorem d_au_level_7 : decode c_au_level 7 = .ok (.ireturn, 1) := by decide +kernel
abbrev c_au_strain : ByteArray := prog_2_method_4_code
def y_au_strain : MethodName := ⟨"ShortBridge$Auction", "strain", "(I)I"⟩
theorem d_au_strain_0 : decode c_au_strain 0 = .ok (.iload_n 0, 1) := by decide +kernel
theorem d_au_strain_1 : decode c_au_strain 1 = .ok (.iconst 3, 1) := by decide +kernel
theorem d_au_strain_2 : decode c_au_strain 2 = .ok (.isub, 1) := by decide +kernel
theorem d_au_strain_3 : decode c_au_strain 3 = .ok (.iconst 5, 1) := by decide +kernel
theorem d_au_strain_4 : decode c_au_strain 4 = .ok (.irem, 1) := by decide +kernel
theorem d_au_strain_5 : decode c_au_strain 5 = .ok (.ireturn, 1) := by decide +kernel
abbrev c_au_begin : ByteArray := prog_2_method_5_code
def y_au_begin : MethodName := ⟨"ShortBridge$Auction", "begin", "(I)V"⟩
theorem d_au_begin_0 : decode c_au_begin 0 = .ok (.aload_n 0, 1) := by decide +kernel
theorem d_au_begin_1 : decode c_au_begin 1 = .ok (.iload_n 1, 1) := by decide +kernel
theorem d_au_begin_2 : decode c_au_begin 2 = .ok (.putfield 15, 3) := by decide +kernel
theorem d_au_begin_5 : decode c_au_begin 5 = .ok (.aload_n 0, 1) := by decide +kernel
theorem d_au_begin_6 : decode c_au_begin 6 = .ok (.iconst 0, 1) := by decide +kernel
theorem d_au_begin_7 : decode c_au_begin 7 = .ok (.putfield 19, 3) := by decide +kernel
theorem d_au_begin_10 : decode c_au_begin 10 = .ok (.return_, 1) := by decide +kernel
abbrev c_au_caller : ByteArray := prog_2_method_6_code
def y_au_caller : MethodName := ⟨"ShortBridge$Auction", "caller", "()I"⟩
theorem d_au_caller_0 : decode c_au_caller 0 = .ok (.aload_n 0, 1) := by decide +kernel
theorem d_au_caller_1 : decode c_au_caller 1 = .ok (.aload_n 0, 1) := by decide +kernel
theorem d_au_caller_2 : decode c_au_caller 2 = .ok (.getfield 19, 3) := by decide +kernel
theorem d_au_caller_5 : decode c_au_caller 5 = .ok (.invokevirtual 22, 3) := by decide +kernel
theorem d_au_caller_8 : decode c_au_caller 8 = .ok (.ireturn, 1) := by decide +kernel
abbrev c_au_allows : ByteArray := prog_2_method_7_code
def y_au_allows : MethodName := ⟨"ShortBridge$Auction", "allows", "(I)Z"⟩
theorem d_au_allows_0 : decode c_au_allows 0 = .ok (.iload_n 1, 1) := by decide +kernel
theorem d_au_allows_1 : decode c_au_allows 1 = .ok (.tableswitch 57 0 2 #[27, 29, 43], 27) := by decide +kernel
theorem d_au_allows_28 : decode c_au_allows 28 = .ok (.iconst 1, 1) := by decide +kernel
theorem d_au_allows_29 : decode c_au_allows 29 = .ok (.ireturn, 1) := by decide +kernel
theorem d_au_allows_30 : decode c_au_allows 30 = .ok (.aload_n 0, 1) := by decide +kernel
theorem d_au_allows_31 : decode c_au_allows 31 = .ok (.invokevirtual 26, 3) := by decide +kernel
theorem d_au_allows_34 : decode c_au_allows 34 = .ok (.iconst 3, 1) := by decide +kernel
theorem d_au_allows_35 : decode c_au_allows 35 = .ok (.if_icmp .lt 7, 3) := by decide +kernel
theorem d_au_allows_38 : decode c_au_allows 38 = .ok (.iconst 1, 1) := by decide +kernel
theorem d_au_allows_39 : decode c_au_allows 39 = .ok (.goto 4, 3) := by decide +kernel
theorem d_au_allows_42 : decode c_au_allows 42 = .ok (.iconst 0, 1) := by decide +kernel
theorem d_au_allows_43 : decode c_au_allows 43 = .ok (.ireturn, 1) := by decide +kernel
theorem d_au_allows_44 : decode c_au_allows 44 = .ok (.aload_n 0, 1) := by decide +kernel
theorem d_au_allows_45 : decode c_au_allows 45 = .ok (.invokevirtual 26, 3) := by decide +kernel
theorem d_au_allows_48 : decode c_au_allows 48 = .ok (.iconst 1, 1) := by decide +kernel
theorem d_au_allows_49 : decode c_au_allows 49 = .ok (.if_icmp .ne 7, 3) := by decide +kernel
theorem d_au_allows_52 : decode c_au_allows 52 = .ok (.iconst 1, 1) := by decide +kernel
theorem d_au_allows_53 : decode c_au_allows 53 = .ok (.goto 4, 3) := by decide +kernel
theorem d_au_allows_56 : decode c_au_allows 56 = .ok (.iconst 0, 1) := by decide +kernel
theorem d_au_allows_57 : decode c_au_allows 57 = .ok (.ireturn, 1) := by decide +kernel
theorem d_au_allows_58 : decode c_au_allows 58 = .ok (.iload_n 1, 1) := by decide +kernel
theorem d_au_allows_59 : decode c_au_allows 59 = .ok (.aload_n 0, 1) := by decide +kernel
theorem d_au_allows_60 : decode c_au_allows 60 = .ok (.invokevirtual 30, 3) := by decide +kernel
theorem d_au_allows_63 : decode c_au_allows 63 = .ok (.if_icmp .le 7, 3) := by decide +kernel
theorem d_au_allows_66 : decode c_au_allows 66 = .ok (.iconst 1, 1) := by decide +kernel
theorem d_au_allows_67 : decode c_au_allows 67 = .ok (.goto 4, 3) := by decide +kernel
theorem d_au_allows_70 : decode c_au_allows 70 = .ok (.iconst 0, 1) := by decide +kernel
theorem d_au_allows_71 : decode c_au_allows 71 = .ok (.ireturn, 1) := by decide +kernel
abbrev c_au_add : ByteArray := prog_2_method_8_code
def y_au_add : MethodName := ⟨"ShortBridge$Auction", "add", "(I)V"⟩
theorem d_au_add_0 : decode c_au_add 0 = .ok (.aload_n 0, 1) := by decide +kernel
theorem d_au_add_1 : decode c_au_add 1 = .ok (.getfield 19, 3) := by decide +kernel
theorem d_au_add_4 : decode c_au_add 4 = .ok (.sipush 139, 3) := by decide +kernel
theorem d_au_add_7 : decode c_au_add 7 = .ok (.if_icmp .ge 23, 3) := by decide +kernel
theorem d_au_add_10 : decode c_au_add 10 = .ok (.aload_n 0, 1) := by decide +kernel
theorem d_au_add_11 : decode c_au_add 11 = .ok (.getfield 11, 3) := by decide +kernel
theorem d_au_add_14 : decode c_au_add 14 = .ok (.aload_n 0, 1) := by decide +kernel
theorem d_au_add_15 : decode c_au_add 15 = .ok (.getfield 19, 3) := by decide +kernel
theorem d_au_add_18 : decode c_au_add 18 = .ok (.iload_n 1, 1) := by decide +kernel
theorem d_au_add_19 : decode c_au_add 19 = .ok (.iastore, 1) := by decide +kernel
theorem d_au_add_20 : decode c_au_add 20 = .ok (.aload_n 0, 1) := by decide +kernel
theorem d_au_add_21 : decode c_au_add 21 = .ok (.dup, 1) := by decide +kernel
theorem d_au_add_22 : decode c_au_add 22 = .ok (.getfield 19, 3) := by decide +kernel
theorem d_au_add_25 : decode c_au_add 25 = .ok (.iconst 1, 1) := by decide +kernel
theorem d_au_add_26 : decode c_au_add 26 = .ok (.iadd, 1) := by decide +kernel
theorem d_au_add_27 : decode c_au_add 27 = .ok (.putfield 19, 3) := by decide +kernel
theorem d_au_add_30 : decode c_au_add 30 = .ok (.return_, 1) := by decide +kernel
abbrev c_au_takeBack : ByteArray := prog_2_method_9_code
def y_au_takeBack : MethodName := ⟨"ShortBridge$Auction", "takeBack", "()V"⟩
theorem d_au_takeBack_0 : decode c_au_takeBack 0 = .ok (.aload_n 0, 1) := by decide +kernel
theorem d_au_takeBack_1 : decode c_au_takeBack 1 = .ok (.getfield 19, 3) := by decide +kernel
theorem d_au_takeBack_4 : decode c_au_takeBack 4 = .ok (.ifCond .le 13, 3) := by decide +kernel
theorem d_au_takeBack_7 : decode c_au_takeBack 7 = .ok (.aload_n 0, 1) := by decide +kernel
theorem d_au_takeBack_8 : decode c_au_takeBack 8 = .ok (.dup, 1) := by decide +kernel
theorem d_au_takeBack_9 : decode c_au_takeBack 9 = .ok (.getfield 19, 3) := by decide +kernel
theorem d_au_takeBack_12 : decode c_au_takeBack 12 = .ok (.iconst 1, 1) := by decide +kernel
theorem d_au_takeBack_13 : decode c_au_takeBack 13 = .ok (.isub, 1) := by decide +kernel
theorem d_au_takeBack_14 : decode c_au_takeBack 14 = .ok (.putfield 19, 3) := by decide +kernel
theorem d_au_takeBack_17 : decode c_au_takeBack 17 = .ok (.return_, 1) := by decide +kernel
abbrev c_au_hasEnded : ByteArray := prog_2_method_10_code
def y_au_hasEnded : MethodName := ⟨"ShortBridge$Auction", "hasEnded", "()Z"⟩
theorem d_au_hasEnded_0 : decode c_au_hasEnded 0 = .ok (.aload_n 0, 1) := by decide +kernel
theorem d_au_hasEnded_1 : decode c_au_hasEnded 1 = .ok (.iconst 1, 1) := by decide +kernel
theorem d_au_hasEnded_2 : decode c_au_hasEnded 2 = .ok (.invokevirtual 33, 3) := by decide +kernel
theorem d_au_hasEnded_5 : decode c_au_hasEnded 5 = .ok (.istore_n 1, 1) := by decide +kernel
theorem d_au_hasEnded_6 : decode c_au_hasEnded 6 = .ok (.aload_n 0, 1) := by decide +kernel
theorem d_au_hasEnded_7 : decode c_au_hasEnded 7 = .ok (.getfield 19, 3) := by decide +kernel
theorem d_au_hasEnded_10 : decode c_au_hasEnded 10 = .ok (.iconst 1, 1) := by decide +kernel
theorem d_au_hasEnded_11 : decode c_au_hasEnded 11 = .ok (.isub, 1) := by decide +kernel
theorem d_au_hasEnded_12 : decode c_au_hasEnded 12 = .ok (.iload_n 1, 1) := by decide +kernel
theorem d_au_hasEnded_13 : decode c_au_hasEnded 13 = .ok (.isub, 1) := by decide +kernel
theorem d_au_hasEnded_14 : decode c_au_hasEnded 14 = .ok (.istore_n 2, 1) := by decide +kernel
theorem d_au_hasEnded_15 : decode c_au_hasEnded 15 = .ok (.iload_n 2, 1) := by decide +kernel
theorem d_au_hasEnded_16 : decode c_au_hasEnded 16 = .ok (.iload_n 1, 1) := by decide +kernel
theorem d_au_hasEnded_17 : decode c_au_hasEnded 17 = .ok (.iconst (-1), 1) := by decide +kernel
theorem d_au_hasEnded_18 : decode c_au_hasEnded 18 = .ok (.if_icmp .ne 7, 3) := by decide +kernel
theorem d_au_hasEnded_21 : decode c_au_hasEnded 21 = .ok (.iconst 4, 1) := by decide +kernel
theorem d_au_hasEnded_22 : decode c_au_hasEnded 22 = .ok (.goto 4, 3) := by decide +kernel
theorem d_au_hasEnded_25 : decode c_au_hasEnded 25 = .ok (.iconst 3, 1) := by decide +kernel
theorem d_au_hasEnded_26 : decode c_au_hasEnded 26 = .ok (.if_icmp .lt 7, 3) := by decide +kernel
theorem d_au_hasEnded_29 : decode c_au_hasEnded 29 = .ok (.iconst 1, 1) := by decide +kernel
theorem d_au_hasEnded_30 : decode c_au_hasEnded 30 = .ok (.goto 4, 3) := by decide +kernel
theorem d_au_hasEnded_33 : decode c_au_hasEnded 33 = .ok (.iconst 0, 1) := by decide +kernel
theorem d_au_hasEnded_34 : decode c_au_hasEnded 34 = .ok (.ireturn, 1) := by decide +kernel
abbrev c_au_bid : ByteArray := prog_2_method_11_code
def y_au_bid : MethodName := ⟨"ShortBridge$Auction", "bid", "()I"⟩
theorem d_au_bid_0 : decode c_au_bid 0 = .ok (.aload_n 0, 1) := by decide +kernel
theorem d_au_bid_1 : decode c_au_bid 1 = .ok (.iconst 3, 1) := by decide +kernel
theorem d_au_bid_2 : decode c_au_bid 2 = .ok (.invokevirtual 33, 3) := by decide +kernel
theorem d_au_bid_5 : decode c_au_bid 5 = .ok (.istore_n 1, 1) := by decide +kernel
theorem d_au_bid_6 : decode c_au_bid 6 = .ok (.iload_n 1, 1) := by decide +kernel
theorem d_au_bid_7 : decode c_au_bid 7 = .ok (.iconst (-1), 1) := by decide +kernel
theorem d_au_bid_8 : decode c_au_bid 8 = .ok (.if_icmp .ne 7, 3) := by decide +kernel
theorem d_au_bid_11 : decode c_au_bid 11 = .ok (.iconst (-1), 1) := by decide +kernel
theorem d_au_bid_12 : decode c_au_bid 12 = .ok (.goto 9, 3) := by decide +kernel
theorem d_au_bid_15 : decode c_au_bid 15 = .ok (.aload_n 0, 1) := by decide +kernel
theorem d_au_bid_16 : decode c_au_bid 16 = .ok (.getfield 11, 3) := by decide +kernel
theorem d_au_bid_19 : decode c_au_bid 19 = .ok (.iload_n 1, 1) := by decide +kernel
theorem d_au_bid_20 : decode c_au_bid 20 = .ok (.iaload, 1) := by decide +kernel
theorem d_au_bid_21 : decode c_au_bid 21 = .ok (.ireturn, 1) := by decide +kernel
abbrev c_au_doubled : ByteArray := prog_2_method_12_code
def y_au_doubled : MethodName := ⟨"ShortBridge$Auction", "doubled", "()I"⟩
theorem d_au_doubled_0 : decode c_au_doubled 0 = .ok (.aload_n 0, 1) := by decide +kernel
theorem d_au_doubled_1 : decode c_au_doubled 1 = .ok (.iconst 1, 1) := by decide +kernel
theorem d_au_doubled_2 : decode c_au_doubled 2 = .ok (.invokevirtual 33, 3) := by decide +kernel
theorem d_au_doubled_5 : decode c_au_doubled 5 = .ok (.istore_n 1, 1) := by decide +kernel
theorem d_au_doubled_6 : decode c_au_doubled 6 = .ok (.iload_n 1, 1) := by decide +kernel
theorem d_au_doubled_7 : decode c_au_doubled 7 = .ok (.iconst (-1), 1) := by decide +kernel
theorem d_au_doubled_8 : decode c_au_doubled 8 = .ok (.if_icmp .eq 13, 3) := by decide +kernel
theorem d_au_doubled_11 : decode c_au_doubled 11 = .ok (.aload_n 0, 1) := by decide +kernel
theorem d_au_doubled_12 : decode c_au_doubled 12 = .ok (.getfield 11, 3) := by decide +kernel
theorem d_au_doubled_15 : decode c_au_doubled 15 = .ok (.iload_n 1, 1) := by decide +kernel
theorem d_au_doubled_16 : decode c_au_doubled 16 = .ok (.iaload, 1) := by decide +kernel
theorem d_au_doubled_17 : decode c_au_doubled 17 = .ok (.iconst 3, 1) := by decide +kernel
theorem d_au_doubled_18 : decode c_au_doubled 18 = .ok (.if_icmp .lt 5, 3) := by decide +kernel
theorem d_au_doubled_21 : decode c_au_doubled 21 = .ok (.iconst 0, 1) := by decide +kernel
theorem d_au_doubled_22 : decode c_au_doubled 22 = .ok (.ireturn, 1) := by decide +kernel
theorem d_au_doubled_23 : decode c_au_doubled 23 = .ok (.aload_n 0, 1) := by decide +kernel
theorem d_au_doubled_24 : decode c_au_doubled 24 = .ok (.getfield 11, 3) := by decide +kernel
theorem d_au_doubled_27 : decode c_au_doubled 27 = .ok (.iload_n 1, 1) := by decide +kernel
theorem d_au_doubled_28 : decode c_au_doubled 28 = .ok (.iaload, 1) := by decide +kernel
theorem d_au_doubled_29 : decode c_au_doubled 29 = .ok (.iconst 2, 1) := by decide +kernel
theorem d_au_doubled_30 : decode c_au_doubled 30 = .ok (.if_icmp .ne 7, 3) := by decide +kernel
theorem d_au_doubled_33 : decode c_au_doubled 33 = .ok (.iconst 2, 1) := by decide +kernel
theorem d_au_doubled_34 : decode c_au_doubled 34 = .ok (.goto 4, 3) := by decide +kernel
theorem d_au_doubled_37 : decode c_au_doubled 37 = .ok (.iconst 1, 1) := by decide +kernel
theorem d_au_doubled_38 : decode c_au_doubled 38 = .ok (.ireturn, 1) := by decide +kernel
abbrev c_au_declarer : ByteArray := prog_2_method_13_code
def y_au_declarer : MethodName := ⟨"ShortBridge$Auction", "declarer", "()I"⟩
theorem d_au_declarer_0 : decode c_au_declarer 0 = .ok (.aload_n 0, 1) := by decide +kernel
theorem d_au_declarer_1 : decode c_au_declarer 1 = .ok (.iconst 3, 1) := by decide +kernel
theorem d_au_declarer_2 : decode c_au_declarer 2 = .ok (.invokevirtual 33, 3) := by decide +kernel
theorem d_au_declarer_5 : decode c_au_declarer 5 = .ok (.istore_n 1, 1) := by decide +kernel
theorem d_au_declarer_6 : decode c_au_declarer 6 = .ok (.iload_n 1, 1) := by decide +kernel
theorem d_au_declarer_7 : decode c_au_declarer 7 = .ok (.iconst (-1), 1) := by decide +kernel
theorem d_au_declarer_8 : decode c_au_declarer 8 = .ok (.if_icmp .ne 5, 3) := by decide +kernel
theorem d_au_declarer_11 : decode c_au_declarer 11 = .ok (.iconst (-1), 1) := by decide +kernel
theorem d_au_declarer_12 : decode c_au_declarer 12 = .ok (.ireturn, 1) := by decide +kernel
theorem d_au_declarer_13 : decode c_au_declarer 13 = .ok (.iconst 0, 1) := by decide +kernel
theorem d_au_declarer_14 : decode c_au_declarer 14 = .ok (.istore_n 2, 1) := by decide +kernel
theorem d_au_declarer_15 : decode c_au_declarer 15 = .ok (.iload_n 2, 1) := by decide +kernel
theorem d_au_declarer_16 : decode c_au_declarer 16 = .ok (.iload_n 1, 1) := by decide +kernel
theorem d_au_declarer_17 : decode c_au_declarer 17 = .ok (.if_icmp .ge 55, 3) := by decide +kernel
theorem d_au_declarer_20 : decode c_au_declarer 20 = .ok (.aload_n 0, 1) := by decide +kernel
theorem d_au_declarer_21 : decode c_au_declarer 21 = .ok (.iload_n 2, 1) := by decide +kernel
theorem d_au_declarer_22 : decode c_au_declarer 22 = .ok (.iload_n 1, 1) := by decide +kernel
theorem d_au_declarer_23 : decode c_au_declarer 23 = .ok (.invokevirtual 36, 3) := by decide +kernel
theorem d_au_declarer_26 : decode c_au_declarer 26 = .ok (.ifCond .eq 40, 3) := by decide +kernel
theorem d_au_declarer_29 : decode c_au_declarer 29 = .ok (.aload_n 0, 1) := by decide +kernel
theorem d_au_declarer_30 : decode c_au_declarer 30 = .ok (.getfield 11, 3) := by decide +kernel
theorem d_au_declarer_33 : decode c_au_declarer 33 = .ok (.iload_n 2, 1) := by decide +kernel
theorem d_au_declarer_34 : decode c_au_declarer 34 = .ok (.iaload, 1) := by decide +kernel
theorem d_au_declarer_35 : decode c_au_declarer 35 = .ok (.iconst 3, 1) := by decide +kernel
theorem d_au_declarer_36 : decode c_au_declarer 36 = .ok (.if_icmp .lt 30, 3) := by decide +kernel
theorem d_au_declarer_39 : decode c_au_declarer 39 = .ok (.aload_n 0, 1) := by decide +kernel
theorem d_au_declarer_40 : decode c_au_declarer 40 = .ok (.getfield 11, 3) := by decide +kernel
theorem d_au_declarer_43 : decode c_au_declarer 43 = .ok (.iload_n 2, 1) := by decide +kernel
theorem d_au_declarer_44 : decode c_au_declarer 44 = .ok (.iaload, 1) := by decide +kernel
theorem d_au_declarer_45 : decode c_au_declarer 45 = .ok (.invokestatic 40, 3) := by decide +kernel
theorem d_au_declarer_48 : decode c_au_declarer 48 = .ok (.aload_n 0, 1) := by decide +kernel
theorem d_au_declarer_49 : decode c_au_declarer 49 = .ok (.getfield 11, 3) := by decide +kernel
theorem d_au_declarer_52 : decode c_au_declarer 52 = .ok (.iload_n 1, 1) := by decide +kernel
theorem d_au_declarer_53 : decode c_au_declarer 53 = .ok (.iaload, 1) := by decide +kernel
theorem d_au_declarer_54 : decode c_au_declarer 54 = .ok (.invokestatic 40, 3) := by decide +kernel
theorem d_au_declarer_57 : decode c_au_declarer 57 = .ok (.if_icmp .ne 9, 3) := by decide +kernel
theorem d_au_declarer_60 : decode c_au_declarer 60 = .ok (.aload_n 0, 1) := by decide +kernel
theorem d_au_declarer_61 : decode c_au_declarer 61 = .ok (.iload_n 2, 1) := by decide +kernel
theorem d_au_declarer_62 : decode c_au_declarer 62 = .ok (.invokevirtual 22, 3) := by decide +kernel
theorem d_au_declarer_65 : decode c_au_declarer 65 = .ok (.ireturn, 1) := by decide +kernel
theorem d_au_declarer_66 : decode c_au_declarer 66 = .ok (.iinc 2 1, 3) := by decide +kernel
theorem d_au_declarer_69 : decode c_au_declarer 69 = .ok (.goto (-54), 3) := by decide +kernel
theorem d_au_declarer_72 : decode c_au_declarer 72 = .ok (.aload_n 0, 1) := by decide +kernel
theorem d_au_declarer_73 : decode c_au_declarer 73 = .ok (.iload_n 1, 1) := by decide +kernel
theorem d_au_declarer_74 : decode c_au_declarer 74 = .ok (.invokevirtual 22, 3) := by decide +kernel
theorem d_au_declarer_77 : decode c_au_declarer 77 = .ok (.ireturn, 1) := by decide +kernel
abbrev c_au_latestOfOthers : ByteArray := prog_2_method_14_code
def y_au_latestOfOthers : MethodName := ⟨"ShortBridge$Auction", "latestOfOthers", "()I"⟩
theorem d_au_latestOfOthers_0 : decode c_au_latestOfOthers 0 = .ok (.aload_n 0, 1) := by decide +kernel
theorem d_au_latestOfOthers_1 : decode c_au_latestOfOthers 1 = .ok (.iconst 1, 1) := by decide +kernel
theorem d_au_latestOfOthers_2 : decode c_au_latestOfOthers 2 = .ok (.invokevirtual 33, 3) := by decide +kernel
theorem d_au_latestOfOthers_5 : decode c_au_latestOfOthers 5 = .ok (.istore_n 1, 1) := by decide +kernel
theorem d_au_latestOfOthers_6 : decode c_au_latestOfOthers 6 = .ok (.iload_n 1, 1) := by decide +kernel
theorem d_au_latestOfOthers_7 : decode c_au_latestOfOthers 7 = .ok (.iconst (-1), 1) := by decide +kernel
theorem d_au_latestOfOthers_8 : decode c_au_latestOfOthers 8 = .ok (.if_icmp .eq 15, 3) := by decide +kernel
theorem d_au_latestOfOthers_11 : decode c_au_latestOfOthers 11 = .ok (.aload_n 0, 1) := by decide +kernel
theorem d_au_latestOfOthers_12 : decode c_au_latestOfOthers 12 = .ok (.iload_n 1, 1) := by decide +kernel
theorem d_au_latestOfOthers_13 : decode c_au_latestOfOthers 13 = .ok (.aload_n 0, 1) := by decide +kernel
theorem d_au_latestOfOthers_14 : decode c_au_latestOfOthers 14 = .ok (.getfield 19, 3) := by decide +kernel
theorem d_au_latestOfOthers_17 : decode c_au_latestOfOthers 17 = .ok (.invokevirtual 36, 3) := by decide +kernel
theorem d_au_latestOfOthers_20 : decode c_au_latestOfOthers 20 = .ok (.ifCond .eq 7, 3) := by decide +kernel
theorem d_au_latestOfOthers_23 : decode c_au_latestOfOthers 23 = .ok (.iconst (-1), 1) := by decide +kernel
theorem d_au_latestOfOthers_24 : decode c_au_latestOfOthers 24 = .ok (.goto 9, 3) := by decide +kernel
theorem d_au_latestOfOthers_27 : decode c_au_latestOfOthers 27 = .ok (.aload_n 0, 1) := by decide +kernel
theorem d_au_latestOfOthers_28 : decode c_au_latestOfOthers 28 = .ok (.getfield 11, 3) := by decide +kernel
theorem d_au_latestOfOthers_31 : decode c_au_latestOfOthers 31 = .ok (.iload_n 1, 1) := by decide +kernel
theorem d_au_latestOfOthers_32 : decode c_au_latestOfOthers 32 = .ok (.iaload, 1) := by decide +kernel
theorem d_au_latestOfOthers_33 : decode c_au_latestOfOthers 33 = .ok (.ireturn, 1) := by decide +kernel
abbrev c_au_placeOfLatest : ByteArray := prog_2_method_15_code
def y_au_placeOfLatest : MethodName := ⟨"ShortBridge$Auction", "placeOfLatest", "(I)I"⟩
theorem d_au_placeOfLatest_0 : decode c_au_placeOfLatest 0 = .ok (.aload_n 0, 1) := by decide +kernel
theorem d_au_placeOfLatest_1 : decode c_au_placeOfLatest 1 = .ok (.getfield 19, 3) := by decide +kernel
theorem d_au_placeOfLatest_4 : decode c_au_placeOfLatest 4 = .ok (.iconst 1, 1) := by decide +kernel
theorem d_au_placeOfLatest_5 : decode c_au_placeOfLatest 5 = .ok (.isub, 1) := by decide +kernel
theorem d_au_placeOfLatest_6 : decode c_au_placeOfLatest 6 = .ok (.istore_n 2, 1) := by decide +kernel
theorem d_au_placeOfLatest_7 : decode c_au_placeOfLatest 7 = .ok (.iload_n 2, 1) := by decide +kernel
theorem d_au_placeOfLatest_8 : decode c_au_placeOfLatest 8 = .ok (.ifCond .lt 21, 3) := by decide +kernel
theorem d_au_placeOfLatest_11 : decode c_au_placeOfLatest 11 = .ok (.aload_n 0, 1) := by decide +kernel
theorem d_au_placeOfLatest_12 : decode c_au_placeOfLatest 12 = .ok (.getfield 11, 3) := by decide +kernel
theorem d_au_placeOfLatest_15 : decode c_au_placeOfLatest 15 = .ok (.iload_n 2, 1) := by decide +kernel
theorem d_au_placeOfLatest_16 : decode c_au_placeOfLatest 16 = .ok (.iaload, 1) := by decide +kernel
theorem d_au_placeOfLatest_17 : decode c_au_placeOfLatest 17 = .ok (.iload_n 1, 1) := by decide +kernel
theorem d_au_placeOfLatest_18 : decode c_au_placeOfLatest 18 = .ok (.if_icmp .lt 5, 3) := by decide +kernel
theorem d_au_placeOfLatest_21 : decode c_au_placeOfLatest 21 = .ok (.iload_n 2, 1) := by decide +kernel
theorem d_au_placeOfLatest_22 : decode c_au_placeOfLatest 22 = .ok (.ireturn, 1) := by decide +kernel
theorem d_au_placeOfLatest_23 : decode c_au_placeOfLatest 23 = .ok (.iinc 2 (-1), 3) := by decide +kernel
theorem d_au_placeOfLatest_26 : decode c_au_placeOfLatest 26 = .ok (.goto (-19), 3) := by decide +kernel
theorem d_au_placeOfLatest_29 : decode c_au_placeOfLatest 29 = .ok (.iconst (-1), 1) := by decide +kernel
theorem d_au_placeOfLatest_30 : decode c_au_placeOfLatest 30 = .ok (.ireturn, 1) := by decide +kernel
abbrev c_au_callerOf : ByteArray := prog_2_method_16_code
def y_au_callerOf : MethodName := ⟨"ShortBridge$Auction", "callerOf", "(I)I"⟩
theorem d_au_callerOf_0 : decode c_au_callerOf 0 = .ok (.aload_n 0, 1) := by decide +kernel
theorem d_au_callerOf_1 : decode c_au_callerOf 1 = .ok (.getfield 15, 3) := by decide +kernel
theorem d_au_callerOf_4 : decode c_au_callerOf 4 = .ok (.iload_n 1, 1) := by decide +kernel
theorem d_au_callerOf_5 : decode c_au_callerOf 5 = .ok (.invokestatic 43, 3) := by decide +kernel
theorem d_au_callerOf_8 : decode c_au_callerOf 8 = .ok (.ireturn, 1) := by decide +kernel
abbrev c_au_isSameSide : ByteArray := prog_2_method_17_code
def y_au_isSameSide : MethodName := ⟨"ShortBridge$Auction", "isSameSide", "(II)Z"⟩
theorem d_au_isSameSide_0 : decode c_au_isSameSide 0 = .ok (.aload_n 0, 1) := by decide +kernel
theorem d_au_isSameSide_1 : decode c_au_isSameSide 1 = .ok (.iload_n 1, 1) := by decide +kernel
theorem d_au_isSameSide_2 : decode c_au_isSameSide 2 = .ok (.invokevirtual 22, 3) := by decide +kernel
theorem d_au_isSameSide_5 : decode c_au_isSameSide 5 = .ok (.invokestatic 47, 3) := by decide +kernel
theorem d_au_isSameSide_8 : decode c_au_isSameSide 8 = .ok (.aload_n 0, 1) := by decide +kernel
theorem d_au_isSameSide_9 : decode c_au_isSameSide 9 = .ok (.iload_n 2, 1) := by decide +kernel
theorem d_au_isSameSide_10 : decode c_au_isSameSide 10 = .ok (.invokevirtual 22, 3) := by decide +kernel
theorem d_au_isSameSide_13 : decode c_au_isSameSide 13 = .ok (.invokestatic 47, 3) := by decide +kernel
theorem d_au_isSameSide_16 : decode c_au_isSameSide 16 = .ok (.if_icmp .ne 7, 3) := by decide +kernel
theorem d_au_isSameSide_19 : decode c_au_isSameSide 19 = .ok (.iconst 1, 1) := by decide +kernel
theorem d_au_isSameSide_20 : decode c_au_isSameSide 20 = .ok (.goto 4, 3) := by decide +kernel
theorem d_au_isSameSide_23 : decode c_au_isSameSide 23 = .ok (.iconst 0, 1) := by decide +kernel
theorem d_au_isSameSide_24 : decode c_au_isSameSide 24 = .ok (.ireturn, 1) := by decide +kernel
abbrev c_de_init : ByteArray := prog_3_method_1_code
def y_de_init : MethodName := ⟨"ShortBridge$Deal", "<init>", "()V"⟩
theorem d_de_init_0 : decode c_de_init 0 = .ok (.aload_n 0, 1) := by decide +kernel
theorem d_de_init_1 : decode c_de_init 1 = .ok (.invokespecial 3, 3) := by decide +kernel
theorem d_de_init_4 : decode c_de_init 4 = .ok (.aload_n 0, 1) := by decide +kernel
theorem d_de_init_5 : decode c_de_init 5 = .ok (.bipush 20, 2) := by decide +kernel
theorem d_de_init_7 : decode c_de_init 7 = .ok (.newarray .int, 2) := by decide +kernel
theorem d_de_init_9 : decode c_de_init 9 = .ok (.putfield 9, 3) := by decide +kernel
theorem d_de_init_12 : decode c_de_init 12 = .ok (.aload_n 0, 1) := by decide +kernel
theorem d_de_init_13 : decode c_de_init 13 = .ok (.bipush 20, 2) := by decide +kernel
theorem d_de_init_15 : decode c_de_init 15 = .ok (.newarray .int, 2) := by decide +kernel
theorem d_de_init_17 : decode c_de_init 17 = .ok (.putfield 15, 3) := by decide +kernel
theorem d_de_init_20 : decode c_de_init 20 = .ok (.aload_n 0, 1) := by decide +kernel
theorem d_de_init_21 : decode c_de_init 21 = .ok (.iconst 4, 1) := by decide +kernel
theorem d_de_init_22 : decode c_de_init 22 = .ok (.newarray .int, 2) := by decide +kernel
theorem d_de_init_24 : decode c_de_init 24 = .ok (.putfield 18, 3) := by decide +kernel
theorem d_de_init_27 : decode c_de_init 27 = .ok (.return_, 1) := by decide +kernel
abbrev c_de_isNumber : ByteArray := prog_3_method_2_code
def y_de_isNumber : MethodName := ⟨"ShortBridge$Deal", "isNumber", "(J)Z"⟩
theorem d_de_isNumber_0 : decode c_de_isNumber 0 = .ok (.lload_n 0, 1) := by decide +kernel
theorem d_de_isNumber_1 : decode c_de_isNumber 1 = .ok (.lconst 0, 1) := by decide +kernel
theorem d_de_isNumber_2 : decode c_de_isNumber 2 = .ok (.lcmp, 1) := by decide +kernel
theorem d_de_isNumber_3 : decode c_de_isNumber 3 = .ok (.ifCond .lt 15, 3) := by decide +kernel
theorem d_de_isNumber_6 : decode c_de_isNumber 6 = .ok (.lload_n 0, 1) := by decide +kernel
theorem d_de_isNumber_7 : decode c_de_isNumber 7 = .ok (.ldc2_w 21, 3) := by decide +kernel
theorem d_de_isNumber_10 : decode c_de_isNumber 10 = .ok (.lcmp, 1) := by decide +kernel
theorem d_de_isNumber_11 : decode c_de_isNumber 11 = .ok (.ifCond .ge 7, 3) := by decide +kernel
theorem d_de_isNumber_14 : decode c_de_isNumber 14 = .ok (.iconst 1, 1) := by decide +kernel
theorem d_de_isNumber_15 : decode c_de_isNumber 15 = .ok (.goto 4, 3) := by decide +kernel
theorem d_de_isNumber_18 : decode c_de_isNumber 18 = .ok (.iconst 0, 1) := by decide +kernel
theorem d_de_isNumber_19 : decode c_de_isNumber 19 = .ok (.ireturn, 1) := by decide +kernel
abbrev c_de_takeNumber : ByteArray := prog_3_method_3_code
def y_de_takeNumber : MethodName := ⟨"ShortBridge$Deal", "takeNumber", "(J)V"⟩
theorem d_de_takeNumber_0 : decode c_de_takeNumber 0 = .ok (.aload_n 0, 1) := by decide +kernel
theorem d_de_takeNumber_1 : decode c_de_takeNumber 1 = .ok (.lload_n 1, 1) := by decide +kernel
theorem d_de_takeNumber_2 : decode c_de_takeNumber 2 = .ok (.putfield 23, 3) := by decide +kernel
theorem d_de_takeNumber_5 : decode c_de_takeNumber 5 = .ok (.aload_n 0, 1) := by decide +kernel
theorem d_de_takeNumber_6 : decode c_de_takeNumber 6 = .ok (.invokevirtual 27, 3) := by decide +kernel
theorem d_de_takeNumber_9 : decode c_de_takeNumber 9 = .ok (.lload_n 1, 1) := by decide +kernel
theorem d_de_takeNumber_10 : decode c_de_takeNumber 10 = .ok (.lstore_n 3, 1) := by decide +kernel
theorem d_de_takeNumber_11 : decode c_de_takeNumber 11 = .ok (.ldc2_w 21, 3) := by decide +kernel
theorem d_de_takeNumber_14 : decode c_de_takeNumber 14 = .ok (.lstore 5, 2) := by decide +kernel
theorem d_de_takeNumber_16 : decode c_de_takeNumber 16 = .ok (.iconst 0, 1) := by decide +kernel
theorem d_de_takeNumber_17 : decode c_de_takeNumber 17 = .ok (.istore 7, 2) := by decide +kernel
theorem d_de_takeNumber_19 : decode c_de_takeNumber 19 = .ok (.iload 7, 2) := by decide +kernel
theorem d_de_takeNumber_21 : decode c_de_takeNumber 21 = .ok (.bipush 20, 2) := by decide +kernel
theorem d_de_takeNumber_23 : decode c_de_takeNumber 23 = .ok (.if_icmp .ge 84, 3) := by decide +kernel
theorem d_de_takeNumber_26 : decode c_de_takeNumber 26 = .ok (.iconst 0, 1) := by decide +kernel
theorem d_de_takeNumber_27 : decode c_de_takeNumber 27 = .ok (.istore 8, 2) := by decide +kernel
theorem d_de_takeNumber_29 : decode c_de_takeNumber 29 = .ok (.aload_n 0, 1) := by decide +kernel
theorem d_de_takeNumber_30 : decode c_de_takeNumber 30 = .ok (.lload 5, 2) := by decide +kernel
theorem d_de_takeNumber_32 : decode c_de_takeNumber 32 = .ok (.iload 8, 2) := by decide +kernel
theorem d_de_takeNumber_34 : decode c_de_takeNumber 34 = .ok (.iload 7, 2) := by decide +kernel
theorem d_de_takeNumber_36 : decode c_de_takeNumber 36 = .ok (.invokevirtual 30, 3) := by decide +kernel
theorem d_de_takeNumber_39 : decode c_de_takeNumber 39 = .ok (.lstore 9, 2) := by decide +kernel
theorem d_de_takeNumber_41 : decode c_de_takeNumber 41 = .ok (.iload 8, 2) := by decide +kernel
theorem d_de_takeNumber_43 : decode c_de_takeNumber 43 = .ok (.iconst 3, 1) := by decide +kernel
theorem d_de_takeNumber_44 : decode c_de_takeNumber 44 = .ok (.if_icmp .ge 33, 3) := by decide +kernel
theorem d_de_takeNumber_47 : decode c_de_takeNumber 47 = .ok (.lload_n 3, 1) := by decide +kernel
theorem d_de_takeNumber_48 : decode c_de_takeNumber 48 = .ok (.lload 9, 2) := by decide +kernel
theorem d_de_takeNumber_50 : decode c_de_takeNumber 50 = .ok (.lcmp, 1) := by decide +kernel
theorem d_de_takeNumber_51 : decode c_de_takeNumber 51 = .ok (.ifCond .lt 26, 3) := by decide +kernel
theorem d_de_takeNumber_54 : decode c_de_takeNumber 54 = .ok (.lload_n 3, 1) := by decide +kernel
theorem d_de_takeNumber_55 : decode c_de_takeNumber 55 = .ok (.lload 9, 2) := by decide +kernel
theorem d_de_takeNumber_57 : decode c_de_takeNumber 57 = .ok (.lsub, 1) := by decide +kernel
theorem d_de_takeNumber_58 : decode c_de_takeNumber 58 = .ok (.lstore_n 3, 1) := by decide +kernel
theorem d_de_takeNumber_59 : decode c_de_takeNumber 59 = .ok (.iinc 8 1, 3) := by decide +kernel
theorem d_de_takeNumber_62 : decode c_de_takeNumber 62 = .ok (.aload_n 0, 1) := by decide +kernel
theorem d_de_takeNumber_63 : decode c_de_takeNumber 63 = .ok (.lload 5, 2) := by decide +kernel
theorem d_de_takeNumber_65 : decode c_de_takeNumber 65 = .ok (.iload 8, 2) := by decide +kernel
theorem d_de_takeNumber_67 : decode c_de_takeNumber 67 = .ok (.iload 7, 2) := by decide +kernel
theorem d_de_takeNumber_69 : decode c_de_takeNumber 69 = .ok (.invokevirtual 30, 3) := by decide +kernel
theorem d_de_takeNumber_72 : decode c_de_takeNumber 72 = .ok (.lstore 9, 2) := by decide +kernel
theorem d_de_takeNumber_74 : decode c_de_takeNumber 74 = .ok (.goto (-33), 3) := by decide +kernel
theorem d_de_takeNumber_77 : decode c_de_takeNumber 77 = .ok (.aload_n 0, 1) := by decide +kernel
theorem d_de_takeNumber_78 : decode c_de_takeNumber 78 = .ok (.getfield 9, 3) := by decide +kernel
theorem d_de_takeNumber_81 : decode c_de_takeNumber 81 = .ok (.iload 7, 2) := by decide +kernel
theorem d_de_takeNumber_83 : decode c_de_takeNumber 83 = .ok (.iload 8, 2) := by decide +kernel
theorem d_de_takeNumber_85 : decode c_de_takeNumber 85 = .ok (.iastore, 1) := by decide +kernel
theorem d_de_takeNumber_86 : decode c_de_takeNumber 86 = .ok (.aload_n 0, 1) := by decide +kernel
theorem d_de_takeNumber_87 : decode c_de_takeNumber 87 = .ok (.getfield 18, 3) := by decide +kernel
theorem d_de_takeNumber_90 : decode c_de_takeNumber 90 = .ok (.iload 8, 2) := by decide +kernel
theorem d_de_takeNumber_92 : decode c_de_takeNumber 92 = .ok (.dup2, 1) := by decide +kernel
theorem d_de_takeNumber_93 : decode c_de_takeNumber 93 = .ok (.iaload, 1) := by decide +kernel
theorem d_de_takeNumber_94 : decode c_de_takeNumber 94 = .ok (.iconst 1, 1) := by decide +kernel
theorem d_de_takeNumber_95 : decode c_de_takeNumber 95 = .ok (.isub, 1) := by decide +kernel
theorem d_de_takeNumber_96 : decode c_de_takeNumber 96 = .ok (.iastore, 1) := by decide +kernel
theorem d_de_takeNumber_97 : decode c_de_takeNumber 97 = .ok (.lload 9, 2) := by decide +kernel
theorem d_de_takeNumber_99 : decode c_de_takeNumber 99 = .ok (.lstore 5, 2) := by decide +kernel
theorem d_de_takeNumber_101 : decode c_de_takeNumber 101 = .ok (.iinc 7 1, 3) := by decide +kernel
theorem d_de_takeNumber_104 : decode c_de_takeNumber 104 = .ok (.goto (-85), 3) := by decide +kernel
theorem d_de_takeNumber_107 : decode c_de_takeNumber 107 = .ok (.return_, 1) := by decide +kernel
abbrev c_de_takeSeed : ByteArray := prog_3_method_4_code
def y_de_takeSeed : MethodName := ⟨"ShortBridge$Deal", "takeSeed", "(J)V"⟩
theorem d_de_takeSeed_0 : decode c_de_takeSeed 0 = .ok (.aload_n 0, 1) := by decide +kernel
theorem d_de_takeSeed_1 : decode c_de_takeSeed 1 = .ok (.lload_n 1, 1) := by decide +kernel
theorem d_de_takeSeed_2 : decode c_de_takeSeed 2 = .ok (.invokevirtual 34, 3) := by decide +kernel
theorem d_de_takeSeed_5 : decode c_de_takeSeed 5 = .ok (.iconst 0, 1) := by decide +kernel
theorem d_de_takeSeed_6 : decode c_de_takeSeed 6 = .ok (.istore_n 3, 1) := by decide +kernel
theorem d_de_takeSeed_7 : decode c_de_takeSeed 7 = .ok (.iload_n 3, 1) := by decide +kernel
theorem d_de_takeSeed_8 : decode c_de_takeSeed 8 = .ok (.bipush 20, 2) := by decide +kernel
theorem d_de_takeSeed_10 : decode c_de_takeSeed 10 = .ok (.if_icmp .ge 23, 3) := by decide +kernel
theorem d_de_takeSeed_13 : decode c_de_takeSeed 13 = .ok (.aload_n 0, 1) := by decide +kernel
theorem d_de_takeSeed_14 : decode c_de_takeSeed 14 = .ok (.getfield 9, 3) := by decide +kernel
theorem d_de_takeSeed_17 : decode c_de_takeSeed 17 = .ok (.aload_n 0, 1) := by decide +kernel
theorem d_de_takeSeed_18 : decode c_de_takeSeed 18 = .ok (.getfield 15, 3) := by decide +kernel
theorem d_de_takeSeed_21 : decode c_de_takeSeed 21 = .ok (.iload_n 3, 1) := by decide +kernel
theorem d_de_takeSeed_22 : decode c_de_takeSeed 22 = .ok (.iaload, 1) := by decide +kernel
theorem d_de_takeSeed_23 : decode c_de_takeSeed 23 = .ok (.iload_n 3, 1) := by decide +kernel
theorem d_de_takeSeed_24 : decode c_de_takeSeed 24 = .ok (.iconst 5, 1) := by decide +kernel
theorem d_de_takeSeed_25 : decode c_de_takeSeed 25 = .ok (.idiv, 1) := by decide +kernel
theorem d_de_takeSeed_26 : decode c_de_takeSeed 26 = .ok (.iastore, 1) := by decide +kernel
theorem d_de_takeSeed_27 : decode c_de_takeSeed 27 = .ok (.iinc 3 1, 3) := by decide +kernel
theorem d_de_takeSeed_30 : decode c_de_takeSeed 30 = .ok (.goto (-23), 3) := by decide +kernel
theorem d_de_takeSeed_33 : decode c_de_takeSeed 33 = .ok (.aload_n 0, 1) := by decide +kernel
theorem d_de_takeSeed_34 : decode c_de_takeSeed 34 = .ok (.aload_n 0, 1) := by decide +kernel
theorem d_de_takeSeed_35 : decode c_de_takeSeed 35 = .ok (.invokevirtual 38, 3) := by decide +kernel
theorem d_de_takeSeed_38 : decode c_de_takeSeed 38 = .ok (.putfield 23, 3) := by decide +kernel
theorem d_de_takeSeed_41 : decode c_de_takeSeed 41 = .ok (.return_, 1) := by decide +kernel
abbrev c_de_shuffleRow : ByteArray := prog_3_method_5_code
def y_de_shuffleRow : MethodName := ⟨"ShortBridge$Deal", "shuffleRow", "(J)V"⟩
theorem d_de_shuffleRow_0 : decode c_de_shuffleRow 0 = .ok (.iconst 0, 1) := by decide +kernel
theorem d_de_shuffleRow_1 : decode c_de_shuffleRow 1 = .ok (.istore_n 3, 1) := by decide +kernel
theorem d_de_shuffleRow_2 : decode c_de_shuffleRow 2 = .ok (.iload_n 3, 1) := by decide +kernel
theorem d_de_shuffleRow_3 : decode c_de_shuffleRow 3 = .ok (.bipush 20, 2) := by decide +kernel
theorem d_de_shuffleRow_5 : decode c_de_shuffleRow 5 = .ok (.if_icmp .ge 16, 3) := by decide +kernel
theorem d_de_shuffleRow_8 : decode c_de_shuffleRow 8 = .ok (.aload_n 0, 1) := by decide +kernel
theorem d_de_shuffleRow_9 : decode c_de_shuffleRow 9 = .ok (.getfield 15, 3) := by decide +kernel
theorem d_de_shuffleRow_12 : decode c_de_shuffleRow 12 = .ok (.iload_n 3, 1) := by decide +kernel
theorem d_de_shuffleRow_13 : decode c_de_shuffleRow 13 = .ok (.iload_n 3, 1) := by decide +kernel
theorem d_de_shuffleRow_14 : decode c_de_shuffleRow 14 = .ok (.iastore, 1) := by decide +kernel
theorem d_de_shuffleRow_15 : decode c_de_shuffleRow 15 = .ok (.iinc 3 1, 3) := by decide +kernel
theorem d_de_shuffleRow_18 : decode c_de_shuffleRow 18 = .ok (.goto (-16), 3) := by decide +kernel
theorem d_de_shuffleRow_21 : decode c_de_shuffleRow 21 = .ok (.lload_n 1, 1) := by decide +kernel
theorem d_de_shuffleRow_22 : decode c_de_shuffleRow 22 = .ok (.lstore_n 3, 1) := by decide +kernel
theorem d_de_shuffleRow_23 : decode c_de_shuffleRow 23 = .ok (.bipush 19, 2) := by decide +kernel
theorem d_de_shuffleRow_25 : decode c_de_shuffleRow 25 = .ok (.istore 5, 2) := by decide +kernel
theorem d_de_shuffleRow_27 : decode c_de_shuffleRow 27 = .ok (.iload 5, 2) := by decide +kernel
theorem d_de_shuffleRow_29 : decode c_de_shuffleRow 29 = .ok (.iconst 1, 1) := by decide +kernel
theorem d_de_shuffleRow_30 : decode c_de_shuffleRow 30 = .ok (.if_icmp .lt 64, 3) := by decide +kernel
theorem d_de_shuffleRow_33 : decode c_de_shuffleRow 33 = .ok (.lload_n 3, 1) := by decide +kernel
theorem d_de_shuffleRow_34 : decode c_de_shuffleRow 34 = .ok (.ldc2_w 42, 3) := by decide +kernel
theorem d_de_shuffleRow_37 : decode c_de_shuffleRow 37 = .ok (.lmul, 1) := by decide +kernel
theorem d_de_shuffleRow_38 : decode c_de_shuffleRow 38 = .ok (.ldc2_w 44, 3) := by decide +kernel
theorem d_de_shuffleRow_41 : decode c_de_shuffleRow 41 = .ok (.ladd, 1) := by decide +kernel
theorem d_de_shuffleRow_42 : decode c_de_shuffleRow 42 = .ok (.lstore_n 3, 1) := by decide +kernel
theorem d_de_shuffleRow_43 : decode c_de_shuffleRow 43 = .ok (.lload_n 3, 1) := by decide +kernel
theorem d_de_shuffleRow_44 : decode c_de_shuffleRow 44 = .ok (.bipush 33, 2) := by decide +kernel
theorem d_de_shuffleRow_46 : decode c_de_shuffleRow 46 = .ok (.lushr, 1) := by decide +kernel
theorem d_de_shuffleRow_47 : decode c_de_shuffleRow 47 = .ok (.iload 5, 2) := by decide +kernel
theorem d_de_shuffleRow_49 : decode c_de_shuffleRow 49 = .ok (.iconst 1, 1) := by decide +kernel
theorem d_de_shuffleRow_50 : decode c_de_shuffleRow 50 = .ok (.iadd, 1) := by decide +kernel
theorem d_de_shuffleRow_51 : decode c_de_shuffleRow 51 = .ok (.i2l, 1) := by decide +kernel
theorem d_de_shuffleRow_52 : decode c_de_shuffleRow 52 = .ok (.lrem, 1) := by decide +kernel
theorem d_de_shuffleRow_53 : decode c_de_shuffleRow 53 = .ok (.l2i, 1) := by decide +kernel
theorem d_de_shuffleRow_54 : decode c_de_shuffleRow 54 = .ok (.istore 6, 2) := by decide +kernel
theorem d_de_shuffleRow_56 : decode c_de_shuffleRow 56 = .ok (.aload_n 0, 1) := by decide +kernel
theorem d_de_shuffleRow_57 : decode c_de_shuffleRow 57 = .ok (.getfield 15, 3) := by decide +kernel
theorem d_de_shuffleRow_60 : decode c_de_shuffleRow 60 = .ok (.iload 5, 2) := by decide +kernel
theorem d_de_shuffleRow_62 : decode c_de_shuffleRow 62 = .ok (.iaload, 1) := by decide +kernel
theorem d_de_shuffleRow_63 : decode c_de_shuffleRow 63 = .ok (.istore 7, 2) := by decide +kernel
theorem d_de_shuffleRow_65 : decode c_de_shuffleRow 65 = .ok (.aload_n 0, 1) := by decide +kernel
theorem d_de_shuffleRow_66 : decode c_de_shuffleRow 66 = .ok (.getfield 15, 3) := by decide +kernel
theorem d_de_shuffleRow_69 : decode c_de_shuffleRow 69 = .ok (.iload 5, 2) := by decide +kernel
theorem d_de_shuffleRow_71 : decode c_de_shuffleRow 71 = .ok (.aload_n 0, 1) := by decide +kernel
theorem d_de_shuffleRow_72 : decode c_de_shuffleRow 72 = .ok (.getfield 15, 3) := by decide +kernel
theorem d_de_shuffleRow_75 : decode c_de_shuffleRow 75 = .ok (.iload 6, 2) := by decide +kernel
theorem d_de_shuffleRow_77 : decode c_de_shuffleRow 77 = .ok (.iaload, 1) := by decide +kernel
theorem d_de_shuffleRow_78 : decode c_de_shuffleRow 78 = .ok (.iastore, 1) := by decide +kernel
theorem d_de_shuffleRow_79 : decode c_de_shuffleRow 79 = .ok (.aload_n 0, 1) := by decide +kernel
theorem d_de_shuffleRow_80 : decode c_de_shuffleRow 80 = .ok (.getfield 15, 3) := by decide +kernel
theorem d_de_shuffleRow_83 : decode c_de_shuffleRow 83 = .ok (.iload 6, 2) := by decide +kernel
theorem d_de_shuffleRow_85 : decode c_de_shuffleRow 85 = .ok (.iload 7, 2) := by decide +kernel
theorem d_de_shuffleRow_87 : decode c_de_shuffleRow 87 = .ok (.iastore, 1) := by decide +kernel
theorem d_de_shuffleRow_88 : decode c_de_shuffleRow 88 = .ok (.iinc 5 (-1), 3) := by decide +kernel
theorem d_de_shuffleRow_91 : decode c_de_shuffleRow 91 = .ok (.goto (-64), 3) := by decide +kernel
theorem d_de_shuffleRow_94 : decode c_de_shuffleRow 94 = .ok (.return_, 1) := by decide +kernel
abbrev c_de_rankOfOwners : ByteArray := prog_3_method_6_code
def y_de_rankOfOwners : MethodName := ⟨"ShortBridge$Deal", "rankOfOwners", "()J"⟩
theorem d_de_rankOfOwners_0 : decode c_de_rankOfOwners 0 = .ok (.aload_n 0, 1) := by decide +kernel
theorem d_de_rankOfOwners_1 : decode c_de_rankOfOwners 1 = .ok (.invokevirtual 27, 3) := by decide +kernel
theorem d_de_rankOfOwners_4 : decode c_de_rankOfOwners 4 = .ok (.lconst 0, 1) := by decide +kernel
theorem d_de_rankOfOwners_5 : decode c_de_rankOfOwners 5 = .ok (.lstore_n 1, 1) := by decide +kernel
theorem d_de_rankOfOwners_6 : decode c_de_rankOfOwners 6 = .ok (.ldc2_w 21, 3) := by decide +kernel
theorem d_de_rankOfOwners_9 : decode c_de_rankOfOwners 9 = .ok (.lstore_n 3, 1) := by decide +kernel
theorem d_de_rankOfOwners_10 : decode c_de_rankOfOwners 10 = .ok (.iconst 0, 1) := by decide +kernel
theorem d_de_rankOfOwners_11 : decode c_de_rankOfOwners 11 = .ok (.istore 5, 2) := by decide +kernel
theorem d_de_rankOfOwners_13 : decode c_de_rankOfOwners 13 = .ok (.iload 5, 2) := by decide +kernel
theorem d_de_rankOfOwners_15 : decode c_de_rankOfOwners 15 = .ok (.bipush 20, 2) := by decide +kernel
theorem d_de_rankOfOwners_17 : decode c_de_rankOfOwners 17 = .ok (.if_icmp .ge 67, 3) := by decide +kernel
theorem d_de_rankOfOwners_20 : decode c_de_rankOfOwners 20 = .ok (.aload_n 0, 1) := by decide +kernel
theorem d_de_rankOfOwners_21 : decode c_de_rankOfOwners 21 = .ok (.getfield 9, 3) := by decide +kernel
theorem d_de_rankOfOwners_24 : decode c_de_rankOfOwners 24 = .ok (.iload 5, 2) := by decide +kernel
theorem d_de_rankOfOwners_26 : decode c_de_rankOfOwners 26 = .ok (.iaload, 1) := by decide +kernel
theorem d_de_rankOfOwners_27 : decode c_de_rankOfOwners 27 = .ok (.istore 6, 2) := by decide +kernel
theorem d_de_rankOfOwners_29 : decode c_de_rankOfOwners 29 = .ok (.iconst 0, 1) := by decide +kernel
theorem d_de_rankOfOwners_30 : decode c_de_rankOfOwners 30 = .ok (.istore 7, 2) := by decide +kernel
theorem d_de_rankOfOwners_32 : decode c_de_rankOfOwners 32 = .ok (.iload 7, 2) := by decide +kernel
theorem d_de_rankOfOwners_34 : decode c_de_rankOfOwners 34 = .ok (.iload 6, 2) := by decide +kernel
theorem d_de_rankOfOwners_36 : decode c_de_rankOfOwners 36 = .ok (.if_icmp .ge 21, 3) := by decide +kernel
theorem d_de_rankOfOwners_39 : decode c_de_rankOfOwners 39 = .ok (.lload_n 1, 1) := by decide +kernel
theorem d_de_rankOfOwners_40 : decode c_de_rankOfOwners 40 = .ok (.aload_n 0, 1) := by decide +kernel
theorem d_de_rankOfOwners_41 : decode c_de_rankOfOwners 41 = .ok (.lload_n 3, 1) := by decide +kernel
theorem d_de_rankOfOwners_42 : decode c_de_rankOfOwners 42 = .ok (.iload 7, 2) := by decide +kernel
theorem d_de_rankOfOwners_44 : decode c_de_rankOfOwners 44 = .ok (.iload 5, 2) := by decide +kernel
theorem d_de_rankOfOwners_46 : decode c_de_rankOfOwners 46 = .ok (.invokevirtual 30, 3) := by decide +kernel
theorem d_de_rankOfOwners_49 : decode c_de_rankOfOwners 49 = .ok (.ladd, 1) := by decide +kernel
theorem d_de_rankOfOwners_50 : decode c_de_rankOfOwners 50 = .ok (.lstore_n 1, 1) := by decide +kernel
theorem d_de_rankOfOwners_51 : decode c_de_rankOfOwners 51 = .ok (.iinc 7 1, 3) := by decide +kernel
theorem d_de_rankOfOwners_54 : decode c_de_rankOfOwners 54 = .ok (.goto (-22), 3) := by decide +kernel
theorem d_de_rankOfOwners_57 : decode c_de_rankOfOwners 57 = .ok (.aload_n 0, 1) := by decide +kernel
theorem d_de_rankOfOwners_58 : decode c_de_rankOfOwners 58 = .ok (.lload_n 3, 1) := by decide +kernel
theorem d_de_rankOfOwners_59 : decode c_de_rankOfOwners 59 = .ok (.iload 6, 2) := by decide +kernel
theorem d_de_rankOfOwners_61 : decode c_de_rankOfOwners 61 = .ok (.iload 5, 2) := by decide +kernel
theorem d_de_rankOfOwners_63 : decode c_de_rankOfOwners 63 = .ok (.invokevirtual 30, 3) := by decide +kernel
theorem d_de_rankOfOwners_66 : decode c_de_rankOfOwners 66 = .ok (.lstore_n 3, 1) := by decide +kernel
theorem d_de_rankOfOwners_67 : decode c_de_rankOfOwners 67 = .ok (.aload_n 0, 1) := by decide +kernel
theorem d_de_rankOfOwners_68 : decode c_de_rankOfOwners 68 = .ok (.getfield 18, 3) := by decide +kernel
theorem d_de_rankOfOwners_71 : decode c_de_rankOfOwners 71 = .ok (.iload 6, 2) := by decide +kernel
theorem d_de_rankOfOwners_73 : decode c_de_rankOfOwners 73 = .ok (.dup2, 1) := by decide +kernel
theorem d_de_rankOfOwners_74 : decode c_de_rankOfOwners 74 = .ok (.iaload, 1) := by decide +kernel
theorem d_de_rankOfOwners_75 : decode c_de_rankOfOwners 75 = .ok (.iconst 1, 1) := by decide +kernel
theorem d_de_rankOfOwners_76 : decode c_de_rankOfOwners 76 = .ok (.isub, 1) := by decide +kernel
theorem d_de_rankOfOwners_77 : decode c_de_rankOfOwners 77 = .ok (.iastore, 1) := by decide +kernel
theorem d_de_rankOfOwners_78 : decode c_de_rankOfOwners 78 = .ok (.iinc 5 1, 3) := by decide +kernel
theorem d_de_rankOfOwners_81 : decode c_de_rankOfOwners 81 = .ok (.goto (-68), 3) := by decide +kernel
theorem d_de_rankOfOwners_84 : decode c_de_rankOfOwners 84 = .ok (.lload_n 1, 1) := by decide +kernel
theorem d_de_rankOfOwners_85 : decode c_de_rankOfOwners 85 = .ok (.lreturn, 1) := by decide +kernel
abbrev c_de_fillLeft : ByteArray := prog_3_method_7_code
def y_de_fillLeft : MethodName := ⟨"ShortBridge$Deal", "fillLeft", "()V"⟩
theorem d_de_fillLeft_0 : decode c_de_fillLeft 0 = .ok (.iconst 0, 1) := by decide +kernel
theorem d_de_fillLeft_1 : decode c_de_fillLeft 1 = .ok (.istore_n 1, 1) := by decide +kernel
theorem d_de_fillLeft_2 : decode c_de_fillLeft 2 = .ok (.iload_n 1, 1) := by decide +kernel
theorem d_de_fillLeft_3 : decode c_de_fillLeft 3 = .ok (.iconst 4, 1) := by decide +kernel
theorem d_de_fillLeft_4 : decode c_de_fillLeft 4 = .ok (.if_icmp .ge 16, 3) := by decide +kernel
theorem d_de_fillLeft_7 : decode c_de_fillLeft 7 = .ok (.aload_n 0, 1) := by decide +kernel
theorem d_de_fillLeft_8 : decode c_de_fillLeft 8 = .ok (.getfield 18, 3) := by decide +kernel
theorem d_de_fillLeft_11 : decode c_de_fillLeft 11 = .ok (.iload_n 1, 1) := by decide +kernel
theorem d_de_fillLeft_12 : decode c_de_fillLeft 12 = .ok (.iconst 5, 1) := by decide +kernel
theorem d_de_fillLeft_13 : decode c_de_fillLeft 13 = .ok (.iastore, 1) := by decide +kernel
theorem d_de_fillLeft_14 : decode c_de_fillLeft 14 = .ok (.iinc 1 1, 3) := by decide +kernel
theorem d_de_fillLeft_17 : decode c_de_fillLeft 17 = .ok (.goto (-15), 3) := by decide +kernel
theorem d_de_fillLeft_20 : decode c_de_fillLeft 20 = .ok (.return_, 1) := by decide +kernel
abbrev c_de_share : ByteArray := prog_3_method_8_code
def y_de_share : MethodName := ⟨"ShortBridge$Deal", "share", "(JII)J"⟩
theorem d_de_share_0 : decode c_de_share 0 = .ok (.lload_n 1, 1) := by decide +kernel
theorem d_de_share_1 : decode c_de_share 1 = .ok (.aload_n 0, 1) := by decide +kernel
theorem d_de_share_2 : decode c_de_share 2 = .ok (.getfield 18, 3) := by decide +kernel
theorem d_de_share_5 : decode c_de_share 5 = .ok (.iload_n 3, 1) := by decide +kernel
theorem d_de_share_6 : decode c_de_share 6 = .ok (.iaload, 1) := by decide +kernel
theorem d_de_share_7 : decode c_de_share 7 = .ok (.i2l, 1) := by decide +kernel
theorem d_de_share_8 : decode c_de_share 8 = .ok (.lmul, 1) := by decide +kernel
theorem d_de_share_9 : decode c_de_share 9 = .ok (.bipush 20, 2) := by decide +kernel
theorem d_de_share_11 : decode c_de_share 11 = .ok (.iload 4, 2) := by decide +kernel
theorem d_de_share_13 : decode c_de_share 13 = .ok (.isub, 1) := by decide +kernel
theorem d_de_share_14 : decode c_de_share 14 = .ok (.i2l, 1) := by decide +kernel
theorem d_de_share_15 : decode c_de_share 15 = .ok (.ldiv, 1) := by decide +kernel
theorem d_de_share_16 : decode c_de_share 16 = .ok (.lreturn, 1) := by decide +kernel
abbrev c_ha_init : ByteArray := prog_4_method_1_code
def y_ha_init : MethodName := ⟨"ShortBridge$Hands", "<init>", "()V"⟩
theorem d_ha_init_0 : decode c_ha_init 0 = .ok (.aload_n 0, 1) := by decide +kernel
theorem d_ha_init_1 : decode c_ha_init 1 = .ok (.invokespecial 3, 3) := by decide +kernel
theorem d_ha_init_4 : decode c_ha_init 4 = .ok (.aload_n 0, 1) := by decide +kernel
theorem d_ha_init_5 : decode c_ha_init 5 = .ok (.iconst 4, 1) := by decide +kernel
theorem d_ha_init_6 : decode c_ha_init 6 = .ok (.newarray .int, 2) := by decide +kernel
theorem d_ha_init_8 : decode c_ha_init 8 = .ok (.putfield 9, 3) := by decide +kernel
theorem d_ha_init_11 : decode c_ha_init 11 = .ok (.aload_n 0, 1) := by decide +kernel
theorem d_ha_init_12 : decode c_ha_init 12 = .ok (.bipush 20, 2) := by decide +kernel
theorem d_ha_init_14 : decode c_ha_init 14 = .ok (.newarray .int, 2) := by decide +kernel
theorem d_ha_init_16 : decode c_ha_init 16 = .ok (.putfield 15, 3) := by decide +kernel
theorem d_ha_init_19 : decode c_ha_init 19 = .ok (.aload_n 0, 1) := by decide +kernel
theorem d_ha_init_20 : decode c_ha_init 20 = .ok (.bipush 20, 2) := by decide +kernel
theorem d_ha_init_22 : decode c_ha_init 22 = .ok (.newarray .int, 2) := by decide +kernel
theorem d_ha_init_24 : decode c_ha_init 24 = .ok (.putfield 18, 3) := by decide +kernel
theorem d_ha_init_27 : decode c_ha_init 27 = .ok (.aload_n 0, 1) := by decide +kernel
theorem d_ha_init_28 : decode c_ha_init 28 = .ok (.bipush 6, 2) := by decide +kernel
theorem d_ha_init_30 : decode c_ha_init 30 = .ok (.newarray .int, 2) := by decide +kernel
theorem d_ha_init_32 : decode c_ha_init 32 = .ok (.putfield 21, 3) := by decide +kernel
theorem d_ha_init_35 : decode c_ha_init 35 = .ok (.aload_n 0, 1) := by decide +kernel
theorem d_ha_init_36 : decode c_ha_init 36 = .ok (.iconst 4, 1) := by decide +kernel
theorem d_ha_init_37 : decode c_ha_init 37 = .ok (.putfield 24, 3) := by decide +kernel
theorem d_ha_init_40 : decode c_ha_init 40 = .ok (.return_, 1) := by decide +kernel
abbrev c_ha_take : ByteArray := prog_4_method_2_code
def y_ha_take : MethodName := ⟨"ShortBridge$Hands", "take", "(LShortBridge$Deal;)V"⟩
theorem d_ha_take_0 : decode c_ha_take 0 = .ok (.iconst 0, 1) := by decide +kernel
theorem d_ha_take_1 : decode c_ha_take 1 = .ok (.istore_n 2, 1) := by decide +kernel
theorem d_ha_take_2 : decode c_ha_take 2 = .ok (.iload_n 2, 1) := by decide +kernel
theorem d_ha_take_3 : decode c_ha_take 3 = .ok (.iconst 4, 1) := by decide +kernel
theorem d_ha_take_4 : decode c_ha_take 4 = .ok (.if_icmp .ge 15, 3) := by decide +kernel
theorem d_ha_take_7 : decode c_ha_take 7 = .ok (.aload_n 0, 1) := by decide +kernel
theorem d_ha_take_8 : decode c_ha_take 8 = .ok (.aload_n 1, 1) := by decide +kernel
theorem d_ha_take_9 : decode c_ha_take 9 = .ok (.iload_n 2, 1) := by decide +kernel
theorem d_ha_take_10 : decode c_ha_take 10 = .ok (.invokevirtual 28, 3) := by decide +kernel
theorem d_ha_take_13 : decode c_ha_take 13 = .ok (.iinc 2 1, 3) := by decide +kernel
theorem d_ha_take_16 : decode c_ha_take 16 = .ok (.goto (-14), 3) := by decide +kernel
theorem d_ha_take_19 : decode c_ha_take 19 = .ok (.aload_n 0, 1) := by decide +kernel
theorem d_ha_take_20 : decode c_ha_take 20 = .ok (.iconst 0, 1) := by decide +kernel
theorem d_ha_take_21 : decode c_ha_take 21 = .ok (.putfield 32, 3) := by decide +kernel
theorem d_ha_take_24 : decode c_ha_take 24 = .ok (.return_, 1) := by decide +kernel
abbrev c_ha_beginPlay : ByteArray := prog_4_method_3_code
def y_ha_beginPlay : MethodName := ⟨"ShortBridge$Hands", "beginPlay", "(II)V"⟩
theorem d_ha_beginPlay_0 : decode c_ha_beginPlay 0 = .ok (.aload_n 0, 1) := by decide +kernel
theorem d_ha_beginPlay_1 : decode c_ha_beginPlay 1 = .ok (.getfield 21, 3) := by decide +kernel
theorem d_ha_beginPlay_4 : decode c_ha_beginPlay 4 = .ok (.iconst 0, 1) := by decide +kernel
theorem d_ha_beginPlay_5 : decode c_ha_beginPlay 5 = .ok (.iload_n 1, 1) := by decide +kernel
theorem d_ha_beginPlay_6 : decode c_ha_beginPlay 6 = .ok (.iconst 1, 1) := by decide +kernel
theorem d_ha_beginPlay_7 : decode c_ha_beginPlay 7 = .ok (.invokestatic 35, 3) := by decide +kernel
theorem d_ha_beginPlay_10 : decode c_ha_beginPlay 10 = .ok (.iastore, 1) := by decide +kernel
theorem d_ha_beginPlay_11 : decode c_ha_beginPlay 11 = .ok (.aload_n 0, 1) := by decide +kernel
theorem d_ha_beginPlay_12 : decode c_ha_beginPlay 12 = .ok (.iload_n 2, 1) := by decide +kernel
theorem d_ha_beginPlay_13 : decode c_ha_beginPlay 13 = .ok (.putfield 24, 3) := by decide +kernel
theorem d_ha_beginPlay_16 : decode c_ha_beginPlay 16 = .ok (.return_, 1) := by decide +kernel
abbrev c_ha_areEmpty : ByteArray := prog_4_method_4_code
def y_ha_areEmpty : MethodName := ⟨"ShortBridge$Hands", "areEmpty", "()Z"⟩
theorem d_ha_areEmpty_0 : decode c_ha_areEmpty 0 = .ok (.aload_n 0, 1) := by decide +kernel
theorem d_ha_areEmpty_1 : decode c_ha_areEmpty 1 = .ok (.getfield 32, 3) := by decide +kernel
theorem d_ha_areEmpty_4 : decode c_ha_areEmpty 4 = .ok (.bipush 20, 2) := by decide +kernel
theorem d_ha_areEmpty_6 : decode c_ha_areEmpty 6 = .ok (.if_icmp .ne 7, 3) := by decide +kernel
theorem d_ha_areEmpty_9 : decode c_ha_areEmpty 9 = .ok (.iconst 1, 1) := by decide +kernel
theorem d_ha_areEmpty_10 : decode c_ha_areEmpty 10 = .ok (.goto 4, 3) := by decide +kernel
theorem d_ha_areEmpty_13 : decode c_ha_areEmpty 13 = .ok (.iconst 0, 1) := by decide +kernel
theorem d_ha_areEmpty_14 : decode c_ha_areEmpty 14 = .ok (.ireturn, 1) := by decide +kernel
abbrev c_ha_player : ByteArray := prog_4_method_5_code
def y_ha_player : MethodName := ⟨"ShortBridge$Hands", "player", "()I"⟩
theorem d_ha_player_0 : decode c_ha_player 0 = .ok (.aload_n 0, 1) := by decide +kernel
theorem d_ha_player_1 : decode c_ha_player 1 = .ok (.getfield 21, 3) := by decide +kernel
theorem d_ha_player_4 : decode c_ha_player 4 = .ok (.aload_n 0, 1) := by decide +kernel
theorem d_ha_player_5 : decode c_ha_player 5 = .ok (.getfield 32, 3) := by decide +kernel
theorem d_ha_player_8 : decode c_ha_player 8 = .ok (.iconst 4, 1) := by decide +kernel
theorem d_ha_player_9 : decode c_ha_player 9 = .ok (.idiv, 1) := by decide +kernel
theorem d_ha_player_10 : decode c_ha_player 10 = .ok (.iaload, 1) := by decide +kernel
theorem d_ha_player_11 : decode c_ha_player 11 = .ok (.aload_n 0, 1) := by decide +kernel
theorem d_ha_player_12 : decode c_ha_player 12 = .ok (.getfield 32, 3) := by decide +kernel
theorem d_ha_player_15 : decode c_ha_player 15 = .ok (.iconst 4, 1) := by decide +kernel
theorem d_ha_player_16 : decode c_ha_player 16 = .ok (.irem, 1) := by decide +kernel
theorem d_ha_player_17 : decode c_ha_player 17 = .ok (.invokestatic 35, 3) := by decide +kernel
theorem d_ha_player_20 : decode c_ha_player 20 = .ok (.ireturn, 1) := by decide +kernel
abbrev c_ha_holds : ByteArray := prog_4_method_6_code
def y_ha_holds : MethodName := ⟨"ShortBridge$Hands", "holds", "(II)Z"⟩
theorem d_ha_holds_0 : decode c_ha_holds 0 = .ok (.iload_n 2, 1) := by decide +kernel
theorem d_ha_holds_1 : decode c_ha_holds 1 = .ok (.ifCond .lt 27, 3) := by decide +kernel
theorem d_ha_holds_4 : decode c_ha_holds 4 = .ok (.iload_n 2, 1) := by decide +kernel
theorem d_ha_holds_5 : decode c_ha_holds 5 = .ok (.bipush 20, 2) := by decide +kernel
theorem d_ha_holds_7 : decode c_ha_holds 7 = .ok (.if_icmp .ge 21, 3) := by decide +kernel
theorem d_ha_holds_10 : decode c_ha_holds 10 = .ok (.aload_n 0, 1) := by decide +kernel
theorem d_ha_holds_11 : decode c_ha_holds 11 = .ok (.getfield 9, 3) := by decide +kernel
theorem d_ha_holds_14 : decode c_ha_holds 14 = .ok (.iload_n 1, 1) := by decide +kernel
theorem d_ha_holds_15 : decode c_ha_holds 15 = .ok (.iaload, 1) := by decide +kernel
theorem d_ha_holds_16 : decode c_ha_holds 16 = .ok (.iload_n 2, 1) := by decide +kernel
theorem d_ha_holds_17 : decode c_ha_holds 17 = .ok (.ishr, 1) := by decide +kernel
theorem d_ha_holds_18 : decode c_ha_holds 18 = .ok (.iconst 1, 1) := by decide +kernel
theorem d_ha_holds_19 : decode c_ha_holds 19 = .ok (.iand, 1) := by decide +kernel
theorem d_ha_holds_20 : decode c_ha_holds 20 = .ok (.iconst 1, 1) := by decide +kernel
theorem d_ha_holds_21 : decode c_ha_holds 21 = .ok (.if_icmp .ne 7, 3) := by decide +kernel
theorem d_ha_holds_24 : decode c_ha_holds 24 = .ok (.iconst 1, 1) := by decide +kernel
theorem d_ha_holds_25 : decode c_ha_holds 25 = .ok (.goto 4, 3) := by decide +kernel
theorem d_ha_holds_28 : decode c_ha_holds 28 = .ok (.iconst 0, 1) := by decide +kernel
theorem d_ha_holds_29 : decode c_ha_holds 29 = .ok (.ireturn, 1) := by decide +kernel
abbrev c_ha_allowed : ByteArray := prog_4_method_7_code
def y_ha_allowed : MethodName := ⟨"ShortBridge$Hands", "allowed", "()I"⟩
theorem d_ha_allowed_0 : decode c_ha_allowed 0 = .ok (.aload_n 0, 1) := by decide +kernel
theorem d_ha_allowed_1 : decode c_ha_allowed 1 = .ok (.getfield 9, 3) := by decide +kernel
theorem d_ha_allowed_4 : decode c_ha_allowed 4 = .ok (.aload_n 0, 1) := by decide +kernel
theorem d_ha_allowed_5 : decode c_ha_allowed 5 = .ok (.invokevirtual 39, 3) := by decide +kernel
theorem d_ha_allowed_8 : decode c_ha_allowed 8 = .ok (.iaload, 1) := by decide +kernel
theorem d_ha_allowed_9 : decode c_ha_allowed 9 = .ok (.istore_n 1, 1) := by decide +kernel
theorem d_ha_allowed_10 : decode c_ha_allowed 10 = .ok (.aload_n 0, 1) := by decide +kernel
theorem d_ha_allowed_11 : decode c_ha_allowed 11 = .ok (.getfield 32, 3) := by decide +kernel
theorem d_ha_allowed_14 : decode c_ha_allowed 14 = .ok (.iconst 4, 1) := by decide +kernel
theorem d_ha_allowed_15 : decode c_ha_allowed 15 = .ok (.irem, 1) := by decide +kernel
theorem d_ha_allowed_16 : decode c_ha_allowed 16 = .ok (.istore_n 2, 1) := by decide +kernel
theorem d_ha_allowed_17 : decode c_ha_allowed 17 = .ok (.iload_n 2, 1) := by decide +kernel
theorem d_ha_allowed_18 : decode c_ha_allowed 18 = .ok (.ifCond .ne 5, 3) := by decide +kernel
theorem d_ha_allowed_21 : decode c_ha_allowed 21 = .ok (.iload_n 1, 1) := by decide +kernel
theorem d_ha_allowed_22 : decode c_ha_allowed 22 = .ok (.ireturn, 1) := by decide +kernel
theorem d_ha_allowed_23 : decode c_ha_allowed 23 = .ok (.iload_n 1, 1) := by decide +kernel
theorem d_ha_allowed_24 : decode c_ha_allowed 24 = .ok (.bipush 31, 2) := by decide +kernel
theorem d_ha_allowed_26 : decode c_ha_allowed 26 = .ok (.aload_n 0, 1) := by decide +kernel
theorem d_ha_allowed_27 : decode c_ha_allowed 27 = .ok (.getfield 18, 3) := by decide +kernel
theorem d_ha_allowed_30 : decode c_ha_allowed 30 = .ok (.aload_n 0, 1) := by decide +kernel
theorem d_ha_allowed_31 : decode c_ha_allowed 31 = .ok (.getfield 32, 3) := by decide +kernel
theorem d_ha_allowed_34 : decode c_ha_allowed 34 = .ok (.iload_n 2, 1) := by decide +kernel
theorem d_ha_allowed_35 : decode c_ha_allowed 35 = .ok (.isub, 1) := by decide +kernel
theorem d_ha_allowed_36 : decode c_ha_allowed 36 = .ok (.iaload, 1) := by decide +kernel
theorem d_ha_allowed_37 : decode c_ha_allowed 37 = .ok (.iconst 5, 1) := by decide +kernel
theorem d_ha_allowed_38 : decode c_ha_allowed 38 = .ok (.idiv, 1) := by decide +kernel
theorem d_ha_allowed_39 : decode c_ha_allowed 39 = .ok (.iconst 5, 1) := by decide +kernel
theorem d_ha_allowed_40 : decode c_ha_allowed 40 = .ok (.imul, 1) := by decide +kernel
theorem d_ha_allowed_41 : decode c_ha_allowed 41 = .ok (.ishl, 1) := by decide +kernel
theorem d_ha_allowed_42 : decode c_ha_allowed 42 = .ok (.iand, 1) := by decide +kernel
theorem d_ha_allowed_43 : decode c_ha_allowed 43 = .ok (.istore_n 3, 1) := by decide +kernel
theorem d_ha_allowed_44 : decode c_ha_allowed 44 = .ok (.iload_n 3, 1) := by decide +kernel
theorem d_ha_allowed_45 : decode c_ha_allowed 45 = .ok (.ifCond .ne 7, 3) := by decide +kernel
theorem d_ha_allowed_48 : decode c_ha_allowed 48 = .ok (.iload_n 1, 1) := by decide +kernel
theorem d_ha_allowed_49 : decode c_ha_allowed 49 = .ok (.goto 4, 3) := by decide +kernel
theorem d_ha_allowed_52 : decode c_ha_allowed 52 = .ok (.iload_n 3, 1) := by decide +kernel
theorem d_ha_allowed_53 : decode c_ha_allowed 53 = .ok (.ireturn, 1) := by decide +kernel
abbrev c_ha_allow : ByteArray := prog_4_method_8_code
def y_ha_allow : MethodName := ⟨"ShortBridge$Hands", "allow", "(I)Z"⟩
theorem d_ha_allow_0 : decode c_ha_allow 0 = .ok (.aload_n 0, 1) := by decide +kernel
theorem d_ha_allow_1 : decode c_ha_allow 1 = .ok (.invokevirtual 43, 3) := by decide +kernel
theorem d_ha_allow_4 : decode c_ha_allow 4 = .ok (.iload_n 1, 1) := by decide +kernel
theorem d_ha_allow_5 : decode c_ha_allow 5 = .ok (.ishr, 1) := by decide +kernel
theorem d_ha_allow_6 : decode c_ha_allow 6 = .ok (.iconst 1, 1) := by decide +kernel
theorem d_ha_allow_7 : decode c_ha_allow 7 = .ok (.iand, 1) := by decide +kernel
theorem d_ha_allow_8 : decode c_ha_allow 8 = .ok (.iconst 1, 1) := by decide +kernel
theorem d_ha_allow_9 : decode c_ha_allow 9 = .ok (.if_icmp .ne 7, 3) := by decide +kernel
theorem d_ha_allow_12 : decode c_ha_allow 12 = .ok (.iconst 1, 1) := by decide +kernel
theorem d_ha_allow_13 : decode c_ha_allow 13 = .ok (.goto 4, 3) := by decide +kernel
theorem d_ha_allow_16 : decode c_ha_allow 16 = .ok (.iconst 0, 1) := by decide +kernel
theorem d_ha_allow_17 : decode c_ha_allow 17 = .ok (.ireturn, 1) := by decide +kernel
abbrev c_ha_put : ByteArray := prog_4_method_9_code
def y_ha_put : MethodName := ⟨"ShortBridge$Hands", "put", "(I)V"⟩
theorem d_ha_put_0 : decode c_ha_put 0 = .ok (.aload_n 0, 1) := by decide +kernel
theorem d_ha_put_1 : decode c_ha_put 1 = .ok (.getfield 32, 3) := by decide +kernel
theorem d_ha_put_4 : decode c_ha_put 4 = .ok (.bipush 20, 2) := by decide +kernel
theorem d_ha_put_6 : decode c_ha_put 6 = .ok (.if_icmp .ge 72, 3) := by decide +kernel
theorem d_ha_put_9 : decode c_ha_put 9 = .ok (.aload_n 0, 1) := by decide +kernel
theorem d_ha_put_10 : decode c_ha_put 10 = .ok (.getfield 9, 3) := by decide +kernel
theorem d_ha_put_13 : decode c_ha_put 13 = .ok (.aload_n 0, 1) := by decide +kernel
theorem d_ha_put_14 : decode c_ha_put 14 = .ok (.invokevirtual 39, 3) := by decide +kernel
theorem d_ha_put_17 : decode c_ha_put 17 = .ok (.dup2, 1) := by decide +kernel
theorem d_ha_put_18 : decode c_ha_put 18 = .ok (.iaload, 1) := by decide +kernel
theorem d_ha_put_19 : decode c_ha_put 19 = .ok (.iconst 1, 1) := by decide +kernel
theorem d_ha_put_20 : decode c_ha_put 20 = .ok (.iload_n 1, 1) := by decide +kernel
theorem d_ha_put_21 : decode c_ha_put 21 = .ok (.ishl, 1) := by decide +kernel
theorem d_ha_put_22 : decode c_ha_put 22 = .ok (.iconst (-1), 1) := by decide +kernel
theorem d_ha_put_23 : decode c_ha_put 23 = .ok (.ixor, 1) := by decide +kernel
theorem d_ha_put_24 : decode c_ha_put 24 = .ok (.iand, 1) := by decide +kernel
theorem d_ha_put_25 : decode c_ha_put 25 = .ok (.iastore, 1) := by decide +kernel
theorem d_ha_put_26 : decode c_ha_put 26 = .ok (.aload_n 0, 1) := by decide +kernel
theorem d_ha_put_27 : decode c_ha_put 27 = .ok (.getfield 18, 3) := by decide +kernel
theorem d_ha_put_30 : decode c_ha_put 30 = .ok (.aload_n 0, 1) := by decide +kernel
theorem d_ha_put_31 : decode c_ha_put 31 = .ok (.getfield 32, 3) := by decide +kernel
theorem d_ha_put_34 : decode c_ha_put 34 = .ok (.iload_n 1, 1) := by decide +kernel
theorem d_ha_put_35 : decode c_ha_put 35 = .ok (.iastore, 1) := by decide +kernel
theorem d_ha_put_36 : decode c_ha_put 36 = .ok (.aload_n 0, 1) := by decide +kernel
theorem d_ha_put_37 : decode c_ha_put 37 = .ok (.dup, 1) := by decide +kernel
theorem d_ha_put_38 : decode c_ha_put 38 = .ok (.getfield 32, 3) := by decide +kernel
theorem d_ha_put_41 : decode c_ha_put 41 = .ok (.iconst 1, 1) := by decide +kernel
theorem d_ha_put_42 : decode c_ha_put 42 = .ok (.iadd, 1) := by decide +kernel
theorem d_ha_put_43 : decode c_ha_put 43 = .ok (.putfield 32, 3) := by decide +kernel
theorem d_ha_put_46 : decode c_ha_put 46 = .ok (.aload_n 0, 1) := by decide +kernel
theorem d_ha_put_47 : decode c_ha_put 47 = .ok (.getfield 32, 3) := by decide +kernel
theorem d_ha_put_50 : decode c_ha_put 50 = .ok (.iconst 4, 1) := by decide +kernel
theorem d_ha_put_51 : decode c_ha_put 51 = .ok (.irem, 1) := by decide +kernel
theorem d_ha_put_52 : decode c_ha_put 52 = .ok (.ifCond .ne 26, 3) := by decide +kernel
theorem d_ha_put_55 : decode c_ha_put 55 = .ok (.aload_n 0, 1) := by decide +kernel
theorem d_ha_put_56 : decode c_ha_put 56 = .ok (.getfield 21, 3) := by decide +kernel
theorem d_ha_put_59 : decode c_ha_put 59 = .ok (.aload_n 0, 1) := by decide +kernel
theorem d_ha_put_60 : decode c_ha_put 60 = .ok (.getfield 32, 3) := by decide +kernel
theorem d_ha_put_63 : decode c_ha_put 63 = .ok (.iconst 4, 1) := by decide +kernel
theorem d_ha_put_64 : decode c_ha_put 64 = .ok (.idiv, 1) := by decide +kernel
theorem d_ha_put_65 : decode c_ha_put 65 = .ok (.aload_n 0, 1) := by decide +kernel
theorem d_ha_put_66 : decode c_ha_put 66 = .ok (.aload_n 0, 1) := by decide +kernel
theorem d_ha_put_67 : decode c_ha_put 67 = .ok (.getfield 32, 3) := by decide +kernel
theorem d_ha_put_70 : decode c_ha_put 70 = .ok (.iconst 4, 1) := by decide +kernel
theorem d_ha_put_71 : decode c_ha_put 71 = .ok (.idiv, 1) := by decide +kernel
theorem d_ha_put_72 : decode c_ha_put 72 = .ok (.iconst 1, 1) := by decide +kernel
theorem d_ha_put_73 : decode c_ha_put 73 = .ok (.isub, 1) := by decide +kernel
theorem d_ha_put_74 : decode c_ha_put 74 = .ok (.invokevirtual 46, 3) := by decide +kernel
theorem d_ha_put_77 : decode c_ha_put 77 = .ok (.iastore, 1) := by decide +kernel
theorem d_ha_put_78 : decode c_ha_put 78 = .ok (.return_, 1) := by decide +kernel
abbrev c_ha_takeBack : ByteArray := prog_4_method_10_code
def y_ha_takeBack : MethodName := ⟨"ShortBridge$Hands", "takeBack", "()V"⟩
theorem d_ha_takeBack_0 : decode c_ha_takeBack 0 = .ok (.aload_n 0, 1) := by decide +kernel
theorem d_ha_takeBack_1 : decode c_ha_takeBack 1 = .ok (.getfield 32, 3) := by decide +kernel
theorem d_ha_takeBack_4 : decode c_ha_takeBack 4 = .ok (.ifCond .le 36, 3) := by decide +kernel
theorem d_ha_takeBack_7 : decode c_ha_takeBack 7 = .ok (.aload_n 0, 1) := by decide +kernel
theorem d_ha_takeBack_8 : decode c_ha_takeBack 8 = .ok (.dup, 1) := by decide +kernel
theorem d_ha_takeBack_9 : decode c_ha_takeBack 9 = .ok (.getfield 32, 3) := by decide +kernel
theorem d_ha_takeBack_12 : decode c_ha_takeBack 12 = .ok (.iconst 1, 1) := by decide +kernel
theorem d_ha_takeBack_13 : decode c_ha_takeBack 13 = .ok (.isub, 1) := by decide +kernel
theorem d_ha_takeBack_14 : decode c_ha_takeBack 14 = .ok (.putfield 32, 3) := by decide +kernel
theorem d_ha_takeBack_17 : decode c_ha_takeBack 17 = .ok (.aload_n 0, 1) := by decide +kernel
theorem d_ha_takeBack_18 : decode c_ha_takeBack 18 = .ok (.getfield 9, 3) := by decide +kernel
theorem d_ha_takeBack_21 : decode c_ha_takeBack 21 = .ok (.aload_n 0, 1) := by decide +kernel
theorem d_ha_takeBack_22 : decode c_ha_takeBack 22 = .ok (.invokevirtual 39, 3) := by decide +kernel
theorem d_ha_takeBack_25 : decode c_ha_takeBack 25 = .ok (.dup2, 1) := by decide +kernel
theorem d_ha_takeBack_26 : decode c_ha_takeBack 26 = .ok (.iaload, 1) := by decide +kernel
theorem d_ha_takeBack_27 : decode c_ha_takeBack 27 = .ok (.iconst 1, 1) := by decide +kernel
theorem d_ha_takeBack_28 : decode c_ha_takeBack 28 = .ok (.aload_n 0, 1) := by decide +kernel
theorem d_ha_takeBack_29 : decode c_ha_takeBack 29 = .ok (.getfield 18, 3) := by decide +kernel
theorem d_ha_takeBack_32 : decode c_ha_takeBack 32 = .ok (.aload_n 0, 1) := by decide +kernel
theorem d_ha_takeBack_33 : decode c_ha_takeBack 33 = .ok (.getfield 32, 3) := by decide +kernel
theorem d_ha_takeBack_36 : decode c_ha_takeBack 36 = .ok (.iaload, 1) := by decide +kernel
theorem d_ha_takeBack_37 : decode c_ha_takeBack 37 = .ok (.ishl, 1) := by decide +kernel
theorem d_ha_takeBack_38 : decode c_ha_takeBack 38 = .ok (.ior, 1) := by decide +kernel
theorem d_ha_takeBack_39 : decode c_ha_takeBack 39 = .ok (.iastore, 1) := by decide +kernel
theorem d_ha_takeBack_40 : decode c_ha_takeBack 40 = .ok (.return_, 1) := by decide +kernel
abbrev c_ha_won : ByteArray := prog_4_method_11_code
def y_ha_won : MethodName := ⟨"ShortBridge$Hands", "won", "(I)I"⟩
theorem d_ha_won_0 : decode c_ha_won 0 = .ok (.iconst 0, 1) := by decide +kernel
theorem d_ha_won_1 : decode c_ha_won 1 = .ok (.istore_n 2, 1) := by decide +kernel
theorem d_ha_won_2 : decode c_ha_won 2 = .ok (.iconst 1, 1) := by decide +kernel
theorem d_ha_won_3 : decode c_ha_won 3 = .ok (.istore_n 3, 1) := by decide +kernel
theorem d_ha_won_4 : decode c_ha_won 4 = .ok (.iload_n 3, 1) := by decide +kernel
theorem d_ha_won_5 : decode c_ha_won 5 = .ok (.aload_n 0, 1) := by decide +kernel
theorem d_ha_won_6 : decode c_ha_won 6 = .ok (.getfield 32, 3) := by decide +kernel
theorem d_ha_won_9 : decode c_ha_won 9 = .ok (.iconst 4, 1) := by decide +kernel
theorem d_ha_won_10 : decode c_ha_won 10 = .ok (.idiv, 1) := by decide +kernel
theorem d_ha_won_11 : decode c_ha_won 11 = .ok (.if_icmp .gt 25, 3) := by decide +kernel
theorem d_ha_won_14 : decode c_ha_won 14 = .ok (.aload_n 0, 1) := by decide +kernel
theorem d_ha_won_15 : decode c_ha_won 15 = .ok (.getfield 21, 3) := by decide +kernel
theorem d_ha_won_18 : decode c_ha_won 18 = .ok (.iload_n 3, 1) := by decide +kernel
theorem d_ha_won_19 : decode c_ha_won 19 = .ok (.iaload, 1) := by decide +kernel
theorem d_ha_won_20 : decode c_ha_won 20 = .ok (.invokestatic 50, 3) := by decide +kernel
theorem d_ha_won_23 : decode c_ha_won 23 = .ok (.iload_n 1, 1) := by decide +kernel
theorem d_ha_won_24 : decode c_ha_won 24 = .ok (.if_icmp .ne 6, 3) := by decide +kernel
theorem d_ha_won_27 : decode c_ha_won 27 = .ok (.iinc 2 1, 3) := by decide +kernel
theorem d_ha_won_30 : decode c_ha_won 30 = .ok (.iinc 3 1, 3) := by decide +kernel
theorem d_ha_won_33 : decode c_ha_won 33 = .ok (.goto (-29), 3) := by decide +kernel
theorem d_ha_won_36 : decode c_ha_won 36 = .ok (.iload_n 2, 1) := by decide +kernel
theorem d_ha_won_37 : decode c_ha_won 37 = .ok (.ireturn, 1) := by decide +kernel
abbrev c_ha_onTable : ByteArray := prog_4_method_12_code
def y_ha_onTable : MethodName := ⟨"ShortBridge$Hands", "onTable", "(I)I"⟩
theorem d_ha_onTable_0 : decode c_ha_onTable 0 = .ok (.aload_n 0, 1) := by decide +kernel
theorem d_ha_onTable_1 : decode c_ha_onTable 1 = .ok (.getfield 32, 3) := by decide +kernel
theorem d_ha_onTable_4 : decode c_ha_onTable 4 = .ok (.iconst 4, 1) := by decide +kernel
theorem d_ha_onTable_5 : decode c_ha_onTable 5 = .ok (.irem, 1) := by decide +kernel
theorem d_ha_onTable_6 : decode c_ha_onTable 6 = .ok (.istore_n 2, 1) := by decide +kernel
theorem d_ha_onTable_7 : decode c_ha_onTable 7 = .ok (.iload_n 1, 1) := by decide +kernel
theorem d_ha_onTable_8 : decode c_ha_onTable 8 = .ok (.ifCond .lt 24, 3) := by decide +kernel
theorem d_ha_onTable_11 : decode c_ha_onTable 11 = .ok (.iload_n 1, 1) := by decide +kernel
theorem d_ha_onTable_12 : decode c_ha_onTable 12 = .ok (.iload_n 2, 1) := by decide +kernel
theorem d_ha_onTable_13 : decode c_ha_onTable 13 = .ok (.if_icmp .ge 19, 3) := by decide +kernel
theorem d_ha_onTable_16 : decode c_ha_onTable 16 = .ok (.aload_n 0, 1) := by decide +kernel
theorem d_ha_onTable_17 : decode c_ha_onTable 17 = .ok (.getfield 18, 3) := by decide +kernel
theorem d_ha_onTable_20 : decode c_ha_onTable 20 = .ok (.aload_n 0, 1) := by decide +kernel
theorem d_ha_onTable_21 : decode c_ha_onTable 21 = .ok (.getfield 32, 3) := by decide +kernel
theorem d_ha_onTable_24 : decode c_ha_onTable 24 = .ok (.iload_n 2, 1) := by decide +kernel
theorem d_ha_onTable_25 : decode c_ha_onTable 25 = .ok (.isub, 1) := by decide +kernel
theorem d_ha_onTable_26 : decode c_ha_onTable 26 = .ok (.iload_n 1, 1) := by decide +kernel
theorem d_ha_onTable_27 : decode c_ha_onTable 27 = .ok (.iadd, 1) := by decide +kernel
theorem d_ha_onTable_28 : decode c_ha_onTable 28 = .ok (.iaload, 1) := by decide +kernel
theorem d_ha_onTable_29 : decode c_ha_onTable 29 = .ok (.goto 4, 3) := by decide +kernel
theorem d_ha_onTable_32 : decode c_ha_onTable 32 = .ok (.iconst (-1), 1) := by decide +kernel
theorem d_ha_onTable_33 : decode c_ha_onTable 33 = .ok (.ireturn, 1) := by decide +kernel
abbrev c_ha_live : ByteArray := prog_4_method_13_code
def y_ha_live : MethodName := ⟨"ShortBridge$Hands", "live", "()I"⟩
theorem d_ha_live_0 : decode c_ha_live 0 = .ok (.aload_n 0, 1) := by decide +kernel
theorem d_ha_live_1 : decode c_ha_live 1 = .ok (.getfield 9, 3) := by decide +kernel
theorem d_ha_live_4 : decode c_ha_live 4 = .ok (.iconst 0, 1) := by decide +kernel
theorem d_ha_live_5 : decode c_ha_live 5 = .ok (.iaload, 1) := by decide +kernel
theorem d_ha_live_6 : decode c_ha_live 6 = .ok (.aload_n 0, 1) := by decide +kernel
theorem d_ha_live_7 : decode c_ha_live 7 = .ok (.getfield 9, 3) := by decide +kernel
theorem d_ha_live_10 : decode c_ha_live 10 = .ok (.iconst 1, 1) := by decide +kernel
theorem d_ha_live_11 : decode c_ha_live 11 = .ok (.iaload, 1) := by decide +kernel
theorem d_ha_live_12 : decode c_ha_live 12 = .ok (.ior, 1) := by decide +kernel
theorem d_ha_live_13 : decode c_ha_live 13 = .ok (.aload_n 0, 1) := by decide +kernel
theorem d_ha_live_14 : decode c_ha_live 14 = .ok (.getfield 9, 3) := by decide +kernel
theorem d_ha_live_17 : decode c_ha_live 17 = .ok (.iconst 2, 1) := by decide +kernel
theorem d_ha_live_18 : decode c_ha_live 18 = .ok (.iaload, 1) := by decide +kernel
theorem d_ha_live_19 : decode c_ha_live 19 = .ok (.ior, 1) := by decide +kernel
theorem d_ha_live_20 : decode c_ha_live 20 = .ok (.aload_n 0, 1) := by decide +kernel
theorem d_ha_live_21 : decode c_ha_live 21 = .ok (.getfield 9, 3) := by decide +kernel
theorem d_ha_live_24 : decode c_ha_live 24 = .ok (.iconst 3, 1) := by decide +kernel
theorem d_ha_live_25 : decode c_ha_live 25 = .ok (.iaload, 1) := by decide +kernel
theorem d_ha_live_26 : decode c_ha_live 26 = .ok (.ior, 1) := by decide +kernel
theorem d_ha_live_27 : decode c_ha_live 27 = .ok (.istore_n 1, 1) := by decide +kernel
theorem d_ha_live_28 : decode c_ha_live 28 = .ok (.aload_n 0, 1) := by decide +kernel
theorem d_ha_live_29 : decode c_ha_live 29 = .ok (.getfield 32, 3) := by decide +kernel
theorem d_ha_live_32 : decode c_ha_live 32 = .ok (.aload_n 0, 1) := by decide +kernel
theorem d_ha_live_33 : decode c_ha_live 33 = .ok (.getfield 32, 3) := by decide +kernel
theorem d_ha_live_36 : decode c_ha_live 36 = .ok (.iconst 4, 1) := by decide +kernel
theorem d_ha_live_37 : decode c_ha_live 37 = .ok (.irem, 1) := by decide +kernel
theorem d_ha_live_38 : decode c_ha_live 38 = .ok (.isub, 1) := by decide +kernel
theorem d_ha_live_39 : decode c_ha_live 39 = .ok (.istore_n 2, 1) := by decide +kernel
theorem d_ha_live_40 : decode c_ha_live 40 = .ok (.iload_n 2, 1) := by decide +kernel
theorem d_ha_live_41 : decode c_ha_live 41 = .ok (.aload_n 0, 1) := by decide +kernel
theorem d_ha_live_42 : decode c_ha_live 42 = .ok (.getfield 32, 3) := by decide +kernel
theorem d_ha_live_45 : decode c_ha_live 45 = .ok (.if_icmp .ge 20, 3) := by decide +kernel
theorem d_ha_live_48 : decode c_ha_live 48 = .ok (.iload_n 1, 1) := by decide +kernel
theorem d_ha_live_49 : decode c_ha_live 49 = .ok (.iconst 1, 1) := by decide +kernel
theorem d_ha_live_50 : decode c_ha_live 50 = .ok (.aload_n 0, 1) := by decide +kernel
theorem d_ha_live_51 : decode c_ha_live 51 = .ok (.getfield 18, 3) := by decide +kernel
theorem d_ha_live_54 : decode c_ha_live 54 = .ok (.iload_n 2, 1) := by decide +kernel
theorem d_ha_live_55 : decode c_ha_live 55 = .ok (.iaload, 1) := by decide +kernel
theorem d_ha_live_56 : decode c_ha_live 56 = .ok (.ishl, 1) := by decide +kernel
theorem d_ha_live_57 : decode c_ha_live 57 = .ok (.ior, 1) := by decide +kernel
theorem d_ha_live_58 : decode c_ha_live 58 = .ok (.istore_n 1, 1) := by decide +kernel
theorem d_ha_live_59 : decode c_ha_live 59 = .ok (.iinc 2 1, 3) := by decide +kernel
theorem d_ha_live_62 : decode c_ha_live 62 = .ok (.goto (-22), 3) := by decide +kernel
theorem d_ha_live_65 : decode c_ha_live 65 = .ok (.iload_n 1, 1) := by decide +kernel
theorem d_ha_live_66 : decode c_ha_live 66 = .ok (.ireturn, 1) := by decide +kernel
abbrev c_ha_takeHand : ByteArray := prog_4_method_14_code
def y_ha_takeHand : MethodName := ⟨"ShortBridge$Hands", "takeHand", "(LShortBridge$Deal;I)V"⟩
theorem d_ha_takeHand_0 : decode c_ha_takeHand 0 = .ok (.aload_n 0, 1) := by decide +kernel
theorem d_ha_takeHand_1 : decode c_ha_takeHand 1 = .ok (.getfield 9, 3) := by decide +kernel
theorem d_ha_takeHand_4 : decode c_ha_takeHand 4 = .ok (.iload_n 2, 1) := by decide +kernel
theorem d_ha_takeHand_5 : decode c_ha_takeHand 5 = .ok (.iconst 0, 1) := by decide +kernel
theorem d_ha_takeHand_6 : decode c_ha_takeHand 6 = .ok (.iastore, 1) := by decide +kernel
theorem d_ha_takeHand_7 : decode c_ha_takeHand 7 = .ok (.iload_n 2, 1) := by decide +kernel
theorem d_ha_takeHand_8 : decode c_ha_takeHand 8 = .ok (.iconst 5, 1) := by decide +kernel
theorem d_ha_takeHand_9 : decode c_ha_takeHand 9 = .ok (.imul, 1) := by decide +kernel
theorem d_ha_takeHand_10 : decode c_ha_takeHand 10 = .ok (.istore_n 3, 1) := by decide +kernel
theorem d_ha_takeHand_11 : decode c_ha_takeHand 11 = .ok (.bipush 19, 2) := by decide +kernel
theorem d_ha_takeHand_13 : decode c_ha_takeHand 13 = .ok (.istore 4, 2) := by decide +kernel
theorem d_ha_takeHand_15 : decode c_ha_takeHand 15 = .ok (.iload 4, 2) := by decide +kernel
theorem d_ha_takeHand_17 : decode c_ha_takeHand 17 = .ok (.ifCond .lt 50, 3) := by decide +kernel
theorem d_ha_takeHand_20 : decode c_ha_takeHand 20 = .ok (.iload_n 3, 1) := by decide +kernel
theorem d_ha_takeHand_21 : decode c_ha_takeHand 21 = .ok (.bipush 20, 2) := by decide +kernel
theorem d_ha_takeHand_23 : decode c_ha_takeHand 23 = .ok (.if_icmp .ge 44, 3) := by decide +kernel
theorem d_ha_takeHand_26 : decode c_ha_takeHand 26 = .ok (.aload_n 1, 1) := by decide +kernel
theorem d_ha_takeHand_27 : decode c_ha_takeHand 27 = .ok (.getfield 53, 3) := by decide +kernel
theorem d_ha_takeHand_30 : decode c_ha_takeHand 30 = .ok (.iload 4, 2) := by decide +kernel
theorem d_ha_takeHand_32 : decode c_ha_takeHand 32 = .ok (.iaload, 1) := by decide +kernel
theorem d_ha_takeHand_33 : decode c_ha_takeHand 33 = .ok (.iload_n 2, 1) := by decide +kernel
theorem d_ha_takeHand_34 : decode c_ha_takeHand 34 = .ok (.if_icmp .ne 27, 3) := by decide +kernel
theorem d_ha_takeHand_37 : decode c_ha_takeHand 37 = .ok (.aload_n 0, 1) := by decide +kernel
theorem d_ha_takeHand_38 : decode c_ha_takeHand 38 = .ok (.getfield 9, 3) := by decide +kernel
theorem d_ha_takeHand_41 : decode c_ha_takeHand 41 = .ok (.iload_n 2, 1) := by decide +kernel
theorem d_ha_takeHand_42 : decode c_ha_takeHand 42 = .ok (.dup2, 1) := by decide +kernel
theorem d_ha_takeHand_43 : decode c_ha_takeHand 43 = .ok (.iaload, 1) := by decide +kernel
theorem d_ha_takeHand_44 : decode c_ha_takeHand 44 = .ok (.iconst 1, 1) := by decide +kernel
theorem d_ha_takeHand_45 : decode c_ha_takeHand 45 = .ok (.iload 4, 2) := by decide +kernel
theorem d_ha_takeHand_47 : decode c_ha_takeHand 47 = .ok (.ishl, 1) := by decide +kernel
theorem d_ha_takeHand_48 : decode c_ha_takeHand 48 = .ok (.ior, 1) := by decide +kernel
theorem d_ha_takeHand_49 : decode c_ha_takeHand 49 = .ok (.iastore, 1) := by decide +kernel
theorem d_ha_takeHand_50 : decode c_ha_takeHand 50 = .ok (.aload_n 0, 1) := by decide +kernel
theorem d_ha_takeHand_51 : decode c_ha_takeHand 51 = .ok (.getfield 15, 3) := by decide +kernel
theorem d_ha_takeHand_54 : decode c_ha_takeHand 54 = .ok (.iload_n 3, 1) := by decide +kernel
theorem d_ha_takeHand_55 : decode c_ha_takeHand 55 = .ok (.iload 4, 2) := by decide +kernel
theorem d_ha_takeHand_57 : decode c_ha_takeHand 57 = .ok (.iastore, 1) := by decide +kernel
theorem d_ha_takeHand_58 : decode c_ha_takeHand 58 = .ok (.iinc 3 1, 3) := by decide +kernel
theorem d_ha_takeHand_61 : decode c_ha_takeHand 61 = .ok (.iinc 4 (-1), 3) := by decide +kernel
theorem d_ha_takeHand_64 : decode c_ha_takeHand 64 = .ok (.goto (-49), 3) := by decide +kernel
theorem d_ha_takeHand_67 : decode c_ha_takeHand 67 = .ok (.return_, 1) := by decide +kernel
abbrev c_ha_winnerOf : ByteArray := prog_4_method_15_code
def y_ha_winnerOf : MethodName := ⟨"ShortBridge$Hands", "winnerOf", "(I)I"⟩
theorem d_ha_winnerOf_0 : decode c_ha_winnerOf 0 = .ok (.iload_n 1, 1) := by decide +kernel
theorem d_ha_winnerOf_1 : decode c_ha_winnerOf 1 = .ok (.iconst 4, 1) := by decide +kernel
theorem d_ha_winnerOf_2 : decode c_ha_winnerOf 2 = .ok (.imul, 1) := by decide +kernel
theorem d_ha_winnerOf_3 : decode c_ha_winnerOf 3 = .ok (.istore_n 2, 1) := by decide +kernel
theorem d_ha_winnerOf_4 : decode c_ha_winnerOf 4 = .ok (.iconst 0, 1) := by decide +kernel
theorem d_ha_winnerOf_5 : decode c_ha_winnerOf 5 = .ok (.istore_n 3, 1) := by decide +kernel
theorem d_ha_winnerOf_6 : decode c_ha_winnerOf 6 = .ok (.iconst 1, 1) := by decide +kernel
theorem d_ha_winnerOf_7 : decode c_ha_winnerOf 7 = .ok (.istore 4, 2) := by decide +kernel
theorem d_ha_winnerOf_9 : decode c_ha_winnerOf 9 = .ok (.iload 4, 2) := by decide +kernel
theorem d_ha_winnerOf_11 : decode c_ha_winnerOf 11 = .ok (.iconst 4, 1) := by decide +kernel
theorem d_ha_winnerOf_12 : decode c_ha_winnerOf 12 = .ok (.if_icmp .ge 36, 3) := by decide +kernel
theorem d_ha_winnerOf_15 : decode c_ha_winnerOf 15 = .ok (.aload_n 0, 1) := by decide +kernel
theorem d_ha_winnerOf_16 : decode c_ha_winnerOf 16 = .ok (.aload_n 0, 1) := by decide +kernel
theorem d_ha_winnerOf_17 : decode c_ha_winnerOf 17 = .ok (.getfield 18, 3) := by decide +kernel
theorem d_ha_winnerOf_20 : decode c_ha_winnerOf 20 = .ok (.iload_n 2, 1) := by decide +kernel
theorem d_ha_winnerOf_21 : decode c_ha_winnerOf 21 = .ok (.iload 4, 2) := by decide +kernel
theorem d_ha_winnerOf_23 : decode c_ha_winnerOf 23 = .ok (.iadd, 1) := by decide +kernel
theorem d_ha_winnerOf_24 : decode c_ha_winnerOf 24 = .ok (.iaload, 1) := by decide +kernel
theorem d_ha_winnerOf_25 : decode c_ha_winnerOf 25 = .ok (.aload_n 0, 1) := by decide +kernel
theorem d_ha_winnerOf_26 : decode c_ha_winnerOf 26 = .ok (.getfield 18, 3) := by decide +kernel
theorem d_ha_winnerOf_29 : decode c_ha_winnerOf 29 = .ok (.iload_n 2, 1) := by decide +kernel
theorem d_ha_winnerOf_30 : decode c_ha_winnerOf 30 = .ok (.iload_n 3, 1) := by decide +kernel
theorem d_ha_winnerOf_31 : decode c_ha_winnerOf 31 = .ok (.iadd, 1) := by decide +kernel
theorem d_ha_winnerOf_32 : decode c_ha_winnerOf 32 = .ok (.iaload, 1) := by decide +kernel
theorem d_ha_winnerOf_33 : decode c_ha_winnerOf 33 = .ok (.invokevirtual 58, 3) := by decide +kernel
theorem d_ha_winnerOf_36 : decode c_ha_winnerOf 36 = .ok (.ifCond .eq 6, 3) := by decide +kernel
theorem d_ha_winnerOf_39 : decode c_ha_winnerOf 39 = .ok (.iload 4, 2) := by decide +kernel
theorem d_ha_winnerOf_41 : decode c_ha_winnerOf 41 = .ok (.istore_n 3, 1) := by decide +kernel
theorem d_ha_winnerOf_42 : decode c_ha_winnerOf 42 = .ok (.iinc 4 1, 3) := by decide +kernel
theorem d_ha_winnerOf_45 : decode c_ha_winnerOf 45 = .ok (.goto (-36), 3) := by decide +kernel
theorem d_ha_winnerOf_48 : decode c_ha_winnerOf 48 = .ok (.aload_n 0, 1) := by decide +kernel
theorem d_ha_winnerOf_49 : decode c_ha_winnerOf 49 = .ok (.getfield 21, 3) := by decide +kernel
theorem d_ha_winnerOf_52 : decode c_ha_winnerOf 52 = .ok (.iload_n 1, 1) := by decide +kernel
theorem d_ha_winnerOf_53 : decode c_ha_winnerOf 53 = .ok (.iaload, 1) := by decide +kernel
theorem d_ha_winnerOf_54 : decode c_ha_winnerOf 54 = .ok (.iload_n 3, 1) := by decide +kernel
theorem d_ha_winnerOf_55 : decode c_ha_winnerOf 55 = .ok (.invokestatic 35, 3) := by decide +kernel
theorem d_ha_winnerOf_58 : decode c_ha_winnerOf 58 = .ok (.ireturn, 1) := by decide +kernel
abbrev c_ha_beats : ByteArray := prog_4_method_16_code
def y_ha_beats : MethodName := ⟨"ShortBridge$Hands", "beats", "(II)Z"⟩
theorem d_ha_beats_0 : decode c_ha_beats 0 = .ok (.iload_n 1, 1) := by decide +kernel
theorem d_ha_beats_1 : decode c_ha_beats 1 = .ok (.iconst 5, 1) := by decide +kernel
theorem d_ha_beats_2 : decode c_ha_beats 2 = .ok (.idiv, 1) := by decide +kernel
theorem d_ha_beats_3 : decode c_ha_beats 3 = .ok (.istore_n 3, 1) := by decide +kernel
theorem d_ha_beats_4 : decode c_ha_beats 4 = .ok (.iload_n 3, 1) := by decide +kernel
theorem d_ha_beats_5 : decode c_ha_beats 5 = .ok (.iload_n 2, 1) := by decide +kernel
theorem d_ha_beats_6 : decode c_ha_beats 6 = .ok (.iconst 5, 1) := by decide +kernel
theorem d_ha_beats_7 : decode c_ha_beats 7 = .ok (.idiv, 1) := by decide +kernel
theorem d_ha_beats_8 : decode c_ha_beats 8 = .ok (.if_icmp .ne 16, 3) := by decide +kernel
theorem d_ha_beats_11 : decode c_ha_beats 11 = .ok (.iload_n 1, 1) := by decide +kernel
theorem d_ha_beats_12 : decode c_ha_beats 12 = .ok (.iload_n 2, 1) := by decide +kernel
theorem d_ha_beats_13 : decode c_ha_beats 13 = .ok (.if_icmp .le 7, 3) := by decide +kernel
theorem d_ha_beats_16 : decode c_ha_beats 16 = .ok (.iconst 1, 1) := by decide +kernel
theorem d_ha_beats_17 : decode c_ha_beats 17 = .ok (.goto 20, 3) := by decide +kernel
theorem d_ha_beats_20 : decode c_ha_beats 20 = .ok (.iconst 0, 1) := by decide +kernel
theorem d_ha_beats_21 : decode c_ha_beats 21 = .ok (.goto 16, 3) := by decide +kernel
theorem d_ha_beats_24 : decode c_ha_beats 24 = .ok (.iload_n 3, 1) := by decide +kernel
theorem d_ha_beats_25 : decode c_ha_beats 25 = .ok (.aload_n 0, 1) := by decide +kernel
theorem d_ha_beats_26 : decode c_ha_beats 26 = .ok (.getfield 24, 3) := by decide +kernel
theorem d_ha_beats_29 : decode c_ha_beats 29 = .ok (.if_icmp .ne 7, 3) := by decide +kernel
theorem d_ha_beats_32 : decode c_ha_beats 32 = .ok (.iconst 1, 1) := by decide +kernel
theorem d_ha_beats_33 : decode c_ha_beats 33 = .ok (.goto 4, 3) := by decide +kernel
theorem d_ha_beats_36 : decode c_ha_beats 36 = .ok (.iconst 0, 1) := by decide +kernel
theorem d_ha_beats_37 : decode c_ha_beats 37 = .ok (.ireturn, 1) := by decide +kernel
abbrev c_re_init : ByteArray := prog_5_method_1_code
def y_re_init : MethodName := ⟨"ShortBridge$Results", "<init>", "()V"⟩
theorem d_re_init_0 : decode c_re_init 0 = .ok (.aload_n 0, 1) := by decide +kernel
theorem d_re_init_1 : decode c_re_init 1 = .ok (.invokespecial 1, 3) := by decide +kernel
theorem d_re_init_4 : decode c_re_init 4 = .ok (.aload_n 0, 1) := by decide +kernel
theorem d_re_init_5 : decode c_re_init 5 = .ok (.bipush 12, 2) := by decide +kernel
theorem d_re_init_7 : decode c_re_init 7 = .ok (.newarray .long, 2) := by decide +kernel
theorem d_re_init_9 : decode c_re_init 9 = .ok (.putfield 9, 3) := by decide +kernel
theorem d_re_init_12 : decode c_re_init 12 = .ok (.aload_n 0, 1) := by decide +kernel
theorem d_re_init_13 : decode c_re_init 13 = .ok (.bipush 12, 2) := by decide +kernel
theorem d_re_init_15 : decode c_re_init 15 = .ok (.newarray .int, 2) := by decide +kernel
theorem d_re_init_17 : decode c_re_init 17 = .ok (.putfield 13, 3) := by decide +kernel
theorem d_re_init_20 : decode c_re_init 20 = .ok (.return_, 1) := by decide +kernel
abbrev c_re_areFull : ByteArray := prog_5_method_2_code
def y_re_areFull : MethodName := ⟨"ShortBridge$Results", "areFull", "()Z"⟩
theorem d_re_areFull_0 : decode c_re_areFull 0 = .ok (.aload_n 0, 1) := by decide +kernel
theorem d_re_areFull_1 : decode c_re_areFull 1 = .ok (.getfield 17, 3) := by decide +kernel
theorem d_re_areFull_4 : decode c_re_areFull 4 = .ok (.bipush 12, 2) := by decide +kernel
theorem d_re_areFull_6 : decode c_re_areFull 6 = .ok (.if_icmp .ne 7, 3) := by decide +kernel
theorem d_re_areFull_9 : decode c_re_areFull 9 = .ok (.iconst 1, 1) := by decide +kernel
theorem d_re_areFull_10 : decode c_re_areFull 10 = .ok (.goto 4, 3) := by decide +kernel
theorem d_re_areFull_13 : decode c_re_areFull 13 = .ok (.iconst 0, 1) := by decide +kernel
theorem d_re_areFull_14 : decode c_re_areFull 14 = .ok (.ireturn, 1) := by decide +kernel
abbrev c_re_contain : ByteArray := prog_5_method_3_code
def y_re_contain : MethodName := ⟨"ShortBridge$Results", "contain", "(I)Z"⟩
theorem d_re_contain_0 : decode c_re_contain 0 = .ok (.iload_n 1, 1) := by decide +kernel
theorem d_re_contain_1 : decode c_re_contain 1 = .ok (.ifCond .lt 15, 3) := by decide +kernel
theorem d_re_contain_4 : decode c_re_contain 4 = .ok (.iload_n 1, 1) := by decide +kernel
theorem d_re_contain_5 : decode c_re_contain 5 = .ok (.aload_n 0, 1) := by decide +kernel
theorem d_re_contain_6 : decode c_re_contain 6 = .ok (.getfield 17, 3) := by decide +kernel
theorem d_re_contain_9 : decode c_re_contain 9 = .ok (.if_icmp .ge 7, 3) := by decide +kernel
theorem d_re_contain_12 : decode c_re_contain 12 = .ok (.iconst 1, 1) := by decide +kernel
theorem d_re_contain_13 : decode c_re_contain 13 = .ok (.goto 4, 3) := by decide +kernel
theorem d_re_contain_16 : decode c_re_contain 16 = .ok (.iconst 0, 1) := by decide +kernel
theorem d_re_contain_17 : decode c_re_contain 17 = .ok (.ireturn, 1) := by decide +kernel
abbrev c_re_add : ByteArray := prog_5_method_4_code
def y_re_add : MethodName := ⟨"ShortBridge$Results", "add", "(JI)V"⟩
theorem d_re_add_0 : decode c_re_add 0 = .ok (.aload_n 0, 1) := by decide +kernel
theorem d_re_add_1 : decode c_re_add 1 = .ok (.getfield 17, 3) := by decide +kernel
theorem d_re_add_4 : decode c_re_add 4 = .ok (.bipush 12, 2) := by decide +kernel
theorem d_re_add_6 : decode c_re_add 6 = .ok (.if_icmp .ge 33, 3) := by decide +kernel
theorem d_re_add_9 : decode c_re_add 9 = .ok (.aload_n 0, 1) := by decide +kernel
theorem d_re_add_10 : decode c_re_add 10 = .ok (.getfield 9, 3) := by decide +kernel
theorem d_re_add_13 : decode c_re_add 13 = .ok (.aload_n 0, 1) := by decide +kernel
theorem d_re_add_14 : decode c_re_add 14 = .ok (.getfield 17, 3) := by decide +kernel
theorem d_re_add_17 : decode c_re_add 17 = .ok (.lload_n 1, 1) := by decide +kernel
theorem d_re_add_18 : decode c_re_add 18 = .ok (.lastore, 1) := by decide +kernel
theorem d_re_add_19 : decode c_re_add 19 = .ok (.aload_n 0, 1) := by decide +kernel
theorem d_re_add_20 : decode c_re_add 20 = .ok (.getfield 13, 3) := by decide +kernel
theorem d_re_add_23 : decode c_re_add 23 = .ok (.aload_n 0, 1) := by decide +kernel
theorem d_re_add_24 : decode c_re_add 24 = .ok (.getfield 17, 3) := by decide +kernel
theorem d_re_add_27 : decode c_re_add 27 = .ok (.iload_n 3, 1) := by decide +kernel
theorem d_re_add_28 : decode c_re_add 28 = .ok (.iastore, 1) := by decide +kernel
theorem d_re_add_29 : decode c_re_add 29 = .ok (.aload_n 0, 1) := by decide +kernel
theorem d_re_add_30 : decode c_re_add 30 = .ok (.dup, 1) := by decide +kernel
theorem d_re_add_31 : decode c_re_add 31 = .ok (.getfield 17, 3) := by decide +kernel
theorem d_re_add_34 : decode c_re_add 34 = .ok (.iconst 1, 1) := by decide +kernel
theorem d_re_add_35 : decode c_re_add 35 = .ok (.iadd, 1) := by decide +kernel
theorem d_re_add_36 : decode c_re_add 36 = .ok (.putfield 17, 3) := by decide +kernel
theorem d_re_add_39 : decode c_re_add 39 = .ok (.return_, 1) := by decide +kernel
abbrev c_re_compare : ByteArray := prog_5_method_5_code
def y_re_compare : MethodName := ⟨"ShortBridge$Results", "compare", "(I)I"⟩
theorem d_re_compare_0 : decode c_re_compare 0 = .ok (.iconst 0, 1) := by decide +kernel
theorem d_re_compare_1 : decode c_re_compare 1 = .ok (.istore_n 2, 1) := by decide +kernel
theorem d_re_compare_2 : decode c_re_compare 2 = .ok (.iconst 0, 1) := by decide +kernel
theorem d_re_compare_3 : decode c_re_compare 3 = .ok (.istore_n 3, 1) := by decide +kernel
theorem d_re_compare_4 : decode c_re_compare 4 = .ok (.iload_n 3, 1) := by decide +kernel
theorem d_re_compare_5 : decode c_re_compare 5 = .ok (.aload_n 0, 1) := by decide +kernel
theorem d_re_compare_6 : decode c_re_compare 6 = .ok (.getfield 17, 3) := by decide +kernel
theorem d_re_compare_9 : decode c_re_compare 9 = .ok (.if_icmp .ge 48, 3) := by decide +kernel
theorem d_re_compare_12 : decode c_re_compare 12 = .ok (.iload_n 3, 1) := by decide +kernel
theorem d_re_compare_13 : decode c_re_compare 13 = .ok (.iload_n 1, 1) := by decide +kernel
theorem d_re_compare_14 : decode c_re_compare 14 = .ok (.if_icmp .eq 37, 3) := by decide +kernel
theorem d_re_compare_17 : decode c_re_compare 17 = .ok (.aload_n 0, 1) := by decide +kernel
theorem d_re_compare_18 : decode c_re_compare 18 = .ok (.getfield 9, 3) := by decide +kernel
theorem d_re_compare_21 : decode c_re_compare 21 = .ok (.iload_n 3, 1) := by decide +kernel
theorem d_re_compare_22 : decode c_re_compare 22 = .ok (.laload, 1) := by decide +kernel
theorem d_re_compare_23 : decode c_re_compare 23 = .ok (.aload_n 0, 1) := by decide +kernel
theorem d_re_compare_24 : decode c_re_compare 24 = .ok (.getfield 9, 3) := by decide +kernel
theorem d_re_compare_27 : decode c_re_compare 27 = .ok (.iload_n 1, 1) := by decide +kernel
theorem d_re_compare_28 : decode c_re_compare 28 = .ok (.laload, 1) := by decide +kernel
theorem d_re_compare_29 : decode c_re_compare 29 = .ok (.lcmp, 1) := by decide +kernel
theorem d_re_compare_30 : decode c_re_compare 30 = .ok (.ifCond .ne 21, 3) := by decide +kernel
theorem d_re_compare_33 : decode c_re_compare 33 = .ok (.iload_n 2, 1) := by decide +kernel
theorem d_re_compare_34 : decode c_re_compare 34 = .ok (.aload_n 0, 1) := by decide +kernel
theorem d_re_compare_35 : decode c_re_compare 35 = .ok (.getfield 13, 3) := by decide +kernel
theorem d_re_compare_38 : decode c_re_compare 38 = .ok (.iload_n 1, 1) := by decide +kernel
theorem d_re_compare_39 : decode c_re_compare 39 = .ok (.iaload, 1) := by decide +kernel
theorem d_re_compare_40 : decode c_re_compare 40 = .ok (.aload_n 0, 1) := by decide +kernel
theorem d_re_compare_41 : decode c_re_compare 41 = .ok (.getfield 13, 3) := by decide +kernel
theorem d_re_compare_44 : decode c_re_compare 44 = .ok (.iload_n 3, 1) := by decide +kernel
theorem d_re_compare_45 : decode c_re_compare 45 = .ok (.iaload, 1) := by decide +kernel
theorem d_re_compare_46 : decode c_re_compare 46 = .ok (.invokestatic 21, 3) := by decide +kernel
theorem d_re_compare_49 : decode c_re_compare 49 = .ok (.iadd, 1) := by decide +kernel
theorem d_re_compare_50 : decode c_re_compare 50 = .ok (.istore_n 2, 1) := by decide +kernel
theorem d_re_compare_51 : decode c_re_compare 51 = .ok (.iinc 3 1, 3) := by decide +kernel
theorem d_re_compare_54 : decode c_re_compare 54 = .ok (.goto (-50), 3) := by decide +kernel
theorem d_re_compare_57 : decode c_re_compare 57 = .ok (.iload_n 2, 1) := by decide +kernel
theorem d_re_compare_58 : decode c_re_compare 58 = .ok (.ireturn, 1) := by decide +kernel
abbrev c_re_worthAgainst : ByteArray := prog_5_method_6_code
def y_re_worthAgainst : MethodName := ⟨"ShortBridge$Results", "worthAgainst", "(II)I"⟩
theorem d_re_worthAgainst_0 : decode c_re_worthAgainst 0 = .ok (.iload_n 0, 1) := by decide +kernel
theorem d_re_worthAgainst_1 : decode c_re_worthAgainst 1 = .ok (.iload_n 1, 1) := by decide +kernel
theorem d_re_worthAgainst_2 : decode c_re_worthAgainst 2 = .ok (.if_icmp .ne 5, 3) := by decide +kernel
theorem d_re_worthAgainst_5 : decode c_re_worthAgainst 5 = .ok (.iconst 1, 1) := by decide +kernel
theorem d_re_worthAgainst_6 : decode c_re_worthAgainst 6 = .ok (.ireturn, 1) := by decide +kernel
theorem d_re_worthAgainst_7 : decode c_re_worthAgainst 7 = .ok (.iload_n 0, 1) := by decide +kernel
theorem d_re_worthAgainst_8 : decode c_re_worthAgainst 8 = .ok (.iload_n 1, 1) := by decide +kernel
theorem d_re_worthAgainst_9 : decode c_re_worthAgainst 9 = .ok (.if_icmp .le 7, 3) := by decide +kernel
theorem d_re_worthAgainst_12 : decode c_re_worthAgainst 12 = .ok (.iconst 2, 1) := by decide +kernel
theorem d_re_worthAgainst_13 : decode c_re_worthAgainst 13 = .ok (.goto 4, 3) := by decide +kernel
theorem d_re_worthAgainst_16 : decode c_re_worthAgainst 16 = .ok (.iconst 0, 1) := by decide +kernel
theorem d_re_worthAgainst_17 : decode c_re_worthAgainst 17 = .ok (.ireturn, 1) := by decide +kernel
abbrev c_sc_scoreOf : ByteArray := prog_6_method_2_code
def y_sc_scoreOf : MethodName := ⟨"ShortBridge$Scoring", "scoreOf", "(IIIZ)I"⟩
theorem d_sc_scoreOf_0 : decode c_sc_scoreOf 0 = .ok (.iload_n 2, 1) := by decide +kernel
theorem d_sc_scoreOf_1 : decode c_sc_scoreOf 1 = .ok (.iload_n 0, 1) := by decide +kernel
theorem d_sc_scoreOf_2 : decode c_sc_scoreOf 2 = .ok (.invokestatic 9, 3) := by decide +kernel
theorem d_sc_scoreOf_5 : decode c_sc_scoreOf 5 = .ok (.iconst 2, 1) := by decide +kernel
theorem d_sc_scoreOf_6 : decode c_sc_scoreOf 6 = .ok (.iadd, 1) := by decide +kernel
theorem d_sc_scoreOf_7 : decode c_sc_scoreOf 7 = .ok (.isub, 1) := by decide +kernel
theorem d_sc_scoreOf_8 : decode c_sc_scoreOf 8 = .ok (.istore 4, 2) := by decide +kernel
theorem d_sc_scoreOf_10 : decode c_sc_scoreOf 10 = .ok (.iload 4, 2) := by decide +kernel
theorem d_sc_scoreOf_12 : decode c_sc_scoreOf 12 = .ok (.ifCond .ge 13, 3) := by decide +kernel
theorem d_sc_scoreOf_15 : decode c_sc_scoreOf 15 = .ok (.iload 4, 2) := by decide +kernel
theorem d_sc_scoreOf_17 : decode c_sc_scoreOf 17 = .ok (.ineg, 1) := by decide +kernel
theorem d_sc_scoreOf_18 : decode c_sc_scoreOf 18 = .ok (.iload_n 1, 1) := by decide +kernel
theorem d_sc_scoreOf_19 : decode c_sc_scoreOf 19 = .ok (.iload_n 3, 1) := by decide +kernel
theorem d_sc_scoreOf_20 : decode c_sc_scoreOf 20 = .ok (.invokestatic 15, 3) := by decide +kernel
theorem d_sc_scoreOf_23 : decode c_sc_scoreOf 23 = .ok (.ineg, 1) := by decide +kernel
theorem d_sc_scoreOf_24 : decode c_sc_scoreOf 24 = .ok (.ireturn, 1) := by decide +kernel
theorem d_sc_scoreOf_25 : decode c_sc_scoreOf 25 = .ok (.iload_n 0, 1) := by decide +kernel
theorem d_sc_scoreOf_26 : decode c_sc_scoreOf 26 = .ok (.iload_n 1, 1) := by decide +kernel
theorem d_sc_scoreOf_27 : decode c_sc_scoreOf 27 = .ok (.iload_n 3, 1) := by decide +kernel
theorem d_sc_scoreOf_28 : decode c_sc_scoreOf 28 = .ok (.invokestatic 21, 3) := by decide +kernel
theorem d_sc_scoreOf_31 : decode c_sc_scoreOf 31 = .ok (.iload 4, 2) := by decide +kernel
theorem d_sc_scoreOf_33 : decode c_sc_scoreOf 33 = .ok (.iload_n 0, 1) := by decide +kernel
theorem d_sc_scoreOf_34 : decode c_sc_scoreOf 34 = .ok (.iload_n 1, 1) := by decide +kernel
theorem d_sc_scoreOf_35 : decode c_sc_scoreOf 35 = .ok (.iload_n 3, 1) := by decide +kernel
theorem d_sc_scoreOf_36 : decode c_sc_scoreOf 36 = .ok (.invokestatic 24, 3) := by decide +kernel
theorem d_sc_scoreOf_39 : decode c_sc_scoreOf 39 = .ok (.imul, 1) := by decide +kernel
theorem d_sc_scoreOf_40 : decode c_sc_scoreOf 40 = .ok (.iadd, 1) := by decide +kernel
theorem d_sc_scoreOf_41 : decode c_sc_scoreOf 41 = .ok (.ireturn, 1) := by decide +kernel
abbrev c_sc_pointsOf : ByteArray := prog_6_method_3_code
def y_sc_pointsOf : MethodName := ⟨"ShortBridge$Scoring", "pointsOf", "(I)I"⟩
theorem d_sc_pointsOf_0 : decode c_sc_pointsOf 0 = .ok (.iload_n 0, 1) := by decide +kernel
theorem d_sc_pointsOf_1 : decode c_sc_pointsOf 1 = .ok (.invokestatic 27, 3) := by decide +kernel
theorem d_sc_pointsOf_4 : decode c_sc_pointsOf 4 = .ok (.istore_n 1, 1) := by decide +kernel
theorem d_sc_pointsOf_5 : decode c_sc_pointsOf 5 = .ok (.iconst 0, 1) := by decide +kernel
theorem d_sc_pointsOf_6 : decode c_sc_pointsOf 6 = .ok (.istore_n 2, 1) := by decide +kernel
theorem d_sc_pointsOf_7 : decode c_sc_pointsOf 7 = .ok (.iconst 0, 1) := by decide +kernel
theorem d_sc_pointsOf_8 : decode c_sc_pointsOf 8 = .ok (.istore_n 3, 1) := by decide +kernel
theorem d_sc_pointsOf_9 : decode c_sc_pointsOf 9 = .ok (.iload_n 3, 1) := by decide +kernel
theorem d_sc_pointsOf_10 : decode c_sc_pointsOf 10 = .ok (.getstatic 32, 3) := by decide +kernel
theorem d_sc_pointsOf_13 : decode c_sc_pointsOf 13 = .ok (.arraylength, 1) := by decide +kernel
theorem d_sc_pointsOf_14 : decode c_sc_pointsOf 14 = .ok (.if_icmp .ge 21, 3) := by decide +kernel
theorem d_sc_pointsOf_17 : decode c_sc_pointsOf 17 = .ok (.getstatic 32, 3) := by decide +kernel
theorem d_sc_pointsOf_20 : decode c_sc_pointsOf 20 = .ok (.iload_n 3, 1) := by decide +kernel
theorem d_sc_pointsOf_21 : decode c_sc_pointsOf 21 = .ok (.iaload, 1) := by decide +kernel
theorem d_sc_pointsOf_22 : decode c_sc_pointsOf 22 = .ok (.iload_n 1, 1) := by decide +kernel
theorem d_sc_pointsOf_23 : decode c_sc_pointsOf 23 = .ok (.if_icmp .gt 6, 3) := by decide +kernel
theorem d_sc_pointsOf_26 : decode c_sc_pointsOf 26 = .ok (.iinc 2 1, 3) := by decide +kernel
theorem d_sc_pointsOf_29 : decode c_sc_pointsOf 29 = .ok (.iinc 3 1, 3) := by decide +kernel
theorem d_sc_pointsOf_32 : decode c_sc_pointsOf 32 = .ok (.goto (-23), 3) := by decide +kernel
theorem d_sc_pointsOf_35 : decode c_sc_pointsOf 35 = .ok (.iload_n 0, 1) := by decide +kernel
theorem d_sc_pointsOf_36 : decode c_sc_pointsOf 36 = .ok (.ifCond .ge 8, 3) := by decide +kernel
theorem d_sc_pointsOf_39 : decode c_sc_pointsOf 39 = .ok (.iload_n 2, 1) := by decide +kernel
theorem d_sc_pointsOf_40 : decode c_sc_pointsOf 40 = .ok (.ineg, 1) := by decide +kernel
theorem d_sc_pointsOf_41 : decode c_sc_pointsOf 41 = .ok (.goto 4, 3) := by decide +kernel
theorem d_sc_pointsOf_44 : decode c_sc_pointsOf 44 = .ok (.iload_n 2, 1) := by decide +kernel
theorem d_sc_pointsOf_45 : decode c_sc_pointsOf 45 = .ok (.ireturn, 1) := by decide +kernel
abbrev c_sc_worth : ByteArray := prog_6_method_4_code
def y_sc_worth : MethodName := ⟨"ShortBridge$Scoring", "worth", "(I)I"⟩
theorem d_sc_worth_0 : decode c_sc_worth 0 = .ok (.iload_n 0, 1) := by decide +kernel
theorem d_sc_worth_1 : decode c_sc_worth 1 = .ok (.invokestatic 36, 3) := by decide +kernel
theorem d_sc_worth_4 : decode c_sc_worth 4 = .ok (.iconst 2, 1) := by decide +kernel
theorem d_sc_worth_5 : decode c_sc_worth 5 = .ok (.if_icmp .ge 8, 3) := by decide +kernel
theorem d_sc_worth_8 : decode c_sc_worth 8 = .ok (.bipush 20, 2) := by decide +kernel
theorem d_sc_worth_10 : decode c_sc_worth 10 = .ok (.goto 5, 3) := by decide +kernel
theorem d_sc_worth_13 : decode c_sc_worth 13 = .ok (.bipush 30, 2) := by decide +kernel
theorem d_sc_worth_15 : decode c_sc_worth 15 = .ok (.ireturn, 1) := by decide +kernel
abbrev c_sc_made : ByteArray := prog_6_method_5_code
def y_sc_made : MethodName := ⟨"ShortBridge$Scoring", "made", "(IIZ)I"⟩
theorem d_sc_made_0 : decode c_sc_made 0 = .ok (.iload_n 0, 1) := by decide +kernel
theorem d_sc_made_1 : decode c_sc_made 1 = .ok (.invokestatic 9, 3) := by decide +kernel
theorem d_sc_made_4 : decode c_sc_made 4 = .ok (.istore_n 3, 1) := by decide +kernel
theorem d_sc_made_5 : decode c_sc_made 5 = .ok (.iload_n 0, 1) := by decide +kernel
theorem d_sc_made_6 : decode c_sc_made 6 = .ok (.invokestatic 36, 3) := by decide +kernel
theorem d_sc_made_9 : decode c_sc_made 9 = .ok (.iconst 4, 1) := by decide +kernel
theorem d_sc_made_10 : decode c_sc_made 10 = .ok (.if_icmp .ne 8, 3) := by decide +kernel
theorem d_sc_made_13 : decode c_sc_made 13 = .ok (.bipush 10, 2) := by decide +kernel
theorem d_sc_made_15 : decode c_sc_made 15 = .ok (.goto 4, 3) := by decide +kernel
theorem d_sc_made_18 : decode c_sc_made 18 = .ok (.iconst 0, 1) := by decide +kernel
theorem d_sc_made_19 : decode c_sc_made 19 = .ok (.istore 4, 2) := by decide +kernel
theorem d_sc_made_21 : decode c_sc_made 21 = .ok (.iload_n 3, 1) := by decide +kernel
theorem d_sc_made_22 : decode c_sc_made 22 = .ok (.iload_n 0, 1) := by decide +kernel
theorem d_sc_made_23 : decode c_sc_made 23 = .ok (.invokestatic 39, 3) := by decide +kernel
theorem d_sc_made_26 : decode c_sc_made 26 = .ok (.imul, 1) := by decide +kernel
theorem d_sc_made_27 : decode c_sc_made 27 = .ok (.iload 4, 2) := by decide +kernel
theorem d_sc_made_29 : decode c_sc_made 29 = .ok (.iadd, 1) := by decide +kernel
theorem d_sc_made_30 : decode c_sc_made 30 = .ok (.iload_n 1, 1) := by decide +kernel
theorem d_sc_made_31 : decode c_sc_made 31 = .ok (.ishl, 1) := by decide +kernel
theorem d_sc_made_32 : decode c_sc_made 32 = .ok (.istore 5, 2) := by decide +kernel
theorem d_sc_made_34 : decode c_sc_made 34 = .ok (.iload 5, 2) := by decide +kernel
theorem d_sc_made_36 : decode c_sc_made 36 = .ok (.bipush 100, 2) := by decide +kernel
theorem d_sc_made_38 : decode c_sc_made 38 = .ok (.if_icmp .ge 9, 3) := by decide +kernel
theorem d_sc_made_41 : decode c_sc_made 41 = .ok (.iinc 5 50, 3) := by decide +kernel
theorem d_sc_made_44 : decode c_sc_made 44 = .ok (.goto 21, 3) := by decide +kernel
theorem d_sc_made_47 : decode c_sc_made 47 = .ok (.iload 5, 2) := by decide +kernel
theorem d_sc_made_49 : decode c_sc_made 49 = .ok (.iload_n 2, 1) := by decide +kernel
theorem d_sc_made_50 : decode c_sc_made 50 = .ok (.ifCond .eq 9, 3) := by decide +kernel
theorem d_sc_made_53 : decode c_sc_made 53 = .ok (.sipush 500, 3) := by decide +kernel
theorem d_sc_made_56 : decode c_sc_made 56 = .ok (.goto 6, 3) := by decide +kernel
theorem d_sc_made_59 : decode c_sc_made 59 = .ok (.sipush 300, 3) := by decide +kernel
theorem d_sc_made_62 : decode c_sc_made 62 = .ok (.iadd, 1) := by decide +kernel
theorem d_sc_made_63 : decode c_sc_made 63 = .ok (.istore 5, 2) := by decide +kernel
theorem d_sc_made_65 : decode c_sc_made 65 = .ok (.iload_n 3, 1) := by decide +kernel
theorem d_sc_made_66 : decode c_sc_made 66 = .ok (.iconst 3, 1) := by decide +kernel
theorem d_sc_made_67 : decode c_sc_made 67 = .ok (.if_icmp .ne 21, 3) := by decide +kernel
theorem d_sc_made_70 : decode c_sc_made 70 = .ok (.iload 5, 2) := by decide +kernel
theorem d_sc_made_72 : decode c_sc_made 72 = .ok (.iload_n 2, 1) := by decide +kernel
theorem d_sc_made_73 : decode c_sc_made 73 = .ok (.ifCond .eq 9, 3) := by decide +kernel
theorem d_sc_made_76 : decode c_sc_made 76 = .ok (.sipush 600, 3) := by decide +kernel
theorem d_sc_made_79 : decode c_sc_made 79 = .ok (.goto 6, 3) := by decide +kernel
theorem d_sc_made_82 : decode c_sc_made 82 = .ok (.sipush 400, 3) := by decide +kernel
theorem d_sc_made_85 : decode c_sc_made 85 = .ok (.iadd, 1) := by decide +kernel
theorem d_sc_made_86 : decode c_sc_made 86 = .ok (.istore 5, 2) := by decide +kernel
theorem d_sc_made_88 : decode c_sc_made 88 = .ok (.iload 5, 2) := by decide +kernel
theorem d_sc_made_90 : decode c_sc_made 90 = .ok (.bipush 50, 2) := by decide +kernel
theorem d_sc_made_92 : decode c_sc_made 92 = .ok (.iload_n 1, 1) := by decide +kernel
theorem d_sc_made_93 : decode c_sc_made 93 = .ok (.imul, 1) := by decide +kernel
theorem d_sc_made_94 : decode c_sc_made 94 = .ok (.iadd, 1) := by decide +kernel
theorem d_sc_made_95 : decode c_sc_made 95 = .ok (.ireturn, 1) := by decide +kernel
abbrev c_sc_extraTrick : ByteArray := prog_6_method_6_code
def y_sc_extraTrick : MethodName := ⟨"ShortBridge$Scoring", "extraTrick", "(IIZ)I"⟩
theorem d_sc_extraTrick_0 : decode c_sc_extraTrick 0 = .ok (.iload_n 1, 1) := by decide +kernel
theorem d_sc_extraTrick_1 : decode c_sc_extraTrick 1 = .ok (.ifCond .ne 8, 3) := by decide +kernel
theorem d_sc_extraTrick_4 : decode c_sc_extraTrick 4 = .ok (.iload_n 0, 1) := by decide +kernel
theorem d_sc_extraTrick_5 : decode c_sc_extraTrick 5 = .ok (.invokestatic 39, 3) := by decide +kernel
theorem d_sc_extraTrick_8 : decode c_sc_extraTrick 8 = .ok (.ireturn, 1) := by decide +kernel
theorem d_sc_extraTrick_9 : decode c_sc_extraTrick 9 = .ok (.iload_n 2, 1) := by decide +kernel
theorem d_sc_extraTrick_10 : decode c_sc_extraTrick 10 = .ok (.ifCond .eq 9, 3) := by decide +kernel
theorem d_sc_extraTrick_13 : decode c_sc_extraTrick 13 = .ok (.sipush 200, 3) := by decide +kernel
theorem d_sc_extraTrick_16 : decode c_sc_extraTrick 16 = .ok (.goto 5, 3) := by decide +kernel
theorem d_sc_extraTrick_19 : decode c_sc_extraTrick 19 = .ok (.bipush 100, 2) := by decide +kernel
theorem d_sc_extraTrick_21 : decode c_sc_extraTrick 21 = .ok (.iload_n 1, 1) := by decide +kernel
theorem d_sc_extraTrick_22 : decode c_sc_extraTrick 22 = .ok (.imul, 1) := by decide +kernel
theorem d_sc_extraTrick_23 : decode c_sc_extraTrick 23 = .ok (.ireturn, 1) := by decide +kernel
abbrev c_sc_penalty : ByteArray := prog_6_method_7_code
def y_sc_penalty : MethodName := ⟨"ShortBridge$Scoring", "penalty", "(IIZ)I"⟩
theorem d_sc_penalty_0 : decode c_sc_penalty 0 = .ok (.iload_n 1, 1) := by decide +kernel
theorem d_sc_penalty_1 : decode c_sc_penalty 1 = .ok (.ifCond .ne 17, 3) := by decide +kernel
theorem d_sc_penalty_4 : decode c_sc_penalty 4 = .ok (.iload_n 2, 1) := by decide +kernel
theorem d_sc_penalty_5 : decode c_sc_penalty 5 = .ok (.ifCond .eq 8, 3) := by decide +kernel
theorem d_sc_penalty_8 : decode c_sc_penalty 8 = .ok (.bipush 100, 2) := by decide +kernel
theorem d_sc_penalty_10 : decode c_sc_penalty 10 = .ok (.goto 5, 3) := by decide +kernel
theorem d_sc_penalty_13 : decode c_sc_penalty 13 = .ok (.bipush 50, 2) := by decide +kernel
theorem d_sc_penalty_15 : decode c_sc_penalty 15 = .ok (.iload_n 0, 1) := by decide +kernel
theorem d_sc_penalty_16 : decode c_sc_penalty 16 = .ok (.imul, 1) := by decide +kernel
theorem d_sc_penalty_17 : decode c_sc_penalty 17 = .ok (.ireturn, 1) := by decide +kernel
theorem d_sc_penalty_18 : decode c_sc_penalty 18 = .ok (.iconst 0, 1) := by decide +kernel
theorem d_sc_penalty_19 : decode c_sc_penalty 19 = .ok (.istore_n 3, 1) := by decide +kernel
theorem d_sc_penalty_20 : decode c_sc_penalty 20 = .ok (.iconst 1, 1) := by decide +kernel
theorem d_sc_penalty_21 : decode c_sc_penalty 21 = .ok (.istore 4, 2) := by decide +kernel
theorem d_sc_penalty_23 : decode c_sc_penalty 23 = .ok (.iload 4, 2) := by decide +kernel
theorem d_sc_penalty_25 : decode c_sc_penalty 25 = .ok (.iload_n 0, 1) := by decide +kernel
theorem d_sc_penalty_26 : decode c_sc_penalty 26 = .ok (.if_icmp .gt 18, 3) := by decide +kernel
theorem d_sc_penalty_29 : decode c_sc_penalty 29 = .ok (.iload_n 3, 1) := by decide +kernel
theorem d_sc_penalty_30 : decode c_sc_penalty 30 = .ok (.iload 4, 2) := by decide +kernel
theorem d_sc_penalty_32 : decode c_sc_penalty 32 = .ok (.iload_n 2, 1) := by decide +kernel
theorem d_sc_penalty_33 : decode c_sc_penalty 33 = .ok (.invokestatic 42, 3) := by decide +kernel
theorem d_sc_penalty_36 : decode c_sc_penalty 36 = .ok (.iadd, 1) := by decide +kernel
theorem d_sc_penalty_37 : decode c_sc_penalty 37 = .ok (.istore_n 3, 1) := by decide +kernel
theorem d_sc_penalty_38 : decode c_sc_penalty 38 = .ok (.iinc 4 1, 3) := by decide +kernel
theorem d_sc_penalty_41 : decode c_sc_penalty 41 = .ok (.goto (-18), 3) := by decide +kernel
theorem d_sc_penalty_44 : decode c_sc_penalty 44 = .ok (.iload_n 3, 1) := by decide +kernel
theorem d_sc_penalty_45 : decode c_sc_penalty 45 = .ok (.iload_n 1, 1) := by decide +kernel
theorem d_sc_penalty_46 : decode c_sc_penalty 46 = .ok (.imul, 1) := by decide +kernel
theorem d_sc_penalty_47 : decode c_sc_penalty 47 = .ok (.ireturn, 1) := by decide +kernel
abbrev c_sc_missingTrick : ByteArray := prog_6_method_8_code
def y_sc_missingTrick : MethodName := ⟨"ShortBridge$Scoring", "missingTrick", "(IZ)I"⟩
theorem d_sc_missingTrick_0 : decode c_sc_missingTrick 0 = .ok (.iload_n 0, 1) := by decide +kernel
theorem d_sc_missingTrick_1 : decode c_sc_missingTrick 1 = .ok (.iconst 1, 1) := by decide +kernel
theorem d_sc_missingTrick_2 : decode c_sc_missingTrick 2 = .ok (.if_icmp .ne 16, 3) := by decide +kernel
theorem d_sc_missingTrick_5 : decode c_sc_missingTrick 5 = .ok (.iload_n 1, 1) := by decide +kernel
theorem d_sc_missingTrick_6 : decode c_sc_missingTrick 6 = .ok (.ifCond .eq 9, 3) := by decide +kernel
theorem d_sc_missingTrick_9 : decode c_sc_missingTrick 9 = .ok (.sipush 200, 3) := by decide +kernel
theorem d_sc_missingTrick_12 : decode c_sc_missingTrick 12 = .ok (.goto 5, 3) := by decide +kernel
theorem d_sc_missingTrick_15 : decode c_sc_missingTrick 15 = .ok (.bipush 100, 2) := by decide +kernel
theorem d_sc_missingTrick_17 : decode c_sc_missingTrick 17 = .ok (.ireturn, 1) := by decide +kernel
theorem d_sc_missingTrick_18 : decode c_sc_missingTrick 18 = .ok (.iload_n 1, 1) := by decide +kernel
theorem d_sc_missingTrick_19 : decode c_sc_missingTrick 19 = .ok (.ifCond .ne 8, 3) := by decide +kernel
theorem d_sc_missingTrick_22 : decode c_sc_missingTrick 22 = .ok (.iload_n 0, 1) := by decide +kernel
theorem d_sc_missingTrick_23 : decode c_sc_missingTrick 23 = .ok (.iconst 3, 1) := by decide +kernel
theorem d_sc_missingTrick_24 : decode c_sc_missingTrick 24 = .ok (.if_icmp .le 9, 3) := by decide +kernel
theorem d_sc_missingTrick_27 : decode c_sc_missingTrick 27 = .ok (.sipush 300, 3) := by decide +kernel
theorem d_sc_missingTrick_30 : decode c_sc_missingTrick 30 = .ok (.goto 6, 3) := by decide +kernel
theorem d_sc_missingTrick_33 : decode c_sc_missingTrick 33 = .ok (.sipush 200, 3) := by decide +kernel
theorem d_sc_missingTrick_36 : decode c_sc_missingTrick 36 = .ok (.ireturn, 1) := by decide +kernel
abbrev c_so_tricksOf : ByteArray := prog_7_method_2_code
def y_so_tricksOf : MethodName := ⟨"ShortBridge$Solver", "tricksOf", "(LShortBridge$Hands;I)I"⟩
theorem d_so_tricksOf_0 : decode c_so_tricksOf 0 = .ok (.bipush 20, 2) := by decide +kernel
theorem d_so_tricksOf_2 : decode c_so_tricksOf 2 = .ok (.aload_n 0, 1) := by decide +kernel
theorem d_so_tricksOf_3 : decode c_so_tricksOf 3 = .ok (.getfield 9, 3) := by decide +kernel
theorem d_so_tricksOf_6 : decode c_so_tricksOf 6 = .ok (.isub, 1) := by decide +kernel
theorem d_so_tricksOf_7 : decode c_so_tricksOf 7 = .ok (.istore_n 2, 1) := by decide +kernel
theorem d_so_tricksOf_8 : decode c_so_tricksOf 8 = .ok (.iconst 0, 1) := by decide +kernel
theorem d_so_tricksOf_9 : decode c_so_tricksOf 9 = .ok (.istore_n 3, 1) := by decide +kernel
theorem d_so_tricksOf_10 : decode c_so_tricksOf 10 = .ok (.iload_n 3, 1) := by decide +kernel
theorem d_so_tricksOf_11 : decode c_so_tricksOf 11 = .ok (.iload_n 2, 1) := by decide +kernel
theorem d_so_tricksOf_12 : decode c_so_tricksOf 12 = .ok (.invokestatic 15, 3) := by decide +kernel
theorem d_so_tricksOf_15 : decode c_so_tricksOf 15 = .ok (.if_icmp .ge 21, 3) := by decide +kernel
theorem d_so_tricksOf_18 : decode c_so_tricksOf 18 = .ok (.aload_n 0, 1) := by decide +kernel
theorem d_so_tricksOf_19 : decode c_so_tricksOf 19 = .ok (.iload_n 1, 1) := by decide +kernel
theorem d_so_tricksOf_20 : decode c_so_tricksOf 20 = .ok (.iload_n 3, 1) := by decide +kernel
theorem d_so_tricksOf_21 : decode c_so_tricksOf 21 = .ok (.iconst 1, 1) := by decide +kernel
theorem d_so_tricksOf_22 : decode c_so_tricksOf 22 = .ok (.iadd, 1) := by decide +kernel
theorem d_so_tricksOf_23 : decode c_so_tricksOf 23 = .ok (.iload_n 2, 1) := by decide +kernel
theorem d_so_tricksOf_24 : decode c_so_tricksOf 24 = .ok (.invokestatic 21, 3) := by decide +kernel
theorem d_so_tricksOf_27 : decode c_so_tricksOf 27 = .ok (.ifCond .eq 9, 3) := by decide +kernel
theorem d_so_tricksOf_30 : decode c_so_tricksOf 30 = .ok (.iinc 3 1, 3) := by decide +kernel
theorem d_so_tricksOf_33 : decode c_so_tricksOf 33 = .ok (.goto (-23), 3) := by decide +kernel
theorem d_so_tricksOf_36 : decode c_so_tricksOf 36 = .ok (.aload_n 0, 1) := by decide +kernel
theorem d_so_tricksOf_37 : decode c_so_tricksOf 37 = .ok (.iload_n 1, 1) := by decide +kernel
theorem d_so_tricksOf_38 : decode c_so_tricksOf 38 = .ok (.invokevirtual 25, 3) := by decide +kernel
theorem d_so_tricksOf_41 : decode c_so_tricksOf 41 = .ok (.iload_n 3, 1) := by decide +kernel
theorem d_so_tricksOf_42 : decode c_so_tricksOf 42 = .ok (.iadd, 1) := by decide +kernel
theorem d_so_tricksOf_43 : decode c_so_tricksOf 43 = .ok (.ireturn, 1) := by decide +kernel
abbrev c_so_tricksIn : ByteArray := prog_7_method_3_code
def y_so_tricksIn : MethodName := ⟨"ShortBridge$Solver", "tricksIn", "(I)I"⟩
theorem d_so_tricksIn_0 : decode c_so_tricksIn 0 = .ok (.iload_n 0, 1) := by decide +kernel
theorem d_so_tricksIn_1 : decode c_so_tricksIn 1 = .ok (.iconst 4, 1) := by decide +kernel
theorem d_so_tricksIn_2 : decode c_so_tricksIn 2 = .ok (.iadd, 1) := by decide +kernel
theorem d_so_tricksIn_3 : decode c_so_tricksIn 3 = .ok (.iconst 1, 1) := by decide +kernel
theorem d_so_tricksIn_4 : decode c_so_tricksIn 4 = .ok (.isub, 1) := by decide +kernel
theorem d_so_tricksIn_5 : decode c_so_tricksIn 5 = .ok (.iconst 4, 1) := by decide +kernel
theorem d_so_tricksIn_6 : decode c_so_tricksIn 6 = .ok (.idiv, 1) := by decide +kernel
theorem d_so_tricksIn_7 : decode c_so_tricksIn 7 = .ok (.ireturn, 1) := by decide +kernel
abbrev c_so_reaches : ByteArray := prog_7_method_4_code
def y_so_reaches : MethodName := ⟨"ShortBridge$Solver", "reaches", "(LShortBridge$Hands;III)Z"⟩
theorem d_so_reaches_0 : decode c_so_reaches 0 = .ok (.iload_n 2, 1) := by decide +kernel
theorem d_so_reaches_1 : decode c_so_reaches 1 = .ok (.ifCond .le 11, 3) := by decide +kernel
theorem d_so_reaches_4 : decode c_so_reaches 4 = .ok (.iload_n 2, 1) := by decide +kernel
theorem d_so_reaches_5 : decode c_so_reaches 5 = .ok (.iload_n 3, 1) := by decide +kernel
theorem d_so_reaches_6 : decode c_so_reaches 6 = .ok (.invokestatic 15, 3) := by decide +kernel
theorem d_so_reaches_9 : decode c_so_reaches 9 = .ok (.if_icmp .le 13, 3) := by decide +kernel
theorem d_so_reaches_12 : decode c_so_reaches 12 = .ok (.iload_n 2, 1) := by decide +kernel
theorem d_so_reaches_13 : decode c_so_reaches 13 = .ok (.ifCond .gt 7, 3) := by decide +kernel
theorem d_so_reaches_16 : decode c_so_reaches 16 = .ok (.iconst 1, 1) := by decide +kernel
theorem d_so_reaches_17 : decode c_so_reaches 17 = .ok (.goto 4, 3) := by decide +kernel
theorem d_so_reaches_20 : decode c_so_reaches 20 = .ok (.iconst 0, 1) := by decide +kernel
theorem d_so_reaches_21 : decode c_so_reaches 21 = .ok (.ireturn, 1) := by decide +kernel
theorem d_so_reaches_22 : decode c_so_reaches 22 = .ok (.aload_n 0, 1) := by decide +kernel
theorem d_so_reaches_23 : decode c_so_reaches 23 = .ok (.invokevirtual 28, 3) := by decide +kernel
theorem d_so_reaches_26 : decode c_so_reaches 26 = .ok (.istore 4, 2) := by decide +kernel
theorem d_so_reaches_28 : decode c_so_reaches 28 = .ok (.iload 4, 2) := by decide +kernel
theorem d_so_reaches_30 : decode c_so_reaches 30 = .ok (.invokestatic 32, 3) := by decide +kernel
theorem d_so_reaches_33 : decode c_so_reaches 33 = .ok (.iload_n 1, 1) := by decide +kernel
theorem d_so_reaches_34 : decode c_so_reaches 34 = .ok (.if_icmp .ne 7, 3) := by decide +kernel
theorem d_so_reaches_37 : decode c_so_reaches 37 = .ok (.iconst 1, 1) := by decide +kernel
theorem d_so_reaches_38 : decode c_so_reaches 38 = .ok (.goto 4, 3) := by decide +kernel
theorem d_so_reaches_41 : decode c_so_reaches 41 = .ok (.iconst 0, 1) := by decide +kernel
theorem d_so_reaches_42 : decode c_so_reaches 42 = .ok (.istore 5, 2) := by decide +kernel
theorem d_so_reaches_44 : decode c_so_reaches 44 = .ok (.aload_n 0, 1) := by decide +kernel
theorem d_so_reaches_45 : decode c_so_reaches 45 = .ok (.invokevirtual 35, 3) := by decide +kernel
theorem d_so_reaches_48 : decode c_so_reaches 48 = .ok (.istore 6, 2) := by decide +kernel
theorem d_so_reaches_50 : decode c_so_reaches 50 = .ok (.aload_n 0, 1) := by decide +kernel
theorem d_so_reaches_51 : decode c_so_reaches 51 = .ok (.invokevirtual 38, 3) := by decide +kernel
theorem d_so_reaches_54 : decode c_so_reaches 54 = .ok (.istore 7, 2) := by decide +kernel
theorem d_so_reaches_56 : decode c_so_reaches 56 = .ok (.iconst (-1), 1) := by decide +kernel
theorem d_so_reaches_57 : decode c_so_reaches 57 = .ok (.istore 8, 2) := by decide +kernel
theorem d_so_reaches_59 : decode c_so_reaches 59 = .ok (.iload 4, 2) := by decide +kernel
theorem d_so_reaches_61 : decode c_so_reaches 61 = .ok (.iconst 5, 1) := by decide +kernel
theorem d_so_reaches_62 : decode c_so_reaches 62 = .ok (.imul, 1) := by decide +kernel
theorem d_so_reaches_63 : decode c_so_reaches 63 = .ok (.istore 9, 2) := by decide +kernel
theorem d_so_reaches_65 : decode c_so_reaches 65 = .ok (.iload 9, 2) := by decide +kernel
theorem d_so_reaches_67 : decode c_so_reaches 67 = .ok (.iload 4, 2) := by decide +kernel
theorem d_so_reaches_69 : decode c_so_reaches 69 = .ok (.iconst 1, 1) := by decide +kernel
theorem d_so_reaches_70 : decode c_so_reaches 70 = .ok (.iadd, 1) := by decide +kernel
theorem d_so_reaches_71 : decode c_so_reaches 71 = .ok (.iconst 5, 1) := by decide +kernel
theorem d_so_reaches_72 : decode c_so_reaches 72 = .ok (.imul, 1) := by decide +kernel
theorem d_so_reaches_73 : decode c_so_reaches 73 = .ok (.if_icmp .ge 62, 3) := by decide +kernel
theorem d_so_reaches_76 : decode c_so_reaches 76 = .ok (.aload_n 0, 1) := by decide +kernel
theorem d_so_reaches_77 : decode c_so_reaches 77 = .ok (.getfield 41, 3) := by decide +kernel
theorem d_so_reaches_80 : decode c_so_reaches 80 = .ok (.iload 9, 2) := by decide +kernel
theorem d_so_reaches_82 : decode c_so_reaches 82 = .ok (.iaload, 1) := by decide +kernel
theorem d_so_reaches_83 : decode c_so_reaches 83 = .ok (.istore 10, 2) := by decide +kernel
theorem d_so_reaches_85 : decode c_so_reaches 85 = .ok (.iload 6, 2) := by decide +kernel
theorem d_so_reaches_87 : decode c_so_reaches 87 = .ok (.iload 10, 2) := by decide +kernel
theorem d_so_reaches_89 : decode c_so_reaches 89 = .ok (.ishr, 1) := by decide +kernel
theorem d_so_reaches_90 : decode c_so_reaches 90 = .ok (.iconst 1, 1) := by decide +kernel
theorem d_so_reaches_91 : decode c_so_reaches 91 = .ok (.iand, 1) := by decide +kernel
theorem d_so_reaches_92 : decode c_so_reaches 92 = .ok (.iconst 1, 1) := by decide +kernel
theorem d_so_reaches_93 : decode c_so_reaches 93 = .ok (.if_icmp .ne 36, 3) := by decide +kernel
theorem d_so_reaches_96 : decode c_so_reaches 96 = .ok (.iload 10, 2) := by decide +kernel
theorem d_so_reaches_98 : decode c_so_reaches 98 = .ok (.iload 8, 2) := by decide +kernel
theorem d_so_reaches_100 : decode c_so_reaches 100 = .ok (.iload 7, 2) := by decide +kernel
theorem d_so_reaches_102 : decode c_so_reaches 102 = .ok (.invokestatic 45, 3) := by decide +kernel
theorem d_so_reaches_105 : decode c_so_reaches 105 = .ok (.ifCond .ne 20, 3) := by decide +kernel
theorem d_so_reaches_108 : decode c_so_reaches 108 = .ok (.iload 10, 2) := by decide +kernel
theorem d_so_reaches_110 : decode c_so_reaches 110 = .ok (.aload_n 0, 1) := by decide +kernel
theorem d_so_reaches_111 : decode c_so_reaches 111 = .ok (.iload_n 1, 1) := by decide +kernel
theorem d_so_reaches_112 : decode c_so_reaches 112 = .ok (.iload_n 2, 1) := by decide +kernel
theorem d_so_reaches_113 : decode c_so_reaches 113 = .ok (.iload_n 3, 1) := by decide +kernel
theorem d_so_reaches_114 : decode c_so_reaches 114 = .ok (.invokestatic 49, 3) := by decide +kernel
theorem d_so_reaches_117 : decode c_so_reaches 117 = .ok (.iload 5, 2) := by decide +kernel
theorem d_so_reaches_119 : decode c_so_reaches 119 = .ok (.if_icmp .ne 6, 3) := by decide +kernel
theorem d_so_reaches_122 : decode c_so_reaches 122 = .ok (.iload 5, 2) := by decide +kernel
theorem d_so_reaches_124 : decode c_so_reaches 124 = .ok (.ireturn, 1) := by decide +kernel
theorem d_so_reaches_125 : decode c_so_reaches 125 = .ok (.iload 10, 2) := by decide +kernel
theorem d_so_reaches_127 : decode c_so_reaches 127 = .ok (.istore 8, 2) := by decide +kernel
theorem d_so_reaches_129 : decode c_so_reaches 129 = .ok (.iinc 9 1, 3) := by decide +kernel
theorem d_so_reaches_132 : decode c_so_reaches 132 = .ok (.goto (-67), 3) := by decide +kernel
theorem d_so_reaches_135 : decode c_so_reaches 135 = .ok (.iload 5, 2) := by decide +kernel
theorem d_so_reaches_137 : decode c_so_reaches 137 = .ok (.ifCond .ne 7, 3) := by decide +kernel
theorem d_so_reaches_140 : decode c_so_reaches 140 = .ok (.iconst 1, 1) := by decide +kernel
theorem d_so_reaches_141 : decode c_so_reaches 141 = .ok (.goto 4, 3) := by decide +kernel
theorem d_so_reaches_144 : decode c_so_reaches 144 = .ok (.iconst 0, 1) := by decide +kernel
theorem d_so_reaches_145 : decode c_so_reaches 145 = .ok (.ireturn, 1) := by decide +kernel
abbrev c_so_reachesWith : ByteArray := prog_7_method_5_code
def y_so_reachesWith : MethodName := ⟨"ShortBridge$Solver", "reachesWith", "(ILShortBridge$Hands;III)Z"⟩
theorem d_so_reachesWith_0 : decode c_so_reachesWith 0 = .ok (.aload_n 1, 1) := by decide +kernel
theorem d_so_reachesWith_1 : decode c_so_reachesWith 1 = .ok (.iload_n 0, 1) := by decide +kernel
theorem d_so_reachesWith_2 : decode c_so_reachesWith 2 = .ok (.invokevirtual 53, 3) := by decide +kernel
theorem d_so_reachesWith_5 : decode c_so_reachesWith 5 = .ok (.aload_n 1, 1) := by decide +kernel
theorem d_so_reachesWith_6 : decode c_so_reachesWith 6 = .ok (.getfield 9, 3) := by decide +kernel
theorem d_so_reachesWith_9 : decode c_so_reachesWith 9 = .ok (.iconst 4, 1) := by decide +kernel
theorem d_so_reachesWith_10 : decode c_so_reachesWith 10 = .ok (.irem, 1) := by decide +kernel
theorem d_so_reachesWith_11 : decode c_so_reachesWith 11 = .ok (.ifCond .ne 18, 3) := by decide +kernel
theorem d_so_reachesWith_14 : decode c_so_reachesWith 14 = .ok (.aload_n 1, 1) := by decide +kernel
theorem d_so_reachesWith_15 : decode c_so_reachesWith 15 = .ok (.invokevirtual 28, 3) := by decide +kernel
theorem d_so_reachesWith_18 : decode c_so_reachesWith 18 = .ok (.invokestatic 32, 3) := by decide +kernel
theorem d_so_reachesWith_21 : decode c_so_reachesWith 21 = .ok (.iload_n 2, 1) := by decide +kernel
theorem d_so_reachesWith_22 : decode c_so_reachesWith 22 = .ok (.if_icmp .ne 7, 3) := by decide +kernel
theorem d_so_reachesWith_25 : decode c_so_reachesWith 25 = .ok (.iconst 1, 1) := by decide +kernel
theorem d_so_reachesWith_26 : decode c_so_reachesWith 26 = .ok (.goto 4, 3) := by decide +kernel
theorem d_so_reachesWith_29 : decode c_so_reachesWith 29 = .ok (.iconst 0, 1) := by decide +kernel
theorem d_so_reachesWith_30 : decode c_so_reachesWith 30 = .ok (.istore 5, 2) := by decide +kernel
theorem d_so_reachesWith_32 : decode c_so_reachesWith 32 = .ok (.aload_n 1, 1) := by decide +kernel
theorem d_so_reachesWith_33 : decode c_so_reachesWith 33 = .ok (.iload_n 2, 1) := by decide +kernel
theorem d_so_reachesWith_34 : decode c_so_reachesWith 34 = .ok (.iload 5, 2) := by decide +kernel
theorem d_so_reachesWith_36 : decode c_so_reachesWith 36 = .ok (.ifCond .eq 9, 3) := by decide +kernel
theorem d_so_reachesWith_39 : decode c_so_reachesWith 39 = .ok (.iload_n 3, 1) := by decide +kernel
theorem d_so_reachesWith_40 : decode c_so_reachesWith 40 = .ok (.iconst 1, 1) := by decide +kernel
theorem d_so_reachesWith_41 : decode c_so_reachesWith 41 = .ok (.isub, 1) := by decide +kernel
theorem d_so_reachesWith_42 : decode c_so_reachesWith 42 = .ok (.goto 4, 3) := by decide +kernel
theorem d_so_reachesWith_45 : decode c_so_reachesWith 45 = .ok (.iload_n 3, 1) := by decide +kernel
theorem d_so_reachesWith_46 : decode c_so_reachesWith 46 = .ok (.iload 4, 2) := by decide +kernel
theorem d_so_reachesWith_48 : decode c_so_reachesWith 48 = .ok (.iconst 1, 1) := by decide +kernel
theorem d_so_reachesWith_49 : decode c_so_reachesWith 49 = .ok (.isub, 1) := by decide +kernel
theorem d_so_reachesWith_50 : decode c_so_reachesWith 50 = .ok (.invokestatic 21, 3) := by decide +kernel
theorem d_so_reachesWith_53 : decode c_so_reachesWith 53 = .ok (.istore 6, 2) := by decide +kernel
theorem d_so_reachesWith_55 : decode c_so_reachesWith 55 = .ok (.aload_n 1, 1) := by decide +kernel
theorem d_so_reachesWith_56 : decode c_so_reachesWith 56 = .ok (.invokevirtual 57, 3) := by decide +kernel
theorem d_so_reachesWith_59 : decode c_so_reachesWith 59 = .ok (.iload 6, 2) := by decide +kernel
theorem d_so_reachesWith_61 : decode c_so_reachesWith 61 = .ok (.ireturn, 1) := by decide +kernel
abbrev c_so_areAlike : ByteArray := prog_7_method_6_code
def y_so_areAlike : MethodName := ⟨"ShortBridge$Solver", "areAlike", "(III)Z"⟩
theorem d_so_areAlike_0 : decode c_so_areAlike 0 = .ok (.iload_n 1, 1) := by decide +kernel
theorem d_so_areAlike_1 : decode c_so_areAlike 1 = .ok (.iconst (-1), 1) := by decide +kernel
theorem d_so_areAlike_2 : decode c_so_areAlike 2 = .ok (.if_icmp .eq 12, 3) := by decide +kernel
theorem d_so_areAlike_5 : decode c_so_areAlike 5 = .ok (.iload_n 0, 1) := by decide +kernel
theorem d_so_areAlike_6 : decode c_so_areAlike 6 = .ok (.iconst 5, 1) := by decide +kernel
theorem d_so_areAlike_7 : decode c_so_areAlike 7 = .ok (.idiv, 1) := by decide +kernel
theorem d_so_areAlike_8 : decode c_so_areAlike 8 = .ok (.iload_n 1, 1) := by decide +kernel
theorem d_so_areAlike_9 : decode c_so_areAlike 9 = .ok (.iconst 5, 1) := by decide +kernel
theorem d_so_areAlike_10 : decode c_so_areAlike 10 = .ok (.idiv, 1) := by decide +kernel
theorem d_so_areAlike_11 : decode c_so_areAlike 11 = .ok (.if_icmp .eq 5, 3) := by decide +kernel
theorem d_so_areAlike_14 : decode c_so_areAlike 14 = .ok (.iconst 0, 1) := by decide +kernel
theorem d_so_areAlike_15 : decode c_so_areAlike 15 = .ok (.ireturn, 1) := by decide +kernel
theorem d_so_areAlike_16 : decode c_so_areAlike 16 = .ok (.iconst 1, 1) := by decide +kernel
theorem d_so_areAlike_17 : decode c_so_areAlike 17 = .ok (.iload_n 1, 1) := by decide +kernel
theorem d_so_areAlike_18 : decode c_so_areAlike 18 = .ok (.ishl, 1) := by decide +kernel
theorem d_so_areAlike_19 : decode c_so_areAlike 19 = .ok (.iconst 1, 1) := by decide +kernel
theorem d_so_areAlike_20 : decode c_so_areAlike 20 = .ok (.iload_n 0, 1) := by decide +kernel
theorem d_so_areAlike_21 : decode c_so_areAlike 21 = .ok (.iconst 1, 1) := by decide +kernel
theorem d_so_areAlike_22 : decode c_so_areAlike 22 = .ok (.iadd, 1) := by decide +kernel
theorem d_so_areAlike_23 : decode c_so_areAlike 23 = .ok (.ishl, 1) := by decide +kernel
theorem d_so_areAlike_24 : decode c_so_areAlike 24 = .ok (.isub, 1) := by decide +kernel
theorem d_so_areAlike_25 : decode c_so_areAlike 25 = .ok (.istore_n 3, 1) := by decide +kernel
theorem d_so_areAlike_26 : decode c_so_areAlike 26 = .ok (.iload_n 2, 1) := by decide +kernel
theorem d_so_areAlike_27 : decode c_so_areAlike 27 = .ok (.iload_n 3, 1) := by decide +kernel
theorem d_so_areAlike_28 : decode c_so_areAlike 28 = .ok (.iand, 1) := by decide +kernel
theorem d_so_areAlike_29 : decode c_so_areAlike 29 = .ok (.ifCond .ne 7, 3) := by decide +kernel
theorem d_so_areAlike_32 : decode c_so_areAlike 32 = .ok (.iconst 1, 1) := by decide +kernel
theorem d_so_areAlike_33 : decode c_so_areAlike 33 = .ok (.goto 4, 3) := by decide +kernel
theorem d_so_areAlike_36 : decode c_so_areAlike 36 = .ok (.iconst 0, 1) := by decide +kernel
theorem d_so_areAlike_37 : decode c_so_areAlike 37 = .ok (.ireturn, 1) := by decide +kernel
end
section
abbrev c_m_init : ByteArray := prog_9_method_1_code
def y_m_init : MethodName := ⟨"ShortBridgeModel", "<init>", "()V"⟩
theorem d_m_init_0 : decode c_m_init 0 = .ok (.aload_n 0, 1) := by decide +kernel
theorem d_m_init_1 : decode c_m_init 1 = .ok (.invokespecial 1, 3) := by decide +kernel
theorem d_m_init_4 : decode c_m_init 4 = .ok (.aload_n 0, 1) := by decide +kernel
theorem d_m_init_5 : decode c_m_init 5 = .ok (.bipush 20, 2) := by decide +kernel
theorem d_m_init_7 : decode c_m_init 7 = .ok (.newarray .int, 2) := by decide +kernel
theorem d_m_init_9 : decode c_m_init 9 = .ok (.putfield 7, 3) := by decide +kernel
theorem d_m_init_12 : decode c_m_init 12 = .ok (.aload_n 0, 1) := by decide +kernel
theorem d_m_init_13 : decode c_m_init 13 = .ok (.sipush 441, 3) := by decide +kernel
theorem d_m_init_16 : decode c_m_init 16 = .ok (.newarray .long, 2) := by decide +kernel
theorem d_m_init_18 : decode c_m_init 18 = .ok (.putfield 13, 3) := by decide +kernel
theorem d_m_init_21 : decode c_m_init 21 = .ok (.aload_n 0, 1) := by decide +kernel
theorem d_m_init_22 : decode c_m_init 22 = .ok (.sipush 240, 3) := by decide +kernel
theorem d_m_init_25 : decode c_m_init 25 = .ok (.newarray .int, 2) := by decide +kernel
theorem d_m_init_27 : decode c_m_init 27 = .ok (.putfield 17, 3) := by decide +kernel
theorem d_m_init_30 : decode c_m_init 30 = .ok (.aload_n 0, 1) := by decide +kernel
theorem d_m_init_31 : decode c_m_init 31 = .ok (.bipush 20, 2) := by decide +kernel
theorem d_m_init_33 : decode c_m_init 33 = .ok (.newarray .int, 2) := by decide +kernel
theorem d_m_init_35 : decode c_m_init 35 = .ok (.putfield 20, 3) := by decide +kernel
theorem d_m_init_38 : decode c_m_init 38 = .ok (.aload_n 0, 1) := by decide +kernel
theorem d_m_init_39 : decode c_m_init 39 = .ok (.bipush 21, 2) := by decide +kernel
theorem d_m_init_41 : decode c_m_init 41 = .ok (.newarray .int, 2) := by decide +kernel
theorem d_m_init_43 : decode c_m_init 43 = .ok (.putfield 23, 3) := by decide +kernel
theorem d_m_init_46 : decode c_m_init 46 = .ok (.aload_n 0, 1) := by decide +kernel
theorem d_m_init_47 : decode c_m_init 47 = .ok (.bipush 21, 2) := by decide +kernel
theorem d_m_init_49 : decode c_m_init 49 = .ok (.newarray .int, 2) := by decide +kernel
theorem d_m_init_51 : decode c_m_init 51 = .ok (.putfield 26, 3) := by decide +kernel
theorem d_m_init_54 : decode c_m_init 54 = .ok (.aload_n 0, 1) := by decide +kernel
theorem d_m_init_55 : decode c_m_init 55 = .ok (.bipush 21, 2) := by decide +kernel
theorem d_m_init_57 : decode c_m_init 57 = .ok (.newarray .int, 2) := by decide +kernel
theorem d_m_init_59 : decode c_m_init 59 = .ok (.putfield 29, 3) := by decide +kernel
theorem d_m_init_62 : decode c_m_init 62 = .ok (.aload_n 0, 1) := by decide +kernel
theorem d_m_init_63 : decode c_m_init 63 = .ok (.bipush 21, 2) := by decide +kernel
theorem d_m_init_65 : decode c_m_init 65 = .ok (.newarray .int, 2) := by decide +kernel
theorem d_m_init_67 : decode c_m_init 67 = .ok (.putfield 32, 3) := by decide +kernel
theorem d_m_init_70 : decode c_m_init 70 = .ok (.aload_n 0, 1) := by decide +kernel
theorem d_m_init_71 : decode c_m_init 71 = .ok (.bipush 21, 2) := by decide +kernel
theorem d_m_init_73 : decode c_m_init 73 = .ok (.newarray .int, 2) := by decide +kernel
theorem d_m_init_75 : decode c_m_init 75 = .ok (.putfield 35, 3) := by decide +kernel
theorem d_m_init_78 : decode c_m_init 78 = .ok (.aload_n 0, 1) := by decide +kernel
theorem d_m_init_79 : decode c_m_init 79 = .ok (.bipush 21, 2) := by decide +kernel
theorem d_m_init_81 : decode c_m_init 81 = .ok (.newarray .int, 2) := by decide +kernel
theorem d_m_init_83 : decode c_m_init 83 = .ok (.putfield 38, 3) := by decide +kernel
theorem d_m_init_86 : decode c_m_init 86 = .ok (.aload_n 0, 1) := by decide +kernel
theorem d_m_init_87 : decode c_m_init 87 = .ok (.bipush 21, 2) := by decide +kernel
theorem d_m_init_89 : decode c_m_init 89 = .ok (.newarray .int, 2) := by decide +kernel
theorem d_m_init_91 : decode c_m_init 91 = .ok (.putfield 41, 3) := by decide +kernel
theorem d_m_init_94 : decode c_m_init 94 = .ok (.aload_n 0, 1) := by decide +kernel
theorem d_m_init_95 : decode c_m_init 95 = .ok (.bipush 12, 2) := by decide +kernel
theorem d_m_init_97 : decode c_m_init 97 = .ok (.newarray .int, 2) := by decide +kernel
theorem d_m_init_99 : decode c_m_init 99 = .ok (.putfield 44, 3) := by decide +kernel
theorem d_m_init_102 : decode c_m_init 102 = .ok (.aload_n 0, 1) := by decide +kernel
theorem d_m_init_103 : decode c_m_init 103 = .ok (.bipush 12, 2) := by decide +kernel
theorem d_m_init_105 : decode c_m_init 105 = .ok (.newarray .long, 2) := by decide +kernel
theorem d_m_init_107 : decode c_m_init 107 = .ok (.putfield 47, 3) := by decide +kernel
theorem d_m_init_110 : decode c_m_init 110 = .ok (.iconst 0, 1) := by decide +kernel
theorem d_m_init_111 : decode c_m_init 111 = .ok (.istore_n 1, 1) := by decide +kernel
theorem d_m_init_112 : decode c_m_init 112 = .ok (.iload_n 1, 1) := by decide +kernel
theorem d_m_init_113 : decode c_m_init 113 = .ok (.bipush 20, 2) := by decide +kernel
theorem d_m_init_115 : decode c_m_init 115 = .ok (.if_icmp .gt 75, 3) := by decide +kernel
theorem d_m_init_118 : decode c_m_init 118 = .ok (.iconst 0, 1) := by decide +kernel
theorem d_m_init_119 : decode c_m_init 119 = .ok (.istore_n 2, 1) := by decide +kernel
theorem d_m_init_120 : decode c_m_init 120 = .ok (.iload_n 2, 1) := by decide +kernel
theorem d_m_init_121 : decode c_m_init 121 = .ok (.iload_n 1, 1) := by decide +kernel
theorem d_m_init_122 : decode c_m_init 122 = .ok (.if_icmp .gt 62, 3) := by decide +kernel
theorem d_m_init_125 : decode c_m_init 125 = .ok (.aload_n 0, 1) := by decide +kernel
theorem d_m_init_126 : decode c_m_init 126 = .ok (.getfield 13, 3) := by decide +kernel
theorem d_m_init_129 : decode c_m_init 129 = .ok (.bipush 21, 2) := by decide +kernel
theorem d_m_init_131 : decode c_m_init 131 = .ok (.iload_n 1, 1) := by decide +kernel
theorem d_m_init_132 : decode c_m_init 132 = .ok (.imul, 1) := by decide +kernel
theorem d_m_init_133 : decode c_m_init 133 = .ok (.iload_n 2, 1) := by decide +kernel
theorem d_m_init_134 : decode c_m_init 134 = .ok (.iadd, 1) := by decide +kernel
theorem d_m_init_135 : decode c_m_init 135 = .ok (.iload_n 2, 1) := by decide +kernel
theorem d_m_init_136 : decode c_m_init 136 = .ok (.ifCond .eq 8, 3) := by decide +kernel
theorem d_m_init_139 : decode c_m_init 139 = .ok (.iload_n 2, 1) := by decide +kernel
theorem d_m_init_140 : decode c_m_init 140 = .ok (.iload_n 1, 1) := by decide +kernel
theorem d_m_init_141 : decode c_m_init 141 = .ok (.if_icmp .ne 7, 3) := by decide +kernel
theorem d_m_init_144 : decode c_m_init 144 = .ok (.lconst 1, 1) := by decide +kernel
theorem d_m_init_145 : decode c_m_init 145 = .ok (.goto 32, 3) := by decide +kernel
theorem d_m_init_148 : decode c_m_init 148 = .ok (.aload_n 0, 1) := by decide +kernel
theorem d_m_init_149 : decode c_m_init 149 = .ok (.getfield 13, 3) := by decide +kernel
theorem d_m_init_152 : decode c_m_init 152 = .ok (.bipush 21, 2) := by decide +kernel
theorem d_m_init_154 : decode c_m_init 154 = .ok (.iload_n 1, 1) := by decide +kernel
theorem d_m_init_155 : decode c_m_init 155 = .ok (.iconst 1, 1) := by decide +kernel
theorem d_m_init_156 : decode c_m_init 156 = .ok (.isub, 1) := by decide +kernel
theorem d_m_init_157 : decode c_m_init 157 = .ok (.imul, 1) := by decide +kernel
theorem d_m_init_158 : decode c_m_init 158 = .ok (.iload_n 2, 1) := by decide +kernel
theorem d_m_init_159 : decode c_m_init 159 = .ok (.iadd, 1) := by decide +kernel
theorem d_m_init_160 : decode c_m_init 160 = .ok (.iconst 1, 1) := by decide +kernel
theorem d_m_init_161 : decode c_m_init 161 = .ok (.isub, 1) := by decide +kernel
theorem d_m_init_162 : decode c_m_init 162 = .ok (.laload, 1) := by decide +kernel
theorem d_m_init_163 : decode c_m_init 163 = .ok (.aload_n 0, 1) := by decide +kernel
theorem d_m_init_164 : decode c_m_init 164 = .ok (.getfield 13, 3) := by decide +kernel
theorem d_m_init_167 : decode c_m_init 167 = .ok (.bipush 21, 2) := by decide +kernel
theorem d_m_init_169 : decode c_m_init 169 = .ok (.iload_n 1, 1) := by decide +kernel
theorem d_m_init_170 : decode c_m_init 170 = .ok (.iconst 1, 1) := by decide +kernel
theorem d_m_init_171 : decode c_m_init 171 = .ok (.isub, 1) := by decide +kernel
theorem d_m_init_172 : decode c_m_init 172 = .ok (.imul, 1) := by decide +kernel
theorem d_m_init_173 : decode c_m_init 173 = .ok (.iload_n 2, 1) := by decide +kernel
theorem d_m_init_174 : decode c_m_init 174 = .ok (.iadd, 1) := by decide +kernel
theorem d_m_init_175 : decode c_m_init 175 = .ok (.laload, 1) := by decide +kernel
theorem d_m_init_176 : decode c_m_init 176 = .ok (.ladd, 1) := by decide +kernel
theorem d_m_init_177 : decode c_m_init 177 = .ok (.lastore, 1) := by decide +kernel
theorem d_m_init_178 : decode c_m_init 178 = .ok (.iinc 2 1, 3) := by decide +kernel
theorem d_m_init_181 : decode c_m_init 181 = .ok (.goto (-61), 3) := by decide +kernel
theorem d_m_init_184 : decode c_m_init 184 = .ok (.iinc 1 1, 3) := by decide +kernel
theorem d_m_init_187 : decode c_m_init 187 = .ok (.goto (-75), 3) := by decide +kernel
theorem d_m_init_190 : decode c_m_init 190 = .ok (.return_, 1) := by decide +kernel
abbrev c_m_thrown : ByteArray := prog_9_method_2_code
def y_m_thrown : MethodName := ⟨"ShortBridgeModel", "thrown", "()I"⟩
theorem d_m_thrown_0 : decode c_m_thrown 0 = .ok (.aload_n 0, 1) := by decide +kernel
theorem d_m_thrown_1 : decode c_m_thrown 1 = .ok (.getfield 50, 3) := by decide +kernel
theorem d_m_thrown_4 : decode c_m_thrown 4 = .ok (.ireturn, 1) := by decide +kernel
abbrev c_m_rows : ByteArray := prog_9_method_3_code
def y_m_rows : MethodName := ⟨"ShortBridgeModel", "rows", "(IIII)J"⟩
theorem d_m_rows_0 : decode c_m_rows 0 = .ok (.iload_n 1, 1) := by decide +kernel
theorem d_m_rows_1 : decode c_m_rows 1 = .ok (.ifCond .lt 16, 3) := by decide +kernel
theorem d_m_rows_4 : decode c_m_rows 4 = .ok (.iload_n 2, 1) := by decide +kernel
theorem d_m_rows_5 : decode c_m_rows 5 = .ok (.ifCond .lt 12, 3) := by decide +kernel
theorem d_m_rows_8 : decode c_m_rows 8 = .ok (.iload_n 3, 1) := by decide +kernel
theorem d_m_rows_9 : decode c_m_rows 9 = .ok (.ifCond .lt 8, 3) := by decide +kernel
theorem d_m_rows_12 : decode c_m_rows 12 = .ok (.iload 4, 2) := by decide +kernel
theorem d_m_rows_14 : decode c_m_rows 14 = .ok (.ifCond .ge 5, 3) := by decide +kernel
theorem d_m_rows_17 : decode c_m_rows 17 = .ok (.lconst 0, 1) := by decide +kernel
theorem d_m_rows_18 : decode c_m_rows 18 = .ok (.lreturn, 1) := by decide +kernel
theorem d_m_rows_19 : decode c_m_rows 19 = .ok (.aload_n 0, 1) := by decide +kernel
theorem d_m_rows_20 : decode c_m_rows 20 = .ok (.getfield 13, 3) := by decide +kernel
theorem d_m_rows_23 : decode c_m_rows 23 = .ok (.bipush 21, 2) := by decide +kernel
theorem d_m_rows_25 : decode c_m_rows 25 = .ok (.iload_n 1, 1) := by decide +kernel
theorem d_m_rows_26 : decode c_m_rows 26 = .ok (.iload_n 2, 1) := by decide +kernel
theorem d_m_rows_27 : decode c_m_rows 27 = .ok (.iadd, 1) := by decide +kernel
theorem d_m_rows_28 : decode c_m_rows 28 = .ok (.iload_n 3, 1) := by decide +kernel
theorem d_m_rows_29 : decode c_m_rows 29 = .ok (.iadd, 1) := by decide +kernel
theorem d_m_rows_30 : decode c_m_rows 30 = .ok (.iload 4, 2) := by decide +kernel
theorem d_m_rows_32 : decode c_m_rows 32 = .ok (.iadd, 1) := by decide +kernel
theorem d_m_rows_33 : decode c_m_rows 33 = .ok (.imul, 1) := by decide +kernel
theorem d_m_rows_34 : decode c_m_rows 34 = .ok (.iload_n 1, 1) := by decide +kernel
theorem d_m_rows_35 : decode c_m_rows 35 = .ok (.iadd, 1) := by decide +kernel
theorem d_m_rows_36 : decode c_m_rows 36 = .ok (.laload, 1) := by decide +kernel
theorem d_m_rows_37 : decode c_m_rows 37 = .ok (.aload_n 0, 1) := by decide +kernel
theorem d_m_rows_38 : decode c_m_rows 38 = .ok (.getfield 13, 3) := by decide +kernel
theorem d_m_rows_41 : decode c_m_rows 41 = .ok (.bipush 21, 2) := by decide +kernel
theorem d_m_rows_43 : decode c_m_rows 43 = .ok (.iload_n 2, 1) := by decide +kernel
theorem d_m_rows_44 : decode c_m_rows 44 = .ok (.iload_n 3, 1) := by decide +kernel
theorem d_m_rows_45 : decode c_m_rows 45 = .ok (.iadd, 1) := by decide +kernel
theorem d_m_rows_46 : decode c_m_rows 46 = .ok (.iload 4, 2) := by decide +kernel
theorem d_m_rows_48 : decode c_m_rows 48 = .ok (.iadd, 1) := by decide +kernel
theorem d_m_rows_49 : decode c_m_rows 49 = .ok (.imul, 1) := by decide +kernel
theorem d_m_rows_50 : decode c_m_rows 50 = .ok (.iload_n 2, 1) := by decide +kernel
theorem d_m_rows_51 : decode c_m_rows 51 = .ok (.iadd, 1) := by decide +kernel
theorem d_m_rows_52 : decode c_m_rows 52 = .ok (.laload, 1) := by decide +kernel
theorem d_m_rows_53 : decode c_m_rows 53 = .ok (.lmul, 1) := by decide +kernel
theorem d_m_rows_54 : decode c_m_rows 54 = .ok (.aload_n 0, 1) := by decide +kernel
theorem d_m_rows_55 : decode c_m_rows 55 = .ok (.getfield 13, 3) := by decide +kernel
theorem d_m_rows_58 : decode c_m_rows 58 = .ok (.bipush 21, 2) := by decide +kernel
theorem d_m_rows_60 : decode c_m_rows 60 = .ok (.iload_n 3, 1) := by decide +kernel
theorem d_m_rows_61 : decode c_m_rows 61 = .ok (.iload 4, 2) := by decide +kernel
theorem d_m_rows_63 : decode c_m_rows 63 = .ok (.iadd, 1) := by decide +kernel
theorem d_m_rows_64 : decode c_m_rows 64 = .ok (.imul, 1) := by decide +kernel
theorem d_m_rows_65 : decode c_m_rows 65 = .ok (.iload_n 3, 1) := by decide +kernel
theorem d_m_rows_66 : decode c_m_rows 66 = .ok (.iadd, 1) := by decide +kernel
theorem d_m_rows_67 : decode c_m_rows 67 = .ok (.laload, 1) := by decide +kernel
theorem d_m_rows_68 : decode c_m_rows 68 = .ok (.lmul, 1) := by decide +kernel
theorem d_m_rows_69 : decode c_m_rows 69 = .ok (.lreturn, 1) := by decide +kernel
abbrev c_m_rowsWith : ByteArray := prog_9_method_4_code
def y_m_rowsWith : MethodName := ⟨"ShortBridgeModel", "rowsWith", "(II)J"⟩
theorem d_m_rowsWith_0 : decode c_m_rowsWith 0 = .ok (.iload_n 1, 1) := by decide +kernel
theorem d_m_rowsWith_1 : decode c_m_rowsWith 1 = .ok (.bipush 31, 2) := by decide +kernel
theorem d_m_rowsWith_3 : decode c_m_rowsWith 3 = .ok (.iand, 1) := by decide +kernel
theorem d_m_rowsWith_4 : decode c_m_rowsWith 4 = .ok (.iload_n 2, 1) := by decide +kernel
theorem d_m_rowsWith_5 : decode c_m_rowsWith 5 = .ok (.ifCond .ne 7, 3) := by decide +kernel
theorem d_m_rowsWith_8 : decode c_m_rowsWith 8 = .ok (.iconst 1, 1) := by decide +kernel
theorem d_m_rowsWith_9 : decode c_m_rowsWith 9 = .ok (.goto 4, 3) := by decide +kernel
theorem d_m_rowsWith_12 : decode c_m_rowsWith 12 = .ok (.iconst 0, 1) := by decide +kernel
theorem d_m_rowsWith_13 : decode c_m_rowsWith 13 = .ok (.isub, 1) := by decide +kernel
theorem d_m_rowsWith_14 : decode c_m_rowsWith 14 = .ok (.istore_n 3, 1) := by decide +kernel
theorem d_m_rowsWith_15 : decode c_m_rowsWith 15 = .ok (.iload_n 1, 1) := by decide +kernel
theorem d_m_rowsWith_16 : decode c_m_rowsWith 16 = .ok (.iconst 5, 1) := by decide +kernel
theorem d_m_rowsWith_17 : decode c_m_rowsWith 17 = .ok (.ishr, 1) := by decide +kernel
theorem d_m_rowsWith_18 : decode c_m_rowsWith 18 = .ok (.bipush 31, 2) := by decide +kernel
theorem d_m_rowsWith_20 : decode c_m_rowsWith 20 = .ok (.iand, 1) := by decide +kernel
theorem d_m_rowsWith_21 : decode c_m_rowsWith 21 = .ok (.iload_n 2, 1) := by decide +kernel
theorem d_m_rowsWith_22 : decode c_m_rowsWith 22 = .ok (.iconst 1, 1) := by decide +kernel
theorem d_m_rowsWith_23 : decode c_m_rowsWith 23 = .ok (.if_icmp .ne 7, 3) := by decide +kernel
theorem d_m_rowsWith_26 : decode c_m_rowsWith 26 = .ok (.iconst 1, 1) := by decide +kernel
theorem d_m_rowsWith_27 : decode c_m_rowsWith 27 = .ok (.goto 4, 3) := by decide +kernel
theorem d_m_rowsWith_30 : decode c_m_rowsWith 30 = .ok (.iconst 0, 1) := by decide +kernel
theorem d_m_rowsWith_31 : decode c_m_rowsWith 31 = .ok (.isub, 1) := by decide +kernel
theorem d_m_rowsWith_32 : decode c_m_rowsWith 32 = .ok (.istore 4, 2) := by decide +kernel
theorem d_m_rowsWith_34 : decode c_m_rowsWith 34 = .ok (.iload_n 1, 1) := by decide +kernel
theorem d_m_rowsWith_35 : decode c_m_rowsWith 35 = .ok (.bipush 10, 2) := by decide +kernel
theorem d_m_rowsWith_37 : decode c_m_rowsWith 37 = .ok (.ishr, 1) := by decide +kernel
theorem d_m_rowsWith_38 : decode c_m_rowsWith 38 = .ok (.bipush 31, 2) := by decide +kernel
theorem d_m_rowsWith_40 : decode c_m_rowsWith 40 = .ok (.iand, 1) := by decide +kernel
theorem d_m_rowsWith_41 : decode c_m_rowsWith 41 = .ok (.iload_n 2, 1) := by decide +kernel
theorem d_m_rowsWith_42 : decode c_m_rowsWith 42 = .ok (.iconst 2, 1) := by decide +kernel
theorem d_m_rowsWith_43 : decode c_m_rowsWith 43 = .ok (.if_icmp .ne 7, 3) := by decide +kernel
theorem d_m_rowsWith_46 : decode c_m_rowsWith 46 = .ok (.iconst 1, 1) := by decide +kernel
theorem d_m_rowsWith_47 : decode c_m_rowsWith 47 = .ok (.goto 4, 3) := by decide +kernel
theorem d_m_rowsWith_50 : decode c_m_rowsWith 50 = .ok (.iconst 0, 1) := by decide +kernel
theorem d_m_rowsWith_51 : decode c_m_rowsWith 51 = .ok (.isub, 1) := by decide +kernel
theorem d_m_rowsWith_52 : decode c_m_rowsWith 52 = .ok (.istore 5, 2) := by decide +kernel
theorem d_m_rowsWith_54 : decode c_m_rowsWith 54 = .ok (.iload_n 1, 1) := by decide +kernel
theorem d_m_rowsWith_55 : decode c_m_rowsWith 55 = .ok (.bipush 15, 2) := by decide +kernel
theorem d_m_rowsWith_57 : decode c_m_rowsWith 57 = .ok (.ishr, 1) := by decide +kernel
theorem d_m_rowsWith_58 : decode c_m_rowsWith 58 = .ok (.bipush 31, 2) := by decide +kernel
theorem d_m_rowsWith_60 : decode c_m_rowsWith 60 = .ok (.iand, 1) := by decide +kernel
theorem d_m_rowsWith_61 : decode c_m_rowsWith 61 = .ok (.iload_n 2, 1) := by decide +kernel
theorem d_m_rowsWith_62 : decode c_m_rowsWith 62 = .ok (.iconst 3, 1) := by decide +kernel
theorem d_m_rowsWith_63 : decode c_m_rowsWith 63 = .ok (.if_icmp .ne 7, 3) := by decide +kernel
theorem d_m_rowsWith_66 : decode c_m_rowsWith 66 = .ok (.iconst 1, 1) := by decide +kernel
theorem d_m_rowsWith_67 : decode c_m_rowsWith 67 = .ok (.goto 4, 3) := by decide +kernel
theorem d_m_rowsWith_70 : decode c_m_rowsWith 70 = .ok (.iconst 0, 1) := by decide +kernel
theorem d_m_rowsWith_71 : decode c_m_rowsWith 71 = .ok (.isub, 1) := by decide +kernel
theorem d_m_rowsWith_72 : decode c_m_rowsWith 72 = .ok (.istore 6, 2) := by decide +kernel
theorem d_m_rowsWith_74 : decode c_m_rowsWith 74 = .ok (.aload_n 0, 1) := by decide +kernel
theorem d_m_rowsWith_75 : decode c_m_rowsWith 75 = .ok (.iload_n 3, 1) := by decide +kernel
theorem d_m_rowsWith_76 : decode c_m_rowsWith 76 = .ok (.iload 4, 2) := by decide +kernel
theorem d_m_rowsWith_78 : decode c_m_rowsWith 78 = .ok (.iload 5, 2) := by decide +kernel
theorem d_m_rowsWith_80 : decode c_m_rowsWith 80 = .ok (.iload 6, 2) := by decide +kernel
theorem d_m_rowsWith_82 : decode c_m_rowsWith 82 = .ok (.invokevirtual 54, 3) := by decide +kernel
theorem d_m_rowsWith_85 : decode c_m_rowsWith 85 = .ok (.lreturn, 1) := by decide +kernel
abbrev c_m_unrank : ByteArray := prog_9_method_5_code
def y_m_unrank : MethodName := ⟨"ShortBridgeModel", "unrank", "(J)V"⟩
theorem d_m_unrank_0 : decode c_m_unrank 0 = .ok (.ldc 58, 2) := by decide +kernel
theorem d_m_unrank_2 : decode c_m_unrank 2 = .ok (.istore_n 3, 1) := by decide +kernel
theorem d_m_unrank_3 : decode c_m_unrank 3 = .ok (.lload_n 1, 1) := by decide +kernel
theorem d_m_unrank_4 : decode c_m_unrank 4 = .ok (.lstore 4, 2) := by decide +kernel
theorem d_m_unrank_6 : decode c_m_unrank 6 = .ok (.iconst 0, 1) := by decide +kernel
theorem d_m_unrank_7 : decode c_m_unrank 7 = .ok (.istore 6, 2) := by decide +kernel
theorem d_m_unrank_9 : decode c_m_unrank 9 = .ok (.iload 6, 2) := by decide +kernel
theorem d_m_unrank_11 : decode c_m_unrank 11 = .ok (.bipush 20, 2) := by decide +kernel
theorem d_m_unrank_13 : decode c_m_unrank 13 = .ok (.if_icmp .ge 64, 3) := by decide +kernel
theorem d_m_unrank_16 : decode c_m_unrank 16 = .ok (.iconst 0, 1) := by decide +kernel
theorem d_m_unrank_17 : decode c_m_unrank 17 = .ok (.istore 7, 2) := by decide +kernel
theorem d_m_unrank_19 : decode c_m_unrank 19 = .ok (.lload 4, 2) := by decide +kernel
theorem d_m_unrank_21 : decode c_m_unrank 21 = .ok (.aload_n 0, 1) := by decide +kernel
theorem d_m_unrank_22 : decode c_m_unrank 22 = .ok (.iload_n 3, 1) := by decide +kernel
theorem d_m_unrank_23 : decode c_m_unrank 23 = .ok (.iload 7, 2) := by decide +kernel
theorem d_m_unrank_25 : decode c_m_unrank 25 = .ok (.invokevirtual 59, 3) := by decide +kernel
theorem d_m_unrank_28 : decode c_m_unrank 28 = .ok (.lcmp, 1) := by decide +kernel
theorem d_m_unrank_29 : decode c_m_unrank 29 = .ok (.ifCond .lt 24, 3) := by decide +kernel
theorem d_m_unrank_32 : decode c_m_unrank 32 = .ok (.lload 4, 2) := by decide +kernel
theorem d_m_unrank_34 : decode c_m_unrank 34 = .ok (.aload_n 0, 1) := by decide +kernel
theorem d_m_unrank_35 : decode c_m_unrank 35 = .ok (.iload_n 3, 1) := by decide +kernel
theorem d_m_unrank_36 : decode c_m_unrank 36 = .ok (.iload 7, 2) := by decide +kernel
theorem d_m_unrank_38 : decode c_m_unrank 38 = .ok (.invokevirtual 59, 3) := by decide +kernel
theorem d_m_unrank_41 : decode c_m_unrank 41 = .ok (.lsub, 1) := by decide +kernel
theorem d_m_unrank_42 : decode c_m_unrank 42 = .ok (.lstore 4, 2) := by decide +kernel
theorem d_m_unrank_44 : decode c_m_unrank 44 = .ok (.iload 7, 2) := by decide +kernel
theorem d_m_unrank_46 : decode c_m_unrank 46 = .ok (.iconst 1, 1) := by decide +kernel
theorem d_m_unrank_47 : decode c_m_unrank 47 = .ok (.iadd, 1) := by decide +kernel
theorem d_m_unrank_48 : decode c_m_unrank 48 = .ok (.istore 7, 2) := by decide +kernel
theorem d_m_unrank_50 : decode c_m_unrank 50 = .ok (.goto (-31), 3) := by decide +kernel
theorem d_m_unrank_53 : decode c_m_unrank 53 = .ok (.aload_n 0, 1) := by decide +kernel
theorem d_m_unrank_54 : decode c_m_unrank 54 = .ok (.getfield 7, 3) := by decide +kernel
theorem d_m_unrank_57 : decode c_m_unrank 57 = .ok (.iload 6, 2) := by decide +kernel
theorem d_m_unrank_59 : decode c_m_unrank 59 = .ok (.iload 7, 2) := by decide +kernel
theorem d_m_unrank_61 : decode c_m_unrank 61 = .ok (.iastore, 1) := by decide +kernel
theorem d_m_unrank_62 : decode c_m_unrank 62 = .ok (.iload_n 3, 1) := by decide +kernel
theorem d_m_unrank_63 : decode c_m_unrank 63 = .ok (.iconst 1, 1) := by decide +kernel
theorem d_m_unrank_64 : decode c_m_unrank 64 = .ok (.iconst 5, 1) := by decide +kernel
theorem d_m_unrank_65 : decode c_m_unrank 65 = .ok (.iload 7, 2) := by decide +kernel
theorem d_m_unrank_67 : decode c_m_unrank 67 = .ok (.imul, 1) := by decide +kernel
theorem d_m_unrank_68 : decode c_m_unrank 68 = .ok (.ishl, 1) := by decide +kernel
theorem d_m_unrank_69 : decode c_m_unrank 69 = .ok (.isub, 1) := by decide +kernel
theorem d_m_unrank_70 : decode c_m_unrank 70 = .ok (.istore_n 3, 1) := by decide +kernel
theorem d_m_unrank_71 : decode c_m_unrank 71 = .ok (.iinc 6 1, 3) := by decide +kernel
theorem d_m_unrank_74 : decode c_m_unrank 74 = .ok (.goto (-65), 3) := by decide +kernel
theorem d_m_unrank_77 : decode c_m_unrank 77 = .ok (.return_, 1) := by decide +kernel
abbrev c_m_rank : ByteArray := prog_9_method_6_code
def y_m_rank : MethodName := ⟨"ShortBridgeModel", "rank", "()J"⟩
theorem d_m_rank_0 : decode c_m_rank 0 = .ok (.ldc 58, 2) := by decide +kernel
theorem d_m_rank_2 : decode c_m_rank 2 = .ok (.istore_n 1, 1) := by decide +kernel
theorem d_m_rank_3 : decode c_m_rank 3 = .ok (.lconst 0, 1) := by decide +kernel
theorem d_m_rank_4 : decode c_m_rank 4 = .ok (.lstore_n 2, 1) := by decide +kernel
theorem d_m_rank_5 : decode c_m_rank 5 = .ok (.iconst 0, 1) := by decide +kernel
theorem d_m_rank_6 : decode c_m_rank 6 = .ok (.istore 4, 2) := by decide +kernel
theorem d_m_rank_8 : decode c_m_rank 8 = .ok (.iload 4, 2) := by decide +kernel
theorem d_m_rank_10 : decode c_m_rank 10 = .ok (.bipush 20, 2) := by decide +kernel
theorem d_m_rank_12 : decode c_m_rank 12 = .ok (.if_icmp .ge 54, 3) := by decide +kernel
theorem d_m_rank_15 : decode c_m_rank 15 = .ok (.iconst 0, 1) := by decide +kernel
theorem d_m_rank_16 : decode c_m_rank 16 = .ok (.istore 5, 2) := by decide +kernel
theorem d_m_rank_18 : decode c_m_rank 18 = .ok (.iload 5, 2) := by decide +kernel
theorem d_m_rank_20 : decode c_m_rank 20 = .ok (.aload_n 0, 1) := by decide +kernel
theorem d_m_rank_21 : decode c_m_rank 21 = .ok (.getfield 7, 3) := by decide +kernel
theorem d_m_rank_24 : decode c_m_rank 24 = .ok (.iload 4, 2) := by decide +kernel
theorem d_m_rank_26 : decode c_m_rank 26 = .ok (.iaload, 1) := by decide +kernel
theorem d_m_rank_27 : decode c_m_rank 27 = .ok (.if_icmp .ge 19, 3) := by decide +kernel
theorem d_m_rank_30 : decode c_m_rank 30 = .ok (.lload_n 2, 1) := by decide +kernel
theorem d_m_rank_31 : decode c_m_rank 31 = .ok (.aload_n 0, 1) := by decide +kernel
theorem d_m_rank_32 : decode c_m_rank 32 = .ok (.iload_n 1, 1) := by decide +kernel
theorem d_m_rank_33 : decode c_m_rank 33 = .ok (.iload 5, 2) := by decide +kernel
theorem d_m_rank_35 : decode c_m_rank 35 = .ok (.invokevirtual 59, 3) := by decide +kernel
theorem d_m_rank_38 : decode c_m_rank 38 = .ok (.ladd, 1) := by decide +kernel
theorem d_m_rank_39 : decode c_m_rank 39 = .ok (.lstore_n 2, 1) := by decide +kernel
theorem d_m_rank_40 : decode c_m_rank 40 = .ok (.iinc 5 1, 3) := by decide +kernel
theorem d_m_rank_43 : decode c_m_rank 43 = .ok (.goto (-25), 3) := by decide +kernel
theorem d_m_rank_46 : decode c_m_rank 46 = .ok (.iload_n 1, 1) := by decide +kernel
theorem d_m_rank_47 : decode c_m_rank 47 = .ok (.iconst 1, 1) := by decide +kernel
theorem d_m_rank_48 : decode c_m_rank 48 = .ok (.iconst 5, 1) := by decide +kernel
theorem d_m_rank_49 : decode c_m_rank 49 = .ok (.aload_n 0, 1) := by decide +kernel
theorem d_m_rank_50 : decode c_m_rank 50 = .ok (.getfield 7, 3) := by decide +kernel
theorem d_m_rank_53 : decode c_m_rank 53 = .ok (.iload 4, 2) := by decide +kernel
theorem d_m_rank_55 : decode c_m_rank 55 = .ok (.iaload, 1) := by decide +kernel
theorem d_m_rank_56 : decode c_m_rank 56 = .ok (.imul, 1) := by decide +kernel
theorem d_m_rank_57 : decode c_m_rank 57 = .ok (.ishl, 1) := by decide +kernel
theorem d_m_rank_58 : decode c_m_rank 58 = .ok (.isub, 1) := by decide +kernel
theorem d_m_rank_59 : decode c_m_rank 59 = .ok (.istore_n 1, 1) := by decide +kernel
theorem d_m_rank_60 : decode c_m_rank 60 = .ok (.iinc 4 1, 3) := by decide +kernel
theorem d_m_rank_63 : decode c_m_rank 63 = .ok (.goto (-55), 3) := by decide +kernel
theorem d_m_rank_66 : decode c_m_rank 66 = .ok (.lload_n 2, 1) := by decide +kernel
theorem d_m_rank_67 : decode c_m_rank 67 = .ok (.lreturn, 1) := by decide +kernel
abbrev c_m_begin : ByteArray := prog_9_method_7_code
def y_m_begin : MethodName := ⟨"ShortBridgeModel", "begin", "(II)V"⟩
theorem d_m_begin_0 : decode c_m_begin 0 = .ok (.aload_n 0, 1) := by decide +kernel
theorem d_m_begin_1 : decode c_m_begin 1 = .ok (.iconst 1, 1) := by decide +kernel
theorem d_m_begin_2 : decode c_m_begin 2 = .ok (.putfield 63, 3) := by decide +kernel
theorem d_m_begin_5 : decode c_m_begin 5 = .ok (.aload_n 0, 1) := by decide +kernel
theorem d_m_begin_6 : decode c_m_begin 6 = .ok (.aload_n 0, 1) := by decide +kernel
theorem d_m_begin_7 : decode c_m_begin 7 = .ok (.invokevirtual 67, 3) := by decide +kernel
theorem d_m_begin_10 : decode c_m_begin 10 = .ok (.putfield 71, 3) := by decide +kernel
theorem d_m_begin_13 : decode c_m_begin 13 = .ok (.aload_n 0, 1) := by decide +kernel
theorem d_m_begin_14 : decode c_m_begin 14 = .ok (.iload_n 1, 1) := by decide +kernel
theorem d_m_begin_15 : decode c_m_begin 15 = .ok (.putfield 75, 3) := by decide +kernel
theorem d_m_begin_18 : decode c_m_begin 18 = .ok (.aload_n 0, 1) := by decide +kernel
theorem d_m_begin_19 : decode c_m_begin 19 = .ok (.iload_n 2, 1) := by decide +kernel
theorem d_m_begin_20 : decode c_m_begin 20 = .ok (.putfield 78, 3) := by decide +kernel
theorem d_m_begin_23 : decode c_m_begin 23 = .ok (.aload_n 0, 1) := by decide +kernel
theorem d_m_begin_24 : decode c_m_begin 24 = .ok (.iconst 0, 1) := by decide +kernel
theorem d_m_begin_25 : decode c_m_begin 25 = .ok (.putfield 81, 3) := by decide +kernel
theorem d_m_begin_28 : decode c_m_begin 28 = .ok (.aload_n 0, 1) := by decide +kernel
theorem d_m_begin_29 : decode c_m_begin 29 = .ok (.iconst 0, 1) := by decide +kernel
theorem d_m_begin_30 : decode c_m_begin 30 = .ok (.putfield 84, 3) := by decide +kernel
theorem d_m_begin_33 : decode c_m_begin 33 = .ok (.return_, 1) := by decide +kernel
abbrev c_m_isPlayer : ByteArray := prog_9_method_8_code
def y_m_isPlayer : MethodName := ⟨"ShortBridgeModel", "isPlayer", "(I)Z"⟩
theorem d_m_isPlayer_0 : decode c_m_isPlayer 0 = .ok (.iload_n 0, 1) := by decide +kernel
theorem d_m_isPlayer_1 : decode c_m_isPlayer 1 = .ok (.ifCond .lt 12, 3) := by decide +kernel
theorem d_m_isPlayer_4 : decode c_m_isPlayer 4 = .ok (.iload_n 0, 1) := by decide +kernel
theorem d_m_isPlayer_5 : decode c_m_isPlayer 5 = .ok (.iconst 4, 1) := by decide +kernel
theorem d_m_isPlayer_6 : decode c_m_isPlayer 6 = .ok (.if_icmp .ge 7, 3) := by decide +kernel
theorem d_m_isPlayer_9 : decode c_m_isPlayer 9 = .ok (.iconst 1, 1) := by decide +kernel
theorem d_m_isPlayer_10 : decode c_m_isPlayer 10 = .ok (.goto 4, 3) := by decide +kernel
theorem d_m_isPlayer_13 : decode c_m_isPlayer 13 = .ok (.iconst 0, 1) := by decide +kernel
theorem d_m_isPlayer_14 : decode c_m_isPlayer 14 = .ok (.ireturn, 1) := by decide +kernel
abbrev c_m_deal : ByteArray := prog_9_method_9_code
def y_m_deal : MethodName := ⟨"ShortBridgeModel", "deal", "(JII)Z"⟩
theorem d_m_deal_0 : decode c_m_deal 0 = .ok (.aload_n 0, 1) := by decide +kernel
theorem d_m_deal_1 : decode c_m_deal 1 = .ok (.iconst 0, 1) := by decide +kernel
theorem d_m_deal_2 : decode c_m_deal 2 = .ok (.putfield 50, 3) := by decide +kernel
theorem d_m_deal_5 : decode c_m_deal 5 = .ok (.lload_n 1, 1) := by decide +kernel
theorem d_m_deal_6 : decode c_m_deal 6 = .ok (.lconst 0, 1) := by decide +kernel
theorem d_m_deal_7 : decode c_m_deal 7 = .ok (.lcmp, 1) := by decide +kernel
theorem d_m_deal_8 : decode c_m_deal 8 = .ok (.ifCond .lt 29, 3) := by decide +kernel
theorem d_m_deal_11 : decode c_m_deal 11 = .ok (.lload_n 1, 1) := by decide +kernel
theorem d_m_deal_12 : decode c_m_deal 12 = .ok (.ldc2_w 87, 3) := by decide +kernel
theorem d_m_deal_15 : decode c_m_deal 15 = .ok (.lcmp, 1) := by decide +kernel
theorem d_m_deal_16 : decode c_m_deal 16 = .ok (.ifCond .ge 21, 3) := by decide +kernel
theorem d_m_deal_19 : decode c_m_deal 19 = .ok (.iload_n 3, 1) := by decide +kernel
theorem d_m_deal_20 : decode c_m_deal 20 = .ok (.invokestatic 89, 3) := by decide +kernel
theorem d_m_deal_23 : decode c_m_deal 23 = .ok (.ifCond .eq 14, 3) := by decide +kernel
theorem d_m_deal_26 : decode c_m_deal 26 = .ok (.iload 4, 2) := by decide +kernel
theorem d_m_deal_28 : decode c_m_deal 28 = .ok (.ifCond .lt 9, 3) := by decide +kernel
theorem d_m_deal_31 : decode c_m_deal 31 = .ok (.iload 4, 2) := by decide +kernel
theorem d_m_deal_33 : decode c_m_deal 33 = .ok (.iconst 3, 1) := by decide +kernel
theorem d_m_deal_34 : decode c_m_deal 34 = .ok (.if_icmp .le 5, 3) := by decide +kernel
theorem d_m_deal_37 : decode c_m_deal 37 = .ok (.iconst 0, 1) := by decide +kernel
theorem d_m_deal_38 : decode c_m_deal 38 = .ok (.ireturn, 1) := by decide +kernel
theorem d_m_deal_39 : decode c_m_deal 39 = .ok (.aload_n 0, 1) := by decide +kernel
theorem d_m_deal_40 : decode c_m_deal 40 = .ok (.lload_n 1, 1) := by decide +kernel
theorem d_m_deal_41 : decode c_m_deal 41 = .ok (.invokevirtual 93, 3) := by decide +kernel
theorem d_m_deal_44 : decode c_m_deal 44 = .ok (.aload_n 0, 1) := by decide +kernel
theorem d_m_deal_45 : decode c_m_deal 45 = .ok (.iload_n 3, 1) := by decide +kernel
theorem d_m_deal_46 : decode c_m_deal 46 = .ok (.iload 4, 2) := by decide +kernel
theorem d_m_deal_48 : decode c_m_deal 48 = .ok (.invokevirtual 97, 3) := by decide +kernel
theorem d_m_deal_51 : decode c_m_deal 51 = .ok (.iconst 1, 1) := by decide +kernel
theorem d_m_deal_52 : decode c_m_deal 52 = .ok (.ireturn, 1) := by decide +kernel
abbrev c_m_shuffle : ByteArray := prog_9_method_10_code
def y_m_shuffle : MethodName := ⟨"ShortBridgeModel", "shuffle", "(JII)J"⟩
theorem d_m_shuffle_0 : decode c_m_shuffle 0 = .ok (.aload_n 0, 1) := by decide +kernel
theorem d_m_shuffle_1 : decode c_m_shuffle 1 = .ok (.iconst 0, 1) := by decide +kernel
theorem d_m_shuffle_2 : decode c_m_shuffle 2 = .ok (.putfield 50, 3) := by decide +kernel
theorem d_m_shuffle_5 : decode c_m_shuffle 5 = .ok (.iload_n 3, 1) := by decide +kernel
theorem d_m_shuffle_6 : decode c_m_shuffle 6 = .ok (.invokestatic 89, 3) := by decide +kernel
theorem d_m_shuffle_9 : decode c_m_shuffle 9 = .ok (.ifCond .eq 14, 3) := by decide +kernel
theorem d_m_shuffle_12 : decode c_m_shuffle 12 = .ok (.iload 4, 2) := by decide +kernel
theorem d_m_shuffle_14 : decode c_m_shuffle 14 = .ok (.ifCond .lt 9, 3) := by decide +kernel
theorem d_m_shuffle_17 : decode c_m_shuffle 17 = .ok (.iload 4, 2) := by decide +kernel
theorem d_m_shuffle_19 : decode c_m_shuffle 19 = .ok (.iconst 3, 1) := by decide +kernel
theorem d_m_shuffle_20 : decode c_m_shuffle 20 = .ok (.if_icmp .le 7, 3) := by decide +kernel
theorem d_m_shuffle_23 : decode c_m_shuffle 23 = .ok (.ldc2_w 101, 3) := by decide +kernel
theorem d_m_shuffle_26 : decode c_m_shuffle 26 = .ok (.lreturn, 1) := by decide +kernel
theorem d_m_shuffle_27 : decode c_m_shuffle 27 = .ok (.iconst 0, 1) := by decide +kernel
theorem d_m_shuffle_28 : decode c_m_shuffle 28 = .ok (.istore 5, 2) := by decide +kernel
theorem d_m_shuffle_30 : decode c_m_shuffle 30 = .ok (.iload 5, 2) := by decide +kernel
theorem d_m_shuffle_32 : decode c_m_shuffle 32 = .ok (.bipush 20, 2) := by decide +kernel
theorem d_m_shuffle_34 : decode c_m_shuffle 34 = .ok (.if_icmp .ge 18, 3) := by decide +kernel
theorem d_m_shuffle_37 : decode c_m_shuffle 37 = .ok (.aload_n 0, 1) := by decide +kernel
theorem d_m_shuffle_38 : decode c_m_shuffle 38 = .ok (.getfield 32, 3) := by decide +kernel
theorem d_m_shuffle_41 : decode c_m_shuffle 41 = .ok (.iload 5, 2) := by decide +kernel
theorem d_m_shuffle_43 : decode c_m_shuffle 43 = .ok (.iload 5, 2) := by decide +kernel
theorem d_m_shuffle_45 : decode c_m_shuffle 45 = .ok (.iastore, 1) := by decide +kernel
theorem d_m_shuffle_46 : decode c_m_shuffle 46 = .ok (.iinc 5 1, 3) := by decide +kernel
theorem d_m_shuffle_49 : decode c_m_shuffle 49 = .ok (.goto (-19), 3) := by decide +kernel
theorem d_m_shuffle_52 : decode c_m_shuffle 52 = .ok (.lload_n 1, 1) := by decide +kernel
theorem d_m_shuffle_53 : decode c_m_shuffle 53 = .ok (.lstore 5, 2) := by decide +kernel
theorem d_m_shuffle_55 : decode c_m_shuffle 55 = .ok (.bipush 19, 2) := by decide +kernel
theorem d_m_shuffle_57 : decode c_m_shuffle 57 = .ok (.istore 7, 2) := by decide +kernel
theorem d_m_shuffle_59 : decode c_m_shuffle 59 = .ok (.iload 7, 2) := by decide +kernel
theorem d_m_shuffle_61 : decode c_m_shuffle 61 = .ok (.ifCond .le 67, 3) := by decide +kernel
theorem d_m_shuffle_64 : decode c_m_shuffle 64 = .ok (.lload 5, 2) := by decide +kernel
theorem d_m_shuffle_66 : decode c_m_shuffle 66 = .ok (.ldc2_w 103, 3) := by decide +kernel
theorem d_m_shuffle_69 : decode c_m_shuffle 69 = .ok (.lmul, 1) := by decide +kernel
theorem d_m_shuffle_70 : decode c_m_shuffle 70 = .ok (.ldc2_w 105, 3) := by decide +kernel
theorem d_m_shuffle_73 : decode c_m_shuffle 73 = .ok (.ladd, 1) := by decide +kernel
theorem d_m_shuffle_74 : decode c_m_shuffle 74 = .ok (.lstore 5, 2) := by decide +kernel
theorem d_m_shuffle_76 : decode c_m_shuffle 76 = .ok (.lload 5, 2) := by decide +kernel
theorem d_m_shuffle_78 : decode c_m_shuffle 78 = .ok (.bipush 33, 2) := by decide +kernel
theorem d_m_shuffle_80 : decode c_m_shuffle 80 = .ok (.lushr, 1) := by decide +kernel
theorem d_m_shuffle_81 : decode c_m_shuffle 81 = .ok (.iload 7, 2) := by decide +kernel
theorem d_m_shuffle_83 : decode c_m_shuffle 83 = .ok (.iconst 1, 1) := by decide +kernel
theorem d_m_shuffle_84 : decode c_m_shuffle 84 = .ok (.iadd, 1) := by decide +kernel
theorem d_m_shuffle_85 : decode c_m_shuffle 85 = .ok (.i2l, 1) := by decide +kernel
theorem d_m_shuffle_86 : decode c_m_shuffle 86 = .ok (.lrem, 1) := by decide +kernel
theorem d_m_shuffle_87 : decode c_m_shuffle 87 = .ok (.l2i, 1) := by decide +kernel
theorem d_m_shuffle_88 : decode c_m_shuffle 88 = .ok (.istore 8, 2) := by decide +kernel
theorem d_m_shuffle_90 : decode c_m_shuffle 90 = .ok (.aload_n 0, 1) := by decide +kernel
theorem d_m_shuffle_91 : decode c_m_shuffle 91 = .ok (.getfield 32, 3) := by decide +kernel
theorem d_m_shuffle_94 : decode c_m_shuffle 94 = .ok (.iload 7, 2) := by decide +kernel
theorem d_m_shuffle_96 : decode c_m_shuffle 96 = .ok (.iaload, 1) := by decide +kernel
theorem d_m_shuffle_97 : decode c_m_shuffle 97 = .ok (.istore 9, 2) := by decide +kernel
theorem d_m_shuffle_99 : decode c_m_shuffle 99 = .ok (.aload_n 0, 1) := by decide +kernel
theorem d_m_shuffle_100 : decode c_m_shuffle 100 = .ok (.getfield 32, 3) := by decide +kernel
theorem d_m_shuffle_103 : decode c_m_shuffle 103 = .ok (.iload 7, 2) := by decide +kernel
theorem d_m_shuffle_105 : decode c_m_shuffle 105 = .ok (.aload_n 0, 1) := by decide +kernel
theorem d_m_shuffle_106 : decode c_m_shuffle 106 = .ok (.getfield 32, 3) := by decide +kernel
theorem d_m_shuffle_109 : decode c_m_shuffle 109 = .ok (.iload 8, 2) := by decide +kernel
theorem d_m_shuffle_111 : decode c_m_shuffle 111 = .ok (.iaload, 1) := by decide +kernel
theorem d_m_shuffle_112 : decode c_m_shuffle 112 = .ok (.iastore, 1) := by decide +kernel
theorem d_m_shuffle_113 : decode c_m_shuffle 113 = .ok (.aload_n 0, 1) := by decide +kernel
theorem d_m_shuffle_114 : decode c_m_shuffle 114 = .ok (.getfield 32, 3) := by decide +kernel
theorem d_m_shuffle_117 : decode c_m_shuffle 117 = .ok (.iload 8, 2) := by decide +kernel
theorem d_m_shuffle_119 : decode c_m_shuffle 119 = .ok (.iload 9, 2) := by decide +kernel
theorem d_m_shuffle_121 : decode c_m_shuffle 121 = .ok (.iastore, 1) := by decide +kernel
theorem d_m_shuffle_122 : decode c_m_shuffle 122 = .ok (.iinc 7 (-1), 3) := by decide +kernel
theorem d_m_shuffle_125 : decode c_m_shuffle 125 = .ok (.goto (-66), 3) := by decide +kernel
theorem d_m_shuffle_128 : decode c_m_shuffle 128 = .ok (.iconst 0, 1) := by decide +kernel
theorem d_m_shuffle_129 : decode c_m_shuffle 129 = .ok (.istore 7, 2) := by decide +kernel
theorem d_m_shuffle_131 : decode c_m_shuffle 131 = .ok (.iload 7, 2) := by decide +kernel
theorem d_m_shuffle_133 : decode c_m_shuffle 133 = .ok (.bipush 20, 2) := by decide +kernel
theorem d_m_shuffle_135 : decode c_m_shuffle 135 = .ok (.if_icmp .ge 25, 3) := by decide +kernel
theorem d_m_shuffle_138 : decode c_m_shuffle 138 = .ok (.aload_n 0, 1) := by decide +kernel
theorem d_m_shuffle_139 : decode c_m_shuffle 139 = .ok (.getfield 7, 3) := by decide +kernel
theorem d_m_shuffle_142 : decode c_m_shuffle 142 = .ok (.aload_n 0, 1) := by decide +kernel
theorem d_m_shuffle_143 : decode c_m_shuffle 143 = .ok (.getfield 32, 3) := by decide +kernel
theorem d_m_shuffle_146 : decode c_m_shuffle 146 = .ok (.iload 7, 2) := by decide +kernel
theorem d_m_shuffle_148 : decode c_m_shuffle 148 = .ok (.iaload, 1) := by decide +kernel
theorem d_m_shuffle_149 : decode c_m_shuffle 149 = .ok (.iload 7, 2) := by decide +kernel
theorem d_m_shuffle_151 : decode c_m_shuffle 151 = .ok (.iconst 5, 1) := by decide +kernel
theorem d_m_shuffle_152 : decode c_m_shuffle 152 = .ok (.idiv, 1) := by decide +kernel
theorem d_m_shuffle_153 : decode c_m_shuffle 153 = .ok (.iastore, 1) := by decide +kernel
theorem d_m_shuffle_154 : decode c_m_shuffle 154 = .ok (.iinc 7 1, 3) := by decide +kernel
theorem d_m_shuffle_157 : decode c_m_shuffle 157 = .ok (.goto (-26), 3) := by decide +kernel
theorem d_m_shuffle_160 : decode c_m_shuffle 160 = .ok (.aload_n 0, 1) := by decide +kernel
theorem d_m_shuffle_161 : decode c_m_shuffle 161 = .ok (.iload_n 3, 1) := by decide +kernel
theorem d_m_shuffle_162 : decode c_m_shuffle 162 = .ok (.iload 4, 2) := by decide +kernel
theorem d_m_shuffle_164 : decode c_m_shuffle 164 = .ok (.invokevirtual 97, 3) := by decide +kernel
theorem d_m_shuffle_167 : decode c_m_shuffle 167 = .ok (.aload_n 0, 1) := by decide +kernel
theorem d_m_shuffle_168 : decode c_m_shuffle 168 = .ok (.getfield 71, 3) := by decide +kernel
theorem d_m_shuffle_171 : decode c_m_shuffle 171 = .ok (.lreturn, 1) := by decide +kernel
abbrev c_m_number : ByteArray := prog_9_method_11_code
def y_m_number : MethodName := ⟨"ShortBridgeModel", "number", "()J"⟩
theorem d_m_number_0 : decode c_m_number 0 = .ok (.aload_n 0, 1) := by decide +kernel
theorem d_m_number_1 : decode c_m_number 1 = .ok (.iconst 0, 1) := by decide +kernel
theorem d_m_number_2 : decode c_m_number 2 = .ok (.putfield 50, 3) := by decide +kernel
theorem d_m_number_5 : decode c_m_number 5 = .ok (.aload_n 0, 1) := by decide +kernel
theorem d_m_number_6 : decode c_m_number 6 = .ok (.getfield 63, 3) := by decide +kernel
theorem d_m_number_9 : decode c_m_number 9 = .ok (.ifCond .eq 10, 3) := by decide +kernel
theorem d_m_number_12 : decode c_m_number 12 = .ok (.aload_n 0, 1) := by decide +kernel
theorem d_m_number_13 : decode c_m_number 13 = .ok (.getfield 71, 3) := by decide +kernel
theorem d_m_number_16 : decode c_m_number 16 = .ok (.goto 6, 3) := by decide +kernel
theorem d_m_number_19 : decode c_m_number 19 = .ok (.ldc2_w 101, 3) := by decide +kernel
theorem d_m_number_22 : decode c_m_number 22 = .ok (.lreturn, 1) := by decide +kernel
abbrev c_m_callerAt : ByteArray := prog_9_method_12_code
def y_m_callerAt : MethodName := ⟨"ShortBridgeModel", "callerAt", "(I)I"⟩
theorem d_m_callerAt_0 : decode c_m_callerAt 0 = .ok (.aload_n 0, 1) := by decide +kernel
theorem d_m_callerAt_1 : decode c_m_callerAt 1 = .ok (.getfield 75, 3) := by decide +kernel
theorem d_m_callerAt_4 : decode c_m_callerAt 4 = .ok (.iload_n 1, 1) := by decide +kernel
theorem d_m_callerAt_5 : decode c_m_callerAt 5 = .ok (.iadd, 1) := by decide +kernel
theorem d_m_callerAt_6 : decode c_m_callerAt 6 = .ok (.iconst 3, 1) := by decide +kernel
theorem d_m_callerAt_7 : decode c_m_callerAt 7 = .ok (.iand, 1) := by decide +kernel
theorem d_m_callerAt_8 : decode c_m_callerAt 8 = .ok (.ireturn, 1) := by decide +kernel
abbrev c_m_latestBefore : ByteArray := prog_9_method_13_code
def y_m_latestBefore : MethodName := ⟨"ShortBridgeModel", "latestBefore", "(I)I"⟩
theorem d_m_latestBefore_0 : decode c_m_latestBefore 0 = .ok (.iload_n 1, 1) := by decide +kernel
theorem d_m_latestBefore_1 : decode c_m_latestBefore 1 = .ok (.iconst 1, 1) := by decide +kernel
theorem d_m_latestBefore_2 : decode c_m_latestBefore 2 = .ok (.isub, 1) := by decide +kernel
theorem d_m_latestBefore_3 : decode c_m_latestBefore 3 = .ok (.istore_n 2, 1) := by decide +kernel
theorem d_m_latestBefore_4 : decode c_m_latestBefore 4 = .ok (.iload_n 2, 1) := by decide +kernel
theorem d_m_latestBefore_5 : decode c_m_latestBefore 5 = .ok (.ifCond .lt 19, 3) := by decide +kernel
theorem d_m_latestBefore_8 : decode c_m_latestBefore 8 = .ok (.aload_n 0, 1) := by decide +kernel
theorem d_m_latestBefore_9 : decode c_m_latestBefore 9 = .ok (.getfield 17, 3) := by decide +kernel
theorem d_m_latestBefore_12 : decode c_m_latestBefore 12 = .ok (.iload_n 2, 1) := by decide +kernel
theorem d_m_latestBefore_13 : decode c_m_latestBefore 13 = .ok (.iaload, 1) := by decide +kernel
theorem d_m_latestBefore_14 : decode c_m_latestBefore 14 = .ok (.ifCond .ne 10, 3) := by decide +kernel
theorem d_m_latestBefore_17 : decode c_m_latestBefore 17 = .ok (.iload_n 2, 1) := by decide +kernel
theorem d_m_latestBefore_18 : decode c_m_latestBefore 18 = .ok (.iconst 1, 1) := by decide +kernel
theorem d_m_latestBefore_19 : decode c_m_latestBefore 19 = .ok (.isub, 1) := by decide +kernel
theorem d_m_latestBefore_20 : decode c_m_latestBefore 20 = .ok (.istore_n 2, 1) := by decide +kernel
theorem d_m_latestBefore_21 : decode c_m_latestBefore 21 = .ok (.goto (-17), 3) := by decide +kernel
theorem d_m_latestBefore_24 : decode c_m_latestBefore 24 = .ok (.iload_n 2, 1) := by decide +kernel
theorem d_m_latestBefore_25 : decode c_m_latestBefore 25 = .ok (.ireturn, 1) := by decide +kernel
abbrev c_m_readCalls : ByteArray := prog_9_method_14_code
def y_m_readCalls : MethodName := ⟨"ShortBridgeModel", "readCalls", "()V"⟩
theorem d_m_readCalls_0 : decode c_m_readCalls 0 = .ok (.aload_n 0, 1) := by decide +kernel
theorem d_m_readCalls_1 : decode c_m_readCalls 1 = .ok (.iconst 0, 1) := by decide +kernel
theorem d_m_readCalls_2 : decode c_m_readCalls 2 = .ok (.putfield 107, 3) := by decide +kernel
theorem d_m_readCalls_5 : decode c_m_readCalls 5 = .ok (.aload_n 0, 1) := by decide +kernel
theorem d_m_readCalls_6 : decode c_m_readCalls 6 = .ok (.iconst 0, 1) := by decide +kernel
theorem d_m_readCalls_7 : decode c_m_readCalls 7 = .ok (.putfield 110, 3) := by decide +kernel
theorem d_m_readCalls_10 : decode c_m_readCalls 10 = .ok (.iconst 0, 1) := by decide +kernel
theorem d_m_readCalls_11 : decode c_m_readCalls 11 = .ok (.istore_n 1, 1) := by decide +kernel
theorem d_m_readCalls_12 : decode c_m_readCalls 12 = .ok (.iload_n 1, 1) := by decide +kernel
theorem d_m_readCalls_13 : decode c_m_readCalls 13 = .ok (.aload_n 0, 1) := by decide +kernel
theorem d_m_readCalls_14 : decode c_m_readCalls 14 = .ok (.getfield 81, 3) := by decide +kernel
theorem d_m_readCalls_17 : decode c_m_readCalls 17 = .ok (.if_icmp .ge 65, 3) := by decide +kernel
theorem d_m_readCalls_20 : decode c_m_readCalls 20 = .ok (.aload_n 0, 1) := by decide +kernel
theorem d_m_readCalls_21 : decode c_m_readCalls 21 = .ok (.getfield 17, 3) := by decide +kernel
theorem d_m_readCalls_24 : decode c_m_readCalls 24 = .ok (.iload_n 1, 1) := by decide +kernel
theorem d_m_readCalls_25 : decode c_m_readCalls 25 = .ok (.iaload, 1) := by decide +kernel
theorem d_m_readCalls_26 : decode c_m_readCalls 26 = .ok (.iconst 2, 1) := by decide +kernel
theorem d_m_readCalls_27 : decode c_m_readCalls 27 = .ok (.if_icmp .le 30, 3) := by decide +kernel
theorem d_m_readCalls_30 : decode c_m_readCalls 30 = .ok (.aload_n 0, 1) := by decide +kernel
theorem d_m_readCalls_31 : decode c_m_readCalls 31 = .ok (.aload_n 0, 1) := by decide +kernel
theorem d_m_readCalls_32 : decode c_m_readCalls 32 = .ok (.getfield 17, 3) := by decide +kernel
theorem d_m_readCalls_35 : decode c_m_readCalls 35 = .ok (.iload_n 1, 1) := by decide +kernel
theorem d_m_readCalls_36 : decode c_m_readCalls 36 = .ok (.iaload, 1) := by decide +kernel
theorem d_m_readCalls_37 : decode c_m_readCalls 37 = .ok (.putfield 107, 3) := by decide +kernel
theorem d_m_readCalls_40 : decode c_m_readCalls 40 = .ok (.aload_n 0, 1) := by decide +kernel
theorem d_m_readCalls_41 : decode c_m_readCalls 41 = .ok (.iconst 0, 1) := by decide +kernel
theorem d_m_readCalls_42 : decode c_m_readCalls 42 = .ok (.putfield 110, 3) := by decide +kernel
theorem d_m_readCalls_45 : decode c_m_readCalls 45 = .ok (.aload_n 0, 1) := by decide +kernel
theorem d_m_readCalls_46 : decode c_m_readCalls 46 = .ok (.aload_n 0, 1) := by decide +kernel
theorem d_m_readCalls_47 : decode c_m_readCalls 47 = .ok (.iload_n 1, 1) := by decide +kernel
theorem d_m_readCalls_48 : decode c_m_readCalls 48 = .ok (.invokevirtual 113, 3) := by decide +kernel
theorem d_m_readCalls_51 : decode c_m_readCalls 51 = .ok (.putfield 117, 3) := by decide +kernel
theorem d_m_readCalls_54 : decode c_m_readCalls 54 = .ok (.goto 22, 3) := by decide +kernel
theorem d_m_readCalls_57 : decode c_m_readCalls 57 = .ok (.aload_n 0, 1) := by decide +kernel
theorem d_m_readCalls_58 : decode c_m_readCalls 58 = .ok (.getfield 17, 3) := by decide +kernel
theorem d_m_readCalls_61 : decode c_m_readCalls 61 = .ok (.iload_n 1, 1) := by decide +kernel
theorem d_m_readCalls_62 : decode c_m_readCalls 62 = .ok (.iaload, 1) := by decide +kernel
theorem d_m_readCalls_63 : decode c_m_readCalls 63 = .ok (.ifCond .le 13, 3) := by decide +kernel
theorem d_m_readCalls_66 : decode c_m_readCalls 66 = .ok (.aload_n 0, 1) := by decide +kernel
theorem d_m_readCalls_67 : decode c_m_readCalls 67 = .ok (.aload_n 0, 1) := by decide +kernel
theorem d_m_readCalls_68 : decode c_m_readCalls 68 = .ok (.getfield 17, 3) := by decide +kernel
theorem d_m_readCalls_71 : decode c_m_readCalls 71 = .ok (.iload_n 1, 1) := by decide +kernel
theorem d_m_readCalls_72 : decode c_m_readCalls 72 = .ok (.iaload, 1) := by decide +kernel
theorem d_m_readCalls_73 : decode c_m_readCalls 73 = .ok (.putfield 110, 3) := by decide +kernel
theorem d_m_readCalls_76 : decode c_m_readCalls 76 = .ok (.iinc 1 1, 3) := by decide +kernel
theorem d_m_readCalls_79 : decode c_m_readCalls 79 = .ok (.goto (-67), 3) := by decide +kernel
theorem d_m_readCalls_82 : decode c_m_readCalls 82 = .ok (.aload_n 0, 1) := by decide +kernel
theorem d_m_readCalls_83 : decode c_m_readCalls 83 = .ok (.aload_n 0, 1) := by decide +kernel
theorem d_m_readCalls_84 : decode c_m_readCalls 84 = .ok (.getfield 81, 3) := by decide +kernel
theorem d_m_readCalls_87 : decode c_m_readCalls 87 = .ok (.invokevirtual 120, 3) := by decide +kernel
theorem d_m_readCalls_90 : decode c_m_readCalls 90 = .ok (.istore_n 1, 1) := by decide +kernel
theorem d_m_readCalls_91 : decode c_m_readCalls 91 = .ok (.aload_n 0, 1) := by decide +kernel
theorem d_m_readCalls_92 : decode c_m_readCalls 92 = .ok (.iload_n 1, 1) := by decide +kernel
theorem d_m_readCalls_93 : decode c_m_readCalls 93 = .ok (.ifCond .ge 19, 3) := by decide +kernel
theorem d_m_readCalls_96 : decode c_m_readCalls 96 = .ok (.aload_n 0, 1) := by decide +kernel
theorem d_m_readCalls_97 : decode c_m_readCalls 97 = .ok (.getfield 81, 3) := by decide +kernel
theorem d_m_readCalls_100 : decode c_m_readCalls 100 = .ok (.iconst 4, 1) := by decide +kernel
theorem d_m_readCalls_101 : decode c_m_readCalls 101 = .ok (.if_icmp .ne 7, 3) := by decide +kernel
theorem d_m_readCalls_104 : decode c_m_readCalls 104 = .ok (.iconst 1, 1) := by decide +kernel
theorem d_m_readCalls_105 : decode c_m_readCalls 105 = .ok (.goto 22, 3) := by decide +kernel
theorem d_m_readCalls_108 : decode c_m_readCalls 108 = .ok (.iconst 0, 1) := by decide +kernel
theorem d_m_readCalls_109 : decode c_m_readCalls 109 = .ok (.goto 18, 3) := by decide +kernel
theorem d_m_readCalls_112 : decode c_m_readCalls 112 = .ok (.aload_n 0, 1) := by decide +kernel
theorem d_m_readCalls_113 : decode c_m_readCalls 113 = .ok (.getfield 81, 3) := by decide +kernel
theorem d_m_readCalls_116 : decode c_m_readCalls 116 = .ok (.iload_n 1, 1) := by decide +kernel
theorem d_m_readCalls_117 : decode c_m_readCalls 117 = .ok (.isub, 1) := by decide +kernel
theorem d_m_readCalls_118 : decode c_m_readCalls 118 = .ok (.iconst 4, 1) := by decide +kernel
theorem d_m_readCalls_119 : decode c_m_readCalls 119 = .ok (.if_icmp .ne 7, 3) := by decide +kernel
theorem d_m_readCalls_122 : decode c_m_readCalls 122 = .ok (.iconst 1, 1) := by decide +kernel
theorem d_m_readCalls_123 : decode c_m_readCalls 123 = .ok (.goto 4, 3) := by decide +kernel
theorem d_m_readCalls_126 : decode c_m_readCalls 126 = .ok (.iconst 0, 1) := by decide +kernel
theorem d_m_readCalls_127 : decode c_m_readCalls 127 = .ok (.putfield 123, 3) := by decide +kernel
theorem d_m_readCalls_130 : decode c_m_readCalls 130 = .ok (.return_, 1) := by decide +kernel
abbrev c_m_firstOf : ByteArray := prog_9_method_15_code
def y_m_firstOf : MethodName := ⟨"ShortBridgeModel", "firstOf", "(I)I"⟩
theorem d_m_firstOf_0 : decode c_m_firstOf 0 = .ok (.aload_n 0, 1) := by decide +kernel
theorem d_m_firstOf_1 : decode c_m_firstOf 1 = .ok (.iload_n 1, 1) := by decide +kernel
theorem d_m_firstOf_2 : decode c_m_firstOf 2 = .ok (.invokevirtual 126, 3) := by decide +kernel
theorem d_m_firstOf_5 : decode c_m_firstOf 5 = .ok (.iconst 1, 1) := by decide +kernel
theorem d_m_firstOf_6 : decode c_m_firstOf 6 = .ok (.iand, 1) := by decide +kernel
theorem d_m_firstOf_7 : decode c_m_firstOf 7 = .ok (.istore_n 2, 1) := by decide +kernel
theorem d_m_firstOf_8 : decode c_m_firstOf 8 = .ok (.iconst 0, 1) := by decide +kernel
theorem d_m_firstOf_9 : decode c_m_firstOf 9 = .ok (.istore_n 3, 1) := by decide +kernel
theorem d_m_firstOf_10 : decode c_m_firstOf 10 = .ok (.aload_n 0, 1) := by decide +kernel
theorem d_m_firstOf_11 : decode c_m_firstOf 11 = .ok (.getfield 17, 3) := by decide +kernel
theorem d_m_firstOf_14 : decode c_m_firstOf 14 = .ok (.iload_n 3, 1) := by decide +kernel
theorem d_m_firstOf_15 : decode c_m_firstOf 15 = .ok (.iaload, 1) := by decide +kernel
theorem d_m_firstOf_16 : decode c_m_firstOf 16 = .ok (.iconst 3, 1) := by decide +kernel
theorem d_m_firstOf_17 : decode c_m_firstOf 17 = .ok (.if_icmp .lt 37, 3) := by decide +kernel
theorem d_m_firstOf_20 : decode c_m_firstOf 20 = .ok (.aload_n 0, 1) := by decide +kernel
theorem d_m_firstOf_21 : decode c_m_firstOf 21 = .ok (.iload_n 3, 1) := by decide +kernel
theorem d_m_firstOf_22 : decode c_m_firstOf 22 = .ok (.invokevirtual 126, 3) := by decide +kernel
theorem d_m_firstOf_25 : decode c_m_firstOf 25 = .ok (.iconst 1, 1) := by decide +kernel
theorem d_m_firstOf_26 : decode c_m_firstOf 26 = .ok (.iand, 1) := by decide +kernel
theorem d_m_firstOf_27 : decode c_m_firstOf 27 = .ok (.iload_n 2, 1) := by decide +kernel
theorem d_m_firstOf_28 : decode c_m_firstOf 28 = .ok (.if_icmp .ne 26, 3) := by decide +kernel
theorem d_m_firstOf_31 : decode c_m_firstOf 31 = .ok (.aload_n 0, 1) := by decide +kernel
theorem d_m_firstOf_32 : decode c_m_firstOf 32 = .ok (.getfield 17, 3) := by decide +kernel
theorem d_m_firstOf_35 : decode c_m_firstOf 35 = .ok (.iload_n 3, 1) := by decide +kernel
theorem d_m_firstOf_36 : decode c_m_firstOf 36 = .ok (.iaload, 1) := by decide +kernel
theorem d_m_firstOf_37 : decode c_m_firstOf 37 = .ok (.iconst 3, 1) := by decide +kernel
theorem d_m_firstOf_38 : decode c_m_firstOf 38 = .ok (.isub, 1) := by decide +kernel
theorem d_m_firstOf_39 : decode c_m_firstOf 39 = .ok (.iconst 5, 1) := by decide +kernel
theorem d_m_firstOf_40 : decode c_m_firstOf 40 = .ok (.irem, 1) := by decide +kernel
theorem d_m_firstOf_41 : decode c_m_firstOf 41 = .ok (.aload_n 0, 1) := by decide +kernel
theorem d_m_firstOf_42 : decode c_m_firstOf 42 = .ok (.getfield 17, 3) := by decide +kernel
theorem d_m_firstOf_45 : decode c_m_firstOf 45 = .ok (.iload_n 1, 1) := by decide +kernel
theorem d_m_firstOf_46 : decode c_m_firstOf 46 = .ok (.iaload, 1) := by decide +kernel
theorem d_m_firstOf_47 : decode c_m_firstOf 47 = .ok (.iconst 3, 1) := by decide +kernel
theorem d_m_firstOf_48 : decode c_m_firstOf 48 = .ok (.isub, 1) := by decide +kernel
theorem d_m_firstOf_49 : decode c_m_firstOf 49 = .ok (.iconst 5, 1) := by decide +kernel
theorem d_m_firstOf_50 : decode c_m_firstOf 50 = .ok (.irem, 1) := by decide +kernel
theorem d_m_firstOf_51 : decode c_m_firstOf 51 = .ok (.if_icmp .eq 10, 3) := by decide +kernel
theorem d_m_firstOf_54 : decode c_m_firstOf 54 = .ok (.iload_n 3, 1) := by decide +kernel
theorem d_m_firstOf_55 : decode c_m_firstOf 55 = .ok (.iconst 1, 1) := by decide +kernel
theorem d_m_firstOf_56 : decode c_m_firstOf 56 = .ok (.iadd, 1) := by decide +kernel
theorem d_m_firstOf_57 : decode c_m_firstOf 57 = .ok (.istore_n 3, 1) := by decide +kernel
theorem d_m_firstOf_58 : decode c_m_firstOf 58 = .ok (.goto (-48), 3) := by decide +kernel
theorem d_m_firstOf_61 : decode c_m_firstOf 61 = .ok (.aload_n 0, 1) := by decide +kernel
theorem d_m_firstOf_62 : decode c_m_firstOf 62 = .ok (.iload_n 3, 1) := by decide +kernel
theorem d_m_firstOf_63 : decode c_m_firstOf 63 = .ok (.invokevirtual 126, 3) := by decide +kernel
theorem d_m_firstOf_66 : decode c_m_firstOf 66 = .ok (.ireturn, 1) := by decide +kernel
abbrev c_m_phaseNow : ByteArray := prog_9_method_16_code
def y_m_phaseNow : MethodName := ⟨"ShortBridgeModel", "phaseNow", "()I"⟩
theorem d_m_phaseNow_0 : decode c_m_phaseNow 0 = .ok (.aload_n 0, 1) := by decide +kernel
theorem d_m_phaseNow_1 : decode c_m_phaseNow 1 = .ok (.getfield 63, 3) := by decide +kernel
theorem d_m_phaseNow_4 : decode c_m_phaseNow 4 = .ok (.ifCond .ne 5, 3) := by decide +kernel
theorem d_m_phaseNow_7 : decode c_m_phaseNow 7 = .ok (.iconst 0, 1) := by decide +kernel
theorem d_m_phaseNow_8 : decode c_m_phaseNow 8 = .ok (.ireturn, 1) := by decide +kernel
theorem d_m_phaseNow_9 : decode c_m_phaseNow 9 = .ok (.aload_n 0, 1) := by decide +kernel
theorem d_m_phaseNow_10 : decode c_m_phaseNow 10 = .ok (.invokevirtual 129, 3) := by decide +kernel
theorem d_m_phaseNow_13 : decode c_m_phaseNow 13 = .ok (.aload_n 0, 1) := by decide +kernel
theorem d_m_phaseNow_14 : decode c_m_phaseNow 14 = .ok (.getfield 123, 3) := by decide +kernel
theorem d_m_phaseNow_17 : decode c_m_phaseNow 17 = .ok (.ifCond .ne 5, 3) := by decide +kernel
theorem d_m_phaseNow_20 : decode c_m_phaseNow 20 = .ok (.iconst 1, 1) := by decide +kernel
theorem d_m_phaseNow_21 : decode c_m_phaseNow 21 = .ok (.ireturn, 1) := by decide +kernel
theorem d_m_phaseNow_22 : decode c_m_phaseNow 22 = .ok (.aload_n 0, 1) := by decide +kernel
theorem d_m_phaseNow_23 : decode c_m_phaseNow 23 = .ok (.getfield 107, 3) := by decide +kernel
theorem d_m_phaseNow_26 : decode c_m_phaseNow 26 = .ok (.ifCond .le 16, 3) := by decide +kernel
theorem d_m_phaseNow_29 : decode c_m_phaseNow 29 = .ok (.aload_n 0, 1) := by decide +kernel
theorem d_m_phaseNow_30 : decode c_m_phaseNow 30 = .ok (.getfield 84, 3) := by decide +kernel
theorem d_m_phaseNow_33 : decode c_m_phaseNow 33 = .ok (.bipush 20, 2) := by decide +kernel
theorem d_m_phaseNow_35 : decode c_m_phaseNow 35 = .ok (.if_icmp .ge 7, 3) := by decide +kernel
theorem d_m_phaseNow_38 : decode c_m_phaseNow 38 = .ok (.iconst 2, 1) := by decide +kernel
theorem d_m_phaseNow_39 : decode c_m_phaseNow 39 = .ok (.goto 4, 3) := by decide +kernel
theorem d_m_phaseNow_42 : decode c_m_phaseNow 42 = .ok (.iconst 3, 1) := by decide +kernel
theorem d_m_phaseNow_43 : decode c_m_phaseNow 43 = .ok (.ireturn, 1) := by decide +kernel
abbrev c_m_phase : ByteArray := prog_9_method_17_code
def y_m_phase : MethodName := ⟨"ShortBridgeModel", "phase", "()I"⟩
theorem d_m_phase_0 : decode c_m_phase 0 = .ok (.aload_n 0, 1) := by decide +kernel
theorem d_m_phase_1 : decode c_m_phase 1 = .ok (.iconst 0, 1) := by decide +kernel
theorem d_m_phase_2 : decode c_m_phase 2 = .ok (.putfield 50, 3) := by decide +kernel
theorem d_m_phase_5 : decode c_m_phase 5 = .ok (.aload_n 0, 1) := by decide +kernel
theorem d_m_phase_6 : decode c_m_phase 6 = .ok (.invokevirtual 132, 3) := by decide +kernel
theorem d_m_phase_9 : decode c_m_phase 9 = .ok (.ireturn, 1) := by decide +kernel
abbrev c_m_allowed : ByteArray := prog_9_method_18_code
def y_m_allowed : MethodName := ⟨"ShortBridgeModel", "allowed", "(I)Z"⟩
theorem d_m_allowed_0 : decode c_m_allowed 0 = .ok (.aload_n 0, 1) := by decide +kernel
theorem d_m_allowed_1 : decode c_m_allowed 1 = .ok (.aload_n 0, 1) := by decide +kernel
theorem d_m_allowed_2 : decode c_m_allowed 2 = .ok (.getfield 81, 3) := by decide +kernel
theorem d_m_allowed_5 : decode c_m_allowed 5 = .ok (.invokevirtual 120, 3) := by decide +kernel
theorem d_m_allowed_8 : decode c_m_allowed 8 = .ok (.istore_n 2, 1) := by decide +kernel
theorem d_m_allowed_9 : decode c_m_allowed 9 = .ok (.iload_n 2, 1) := by decide +kernel
theorem d_m_allowed_10 : decode c_m_allowed 10 = .ok (.ifCond .lt 27, 3) := by decide +kernel
theorem d_m_allowed_13 : decode c_m_allowed 13 = .ok (.aload_n 0, 1) := by decide +kernel
theorem d_m_allowed_14 : decode c_m_allowed 14 = .ok (.iload_n 2, 1) := by decide +kernel
theorem d_m_allowed_15 : decode c_m_allowed 15 = .ok (.invokevirtual 126, 3) := by decide +kernel
theorem d_m_allowed_18 : decode c_m_allowed 18 = .ok (.iconst 1, 1) := by decide +kernel
theorem d_m_allowed_19 : decode c_m_allowed 19 = .ok (.iand, 1) := by decide +kernel
theorem d_m_allowed_20 : decode c_m_allowed 20 = .ok (.aload_n 0, 1) := by decide +kernel
theorem d_m_allowed_21 : decode c_m_allowed 21 = .ok (.aload_n 0, 1) := by decide +kernel
theorem d_m_allowed_22 : decode c_m_allowed 22 = .ok (.getfield 81, 3) := by decide +kernel
theorem d_m_allowed_25 : decode c_m_allowed 25 = .ok (.invokevirtual 126, 3) := by decide +kernel
theorem d_m_allowed_28 : decode c_m_allowed 28 = .ok (.iconst 1, 1) := by decide +kernel
theorem d_m_allowed_29 : decode c_m_allowed 29 = .ok (.iand, 1) := by decide +kernel
theorem d_m_allowed_30 : decode c_m_allowed 30 = .ok (.if_icmp .eq 7, 3) := by decide +kernel
theorem d_m_allowed_33 : decode c_m_allowed 33 = .ok (.iconst 1, 1) := by decide +kernel
theorem d_m_allowed_34 : decode c_m_allowed 34 = .ok (.goto 4, 3) := by decide +kernel
theorem d_m_allowed_37 : decode c_m_allowed 37 = .ok (.iconst 0, 1) := by decide +kernel
theorem d_m_allowed_38 : decode c_m_allowed 38 = .ok (.istore_n 3, 1) := by decide +kernel
theorem d_m_allowed_39 : decode c_m_allowed 39 = .ok (.iload_n 1, 1) := by decide +kernel
theorem d_m_allowed_40 : decode c_m_allowed 40 = .ok (.ifCond .eq 8, 3) := by decide +kernel
theorem d_m_allowed_43 : decode c_m_allowed 43 = .ok (.iload_n 1, 1) := by decide +kernel
theorem d_m_allowed_44 : decode c_m_allowed 44 = .ok (.iconst 2, 1) := by decide +kernel
theorem d_m_allowed_45 : decode c_m_allowed 45 = .ok (.if_icmp .le 21, 3) := by decide +kernel
theorem d_m_allowed_48 : decode c_m_allowed 48 = .ok (.iload_n 1, 1) := by decide +kernel
theorem d_m_allowed_49 : decode c_m_allowed 49 = .ok (.ifCond .eq 11, 3) := by decide +kernel
theorem d_m_allowed_52 : decode c_m_allowed 52 = .ok (.iload_n 1, 1) := by decide +kernel
theorem d_m_allowed_53 : decode c_m_allowed 53 = .ok (.aload_n 0, 1) := by decide +kernel
theorem d_m_allowed_54 : decode c_m_allowed 54 = .ok (.getfield 107, 3) := by decide +kernel
theorem d_m_allowed_57 : decode c_m_allowed 57 = .ok (.if_icmp .le 7, 3) := by decide +kernel
theorem d_m_allowed_60 : decode c_m_allowed 60 = .ok (.iconst 1, 1) := by decide +kernel
theorem d_m_allowed_61 : decode c_m_allowed 61 = .ok (.goto 4, 3) := by decide +kernel
theorem d_m_allowed_64 : decode c_m_allowed 64 = .ok (.iconst 0, 1) := by decide +kernel
theorem d_m_allowed_65 : decode c_m_allowed 65 = .ok (.ireturn, 1) := by decide +kernel
theorem d_m_allowed_66 : decode c_m_allowed 66 = .ok (.iload_n 3, 1) := by decide +kernel
theorem d_m_allowed_67 : decode c_m_allowed 67 = .ok (.ifCond .eq 35, 3) := by decide +kernel
theorem d_m_allowed_70 : decode c_m_allowed 70 = .ok (.iload_n 1, 1) := by decide +kernel
theorem d_m_allowed_71 : decode c_m_allowed 71 = .ok (.iconst 1, 1) := by decide +kernel
theorem d_m_allowed_72 : decode c_m_allowed 72 = .ok (.if_icmp .ne 16, 3) := by decide +kernel
theorem d_m_allowed_75 : decode c_m_allowed 75 = .ok (.aload_n 0, 1) := by decide +kernel
theorem d_m_allowed_76 : decode c_m_allowed 76 = .ok (.getfield 17, 3) := by decide +kernel
theorem d_m_allowed_79 : decode c_m_allowed 79 = .ok (.iload_n 2, 1) := by decide +kernel
theorem d_m_allowed_80 : decode c_m_allowed 80 = .ok (.iaload, 1) := by decide +kernel
theorem d_m_allowed_81 : decode c_m_allowed 81 = .ok (.iconst 2, 1) := by decide +kernel
theorem d_m_allowed_82 : decode c_m_allowed 82 = .ok (.if_icmp .le 20, 3) := by decide +kernel
theorem d_m_allowed_85 : decode c_m_allowed 85 = .ok (.goto 13, 3) := by decide +kernel
theorem d_m_allowed_88 : decode c_m_allowed 88 = .ok (.aload_n 0, 1) := by decide +kernel
theorem d_m_allowed_89 : decode c_m_allowed 89 = .ok (.getfield 17, 3) := by decide +kernel
theorem d_m_allowed_92 : decode c_m_allowed 92 = .ok (.iload_n 2, 1) := by decide +kernel
theorem d_m_allowed_93 : decode c_m_allowed 93 = .ok (.iaload, 1) := by decide +kernel
theorem d_m_allowed_94 : decode c_m_allowed 94 = .ok (.iconst 1, 1) := by decide +kernel
theorem d_m_allowed_95 : decode c_m_allowed 95 = .ok (.if_icmp .ne 7, 3) := by decide +kernel
theorem d_m_allowed_98 : decode c_m_allowed 98 = .ok (.iconst 1, 1) := by decide +kernel
theorem d_m_allowed_99 : decode c_m_allowed 99 = .ok (.goto 4, 3) := by decide +kernel
theorem d_m_allowed_102 : decode c_m_allowed 102 = .ok (.iconst 0, 1) := by decide +kernel
theorem d_m_allowed_103 : decode c_m_allowed 103 = .ok (.ireturn, 1) := by decide +kernel
abbrev c_m_call : ByteArray := prog_9_method_19_code
def y_m_call : MethodName := ⟨"ShortBridgeModel", "call", "(I)V"⟩
theorem d_m_call_0 : decode c_m_call 0 = .ok (.aload_n 0, 1) := by decide +kernel
theorem d_m_call_1 : decode c_m_call 1 = .ok (.aload_n 0, 1) := by decide +kernel
theorem d_m_call_2 : decode c_m_call 2 = .ok (.invokevirtual 132, 3) := by decide +kernel
theorem d_m_call_5 : decode c_m_call 5 = .ok (.iconst 1, 1) := by decide +kernel
theorem d_m_call_6 : decode c_m_call 6 = .ok (.if_icmp .eq 7, 3) := by decide +kernel
theorem d_m_call_9 : decode c_m_call 9 = .ok (.iconst 1, 1) := by decide +kernel
theorem d_m_call_10 : decode c_m_call 10 = .ok (.goto 30, 3) := by decide +kernel
theorem d_m_call_13 : decode c_m_call 13 = .ok (.iload_n 1, 1) := by decide +kernel
theorem d_m_call_14 : decode c_m_call 14 = .ok (.ifCond .lt 9, 3) := by decide +kernel
theorem d_m_call_17 : decode c_m_call 17 = .ok (.iload_n 1, 1) := by decide +kernel
theorem d_m_call_18 : decode c_m_call 18 = .ok (.bipush 17, 2) := by decide +kernel
theorem d_m_call_20 : decode c_m_call 20 = .ok (.if_icmp .le 7, 3) := by decide +kernel
theorem d_m_call_23 : decode c_m_call 23 = .ok (.iconst 2, 1) := by decide +kernel
theorem d_m_call_24 : decode c_m_call 24 = .ok (.goto 16, 3) := by decide +kernel
theorem d_m_call_27 : decode c_m_call 27 = .ok (.aload_n 0, 1) := by decide +kernel
theorem d_m_call_28 : decode c_m_call 28 = .ok (.iload_n 1, 1) := by decide +kernel
theorem d_m_call_29 : decode c_m_call 29 = .ok (.invokevirtual 136, 3) := by decide +kernel
theorem d_m_call_32 : decode c_m_call 32 = .ok (.ifCond .eq 7, 3) := by decide +kernel
theorem d_m_call_35 : decode c_m_call 35 = .ok (.iconst 0, 1) := by decide +kernel
theorem d_m_call_36 : decode c_m_call 36 = .ok (.goto 4, 3) := by decide +kernel
theorem d_m_call_39 : decode c_m_call 39 = .ok (.iconst 3, 1) := by decide +kernel
theorem d_m_call_40 : decode c_m_call 40 = .ok (.putfield 50, 3) := by decide +kernel
theorem d_m_call_43 : decode c_m_call 43 = .ok (.aload_n 0, 1) := by decide +kernel
theorem d_m_call_44 : decode c_m_call 44 = .ok (.getfield 50, 3) := by decide +kernel
theorem d_m_call_47 : decode c_m_call 47 = .ok (.ifCond .ne 23, 3) := by decide +kernel
theorem d_m_call_50 : decode c_m_call 50 = .ok (.aload_n 0, 1) := by decide +kernel
theorem d_m_call_51 : decode c_m_call 51 = .ok (.getfield 17, 3) := by decide +kernel
theorem d_m_call_54 : decode c_m_call 54 = .ok (.aload_n 0, 1) := by decide +kernel
theorem d_m_call_55 : decode c_m_call 55 = .ok (.getfield 81, 3) := by decide +kernel
theorem d_m_call_58 : decode c_m_call 58 = .ok (.iload_n 1, 1) := by decide +kernel
theorem d_m_call_59 : decode c_m_call 59 = .ok (.iastore, 1) := by decide +kernel
theorem d_m_call_60 : decode c_m_call 60 = .ok (.aload_n 0, 1) := by decide +kernel
theorem d_m_call_61 : decode c_m_call 61 = .ok (.aload_n 0, 1) := by decide +kernel
theorem d_m_call_62 : decode c_m_call 62 = .ok (.getfield 81, 3) := by decide +kernel
theorem d_m_call_65 : decode c_m_call 65 = .ok (.iconst 1, 1) := by decide +kernel
theorem d_m_call_66 : decode c_m_call 66 = .ok (.iadd, 1) := by decide +kernel
theorem d_m_call_67 : decode c_m_call 67 = .ok (.putfield 81, 3) := by decide +kernel
theorem d_m_call_70 : decode c_m_call 70 = .ok (.return_, 1) := by decide +kernel
abbrev c_m_contract : ByteArray := prog_9_method_20_code
def y_m_contract : MethodName := ⟨"ShortBridgeModel", "contract", "(I)I"⟩
theorem d_m_contract_0 : decode c_m_contract 0 = .ok (.aload_n 0, 1) := by decide +kernel
theorem d_m_contract_1 : decode c_m_contract 1 = .ok (.iconst 0, 1) := by decide +kernel
theorem d_m_contract_2 : decode c_m_contract 2 = .ok (.putfield 50, 3) := by decide +kernel
theorem d_m_contract_5 : decode c_m_contract 5 = .ok (.aload_n 0, 1) := by decide +kernel
theorem d_m_contract_6 : decode c_m_contract 6 = .ok (.getfield 63, 3) := by decide +kernel
theorem d_m_contract_9 : decode c_m_contract 9 = .ok (.ifCond .ne 5, 3) := by decide +kernel
theorem d_m_contract_12 : decode c_m_contract 12 = .ok (.iconst (-1), 1) := by decide +kernel
theorem d_m_contract_13 : decode c_m_contract 13 = .ok (.ireturn, 1) := by decide +kernel
theorem d_m_contract_14 : decode c_m_contract 14 = .ok (.aload_n 0, 1) := by decide +kernel
theorem d_m_contract_15 : decode c_m_contract 15 = .ok (.invokevirtual 129, 3) := by decide +kernel
theorem d_m_contract_18 : decode c_m_contract 18 = .ok (.aload_n 0, 1) := by decide +kernel
theorem d_m_contract_19 : decode c_m_contract 19 = .ok (.getfield 107, 3) := by decide +kernel
theorem d_m_contract_22 : decode c_m_contract 22 = .ok (.ifCond .eq 12, 3) := by decide +kernel
theorem d_m_contract_25 : decode c_m_contract 25 = .ok (.iload_n 1, 1) := by decide +kernel
theorem d_m_contract_26 : decode c_m_contract 26 = .ok (.ifCond .lt 8, 3) := by decide +kernel
theorem d_m_contract_29 : decode c_m_contract 29 = .ok (.iload_n 1, 1) := by decide +kernel
theorem d_m_contract_30 : decode c_m_contract 30 = .ok (.iconst 2, 1) := by decide +kernel
theorem d_m_contract_31 : decode c_m_contract 31 = .ok (.if_icmp .le 7, 3) := by decide +kernel
theorem d_m_contract_34 : decode c_m_contract 34 = .ok (.iconst (-1), 1) := by decide +kernel
theorem d_m_contract_35 : decode c_m_contract 35 = .ok (.goto 30, 3) := by decide +kernel
theorem d_m_contract_38 : decode c_m_contract 38 = .ok (.iload_n 1, 1) := by decide +kernel
theorem d_m_contract_39 : decode c_m_contract 39 = .ok (.ifCond .ne 10, 3) := by decide +kernel
theorem d_m_contract_42 : decode c_m_contract 42 = .ok (.aload_n 0, 1) := by decide +kernel
theorem d_m_contract_43 : decode c_m_contract 43 = .ok (.getfield 107, 3) := by decide +kernel
theorem d_m_contract_46 : decode c_m_contract 46 = .ok (.goto 19, 3) := by decide +kernel
theorem d_m_contract_49 : decode c_m_contract 49 = .ok (.iload_n 1, 1) := by decide +kernel
theorem d_m_contract_50 : decode c_m_contract 50 = .ok (.iconst 1, 1) := by decide +kernel
theorem d_m_contract_51 : decode c_m_contract 51 = .ok (.if_icmp .ne 10, 3) := by decide +kernel
theorem d_m_contract_54 : decode c_m_contract 54 = .ok (.aload_n 0, 1) := by decide +kernel
theorem d_m_contract_55 : decode c_m_contract 55 = .ok (.getfield 110, 3) := by decide +kernel
theorem d_m_contract_58 : decode c_m_contract 58 = .ok (.goto 7, 3) := by decide +kernel
theorem d_m_contract_61 : decode c_m_contract 61 = .ok (.aload_n 0, 1) := by decide +kernel
theorem d_m_contract_62 : decode c_m_contract 62 = .ok (.getfield 117, 3) := by decide +kernel
theorem d_m_contract_65 : decode c_m_contract 65 = .ok (.ireturn, 1) := by decide +kernel
abbrev c_m_trump : ByteArray := prog_9_method_21_code
def y_m_trump : MethodName := ⟨"ShortBridgeModel", "trump", "()I"⟩
theorem d_m_trump_0 : decode c_m_trump 0 = .ok (.aload_n 0, 1) := by decide +kernel
theorem d_m_trump_1 : decode c_m_trump 1 = .ok (.getfield 107, 3) := by decide +kernel
theorem d_m_trump_4 : decode c_m_trump 4 = .ok (.iconst 3, 1) := by decide +kernel
theorem d_m_trump_5 : decode c_m_trump 5 = .ok (.isub, 1) := by decide +kernel
theorem d_m_trump_6 : decode c_m_trump 6 = .ok (.iconst 5, 1) := by decide +kernel
theorem d_m_trump_7 : decode c_m_trump 7 = .ok (.irem, 1) := by decide +kernel
theorem d_m_trump_8 : decode c_m_trump 8 = .ok (.ireturn, 1) := by decide +kernel
abbrev c_m_height : ByteArray := prog_9_method_22_code
def y_m_height : MethodName := ⟨"ShortBridgeModel", "height", "(II)I"⟩
theorem d_m_height_0 : decode c_m_height 0 = .ok (.iload_n 1, 1) := by decide +kernel
theorem d_m_height_1 : decode c_m_height 1 = .ok (.iconst 5, 1) := by decide +kernel
theorem d_m_height_2 : decode c_m_height 2 = .ok (.idiv, 1) := by decide +kernel
theorem d_m_height_3 : decode c_m_height 3 = .ok (.aload_n 0, 1) := by decide +kernel
theorem d_m_height_4 : decode c_m_height 4 = .ok (.invokevirtual 139, 3) := by decide +kernel
theorem d_m_height_7 : decode c_m_height 7 = .ok (.if_icmp .ne 12, 3) := by decide +kernel
theorem d_m_height_10 : decode c_m_height 10 = .ok (.bipush 10, 2) := by decide +kernel
theorem d_m_height_12 : decode c_m_height 12 = .ok (.iload_n 1, 1) := by decide +kernel
theorem d_m_height_13 : decode c_m_height 13 = .ok (.iconst 5, 1) := by decide +kernel
theorem d_m_height_14 : decode c_m_height 14 = .ok (.irem, 1) := by decide +kernel
theorem d_m_height_15 : decode c_m_height 15 = .ok (.iadd, 1) := by decide +kernel
theorem d_m_height_16 : decode c_m_height 16 = .ok (.goto 19, 3) := by decide +kernel
theorem d_m_height_19 : decode c_m_height 19 = .ok (.iload_n 1, 1) := by decide +kernel
theorem d_m_height_20 : decode c_m_height 20 = .ok (.iconst 5, 1) := by decide +kernel
theorem d_m_height_21 : decode c_m_height 21 = .ok (.idiv, 1) := by decide +kernel
theorem d_m_height_22 : decode c_m_height 22 = .ok (.iload_n 2, 1) := by decide +kernel
theorem d_m_height_23 : decode c_m_height 23 = .ok (.if_icmp .ne 11, 3) := by decide +kernel
theorem d_m_height_26 : decode c_m_height 26 = .ok (.iconst 1, 1) := by decide +kernel
theorem d_m_height_27 : decode c_m_height 27 = .ok (.iload_n 1, 1) := by decide +kernel
theorem d_m_height_28 : decode c_m_height 28 = .ok (.iconst 5, 1) := by decide +kernel
theorem d_m_height_29 : decode c_m_height 29 = .ok (.irem, 1) := by decide +kernel
theorem d_m_height_30 : decode c_m_height 30 = .ok (.iadd, 1) := by decide +kernel
theorem d_m_height_31 : decode c_m_height 31 = .ok (.goto 4, 3) := by decide +kernel
theorem d_m_height_34 : decode c_m_height 34 = .ok (.iconst 0, 1) := by decide +kernel
theorem d_m_height_35 : decode c_m_height 35 = .ok (.ireturn, 1) := by decide +kernel
abbrev c_m_goOn : ByteArray := prog_9_method_23_code
def y_m_goOn : MethodName := ⟨"ShortBridgeModel", "goOn", "(I)V"⟩
theorem d_m_goOn_0 : decode c_m_goOn 0 = .ok (.aload_n 0, 1) := by decide +kernel
theorem d_m_goOn_1 : decode c_m_goOn 1 = .ok (.getfield 23, 3) := by decide +kernel
theorem d_m_goOn_4 : decode c_m_goOn 4 = .ok (.iload_n 1, 1) := by decide +kernel
theorem d_m_goOn_5 : decode c_m_goOn 5 = .ok (.iconst 1, 1) := by decide +kernel
theorem d_m_goOn_6 : decode c_m_goOn 6 = .ok (.iadd, 1) := by decide +kernel
theorem d_m_goOn_7 : decode c_m_goOn 7 = .ok (.aload_n 0, 1) := by decide +kernel
theorem d_m_goOn_8 : decode c_m_goOn 8 = .ok (.getfield 23, 3) := by decide +kernel
theorem d_m_goOn_11 : decode c_m_goOn 11 = .ok (.iload_n 1, 1) := by decide +kernel
theorem d_m_goOn_12 : decode c_m_goOn 12 = .ok (.iaload, 1) := by decide +kernel
theorem d_m_goOn_13 : decode c_m_goOn 13 = .ok (.iconst 1, 1) := by decide +kernel
theorem d_m_goOn_14 : decode c_m_goOn 14 = .ok (.iadd, 1) := by decide +kernel
theorem d_m_goOn_15 : decode c_m_goOn 15 = .ok (.iconst 3, 1) := by decide +kernel
theorem d_m_goOn_16 : decode c_m_goOn 16 = .ok (.iand, 1) := by decide +kernel
theorem d_m_goOn_17 : decode c_m_goOn 17 = .ok (.iastore, 1) := by decide +kernel
theorem d_m_goOn_18 : decode c_m_goOn 18 = .ok (.aload_n 0, 1) := by decide +kernel
theorem d_m_goOn_19 : decode c_m_goOn 19 = .ok (.getfield 26, 3) := by decide +kernel
theorem d_m_goOn_22 : decode c_m_goOn 22 = .ok (.iload_n 1, 1) := by decide +kernel
theorem d_m_goOn_23 : decode c_m_goOn 23 = .ok (.iconst 1, 1) := by decide +kernel
theorem d_m_goOn_24 : decode c_m_goOn 24 = .ok (.iadd, 1) := by decide +kernel
theorem d_m_goOn_25 : decode c_m_goOn 25 = .ok (.aload_n 0, 1) := by decide +kernel
theorem d_m_goOn_26 : decode c_m_goOn 26 = .ok (.getfield 26, 3) := by decide +kernel
theorem d_m_goOn_29 : decode c_m_goOn 29 = .ok (.iload_n 1, 1) := by decide +kernel
theorem d_m_goOn_30 : decode c_m_goOn 30 = .ok (.iaload, 1) := by decide +kernel
theorem d_m_goOn_31 : decode c_m_goOn 31 = .ok (.iastore, 1) := by decide +kernel
theorem d_m_goOn_32 : decode c_m_goOn 32 = .ok (.aload_n 0, 1) := by decide +kernel
theorem d_m_goOn_33 : decode c_m_goOn 33 = .ok (.getfield 29, 3) := by decide +kernel
theorem d_m_goOn_36 : decode c_m_goOn 36 = .ok (.iload_n 1, 1) := by decide +kernel
theorem d_m_goOn_37 : decode c_m_goOn 37 = .ok (.iconst 1, 1) := by decide +kernel
theorem d_m_goOn_38 : decode c_m_goOn 38 = .ok (.iadd, 1) := by decide +kernel
theorem d_m_goOn_39 : decode c_m_goOn 39 = .ok (.aload_n 0, 1) := by decide +kernel
theorem d_m_goOn_40 : decode c_m_goOn 40 = .ok (.getfield 29, 3) := by decide +kernel
theorem d_m_goOn_43 : decode c_m_goOn 43 = .ok (.iload_n 1, 1) := by decide +kernel
theorem d_m_goOn_44 : decode c_m_goOn 44 = .ok (.iaload, 1) := by decide +kernel
theorem d_m_goOn_45 : decode c_m_goOn 45 = .ok (.iconst 1, 1) := by decide +kernel
theorem d_m_goOn_46 : decode c_m_goOn 46 = .ok (.aload_n 0, 1) := by decide +kernel
theorem d_m_goOn_47 : decode c_m_goOn 47 = .ok (.getfield 20, 3) := by decide +kernel
theorem d_m_goOn_50 : decode c_m_goOn 50 = .ok (.iload_n 1, 1) := by decide +kernel
theorem d_m_goOn_51 : decode c_m_goOn 51 = .ok (.iaload, 1) := by decide +kernel
theorem d_m_goOn_52 : decode c_m_goOn 52 = .ok (.ishl, 1) := by decide +kernel
theorem d_m_goOn_53 : decode c_m_goOn 53 = .ok (.ior, 1) := by decide +kernel
theorem d_m_goOn_54 : decode c_m_goOn 54 = .ok (.iastore, 1) := by decide +kernel
theorem d_m_goOn_55 : decode c_m_goOn 55 = .ok (.iload_n 1, 1) := by decide +kernel
theorem d_m_goOn_56 : decode c_m_goOn 56 = .ok (.iconst 4, 1) := by decide +kernel
theorem d_m_goOn_57 : decode c_m_goOn 57 = .ok (.irem, 1) := by decide +kernel
theorem d_m_goOn_58 : decode c_m_goOn 58 = .ok (.iconst 3, 1) := by decide +kernel
theorem d_m_goOn_59 : decode c_m_goOn 59 = .ok (.if_icmp .ne 124, 3) := by decide +kernel
theorem d_m_goOn_62 : decode c_m_goOn 62 = .ok (.aload_n 0, 1) := by decide +kernel
theorem d_m_goOn_63 : decode c_m_goOn 63 = .ok (.getfield 20, 3) := by decide +kernel
theorem d_m_goOn_66 : decode c_m_goOn 66 = .ok (.iload_n 1, 1) := by decide +kernel
theorem d_m_goOn_67 : decode c_m_goOn 67 = .ok (.iconst 3, 1) := by decide +kernel
theorem d_m_goOn_68 : decode c_m_goOn 68 = .ok (.isub, 1) := by decide +kernel
theorem d_m_goOn_69 : decode c_m_goOn 69 = .ok (.iaload, 1) := by decide +kernel
theorem d_m_goOn_70 : decode c_m_goOn 70 = .ok (.iconst 5, 1) := by decide +kernel
theorem d_m_goOn_71 : decode c_m_goOn 71 = .ok (.idiv, 1) := by decide +kernel
theorem d_m_goOn_72 : decode c_m_goOn 72 = .ok (.istore_n 2, 1) := by decide +kernel
theorem d_m_goOn_73 : decode c_m_goOn 73 = .ok (.iload_n 1, 1) := by decide +kernel
theorem d_m_goOn_74 : decode c_m_goOn 74 = .ok (.iconst 3, 1) := by decide +kernel
theorem d_m_goOn_75 : decode c_m_goOn 75 = .ok (.isub, 1) := by decide +kernel
theorem d_m_goOn_76 : decode c_m_goOn 76 = .ok (.istore_n 3, 1) := by decide +kernel
theorem d_m_goOn_77 : decode c_m_goOn 77 = .ok (.iload_n 1, 1) := by decide +kernel
theorem d_m_goOn_78 : decode c_m_goOn 78 = .ok (.iconst 2, 1) := by decide +kernel
theorem d_m_goOn_79 : decode c_m_goOn 79 = .ok (.isub, 1) := by decide +kernel
theorem d_m_goOn_80 : decode c_m_goOn 80 = .ok (.istore 4, 2) := by decide +kernel
theorem d_m_goOn_82 : decode c_m_goOn 82 = .ok (.iload 4, 2) := by decide +kernel
theorem d_m_goOn_84 : decode c_m_goOn 84 = .ok (.iload_n 1, 1) := by decide +kernel
theorem d_m_goOn_85 : decode c_m_goOn 85 = .ok (.if_icmp .gt 42, 3) := by decide +kernel
theorem d_m_goOn_88 : decode c_m_goOn 88 = .ok (.aload_n 0, 1) := by decide +kernel
theorem d_m_goOn_89 : decode c_m_goOn 89 = .ok (.aload_n 0, 1) := by decide +kernel
theorem d_m_goOn_90 : decode c_m_goOn 90 = .ok (.getfield 20, 3) := by decide +kernel
theorem d_m_goOn_93 : decode c_m_goOn 93 = .ok (.iload 4, 2) := by decide +kernel
theorem d_m_goOn_95 : decode c_m_goOn 95 = .ok (.iaload, 1) := by decide +kernel
theorem d_m_goOn_96 : decode c_m_goOn 96 = .ok (.iload_n 2, 1) := by decide +kernel
theorem d_m_goOn_97 : decode c_m_goOn 97 = .ok (.invokevirtual 142, 3) := by decide +kernel
theorem d_m_goOn_100 : decode c_m_goOn 100 = .ok (.aload_n 0, 1) := by decide +kernel
theorem d_m_goOn_101 : decode c_m_goOn 101 = .ok (.aload_n 0, 1) := by decide +kernel
theorem d_m_goOn_102 : decode c_m_goOn 102 = .ok (.getfield 20, 3) := by decide +kernel
theorem d_m_goOn_105 : decode c_m_goOn 105 = .ok (.iload_n 3, 1) := by decide +kernel
theorem d_m_goOn_106 : decode c_m_goOn 106 = .ok (.iaload, 1) := by decide +kernel
theorem d_m_goOn_107 : decode c_m_goOn 107 = .ok (.iload_n 2, 1) := by decide +kernel
theorem d_m_goOn_108 : decode c_m_goOn 108 = .ok (.invokevirtual 142, 3) := by decide +kernel
theorem d_m_goOn_111 : decode c_m_goOn 111 = .ok (.if_icmp .le 8, 3) := by decide +kernel
theorem d_m_goOn_114 : decode c_m_goOn 114 = .ok (.iload 4, 2) := by decide +kernel
theorem d_m_goOn_116 : decode c_m_goOn 116 = .ok (.goto 4, 3) := by decide +kernel
theorem d_m_goOn_119 : decode c_m_goOn 119 = .ok (.iload_n 3, 1) := by decide +kernel
theorem d_m_goOn_120 : decode c_m_goOn 120 = .ok (.istore_n 3, 1) := by decide +kernel
theorem d_m_goOn_121 : decode c_m_goOn 121 = .ok (.iinc 4 1, 3) := by decide +kernel
theorem d_m_goOn_124 : decode c_m_goOn 124 = .ok (.goto (-42), 3) := by decide +kernel
theorem d_m_goOn_127 : decode c_m_goOn 127 = .ok (.aload_n 0, 1) := by decide +kernel
theorem d_m_goOn_128 : decode c_m_goOn 128 = .ok (.getfield 23, 3) := by decide +kernel
theorem d_m_goOn_131 : decode c_m_goOn 131 = .ok (.iload_n 1, 1) := by decide +kernel
theorem d_m_goOn_132 : decode c_m_goOn 132 = .ok (.iconst 1, 1) := by decide +kernel
theorem d_m_goOn_133 : decode c_m_goOn 133 = .ok (.iadd, 1) := by decide +kernel
theorem d_m_goOn_134 : decode c_m_goOn 134 = .ok (.aload_n 0, 1) := by decide +kernel
theorem d_m_goOn_135 : decode c_m_goOn 135 = .ok (.getfield 23, 3) := by decide +kernel
theorem d_m_goOn_138 : decode c_m_goOn 138 = .ok (.iload_n 3, 1) := by decide +kernel
theorem d_m_goOn_139 : decode c_m_goOn 139 = .ok (.iaload, 1) := by decide +kernel
theorem d_m_goOn_140 : decode c_m_goOn 140 = .ok (.iastore, 1) := by decide +kernel
theorem d_m_goOn_141 : decode c_m_goOn 141 = .ok (.aload_n 0, 1) := by decide +kernel
theorem d_m_goOn_142 : decode c_m_goOn 142 = .ok (.getfield 26, 3) := by decide +kernel
theorem d_m_goOn_145 : decode c_m_goOn 145 = .ok (.iload_n 1, 1) := by decide +kernel
theorem d_m_goOn_146 : decode c_m_goOn 146 = .ok (.iconst 1, 1) := by decide +kernel
theorem d_m_goOn_147 : decode c_m_goOn 147 = .ok (.iadd, 1) := by decide +kernel
theorem d_m_goOn_148 : decode c_m_goOn 148 = .ok (.aload_n 0, 1) := by decide +kernel
theorem d_m_goOn_149 : decode c_m_goOn 149 = .ok (.getfield 23, 3) := by decide +kernel
theorem d_m_goOn_152 : decode c_m_goOn 152 = .ok (.iload_n 3, 1) := by decide +kernel
theorem d_m_goOn_153 : decode c_m_goOn 153 = .ok (.iaload, 1) := by decide +kernel
theorem d_m_goOn_154 : decode c_m_goOn 154 = .ok (.iconst 1, 1) := by decide +kernel
theorem d_m_goOn_155 : decode c_m_goOn 155 = .ok (.iand, 1) := by decide +kernel
theorem d_m_goOn_156 : decode c_m_goOn 156 = .ok (.aload_n 0, 1) := by decide +kernel
theorem d_m_goOn_157 : decode c_m_goOn 157 = .ok (.getfield 117, 3) := by decide +kernel
theorem d_m_goOn_160 : decode c_m_goOn 160 = .ok (.iconst 1, 1) := by decide +kernel
theorem d_m_goOn_161 : decode c_m_goOn 161 = .ok (.iand, 1) := by decide +kernel
theorem d_m_goOn_162 : decode c_m_goOn 162 = .ok (.if_icmp .ne 14, 3) := by decide +kernel
theorem d_m_goOn_165 : decode c_m_goOn 165 = .ok (.aload_n 0, 1) := by decide +kernel
theorem d_m_goOn_166 : decode c_m_goOn 166 = .ok (.getfield 26, 3) := by decide +kernel
theorem d_m_goOn_169 : decode c_m_goOn 169 = .ok (.iload_n 1, 1) := by decide +kernel
theorem d_m_goOn_170 : decode c_m_goOn 170 = .ok (.iaload, 1) := by decide +kernel
theorem d_m_goOn_171 : decode c_m_goOn 171 = .ok (.iconst 1, 1) := by decide +kernel
theorem d_m_goOn_172 : decode c_m_goOn 172 = .ok (.iadd, 1) := by decide +kernel
theorem d_m_goOn_173 : decode c_m_goOn 173 = .ok (.goto 9, 3) := by decide +kernel
theorem d_m_goOn_176 : decode c_m_goOn 176 = .ok (.aload_n 0, 1) := by decide +kernel
theorem d_m_goOn_177 : decode c_m_goOn 177 = .ok (.getfield 26, 3) := by decide +kernel
theorem d_m_goOn_180 : decode c_m_goOn 180 = .ok (.iload_n 1, 1) := by decide +kernel
theorem d_m_goOn_181 : decode c_m_goOn 181 = .ok (.iaload, 1) := by decide +kernel
theorem d_m_goOn_182 : decode c_m_goOn 182 = .ok (.iastore, 1) := by decide +kernel
theorem d_m_goOn_183 : decode c_m_goOn 183 = .ok (.return_, 1) := by decide +kernel
abbrev c_m_readCards : ByteArray := prog_9_method_24_code
def y_m_readCards : MethodName := ⟨"ShortBridgeModel", "readCards", "()V"⟩
theorem d_m_readCards_0 : decode c_m_readCards 0 = .ok (.aload_n 0, 1) := by decide +kernel
theorem d_m_readCards_1 : decode c_m_readCards 1 = .ok (.getfield 23, 3) := by decide +kernel
theorem d_m_readCards_4 : decode c_m_readCards 4 = .ok (.iconst 0, 1) := by decide +kernel
theorem d_m_readCards_5 : decode c_m_readCards 5 = .ok (.aload_n 0, 1) := by decide +kernel
theorem d_m_readCards_6 : decode c_m_readCards 6 = .ok (.getfield 117, 3) := by decide +kernel
theorem d_m_readCards_9 : decode c_m_readCards 9 = .ok (.iconst 1, 1) := by decide +kernel
theorem d_m_readCards_10 : decode c_m_readCards 10 = .ok (.iadd, 1) := by decide +kernel
theorem d_m_readCards_11 : decode c_m_readCards 11 = .ok (.iconst 3, 1) := by decide +kernel
theorem d_m_readCards_12 : decode c_m_readCards 12 = .ok (.iand, 1) := by decide +kernel
theorem d_m_readCards_13 : decode c_m_readCards 13 = .ok (.iastore, 1) := by decide +kernel
theorem d_m_readCards_14 : decode c_m_readCards 14 = .ok (.aload_n 0, 1) := by decide +kernel
theorem d_m_readCards_15 : decode c_m_readCards 15 = .ok (.getfield 26, 3) := by decide +kernel
theorem d_m_readCards_18 : decode c_m_readCards 18 = .ok (.iconst 0, 1) := by decide +kernel
theorem d_m_readCards_19 : decode c_m_readCards 19 = .ok (.iconst 0, 1) := by decide +kernel
theorem d_m_readCards_20 : decode c_m_readCards 20 = .ok (.iastore, 1) := by decide +kernel
theorem d_m_readCards_21 : decode c_m_readCards 21 = .ok (.iconst 0, 1) := by decide +kernel
theorem d_m_readCards_22 : decode c_m_readCards 22 = .ok (.istore_n 1, 1) := by decide +kernel
theorem d_m_readCards_23 : decode c_m_readCards 23 = .ok (.iload_n 1, 1) := by decide +kernel
theorem d_m_readCards_24 : decode c_m_readCards 24 = .ok (.aload_n 0, 1) := by decide +kernel
theorem d_m_readCards_25 : decode c_m_readCards 25 = .ok (.getfield 84, 3) := by decide +kernel
theorem d_m_readCards_28 : decode c_m_readCards 28 = .ok (.if_icmp .ge 14, 3) := by decide +kernel
theorem d_m_readCards_31 : decode c_m_readCards 31 = .ok (.aload_n 0, 1) := by decide +kernel
theorem d_m_readCards_32 : decode c_m_readCards 32 = .ok (.iload_n 1, 1) := by decide +kernel
theorem d_m_readCards_33 : decode c_m_readCards 33 = .ok (.invokevirtual 146, 3) := by decide +kernel
theorem d_m_readCards_36 : decode c_m_readCards 36 = .ok (.iinc 1 1, 3) := by decide +kernel
theorem d_m_readCards_39 : decode c_m_readCards 39 = .ok (.goto (-16), 3) := by decide +kernel
theorem d_m_readCards_42 : decode c_m_readCards 42 = .ok (.return_, 1) := by decide +kernel
abbrev c_m_holds : ByteArray := prog_9_method_25_code
def y_m_holds : MethodName := ⟨"ShortBridgeModel", "holds", "(III)Z"⟩
theorem d_m_holds_0 : decode c_m_holds 0 = .ok (.aload_n 0, 1) := by decide +kernel
theorem d_m_holds_1 : decode c_m_holds 1 = .ok (.getfield 7, 3) := by decide +kernel
theorem d_m_holds_4 : decode c_m_holds 4 = .ok (.iload_n 2, 1) := by decide +kernel
theorem d_m_holds_5 : decode c_m_holds 5 = .ok (.iaload, 1) := by decide +kernel
theorem d_m_holds_6 : decode c_m_holds 6 = .ok (.iload_n 1, 1) := by decide +kernel
theorem d_m_holds_7 : decode c_m_holds 7 = .ok (.if_icmp .ne 20, 3) := by decide +kernel
theorem d_m_holds_10 : decode c_m_holds 10 = .ok (.aload_n 0, 1) := by decide +kernel
theorem d_m_holds_11 : decode c_m_holds 11 = .ok (.getfield 29, 3) := by decide +kernel
theorem d_m_holds_14 : decode c_m_holds 14 = .ok (.iload_n 3, 1) := by decide +kernel
theorem d_m_holds_15 : decode c_m_holds 15 = .ok (.iaload, 1) := by decide +kernel
theorem d_m_holds_16 : decode c_m_holds 16 = .ok (.iload_n 2, 1) := by decide +kernel
theorem d_m_holds_17 : decode c_m_holds 17 = .ok (.ishr, 1) := by decide +kernel
theorem d_m_holds_18 : decode c_m_holds 18 = .ok (.iconst 1, 1) := by decide +kernel
theorem d_m_holds_19 : decode c_m_holds 19 = .ok (.iand, 1) := by decide +kernel
theorem d_m_holds_20 : decode c_m_holds 20 = .ok (.ifCond .ne 7, 3) := by decide +kernel
theorem d_m_holds_23 : decode c_m_holds 23 = .ok (.iconst 1, 1) := by decide +kernel
theorem d_m_holds_24 : decode c_m_holds 24 = .ok (.goto 4, 3) := by decide +kernel
theorem d_m_holds_27 : decode c_m_holds 27 = .ok (.iconst 0, 1) := by decide +kernel
theorem d_m_holds_28 : decode c_m_holds 28 = .ok (.ireturn, 1) := by decide +kernel
abbrev c_m_follows : ByteArray := prog_9_method_26_code
def y_m_follows : MethodName := ⟨"ShortBridgeModel", "follows", "(II)Z"⟩
theorem d_m_follows_0 : decode c_m_follows 0 = .ok (.iload_n 2, 1) := by decide +kernel
theorem d_m_follows_1 : decode c_m_follows 1 = .ok (.iconst 4, 1) := by decide +kernel
theorem d_m_follows_2 : decode c_m_follows 2 = .ok (.irem, 1) := by decide +kernel
theorem d_m_follows_3 : decode c_m_follows 3 = .ok (.ifCond .ne 5, 3) := by decide +kernel
theorem d_m_follows_6 : decode c_m_follows 6 = .ok (.iconst 1, 1) := by decide +kernel
theorem d_m_follows_7 : decode c_m_follows 7 = .ok (.ireturn, 1) := by decide +kernel
theorem d_m_follows_8 : decode c_m_follows 8 = .ok (.aload_n 0, 1) := by decide +kernel
theorem d_m_follows_9 : decode c_m_follows 9 = .ok (.getfield 20, 3) := by decide +kernel
theorem d_m_follows_12 : decode c_m_follows 12 = .ok (.iload_n 2, 1) := by decide +kernel
theorem d_m_follows_13 : decode c_m_follows 13 = .ok (.iload_n 2, 1) := by decide +kernel
theorem d_m_follows_14 : decode c_m_follows 14 = .ok (.iconst 4, 1) := by decide +kernel
theorem d_m_follows_15 : decode c_m_follows 15 = .ok (.irem, 1) := by decide +kernel
theorem d_m_follows_16 : decode c_m_follows 16 = .ok (.isub, 1) := by decide +kernel
theorem d_m_follows_17 : decode c_m_follows 17 = .ok (.iaload, 1) := by decide +kernel
theorem d_m_follows_18 : decode c_m_follows 18 = .ok (.iconst 5, 1) := by decide +kernel
theorem d_m_follows_19 : decode c_m_follows 19 = .ok (.idiv, 1) := by decide +kernel
theorem d_m_follows_20 : decode c_m_follows 20 = .ok (.istore_n 3, 1) := by decide +kernel
theorem d_m_follows_21 : decode c_m_follows 21 = .ok (.iconst 0, 1) := by decide +kernel
theorem d_m_follows_22 : decode c_m_follows 22 = .ok (.istore 4, 2) := by decide +kernel
theorem d_m_follows_24 : decode c_m_follows 24 = .ok (.iconst 5, 1) := by decide +kernel
theorem d_m_follows_25 : decode c_m_follows 25 = .ok (.iload_n 3, 1) := by decide +kernel
theorem d_m_follows_26 : decode c_m_follows 26 = .ok (.imul, 1) := by decide +kernel
theorem d_m_follows_27 : decode c_m_follows 27 = .ok (.istore 5, 2) := by decide +kernel
theorem d_m_follows_29 : decode c_m_follows 29 = .ok (.iload 5, 2) := by decide +kernel
theorem d_m_follows_31 : decode c_m_follows 31 = .ok (.iconst 5, 1) := by decide +kernel
theorem d_m_follows_32 : decode c_m_follows 32 = .ok (.iload_n 3, 1) := by decide +kernel
theorem d_m_follows_33 : decode c_m_follows 33 = .ok (.imul, 1) := by decide +kernel
theorem d_m_follows_34 : decode c_m_follows 34 = .ok (.iconst 5, 1) := by decide +kernel
theorem d_m_follows_35 : decode c_m_follows 35 = .ok (.iadd, 1) := by decide +kernel
theorem d_m_follows_36 : decode c_m_follows 36 = .ok (.if_icmp .ge 37, 3) := by decide +kernel
theorem d_m_follows_39 : decode c_m_follows 39 = .ok (.iload 4, 2) := by decide +kernel
theorem d_m_follows_41 : decode c_m_follows 41 = .ok (.ifCond .ne 19, 3) := by decide +kernel
theorem d_m_follows_44 : decode c_m_follows 44 = .ok (.aload_n 0, 1) := by decide +kernel
theorem d_m_follows_45 : decode c_m_follows 45 = .ok (.aload_n 0, 1) := by decide +kernel
theorem d_m_follows_46 : decode c_m_follows 46 = .ok (.getfield 23, 3) := by decide +kernel
theorem d_m_follows_49 : decode c_m_follows 49 = .ok (.iload_n 2, 1) := by decide +kernel
theorem d_m_follows_50 : decode c_m_follows 50 = .ok (.iaload, 1) := by decide +kernel
theorem d_m_follows_51 : decode c_m_follows 51 = .ok (.iload 5, 2) := by decide +kernel
theorem d_m_follows_53 : decode c_m_follows 53 = .ok (.iload_n 2, 1) := by decide +kernel
theorem d_m_follows_54 : decode c_m_follows 54 = .ok (.invokevirtual 150, 3) := by decide +kernel
theorem d_m_follows_57 : decode c_m_follows 57 = .ok (.ifCond .eq 7, 3) := by decide +kernel
theorem d_m_follows_60 : decode c_m_follows 60 = .ok (.iconst 1, 1) := by decide +kernel
theorem d_m_follows_61 : decode c_m_follows 61 = .ok (.goto 4, 3) := by decide +kernel
theorem d_m_follows_64 : decode c_m_follows 64 = .ok (.iconst 0, 1) := by decide +kernel
theorem d_m_follows_65 : decode c_m_follows 65 = .ok (.istore 4, 2) := by decide +kernel
theorem d_m_follows_67 : decode c_m_follows 67 = .ok (.iinc 5 1, 3) := by decide +kernel
theorem d_m_follows_70 : decode c_m_follows 70 = .ok (.goto (-41), 3) := by decide +kernel
theorem d_m_follows_73 : decode c_m_follows 73 = .ok (.iload_n 1, 1) := by decide +kernel
theorem d_m_follows_74 : decode c_m_follows 74 = .ok (.iconst 5, 1) := by decide +kernel
theorem d_m_follows_75 : decode c_m_follows 75 = .ok (.idiv, 1) := by decide +kernel
theorem d_m_follows_76 : decode c_m_follows 76 = .ok (.iload_n 3, 1) := by decide +kernel
theorem d_m_follows_77 : decode c_m_follows 77 = .ok (.if_icmp .eq 8, 3) := by decide +kernel
theorem d_m_follows_80 : decode c_m_follows 80 = .ok (.iload 4, 2) := by decide +kernel
theorem d_m_follows_82 : decode c_m_follows 82 = .ok (.ifCond .ne 7, 3) := by decide +kernel
theorem d_m_follows_85 : decode c_m_follows 85 = .ok (.iconst 1, 1) := by decide +kernel
theorem d_m_follows_86 : decode c_m_follows 86 = .ok (.goto 4, 3) := by decide +kernel
theorem d_m_follows_89 : decode c_m_follows 89 = .ok (.iconst 0, 1) := by decide +kernel
theorem d_m_follows_90 : decode c_m_follows 90 = .ok (.ireturn, 1) := by decide +kernel
abbrev c_m_turn : ByteArray := prog_9_method_27_code
def y_m_turn : MethodName := ⟨"ShortBridgeModel", "turn", "()I"⟩
theorem d_m_turn_0 : decode c_m_turn 0 = .ok (.aload_n 0, 1) := by decide +kernel
theorem d_m_turn_1 : decode c_m_turn 1 = .ok (.iconst 0, 1) := by decide +kernel
theorem d_m_turn_2 : decode c_m_turn 2 = .ok (.putfield 50, 3) := by decide +kernel
theorem d_m_turn_5 : decode c_m_turn 5 = .ok (.aload_n 0, 1) := by decide +kernel
theorem d_m_turn_6 : decode c_m_turn 6 = .ok (.invokevirtual 132, 3) := by decide +kernel
theorem d_m_turn_9 : decode c_m_turn 9 = .ok (.istore_n 1, 1) := by decide +kernel
theorem d_m_turn_10 : decode c_m_turn 10 = .ok (.iload_n 1, 1) := by decide +kernel
theorem d_m_turn_11 : decode c_m_turn 11 = .ok (.iconst 1, 1) := by decide +kernel
theorem d_m_turn_12 : decode c_m_turn 12 = .ok (.if_icmp .ne 12, 3) := by decide +kernel
theorem d_m_turn_15 : decode c_m_turn 15 = .ok (.aload_n 0, 1) := by decide +kernel
theorem d_m_turn_16 : decode c_m_turn 16 = .ok (.aload_n 0, 1) := by decide +kernel
theorem d_m_turn_17 : decode c_m_turn 17 = .ok (.getfield 81, 3) := by decide +kernel
theorem d_m_turn_20 : decode c_m_turn 20 = .ok (.invokevirtual 126, 3) := by decide +kernel
theorem d_m_turn_23 : decode c_m_turn 23 = .ok (.ireturn, 1) := by decide +kernel
theorem d_m_turn_24 : decode c_m_turn 24 = .ok (.aload_n 0, 1) := by decide +kernel
theorem d_m_turn_25 : decode c_m_turn 25 = .ok (.invokevirtual 154, 3) := by decide +kernel
theorem d_m_turn_28 : decode c_m_turn 28 = .ok (.iload_n 1, 1) := by decide +kernel
theorem d_m_turn_29 : decode c_m_turn 29 = .ok (.iconst 2, 1) := by decide +kernel
theorem d_m_turn_30 : decode c_m_turn 30 = .ok (.if_icmp .ne 15, 3) := by decide +kernel
theorem d_m_turn_33 : decode c_m_turn 33 = .ok (.aload_n 0, 1) := by decide +kernel
theorem d_m_turn_34 : decode c_m_turn 34 = .ok (.getfield 23, 3) := by decide +kernel
theorem d_m_turn_37 : decode c_m_turn 37 = .ok (.aload_n 0, 1) := by decide +kernel
theorem d_m_turn_38 : decode c_m_turn 38 = .ok (.getfield 84, 3) := by decide +kernel
theorem d_m_turn_41 : decode c_m_turn 41 = .ok (.iaload, 1) := by decide +kernel
theorem d_m_turn_42 : decode c_m_turn 42 = .ok (.goto 4, 3) := by decide +kernel
theorem d_m_turn_45 : decode c_m_turn 45 = .ok (.iconst (-1), 1) := by decide +kernel
theorem d_m_turn_46 : decode c_m_turn 46 = .ok (.ireturn, 1) := by decide +kernel
abbrev c_m_has : ByteArray := prog_9_method_28_code
def y_m_has : MethodName := ⟨"ShortBridgeModel", "has", "(II)Z"⟩
theorem d_m_has_0 : decode c_m_has 0 = .ok (.aload_n 0, 1) := by decide +kernel
theorem d_m_has_1 : decode c_m_has 1 = .ok (.iconst 0, 1) := by decide +kernel
theorem d_m_has_2 : decode c_m_has 2 = .ok (.putfield 50, 3) := by decide +kernel
theorem d_m_has_5 : decode c_m_has 5 = .ok (.aload_n 0, 1) := by decide +kernel
theorem d_m_has_6 : decode c_m_has 6 = .ok (.getfield 63, 3) := by decide +kernel
theorem d_m_has_9 : decode c_m_has 9 = .ok (.ifCond .eq 20, 3) := by decide +kernel
theorem d_m_has_12 : decode c_m_has 12 = .ok (.iload_n 1, 1) := by decide +kernel
theorem d_m_has_13 : decode c_m_has 13 = .ok (.invokestatic 89, 3) := by decide +kernel
theorem d_m_has_16 : decode c_m_has 16 = .ok (.ifCond .eq 13, 3) := by decide +kernel
theorem d_m_has_19 : decode c_m_has 19 = .ok (.iload_n 2, 1) := by decide +kernel
theorem d_m_has_20 : decode c_m_has 20 = .ok (.ifCond .lt 9, 3) := by decide +kernel
theorem d_m_has_23 : decode c_m_has 23 = .ok (.iload_n 2, 1) := by decide +kernel
theorem d_m_has_24 : decode c_m_has 24 = .ok (.bipush 19, 2) := by decide +kernel
theorem d_m_has_26 : decode c_m_has 26 = .ok (.if_icmp .le 5, 3) := by decide +kernel
theorem d_m_has_29 : decode c_m_has 29 = .ok (.iconst 0, 1) := by decide +kernel
theorem d_m_has_30 : decode c_m_has 30 = .ok (.ireturn, 1) := by decide +kernel
theorem d_m_has_31 : decode c_m_has 31 = .ok (.aload_n 0, 1) := by decide +kernel
theorem d_m_has_32 : decode c_m_has 32 = .ok (.invokevirtual 154, 3) := by decide +kernel
theorem d_m_has_35 : decode c_m_has 35 = .ok (.aload_n 0, 1) := by decide +kernel
theorem d_m_has_36 : decode c_m_has 36 = .ok (.iload_n 1, 1) := by decide +kernel
theorem d_m_has_37 : decode c_m_has 37 = .ok (.iload_n 2, 1) := by decide +kernel
theorem d_m_has_38 : decode c_m_has 38 = .ok (.aload_n 0, 1) := by decide +kernel
theorem d_m_has_39 : decode c_m_has 39 = .ok (.getfield 84, 3) := by decide +kernel
theorem d_m_has_42 : decode c_m_has 42 = .ok (.invokevirtual 150, 3) := by decide +kernel
theorem d_m_has_45 : decode c_m_has 45 = .ok (.ireturn, 1) := by decide +kernel
abbrev c_m_play : ByteArray := prog_9_method_29_code
def y_m_play : MethodName := ⟨"ShortBridgeModel", "play", "(I)V"⟩
theorem d_m_play_0 : decode c_m_play 0 = .ok (.aload_n 0, 1) := by decide +kernel
theorem d_m_play_1 : decode c_m_play 1 = .ok (.aload_n 0, 1) := by decide +kernel
theorem d_m_play_2 : decode c_m_play 2 = .ok (.invokevirtual 132, 3) := by decide +kernel
theorem d_m_play_5 : decode c_m_play 5 = .ok (.iconst 2, 1) := by decide +kernel
theorem d_m_play_6 : decode c_m_play 6 = .ok (.if_icmp .ne 7, 3) := by decide +kernel
theorem d_m_play_9 : decode c_m_play 9 = .ok (.iconst 0, 1) := by decide +kernel
theorem d_m_play_10 : decode c_m_play 10 = .ok (.goto 4, 3) := by decide +kernel
theorem d_m_play_13 : decode c_m_play 13 = .ok (.iconst 1, 1) := by decide +kernel
theorem d_m_play_14 : decode c_m_play 14 = .ok (.putfield 50, 3) := by decide +kernel
theorem d_m_play_17 : decode c_m_play 17 = .ok (.aload_n 0, 1) := by decide +kernel
theorem d_m_play_18 : decode c_m_play 18 = .ok (.getfield 50, 3) := by decide +kernel
theorem d_m_play_21 : decode c_m_play 21 = .ok (.ifCond .le 4, 3) := by decide +kernel
theorem d_m_play_24 : decode c_m_play 24 = .ok (.return_, 1) := by decide +kernel
theorem d_m_play_25 : decode c_m_play 25 = .ok (.aload_n 0, 1) := by decide +kernel
theorem d_m_play_26 : decode c_m_play 26 = .ok (.invokevirtual 154, 3) := by decide +kernel
theorem d_m_play_29 : decode c_m_play 29 = .ok (.iload_n 1, 1) := by decide +kernel
theorem d_m_play_30 : decode c_m_play 30 = .ok (.ifCond .lt 34, 3) := by decide +kernel
theorem d_m_play_33 : decode c_m_play 33 = .ok (.iload_n 1, 1) := by decide +kernel
theorem d_m_play_34 : decode c_m_play 34 = .ok (.bipush 20, 2) := by decide +kernel
theorem d_m_play_36 : decode c_m_play 36 = .ok (.if_icmp .ge 28, 3) := by decide +kernel
theorem d_m_play_39 : decode c_m_play 39 = .ok (.aload_n 0, 1) := by decide +kernel
theorem d_m_play_40 : decode c_m_play 40 = .ok (.aload_n 0, 1) := by decide +kernel
theorem d_m_play_41 : decode c_m_play 41 = .ok (.getfield 23, 3) := by decide +kernel
theorem d_m_play_44 : decode c_m_play 44 = .ok (.aload_n 0, 1) := by decide +kernel
theorem d_m_play_45 : decode c_m_play 45 = .ok (.getfield 84, 3) := by decide +kernel
theorem d_m_play_48 : decode c_m_play 48 = .ok (.iaload, 1) := by decide +kernel
theorem d_m_play_49 : decode c_m_play 49 = .ok (.iload_n 1, 1) := by decide +kernel
theorem d_m_play_50 : decode c_m_play 50 = .ok (.aload_n 0, 1) := by decide +kernel
theorem d_m_play_51 : decode c_m_play 51 = .ok (.getfield 84, 3) := by decide +kernel
theorem d_m_play_54 : decode c_m_play 54 = .ok (.invokevirtual 150, 3) := by decide +kernel
theorem d_m_play_57 : decode c_m_play 57 = .ok (.ifCond .eq 7, 3) := by decide +kernel
theorem d_m_play_60 : decode c_m_play 60 = .ok (.iconst 1, 1) := by decide +kernel
theorem d_m_play_61 : decode c_m_play 61 = .ok (.goto 4, 3) := by decide +kernel
theorem d_m_play_64 : decode c_m_play 64 = .ok (.iconst 0, 1) := by decide +kernel
theorem d_m_play_65 : decode c_m_play 65 = .ok (.istore_n 2, 1) := by decide +kernel
theorem d_m_play_66 : decode c_m_play 66 = .ok (.aload_n 0, 1) := by decide +kernel
theorem d_m_play_67 : decode c_m_play 67 = .ok (.iload_n 2, 1) := by decide +kernel
theorem d_m_play_68 : decode c_m_play 68 = .ok (.ifCond .ne 7, 3) := by decide +kernel
theorem d_m_play_71 : decode c_m_play 71 = .ok (.iconst 2, 1) := by decide +kernel
theorem d_m_play_72 : decode c_m_play 72 = .ok (.goto 20, 3) := by decide +kernel
theorem d_m_play_75 : decode c_m_play 75 = .ok (.aload_n 0, 1) := by decide +kernel
theorem d_m_play_76 : decode c_m_play 76 = .ok (.iload_n 1, 1) := by decide +kernel
theorem d_m_play_77 : decode c_m_play 77 = .ok (.aload_n 0, 1) := by decide +kernel
theorem d_m_play_78 : decode c_m_play 78 = .ok (.getfield 84, 3) := by decide +kernel
theorem d_m_play_81 : decode c_m_play 81 = .ok (.invokevirtual 157, 3) := by decide +kernel
theorem d_m_play_84 : decode c_m_play 84 = .ok (.ifCond .ne 7, 3) := by decide +kernel
theorem d_m_play_87 : decode c_m_play 87 = .ok (.iconst 3, 1) := by decide +kernel
theorem d_m_play_88 : decode c_m_play 88 = .ok (.goto 4, 3) := by decide +kernel
theorem d_m_play_91 : decode c_m_play 91 = .ok (.iconst 0, 1) := by decide +kernel
theorem d_m_play_92 : decode c_m_play 92 = .ok (.putfield 50, 3) := by decide +kernel
theorem d_m_play_95 : decode c_m_play 95 = .ok (.aload_n 0, 1) := by decide +kernel
theorem d_m_play_96 : decode c_m_play 96 = .ok (.getfield 50, 3) := by decide +kernel
theorem d_m_play_99 : decode c_m_play 99 = .ok (.ifCond .ne 23, 3) := by decide +kernel
theorem d_m_play_102 : decode c_m_play 102 = .ok (.aload_n 0, 1) := by decide +kernel
theorem d_m_play_103 : decode c_m_play 103 = .ok (.getfield 20, 3) := by decide +kernel
theorem d_m_play_106 : decode c_m_play 106 = .ok (.aload_n 0, 1) := by decide +kernel
theorem d_m_play_107 : decode c_m_play 107 = .ok (.getfield 84, 3) := by decide +kernel
theorem d_m_play_110 : decode c_m_play 110 = .ok (.iload_n 1, 1) := by decide +kernel
theorem d_m_play_111 : decode c_m_play 111 = .ok (.iastore, 1) := by decide +kernel
theorem d_m_play_112 : decode c_m_play 112 = .ok (.aload_n 0, 1) := by decide +kernel
theorem d_m_play_113 : decode c_m_play 113 = .ok (.aload_n 0, 1) := by decide +kernel
theorem d_m_play_114 : decode c_m_play 114 = .ok (.getfield 84, 3) := by decide +kernel
theorem d_m_play_117 : decode c_m_play 117 = .ok (.iconst 1, 1) := by decide +kernel
theorem d_m_play_118 : decode c_m_play 118 = .ok (.iadd, 1) := by decide +kernel
theorem d_m_play_119 : decode c_m_play 119 = .ok (.putfield 84, 3) := by decide +kernel
theorem d_m_play_122 : decode c_m_play 122 = .ok (.return_, 1) := by decide +kernel
abbrev c_m_back : ByteArray := prog_9_method_30_code
def y_m_back : MethodName := ⟨"ShortBridgeModel", "back", "()Z"⟩
theorem d_m_back_0 : decode c_m_back 0 = .ok (.aload_n 0, 1) := by decide +kernel
theorem d_m_back_1 : decode c_m_back 1 = .ok (.iconst 0, 1) := by decide +kernel
theorem d_m_back_2 : decode c_m_back 2 = .ok (.putfield 50, 3) := by decide +kernel
theorem d_m_back_5 : decode c_m_back 5 = .ok (.aload_n 0, 1) := by decide +kernel
theorem d_m_back_6 : decode c_m_back 6 = .ok (.invokevirtual 132, 3) := by decide +kernel
theorem d_m_back_9 : decode c_m_back 9 = .ok (.istore_n 1, 1) := by decide +kernel
theorem d_m_back_10 : decode c_m_back 10 = .ok (.iload_n 1, 1) := by decide +kernel
theorem d_m_back_11 : decode c_m_back 11 = .ok (.ifCond .eq 27, 3) := by decide +kernel
theorem d_m_back_14 : decode c_m_back 14 = .ok (.iload_n 1, 1) := by decide +kernel
theorem d_m_back_15 : decode c_m_back 15 = .ok (.iconst 1, 1) := by decide +kernel
theorem d_m_back_16 : decode c_m_back 16 = .ok (.if_icmp .ne 10, 3) := by decide +kernel
theorem d_m_back_19 : decode c_m_back 19 = .ok (.aload_n 0, 1) := by decide +kernel
theorem d_m_back_20 : decode c_m_back 20 = .ok (.getfield 81, 3) := by decide +kernel
theorem d_m_back_23 : decode c_m_back 23 = .ok (.ifCond .eq 15, 3) := by decide +kernel
theorem d_m_back_26 : decode c_m_back 26 = .ok (.iload_n 1, 1) := by decide +kernel
theorem d_m_back_27 : decode c_m_back 27 = .ok (.iconst 2, 1) := by decide +kernel
theorem d_m_back_28 : decode c_m_back 28 = .ok (.if_icmp .ne 12, 3) := by decide +kernel
theorem d_m_back_31 : decode c_m_back 31 = .ok (.aload_n 0, 1) := by decide +kernel
theorem d_m_back_32 : decode c_m_back 32 = .ok (.getfield 84, 3) := by decide +kernel
theorem d_m_back_35 : decode c_m_back 35 = .ok (.ifCond .ne 5, 3) := by decide +kernel
theorem d_m_back_38 : decode c_m_back 38 = .ok (.iconst 0, 1) := by decide +kernel
theorem d_m_back_39 : decode c_m_back 39 = .ok (.ireturn, 1) := by decide +kernel
theorem d_m_back_40 : decode c_m_back 40 = .ok (.aload_n 0, 1) := by decide +kernel
theorem d_m_back_41 : decode c_m_back 41 = .ok (.getfield 84, 3) := by decide +kernel
theorem d_m_back_44 : decode c_m_back 44 = .ok (.ifCond .le 7, 3) := by decide +kernel
theorem d_m_back_47 : decode c_m_back 47 = .ok (.iconst 1, 1) := by decide +kernel
theorem d_m_back_48 : decode c_m_back 48 = .ok (.goto 4, 3) := by decide +kernel
theorem d_m_back_51 : decode c_m_back 51 = .ok (.iconst 0, 1) := by decide +kernel
theorem d_m_back_52 : decode c_m_back 52 = .ok (.istore_n 2, 1) := by decide +kernel
theorem d_m_back_53 : decode c_m_back 53 = .ok (.aload_n 0, 1) := by decide +kernel
theorem d_m_back_54 : decode c_m_back 54 = .ok (.iload_n 2, 1) := by decide +kernel
theorem d_m_back_55 : decode c_m_back 55 = .ok (.ifCond .eq 12, 3) := by decide +kernel
theorem d_m_back_58 : decode c_m_back 58 = .ok (.aload_n 0, 1) := by decide +kernel
theorem d_m_back_59 : decode c_m_back 59 = .ok (.getfield 84, 3) := by decide +kernel
theorem d_m_back_62 : decode c_m_back 62 = .ok (.iconst 1, 1) := by decide +kernel
theorem d_m_back_63 : decode c_m_back 63 = .ok (.isub, 1) := by decide +kernel
theorem d_m_back_64 : decode c_m_back 64 = .ok (.goto 7, 3) := by decide +kernel
theorem d_m_back_67 : decode c_m_back 67 = .ok (.aload_n 0, 1) := by decide +kernel
theorem d_m_back_68 : decode c_m_back 68 = .ok (.getfield 84, 3) := by decide +kernel
theorem d_m_back_71 : decode c_m_back 71 = .ok (.putfield 84, 3) := by decide +kernel
theorem d_m_back_74 : decode c_m_back 74 = .ok (.aload_n 0, 1) := by decide +kernel
theorem d_m_back_75 : decode c_m_back 75 = .ok (.iload_n 2, 1) := by decide +kernel
theorem d_m_back_76 : decode c_m_back 76 = .ok (.ifCond .eq 10, 3) := by decide +kernel
theorem d_m_back_79 : decode c_m_back 79 = .ok (.aload_n 0, 1) := by decide +kernel
theorem d_m_back_80 : decode c_m_back 80 = .ok (.getfield 81, 3) := by decide +kernel
theorem d_m_back_83 : decode c_m_back 83 = .ok (.goto 9, 3) := by decide +kernel
theorem d_m_back_86 : decode c_m_back 86 = .ok (.aload_n 0, 1) := by decide +kernel
theorem d_m_back_87 : decode c_m_back 87 = .ok (.getfield 81, 3) := by decide +kernel
theorem d_m_back_90 : decode c_m_back 90 = .ok (.iconst 1, 1) := by decide +kernel
theorem d_m_back_91 : decode c_m_back 91 = .ok (.isub, 1) := by decide +kernel
theorem d_m_back_92 : decode c_m_back 92 = .ok (.putfield 81, 3) := by decide +kernel
theorem d_m_back_95 : decode c_m_back 95 = .ok (.iconst 1, 1) := by decide +kernel
theorem d_m_back_96 : decode c_m_back 96 = .ok (.ireturn, 1) := by decide +kernel
abbrev c_m_tricks : ByteArray := prog_9_method_31_code
def y_m_tricks : MethodName := ⟨"ShortBridgeModel", "tricks", "(I)I"⟩
theorem d_m_tricks_0 : decode c_m_tricks 0 = .ok (.aload_n 0, 1) := by decide +kernel
theorem d_m_tricks_1 : decode c_m_tricks 1 = .ok (.iconst 0, 1) := by decide +kernel
theorem d_m_tricks_2 : decode c_m_tricks 2 = .ok (.putfield 50, 3) := by decide +kernel
theorem d_m_tricks_5 : decode c_m_tricks 5 = .ok (.iload_n 1, 1) := by decide +kernel
theorem d_m_tricks_6 : decode c_m_tricks 6 = .ok (.ifCond .lt 8, 3) := by decide +kernel
theorem d_m_tricks_9 : decode c_m_tricks 9 = .ok (.iload_n 1, 1) := by decide +kernel
theorem d_m_tricks_10 : decode c_m_tricks 10 = .ok (.iconst 1, 1) := by decide +kernel
theorem d_m_tricks_11 : decode c_m_tricks 11 = .ok (.if_icmp .le 5, 3) := by decide +kernel
theorem d_m_tricks_14 : decode c_m_tricks 14 = .ok (.iconst (-1), 1) := by decide +kernel
theorem d_m_tricks_15 : decode c_m_tricks 15 = .ok (.ireturn, 1) := by decide +kernel
theorem d_m_tricks_16 : decode c_m_tricks 16 = .ok (.aload_n 0, 1) := by decide +kernel
theorem d_m_tricks_17 : decode c_m_tricks 17 = .ok (.invokevirtual 132, 3) := by decide +kernel
theorem d_m_tricks_20 : decode c_m_tricks 20 = .ok (.iconst 2, 1) := by decide +kernel
theorem d_m_tricks_21 : decode c_m_tricks 21 = .ok (.if_icmp .lt 10, 3) := by decide +kernel
theorem d_m_tricks_24 : decode c_m_tricks 24 = .ok (.aload_n 0, 1) := by decide +kernel
theorem d_m_tricks_25 : decode c_m_tricks 25 = .ok (.getfield 107, 3) := by decide +kernel
theorem d_m_tricks_28 : decode c_m_tricks 28 = .ok (.ifCond .ne 5, 3) := by decide +kernel
theorem d_m_tricks_31 : decode c_m_tricks 31 = .ok (.iconst 0, 1) := by decide +kernel
theorem d_m_tricks_32 : decode c_m_tricks 32 = .ok (.ireturn, 1) := by decide +kernel
theorem d_m_tricks_33 : decode c_m_tricks 33 = .ok (.aload_n 0, 1) := by decide +kernel
theorem d_m_tricks_34 : decode c_m_tricks 34 = .ok (.invokevirtual 154, 3) := by decide +kernel
theorem d_m_tricks_37 : decode c_m_tricks 37 = .ok (.aload_n 0, 1) := by decide +kernel
theorem d_m_tricks_38 : decode c_m_tricks 38 = .ok (.getfield 117, 3) := by decide +kernel
theorem d_m_tricks_41 : decode c_m_tricks 41 = .ok (.iconst 1, 1) := by decide +kernel
theorem d_m_tricks_42 : decode c_m_tricks 42 = .ok (.iand, 1) := by decide +kernel
theorem d_m_tricks_43 : decode c_m_tricks 43 = .ok (.iload_n 1, 1) := by decide +kernel
theorem d_m_tricks_44 : decode c_m_tricks 44 = .ok (.if_icmp .ne 15, 3) := by decide +kernel
theorem d_m_tricks_47 : decode c_m_tricks 47 = .ok (.aload_n 0, 1) := by decide +kernel
theorem d_m_tricks_48 : decode c_m_tricks 48 = .ok (.getfield 26, 3) := by decide +kernel
theorem d_m_tricks_51 : decode c_m_tricks 51 = .ok (.aload_n 0, 1) := by decide +kernel
theorem d_m_tricks_52 : decode c_m_tricks 52 = .ok (.getfield 84, 3) := by decide +kernel
theorem d_m_tricks_55 : decode c_m_tricks 55 = .ok (.iaload, 1) := by decide +kernel
theorem d_m_tricks_56 : decode c_m_tricks 56 = .ok (.goto 19, 3) := by decide +kernel
theorem d_m_tricks_59 : decode c_m_tricks 59 = .ok (.aload_n 0, 1) := by decide +kernel
theorem d_m_tricks_60 : decode c_m_tricks 60 = .ok (.getfield 84, 3) := by decide +kernel
theorem d_m_tricks_63 : decode c_m_tricks 63 = .ok (.iconst 4, 1) := by decide +kernel
theorem d_m_tricks_64 : decode c_m_tricks 64 = .ok (.idiv, 1) := by decide +kernel
theorem d_m_tricks_65 : decode c_m_tricks 65 = .ok (.aload_n 0, 1) := by decide +kernel
theorem d_m_tricks_66 : decode c_m_tricks 66 = .ok (.getfield 26, 3) := by decide +kernel
theorem d_m_tricks_69 : decode c_m_tricks 69 = .ok (.aload_n 0, 1) := by decide +kernel
theorem d_m_tricks_70 : decode c_m_tricks 70 = .ok (.getfield 84, 3) := by decide +kernel
theorem d_m_tricks_73 : decode c_m_tricks 73 = .ok (.iaload, 1) := by decide +kernel
theorem d_m_tricks_74 : decode c_m_tricks 74 = .ok (.isub, 1) := by decide +kernel
theorem d_m_tricks_75 : decode c_m_tricks 75 = .ok (.ireturn, 1) := by decide +kernel
abbrev c_m_table : ByteArray := prog_9_method_32_code
def y_m_table : MethodName := ⟨"ShortBridgeModel", "table", "(I)I"⟩
theorem d_m_table_0 : decode c_m_table 0 = .ok (.aload_n 0, 1) := by decide +kernel
theorem d_m_table_1 : decode c_m_table 1 = .ok (.iconst 0, 1) := by decide +kernel
theorem d_m_table_2 : decode c_m_table 2 = .ok (.putfield 50, 3) := by decide +kernel
theorem d_m_table_5 : decode c_m_table 5 = .ok (.aload_n 0, 1) := by decide +kernel
theorem d_m_table_6 : decode c_m_table 6 = .ok (.getfield 63, 3) := by decide +kernel
theorem d_m_table_9 : decode c_m_table 9 = .ok (.ifCond .eq 38, 3) := by decide +kernel
theorem d_m_table_12 : decode c_m_table 12 = .ok (.iload_n 1, 1) := by decide +kernel
theorem d_m_table_13 : decode c_m_table 13 = .ok (.ifCond .lt 34, 3) := by decide +kernel
theorem d_m_table_16 : decode c_m_table 16 = .ok (.iload_n 1, 1) := by decide +kernel
theorem d_m_table_17 : decode c_m_table 17 = .ok (.aload_n 0, 1) := by decide +kernel
theorem d_m_table_18 : decode c_m_table 18 = .ok (.getfield 84, 3) := by decide +kernel
theorem d_m_table_21 : decode c_m_table 21 = .ok (.iconst 4, 1) := by decide +kernel
theorem d_m_table_22 : decode c_m_table 22 = .ok (.irem, 1) := by decide +kernel
theorem d_m_table_23 : decode c_m_table 23 = .ok (.if_icmp .ge 24, 3) := by decide +kernel
theorem d_m_table_26 : decode c_m_table 26 = .ok (.aload_n 0, 1) := by decide +kernel
theorem d_m_table_27 : decode c_m_table 27 = .ok (.getfield 20, 3) := by decide +kernel
theorem d_m_table_30 : decode c_m_table 30 = .ok (.aload_n 0, 1) := by decide +kernel
theorem d_m_table_31 : decode c_m_table 31 = .ok (.getfield 84, 3) := by decide +kernel
theorem d_m_table_34 : decode c_m_table 34 = .ok (.aload_n 0, 1) := by decide +kernel
theorem d_m_table_35 : decode c_m_table 35 = .ok (.getfield 84, 3) := by decide +kernel
theorem d_m_table_38 : decode c_m_table 38 = .ok (.iconst 4, 1) := by decide +kernel
theorem d_m_table_39 : decode c_m_table 39 = .ok (.irem, 1) := by decide +kernel
theorem d_m_table_40 : decode c_m_table 40 = .ok (.isub, 1) := by decide +kernel
theorem d_m_table_41 : decode c_m_table 41 = .ok (.iload_n 1, 1) := by decide +kernel
theorem d_m_table_42 : decode c_m_table 42 = .ok (.iadd, 1) := by decide +kernel
theorem d_m_table_43 : decode c_m_table 43 = .ok (.iaload, 1) := by decide +kernel
theorem d_m_table_44 : decode c_m_table 44 = .ok (.goto 4, 3) := by decide +kernel
theorem d_m_table_47 : decode c_m_table 47 = .ok (.iconst (-1), 1) := by decide +kernel
theorem d_m_table_48 : decode c_m_table 48 = .ok (.ireturn, 1) := by decide +kernel
abbrev c_m_lostBy : ByteArray := prog_9_method_33_code
def y_m_lostBy : MethodName := ⟨"ShortBridgeModel", "lostBy", "(IIZ)I"⟩
theorem d_m_lostBy_0 : decode c_m_lostBy 0 = .ok (.iload_n 1, 1) := by decide +kernel
theorem d_m_lostBy_1 : decode c_m_lostBy 1 = .ok (.ifCond .ne 19, 3) := by decide +kernel
theorem d_m_lostBy_4 : decode c_m_lostBy 4 = .ok (.iload_n 2, 1) := by decide +kernel
theorem d_m_lostBy_5 : decode c_m_lostBy 5 = .ok (.ifCond .eq 10, 3) := by decide +kernel
theorem d_m_lostBy_8 : decode c_m_lostBy 8 = .ok (.bipush 100, 2) := by decide +kernel
theorem d_m_lostBy_10 : decode c_m_lostBy 10 = .ok (.iload_n 0, 1) := by decide +kernel
theorem d_m_lostBy_11 : decode c_m_lostBy 11 = .ok (.imul, 1) := by decide +kernel
theorem d_m_lostBy_12 : decode c_m_lostBy 12 = .ok (.goto 7, 3) := by decide +kernel
theorem d_m_lostBy_15 : decode c_m_lostBy 15 = .ok (.bipush 50, 2) := by decide +kernel
theorem d_m_lostBy_17 : decode c_m_lostBy 17 = .ok (.iload_n 0, 1) := by decide +kernel
theorem d_m_lostBy_18 : decode c_m_lostBy 18 = .ok (.imul, 1) := by decide +kernel
theorem d_m_lostBy_19 : decode c_m_lostBy 19 = .ok (.ireturn, 1) := by decide +kernel
theorem d_m_lostBy_20 : decode c_m_lostBy 20 = .ok (.iconst 0, 1) := by decide +kernel
theorem d_m_lostBy_21 : decode c_m_lostBy 21 = .ok (.istore_n 3, 1) := by decide +kernel
theorem d_m_lostBy_22 : decode c_m_lostBy 22 = .ok (.iconst 1, 1) := by decide +kernel
theorem d_m_lostBy_23 : decode c_m_lostBy 23 = .ok (.istore 4, 2) := by decide +kernel
theorem d_m_lostBy_25 : decode c_m_lostBy 25 = .ok (.iload 4, 2) := by decide +kernel
theorem d_m_lostBy_27 : decode c_m_lostBy 27 = .ok (.iload_n 0, 1) := by decide +kernel
theorem d_m_lostBy_28 : decode c_m_lostBy 28 = .ok (.if_icmp .gt 60, 3) := by decide +kernel
theorem d_m_lostBy_31 : decode c_m_lostBy 31 = .ok (.iload_n 3, 1) := by decide +kernel
theorem d_m_lostBy_32 : decode c_m_lostBy 32 = .ok (.iload_n 2, 1) := by decide +kernel
theorem d_m_lostBy_33 : decode c_m_lostBy 33 = .ok (.ifCond .eq 21, 3) := by decide +kernel
theorem d_m_lostBy_36 : decode c_m_lostBy 36 = .ok (.iload 4, 2) := by decide +kernel
theorem d_m_lostBy_38 : decode c_m_lostBy 38 = .ok (.iconst 1, 1) := by decide +kernel
theorem d_m_lostBy_39 : decode c_m_lostBy 39 = .ok (.if_icmp .ne 9, 3) := by decide +kernel
theorem d_m_lostBy_42 : decode c_m_lostBy 42 = .ok (.sipush 200, 3) := by decide +kernel
theorem d_m_lostBy_45 : decode c_m_lostBy 45 = .ok (.goto 35, 3) := by decide +kernel
theorem d_m_lostBy_48 : decode c_m_lostBy 48 = .ok (.sipush 300, 3) := by decide +kernel
theorem d_m_lostBy_51 : decode c_m_lostBy 51 = .ok (.goto 29, 3) := by decide +kernel
theorem d_m_lostBy_54 : decode c_m_lostBy 54 = .ok (.iload 4, 2) := by decide +kernel
theorem d_m_lostBy_56 : decode c_m_lostBy 56 = .ok (.iconst 1, 1) := by decide +kernel
theorem d_m_lostBy_57 : decode c_m_lostBy 57 = .ok (.if_icmp .ne 8, 3) := by decide +kernel
theorem d_m_lostBy_60 : decode c_m_lostBy 60 = .ok (.bipush 100, 2) := by decide +kernel
theorem d_m_lostBy_62 : decode c_m_lostBy 62 = .ok (.goto 18, 3) := by decide +kernel
theorem d_m_lostBy_65 : decode c_m_lostBy 65 = .ok (.iload 4, 2) := by decide +kernel
theorem d_m_lostBy_67 : decode c_m_lostBy 67 = .ok (.iconst 4, 1) := by decide +kernel
theorem d_m_lostBy_68 : decode c_m_lostBy 68 = .ok (.if_icmp .ge 9, 3) := by decide +kernel
theorem d_m_lostBy_71 : decode c_m_lostBy 71 = .ok (.sipush 200, 3) := by decide +kernel
theorem d_m_lostBy_74 : decode c_m_lostBy 74 = .ok (.goto 6, 3) := by decide +kernel
theorem d_m_lostBy_77 : decode c_m_lostBy 77 = .ok (.sipush 300, 3) := by decide +kernel
theorem d_m_lostBy_80 : decode c_m_lostBy 80 = .ok (.iadd, 1) := by decide +kernel
theorem d_m_lostBy_81 : decode c_m_lostBy 81 = .ok (.istore_n 3, 1) := by decide +kernel
theorem d_m_lostBy_82 : decode c_m_lostBy 82 = .ok (.iinc 4 1, 3) := by decide +kernel
theorem d_m_lostBy_85 : decode c_m_lostBy 85 = .ok (.goto (-60), 3) := by decide +kernel
theorem d_m_lostBy_88 : decode c_m_lostBy 88 = .ok (.iload_n 1, 1) := by decide +kernel
theorem d_m_lostBy_89 : decode c_m_lostBy 89 = .ok (.iload_n 3, 1) := by decide +kernel
theorem d_m_lostBy_90 : decode c_m_lostBy 90 = .ok (.imul, 1) := by decide +kernel
theorem d_m_lostBy_91 : decode c_m_lostBy 91 = .ok (.ireturn, 1) := by decide +kernel
abbrev c_m_scoreNow : ByteArray := prog_9_method_34_code
def y_m_scoreNow : MethodName := ⟨"ShortBridgeModel", "scoreNow", "()I"⟩
theorem d_m_scoreNow_0 : decode c_m_scoreNow 0 = .ok (.aload_n 0, 1) := by decide +kernel
theorem d_m_scoreNow_1 : decode c_m_scoreNow 1 = .ok (.getfield 107, 3) := by decide +kernel
theorem d_m_scoreNow_4 : decode c_m_scoreNow 4 = .ok (.ifCond .ne 5, 3) := by decide +kernel
theorem d_m_scoreNow_7 : decode c_m_scoreNow 7 = .ok (.iconst 0, 1) := by decide +kernel
theorem d_m_scoreNow_8 : decode c_m_scoreNow 8 = .ok (.ireturn, 1) := by decide +kernel
theorem d_m_scoreNow_9 : decode c_m_scoreNow 9 = .ok (.aload_n 0, 1) := by decide +kernel
theorem d_m_scoreNow_10 : decode c_m_scoreNow 10 = .ok (.invokevirtual 154, 3) := by decide +kernel
theorem d_m_scoreNow_13 : decode c_m_scoreNow 13 = .ok (.iconst 1, 1) := by decide +kernel
theorem d_m_scoreNow_14 : decode c_m_scoreNow 14 = .ok (.aload_n 0, 1) := by decide +kernel
theorem d_m_scoreNow_15 : decode c_m_scoreNow 15 = .ok (.getfield 107, 3) := by decide +kernel
theorem d_m_scoreNow_18 : decode c_m_scoreNow 18 = .ok (.iconst 3, 1) := by decide +kernel
theorem d_m_scoreNow_19 : decode c_m_scoreNow 19 = .ok (.isub, 1) := by decide +kernel
theorem d_m_scoreNow_20 : decode c_m_scoreNow 20 = .ok (.iconst 5, 1) := by decide +kernel
theorem d_m_scoreNow_21 : decode c_m_scoreNow 21 = .ok (.idiv, 1) := by decide +kernel
theorem d_m_scoreNow_22 : decode c_m_scoreNow 22 = .ok (.iadd, 1) := by decide +kernel
theorem d_m_scoreNow_23 : decode c_m_scoreNow 23 = .ok (.istore_n 1, 1) := by decide +kernel
theorem d_m_scoreNow_24 : decode c_m_scoreNow 24 = .ok (.aload_n 0, 1) := by decide +kernel
theorem d_m_scoreNow_25 : decode c_m_scoreNow 25 = .ok (.invokevirtual 139, 3) := by decide +kernel
theorem d_m_scoreNow_28 : decode c_m_scoreNow 28 = .ok (.istore_n 2, 1) := by decide +kernel
theorem d_m_scoreNow_29 : decode c_m_scoreNow 29 = .ok (.aload_n 0, 1) := by decide +kernel
theorem d_m_scoreNow_30 : decode c_m_scoreNow 30 = .ok (.getfield 26, 3) := by decide +kernel
theorem d_m_scoreNow_33 : decode c_m_scoreNow 33 = .ok (.aload_n 0, 1) := by decide +kernel
theorem d_m_scoreNow_34 : decode c_m_scoreNow 34 = .ok (.getfield 84, 3) := by decide +kernel
theorem d_m_scoreNow_37 : decode c_m_scoreNow 37 = .ok (.iaload, 1) := by decide +kernel
theorem d_m_scoreNow_38 : decode c_m_scoreNow 38 = .ok (.istore_n 3, 1) := by decide +kernel
theorem d_m_scoreNow_39 : decode c_m_scoreNow 39 = .ok (.iload_n 1, 1) := by decide +kernel
theorem d_m_scoreNow_40 : decode c_m_scoreNow 40 = .ok (.iconst 2, 1) := by decide +kernel
theorem d_m_scoreNow_41 : decode c_m_scoreNow 41 = .ok (.iadd, 1) := by decide +kernel
theorem d_m_scoreNow_42 : decode c_m_scoreNow 42 = .ok (.istore 4, 2) := by decide +kernel
theorem d_m_scoreNow_44 : decode c_m_scoreNow 44 = .ok (.aload_n 0, 1) := by decide +kernel
theorem d_m_scoreNow_45 : decode c_m_scoreNow 45 = .ok (.getfield 78, 3) := by decide +kernel
theorem d_m_scoreNow_48 : decode c_m_scoreNow 48 = .ok (.aload_n 0, 1) := by decide +kernel
theorem d_m_scoreNow_49 : decode c_m_scoreNow 49 = .ok (.getfield 117, 3) := by decide +kernel
theorem d_m_scoreNow_52 : decode c_m_scoreNow 52 = .ok (.iconst 1, 1) := by decide +kernel
theorem d_m_scoreNow_53 : decode c_m_scoreNow 53 = .ok (.iand, 1) := by decide +kernel
theorem d_m_scoreNow_54 : decode c_m_scoreNow 54 = .ok (.ishr, 1) := by decide +kernel
theorem d_m_scoreNow_55 : decode c_m_scoreNow 55 = .ok (.iconst 1, 1) := by decide +kernel
theorem d_m_scoreNow_56 : decode c_m_scoreNow 56 = .ok (.iand, 1) := by decide +kernel
theorem d_m_scoreNow_57 : decode c_m_scoreNow 57 = .ok (.iconst 1, 1) := by decide +kernel
theorem d_m_scoreNow_58 : decode c_m_scoreNow 58 = .ok (.if_icmp .ne 7, 3) := by decide +kernel
theorem d_m_scoreNow_61 : decode c_m_scoreNow 61 = .ok (.iconst 1, 1) := by decide +kernel
theorem d_m_scoreNow_62 : decode c_m_scoreNow 62 = .ok (.goto 4, 3) := by decide +kernel
theorem d_m_scoreNow_65 : decode c_m_scoreNow 65 = .ok (.iconst 0, 1) := by decide +kernel
theorem d_m_scoreNow_66 : decode c_m_scoreNow 66 = .ok (.istore 5, 2) := by decide +kernel
theorem d_m_scoreNow_68 : decode c_m_scoreNow 68 = .ok (.iload_n 2, 1) := by decide +kernel
theorem d_m_scoreNow_69 : decode c_m_scoreNow 69 = .ok (.iconst 2, 1) := by decide +kernel
theorem d_m_scoreNow_70 : decode c_m_scoreNow 70 = .ok (.if_icmp .ge 8, 3) := by decide +kernel
theorem d_m_scoreNow_73 : decode c_m_scoreNow 73 = .ok (.bipush 20, 2) := by decide +kernel
theorem d_m_scoreNow_75 : decode c_m_scoreNow 75 = .ok (.goto 5, 3) := by decide +kernel
theorem d_m_scoreNow_78 : decode c_m_scoreNow 78 = .ok (.bipush 30, 2) := by decide +kernel
theorem d_m_scoreNow_80 : decode c_m_scoreNow 80 = .ok (.istore 6, 2) := by decide +kernel
theorem d_m_scoreNow_82 : decode c_m_scoreNow 82 = .ok (.iload 4, 2) := by decide +kernel
theorem d_m_scoreNow_84 : decode c_m_scoreNow 84 = .ok (.iload_n 3, 1) := by decide +kernel
theorem d_m_scoreNow_85 : decode c_m_scoreNow 85 = .ok (.isub, 1) := by decide +kernel
theorem d_m_scoreNow_86 : decode c_m_scoreNow 86 = .ok (.aload_n 0, 1) := by decide +kernel
theorem d_m_scoreNow_87 : decode c_m_scoreNow 87 = .ok (.getfield 110, 3) := by decide +kernel
theorem d_m_scoreNow_90 : decode c_m_scoreNow 90 = .ok (.iload 5, 2) := by decide +kernel
theorem d_m_scoreNow_92 : decode c_m_scoreNow 92 = .ok (.invokestatic 161, 3) := by decide +kernel
theorem d_m_scoreNow_95 : decode c_m_scoreNow 95 = .ok (.ineg, 1) := by decide +kernel
theorem d_m_scoreNow_96 : decode c_m_scoreNow 96 = .ok (.istore 7, 2) := by decide +kernel
theorem d_m_scoreNow_98 : decode c_m_scoreNow 98 = .ok (.iload_n 3, 1) := by decide +kernel
theorem d_m_scoreNow_99 : decode c_m_scoreNow 99 = .ok (.iload 4, 2) := by decide +kernel
theorem d_m_scoreNow_101 : decode c_m_scoreNow 101 = .ok (.if_icmp .lt 129, 3) := by decide +kernel
theorem d_m_scoreNow_104 : decode c_m_scoreNow 104 = .ok (.iload_n 1, 1) := by decide +kernel
theorem d_m_scoreNow_105 : decode c_m_scoreNow 105 = .ok (.iload 6, 2) := by decide +kernel
theorem d_m_scoreNow_107 : decode c_m_scoreNow 107 = .ok (.imul, 1) := by decide +kernel
theorem d_m_scoreNow_108 : decode c_m_scoreNow 108 = .ok (.iload_n 2, 1) := by decide +kernel
theorem d_m_scoreNow_109 : decode c_m_scoreNow 109 = .ok (.iconst 4, 1) := by decide +kernel
theorem d_m_scoreNow_110 : decode c_m_scoreNow 110 = .ok (.if_icmp .ne 8, 3) := by decide +kernel
theorem d_m_scoreNow_113 : decode c_m_scoreNow 113 = .ok (.bipush 10, 2) := by decide +kernel
theorem d_m_scoreNow_115 : decode c_m_scoreNow 115 = .ok (.goto 4, 3) := by decide +kernel
theorem d_m_scoreNow_118 : decode c_m_scoreNow 118 = .ok (.iconst 0, 1) := by decide +kernel
theorem d_m_scoreNow_119 : decode c_m_scoreNow 119 = .ok (.iadd, 1) := by decide +kernel
theorem d_m_scoreNow_120 : decode c_m_scoreNow 120 = .ok (.aload_n 0, 1) := by decide +kernel
theorem d_m_scoreNow_121 : decode c_m_scoreNow 121 = .ok (.getfield 110, 3) := by decide +kernel
theorem d_m_scoreNow_124 : decode c_m_scoreNow 124 = .ok (.ishl, 1) := by decide +kernel
theorem d_m_scoreNow_125 : decode c_m_scoreNow 125 = .ok (.istore 8, 2) := by decide +kernel
theorem d_m_scoreNow_127 : decode c_m_scoreNow 127 = .ok (.aload_n 0, 1) := by decide +kernel
theorem d_m_scoreNow_128 : decode c_m_scoreNow 128 = .ok (.getfield 110, 3) := by decide +kernel
theorem d_m_scoreNow_131 : decode c_m_scoreNow 131 = .ok (.ifCond .ne 8, 3) := by decide +kernel
theorem d_m_scoreNow_134 : decode c_m_scoreNow 134 = .ok (.iload 6, 2) := by decide +kernel
theorem d_m_scoreNow_136 : decode c_m_scoreNow 136 = .ok (.goto 21, 3) := by decide +kernel
theorem d_m_scoreNow_139 : decode c_m_scoreNow 139 = .ok (.iload 5, 2) := by decide +kernel
theorem d_m_scoreNow_141 : decode c_m_scoreNow 141 = .ok (.ifCond .eq 9, 3) := by decide +kernel
theorem d_m_scoreNow_144 : decode c_m_scoreNow 144 = .ok (.sipush 200, 3) := by decide +kernel
theorem d_m_scoreNow_147 : decode c_m_scoreNow 147 = .ok (.goto 5, 3) := by decide +kernel
theorem d_m_scoreNow_150 : decode c_m_scoreNow 150 = .ok (.bipush 100, 2) := by decide +kernel
theorem d_m_scoreNow_152 : decode c_m_scoreNow 152 = .ok (.aload_n 0, 1) := by decide +kernel
theorem d_m_scoreNow_153 : decode c_m_scoreNow 153 = .ok (.getfield 110, 3) := by decide +kernel
theorem d_m_scoreNow_156 : decode c_m_scoreNow 156 = .ok (.imul, 1) := by decide +kernel
theorem d_m_scoreNow_157 : decode c_m_scoreNow 157 = .ok (.istore 9, 2) := by decide +kernel
theorem d_m_scoreNow_159 : decode c_m_scoreNow 159 = .ok (.iload 8, 2) := by decide +kernel
theorem d_m_scoreNow_161 : decode c_m_scoreNow 161 = .ok (.iload 8, 2) := by decide +kernel
theorem d_m_scoreNow_163 : decode c_m_scoreNow 163 = .ok (.bipush 100, 2) := by decide +kernel
theorem d_m_scoreNow_165 : decode c_m_scoreNow 165 = .ok (.if_icmp .ge 8, 3) := by decide +kernel
theorem d_m_scoreNow_168 : decode c_m_scoreNow 168 = .ok (.bipush 50, 2) := by decide +kernel
theorem d_m_scoreNow_170 : decode c_m_scoreNow 170 = .ok (.goto 17, 3) := by decide +kernel
theorem d_m_scoreNow_173 : decode c_m_scoreNow 173 = .ok (.iload 5, 2) := by decide +kernel
theorem d_m_scoreNow_175 : decode c_m_scoreNow 175 = .ok (.ifCond .eq 9, 3) := by decide +kernel
theorem d_m_scoreNow_178 : decode c_m_scoreNow 178 = .ok (.sipush 500, 3) := by decide +kernel
theorem d_m_scoreNow_181 : decode c_m_scoreNow 181 = .ok (.goto 6, 3) := by decide +kernel
theorem d_m_scoreNow_184 : decode c_m_scoreNow 184 = .ok (.sipush 300, 3) := by decide +kernel
theorem d_m_scoreNow_187 : decode c_m_scoreNow 187 = .ok (.iadd, 1) := by decide +kernel
theorem d_m_scoreNow_188 : decode c_m_scoreNow 188 = .ok (.iload_n 1, 1) := by decide +kernel
theorem d_m_scoreNow_189 : decode c_m_scoreNow 189 = .ok (.iconst 3, 1) := by decide +kernel
theorem d_m_scoreNow_190 : decode c_m_scoreNow 190 = .ok (.if_icmp .ge 7, 3) := by decide +kernel
theorem d_m_scoreNow_193 : decode c_m_scoreNow 193 = .ok (.iconst 0, 1) := by decide +kernel
theorem d_m_scoreNow_194 : decode c_m_scoreNow 194 = .ok (.goto 17, 3) := by decide +kernel
theorem d_m_scoreNow_197 : decode c_m_scoreNow 197 = .ok (.iload 5, 2) := by decide +kernel
theorem d_m_scoreNow_199 : decode c_m_scoreNow 199 = .ok (.ifCond .eq 9, 3) := by decide +kernel
theorem d_m_scoreNow_202 : decode c_m_scoreNow 202 = .ok (.sipush 600, 3) := by decide +kernel
theorem d_m_scoreNow_205 : decode c_m_scoreNow 205 = .ok (.goto 6, 3) := by decide +kernel
theorem d_m_scoreNow_208 : decode c_m_scoreNow 208 = .ok (.sipush 400, 3) := by decide +kernel
theorem d_m_scoreNow_211 : decode c_m_scoreNow 211 = .ok (.iadd, 1) := by decide +kernel
theorem d_m_scoreNow_212 : decode c_m_scoreNow 212 = .ok (.bipush 50, 2) := by decide +kernel
theorem d_m_scoreNow_214 : decode c_m_scoreNow 214 = .ok (.aload_n 0, 1) := by decide +kernel
theorem d_m_scoreNow_215 : decode c_m_scoreNow 215 = .ok (.getfield 110, 3) := by decide +kernel
theorem d_m_scoreNow_218 : decode c_m_scoreNow 218 = .ok (.imul, 1) := by decide +kernel
theorem d_m_scoreNow_219 : decode c_m_scoreNow 219 = .ok (.iadd, 1) := by decide +kernel
theorem d_m_scoreNow_220 : decode c_m_scoreNow 220 = .ok (.iload 9, 2) := by decide +kernel
theorem d_m_scoreNow_222 : decode c_m_scoreNow 222 = .ok (.iload_n 3, 1) := by decide +kernel
theorem d_m_scoreNow_223 : decode c_m_scoreNow 223 = .ok (.iload 4, 2) := by decide +kernel
theorem d_m_scoreNow_225 : decode c_m_scoreNow 225 = .ok (.isub, 1) := by decide +kernel
theorem d_m_scoreNow_226 : decode c_m_scoreNow 226 = .ok (.imul, 1) := by decide +kernel
theorem d_m_scoreNow_227 : decode c_m_scoreNow 227 = .ok (.iadd, 1) := by decide +kernel
theorem d_m_scoreNow_228 : decode c_m_scoreNow 228 = .ok (.istore 7, 2) := by decide +kernel
theorem d_m_scoreNow_230 : decode c_m_scoreNow 230 = .ok (.aload_n 0, 1) := by decide +kernel
theorem d_m_scoreNow_231 : decode c_m_scoreNow 231 = .ok (.getfield 117, 3) := by decide +kernel
theorem d_m_scoreNow_234 : decode c_m_scoreNow 234 = .ok (.iconst 1, 1) := by decide +kernel
theorem d_m_scoreNow_235 : decode c_m_scoreNow 235 = .ok (.iand, 1) := by decide +kernel
theorem d_m_scoreNow_236 : decode c_m_scoreNow 236 = .ok (.ifCond .ne 8, 3) := by decide +kernel
theorem d_m_scoreNow_239 : decode c_m_scoreNow 239 = .ok (.iload 7, 2) := by decide +kernel
theorem d_m_scoreNow_241 : decode c_m_scoreNow 241 = .ok (.goto 6, 3) := by decide +kernel
theorem d_m_scoreNow_244 : decode c_m_scoreNow 244 = .ok (.iload 7, 2) := by decide +kernel
theorem d_m_scoreNow_246 : decode c_m_scoreNow 246 = .ok (.ineg, 1) := by decide +kernel
theorem d_m_scoreNow_247 : decode c_m_scoreNow 247 = .ok (.ireturn, 1) := by decide +kernel
abbrev c_m_score : ByteArray := prog_9_method_35_code
def y_m_score : MethodName := ⟨"ShortBridgeModel", "score", "()I"⟩
theorem d_m_score_0 : decode c_m_score 0 = .ok (.aload_n 0, 1) := by decide +kernel
theorem d_m_score_1 : decode c_m_score 1 = .ok (.aload_n 0, 1) := by decide +kernel
theorem d_m_score_2 : decode c_m_score 2 = .ok (.invokevirtual 132, 3) := by decide +kernel
theorem d_m_score_5 : decode c_m_score 5 = .ok (.iconst 3, 1) := by decide +kernel
theorem d_m_score_6 : decode c_m_score 6 = .ok (.if_icmp .ne 7, 3) := by decide +kernel
theorem d_m_score_9 : decode c_m_score 9 = .ok (.iconst 0, 1) := by decide +kernel
theorem d_m_score_10 : decode c_m_score 10 = .ok (.goto 4, 3) := by decide +kernel
theorem d_m_score_13 : decode c_m_score 13 = .ok (.iconst 1, 1) := by decide +kernel
theorem d_m_score_14 : decode c_m_score 14 = .ok (.putfield 50, 3) := by decide +kernel
theorem d_m_score_17 : decode c_m_score 17 = .ok (.aload_n 0, 1) := by decide +kernel
theorem d_m_score_18 : decode c_m_score 18 = .ok (.getfield 50, 3) := by decide +kernel
theorem d_m_score_21 : decode c_m_score 21 = .ok (.ifCond .le 7, 3) := by decide +kernel
theorem d_m_score_24 : decode c_m_score 24 = .ok (.iconst 0, 1) := by decide +kernel
theorem d_m_score_25 : decode c_m_score 25 = .ok (.goto 7, 3) := by decide +kernel
theorem d_m_score_28 : decode c_m_score 28 = .ok (.aload_n 0, 1) := by decide +kernel
theorem d_m_score_29 : decode c_m_score 29 = .ok (.invokevirtual 165, 3) := by decide +kernel
theorem d_m_score_32 : decode c_m_score 32 = .ok (.ireturn, 1) := by decide +kernel
abbrev c_m_enter : ByteArray := prog_9_method_36_code
def y_m_enter : MethodName := ⟨"ShortBridgeModel", "enter", "(III)V"⟩
theorem d_m_enter_0 : decode c_m_enter 0 = .ok (.aload_n 0, 1) := by decide +kernel
theorem d_m_enter_1 : decode c_m_enter 1 = .ok (.getfield 32, 3) := by decide +kernel
theorem d_m_enter_4 : decode c_m_enter 4 = .ok (.iload_n 1, 1) := by decide +kernel
theorem d_m_enter_5 : decode c_m_enter 5 = .ok (.iconst 0, 1) := by decide +kernel
theorem d_m_enter_6 : decode c_m_enter 6 = .ok (.iastore, 1) := by decide +kernel
theorem d_m_enter_7 : decode c_m_enter 7 = .ok (.aload_n 0, 1) := by decide +kernel
theorem d_m_enter_8 : decode c_m_enter 8 = .ok (.getfield 38, 3) := by decide +kernel
theorem d_m_enter_11 : decode c_m_enter 11 = .ok (.iload_n 1, 1) := by decide +kernel
theorem d_m_enter_12 : decode c_m_enter 12 = .ok (.iload_n 2, 1) := by decide +kernel
theorem d_m_enter_13 : decode c_m_enter 13 = .ok (.iastore, 1) := by decide +kernel
theorem d_m_enter_14 : decode c_m_enter 14 = .ok (.aload_n 0, 1) := by decide +kernel
theorem d_m_enter_15 : decode c_m_enter 15 = .ok (.getfield 41, 3) := by decide +kernel
theorem d_m_enter_18 : decode c_m_enter 18 = .ok (.iload_n 1, 1) := by decide +kernel
theorem d_m_enter_19 : decode c_m_enter 19 = .ok (.iload_n 3, 1) := by decide +kernel
theorem d_m_enter_20 : decode c_m_enter 20 = .ok (.iastore, 1) := by decide +kernel
theorem d_m_enter_21 : decode c_m_enter 21 = .ok (.aload_n 0, 1) := by decide +kernel
theorem d_m_enter_22 : decode c_m_enter 22 = .ok (.getfield 35, 3) := by decide +kernel
theorem d_m_enter_25 : decode c_m_enter 25 = .ok (.iload_n 1, 1) := by decide +kernel
theorem d_m_enter_26 : decode c_m_enter 26 = .ok (.aload_n 0, 1) := by decide +kernel
theorem d_m_enter_27 : decode c_m_enter 27 = .ok (.iload_n 1, 1) := by decide +kernel
theorem d_m_enter_28 : decode c_m_enter 28 = .ok (.invokevirtual 168, 3) := by decide +kernel
theorem d_m_enter_31 : decode c_m_enter 31 = .ok (.ifCond .eq 7, 3) := by decide +kernel
theorem d_m_enter_34 : decode c_m_enter 34 = .ok (.iconst (-1), 1) := by decide +kernel
theorem d_m_enter_35 : decode c_m_enter 35 = .ok (.goto 5, 3) := by decide +kernel
theorem d_m_enter_38 : decode c_m_enter 38 = .ok (.bipush 6, 2) := by decide +kernel
theorem d_m_enter_40 : decode c_m_enter 40 = .ok (.iastore, 1) := by decide +kernel
theorem d_m_enter_41 : decode c_m_enter 41 = .ok (.return_, 1) := by decide +kernel
abbrev c_m_ours : ByteArray := prog_9_method_37_code
def y_m_ours : MethodName := ⟨"ShortBridgeModel", "ours", "(I)Z"⟩
theorem d_m_ours_0 : decode c_m_ours 0 = .ok (.aload_n 0, 1) := by decide +kernel
theorem d_m_ours_1 : decode c_m_ours 1 = .ok (.getfield 23, 3) := by decide +kernel
theorem d_m_ours_4 : decode c_m_ours 4 = .ok (.iload_n 1, 1) := by decide +kernel
theorem d_m_ours_5 : decode c_m_ours 5 = .ok (.iaload, 1) := by decide +kernel
theorem d_m_ours_6 : decode c_m_ours 6 = .ok (.iconst 1, 1) := by decide +kernel
theorem d_m_ours_7 : decode c_m_ours 7 = .ok (.iand, 1) := by decide +kernel
theorem d_m_ours_8 : decode c_m_ours 8 = .ok (.aload_n 0, 1) := by decide +kernel
theorem d_m_ours_9 : decode c_m_ours 9 = .ok (.getfield 117, 3) := by decide +kernel
theorem d_m_ours_12 : decode c_m_ours 12 = .ok (.iconst 1, 1) := by decide +kernel
theorem d_m_ours_13 : decode c_m_ours 13 = .ok (.iand, 1) := by decide +kernel
theorem d_m_ours_14 : decode c_m_ours 14 = .ok (.if_icmp .ne 7, 3) := by decide +kernel
theorem d_m_ours_17 : decode c_m_ours 17 = .ok (.iconst 1, 1) := by decide +kernel
theorem d_m_ours_18 : decode c_m_ours 18 = .ok (.goto 4, 3) := by decide +kernel
theorem d_m_ours_21 : decode c_m_ours 21 = .ok (.iconst 0, 1) := by decide +kernel
theorem d_m_ours_22 : decode c_m_ours 22 = .ok (.ireturn, 1) := by decide +kernel
abbrev c_m_nextTry : ByteArray := prog_9_method_38_code
def y_m_nextTry : MethodName := ⟨"ShortBridgeModel", "nextTry", "(I)I"⟩
theorem d_m_nextTry_0 : decode c_m_nextTry 0 = .ok (.aload_n 0, 1) := by decide +kernel
theorem d_m_nextTry_1 : decode c_m_nextTry 1 = .ok (.getfield 32, 3) := by decide +kernel
theorem d_m_nextTry_4 : decode c_m_nextTry 4 = .ok (.iload_n 1, 1) := by decide +kernel
theorem d_m_nextTry_5 : decode c_m_nextTry 5 = .ok (.iaload, 1) := by decide +kernel
theorem d_m_nextTry_6 : decode c_m_nextTry 6 = .ok (.istore_n 2, 1) := by decide +kernel
theorem d_m_nextTry_7 : decode c_m_nextTry 7 = .ok (.iload_n 2, 1) := by decide +kernel
theorem d_m_nextTry_8 : decode c_m_nextTry 8 = .ok (.bipush 20, 2) := by decide +kernel
theorem d_m_nextTry_10 : decode c_m_nextTry 10 = .ok (.if_icmp .ge 34, 3) := by decide +kernel
theorem d_m_nextTry_13 : decode c_m_nextTry 13 = .ok (.aload_n 0, 1) := by decide +kernel
theorem d_m_nextTry_14 : decode c_m_nextTry 14 = .ok (.aload_n 0, 1) := by decide +kernel
theorem d_m_nextTry_15 : decode c_m_nextTry 15 = .ok (.getfield 23, 3) := by decide +kernel
theorem d_m_nextTry_18 : decode c_m_nextTry 18 = .ok (.iload_n 1, 1) := by decide +kernel
theorem d_m_nextTry_19 : decode c_m_nextTry 19 = .ok (.iaload, 1) := by decide +kernel
theorem d_m_nextTry_20 : decode c_m_nextTry 20 = .ok (.iload_n 2, 1) := by decide +kernel
theorem d_m_nextTry_21 : decode c_m_nextTry 21 = .ok (.iload_n 1, 1) := by decide +kernel
theorem d_m_nextTry_22 : decode c_m_nextTry 22 = .ok (.invokevirtual 150, 3) := by decide +kernel
theorem d_m_nextTry_25 : decode c_m_nextTry 25 = .ok (.ifCond .eq 12, 3) := by decide +kernel
theorem d_m_nextTry_28 : decode c_m_nextTry 28 = .ok (.aload_n 0, 1) := by decide +kernel
theorem d_m_nextTry_29 : decode c_m_nextTry 29 = .ok (.iload_n 2, 1) := by decide +kernel
theorem d_m_nextTry_30 : decode c_m_nextTry 30 = .ok (.iload_n 1, 1) := by decide +kernel
theorem d_m_nextTry_31 : decode c_m_nextTry 31 = .ok (.invokevirtual 157, 3) := by decide +kernel
theorem d_m_nextTry_34 : decode c_m_nextTry 34 = .ok (.ifCond .ne 10, 3) := by decide +kernel
theorem d_m_nextTry_37 : decode c_m_nextTry 37 = .ok (.iload_n 2, 1) := by decide +kernel
theorem d_m_nextTry_38 : decode c_m_nextTry 38 = .ok (.iconst 1, 1) := by decide +kernel
theorem d_m_nextTry_39 : decode c_m_nextTry 39 = .ok (.iadd, 1) := by decide +kernel
theorem d_m_nextTry_40 : decode c_m_nextTry 40 = .ok (.istore_n 2, 1) := by decide +kernel
theorem d_m_nextTry_41 : decode c_m_nextTry 41 = .ok (.goto (-34), 3) := by decide +kernel
theorem d_m_nextTry_44 : decode c_m_nextTry 44 = .ok (.iload_n 2, 1) := by decide +kernel
theorem d_m_nextTry_45 : decode c_m_nextTry 45 = .ok (.ireturn, 1) := by decide +kernel
abbrev c_m_take : ByteArray := prog_9_method_39_code
def y_m_take : MethodName := ⟨"ShortBridgeModel", "take", "(II)V"⟩
theorem d_m_take_0 : decode c_m_take 0 = .ok (.aload_n 0, 1) := by decide +kernel
theorem d_m_take_1 : decode c_m_take 1 = .ok (.iload_n 1, 1) := by decide +kernel
theorem d_m_take_2 : decode c_m_take 2 = .ok (.invokevirtual 168, 3) := by decide +kernel
theorem d_m_take_5 : decode c_m_take 5 = .ok (.ifCond .eq 68, 3) := by decide +kernel
theorem d_m_take_8 : decode c_m_take 8 = .ok (.aload_n 0, 1) := by decide +kernel
theorem d_m_take_9 : decode c_m_take 9 = .ok (.getfield 35, 3) := by decide +kernel
theorem d_m_take_12 : decode c_m_take 12 = .ok (.iload_n 1, 1) := by decide +kernel
theorem d_m_take_13 : decode c_m_take 13 = .ok (.iload_n 2, 1) := by decide +kernel
theorem d_m_take_14 : decode c_m_take 14 = .ok (.aload_n 0, 1) := by decide +kernel
theorem d_m_take_15 : decode c_m_take 15 = .ok (.getfield 35, 3) := by decide +kernel
theorem d_m_take_18 : decode c_m_take 18 = .ok (.iload_n 1, 1) := by decide +kernel
theorem d_m_take_19 : decode c_m_take 19 = .ok (.iaload, 1) := by decide +kernel
theorem d_m_take_20 : decode c_m_take 20 = .ok (.if_icmp .le 7, 3) := by decide +kernel
theorem d_m_take_23 : decode c_m_take 23 = .ok (.iload_n 2, 1) := by decide +kernel
theorem d_m_take_24 : decode c_m_take 24 = .ok (.goto 9, 3) := by decide +kernel
theorem d_m_take_27 : decode c_m_take 27 = .ok (.aload_n 0, 1) := by decide +kernel
theorem d_m_take_28 : decode c_m_take 28 = .ok (.getfield 35, 3) := by decide +kernel
theorem d_m_take_31 : decode c_m_take 31 = .ok (.iload_n 1, 1) := by decide +kernel
theorem d_m_take_32 : decode c_m_take 32 = .ok (.iaload, 1) := by decide +kernel
theorem d_m_take_33 : decode c_m_take 33 = .ok (.iastore, 1) := by decide +kernel
theorem d_m_take_34 : decode c_m_take 34 = .ok (.aload_n 0, 1) := by decide +kernel
theorem d_m_take_35 : decode c_m_take 35 = .ok (.getfield 38, 3) := by decide +kernel
theorem d_m_take_38 : decode c_m_take 38 = .ok (.iload_n 1, 1) := by decide +kernel
theorem d_m_take_39 : decode c_m_take 39 = .ok (.aload_n 0, 1) := by decide +kernel
theorem d_m_take_40 : decode c_m_take 40 = .ok (.getfield 35, 3) := by decide +kernel
theorem d_m_take_43 : decode c_m_take 43 = .ok (.iload_n 1, 1) := by decide +kernel
theorem d_m_take_44 : decode c_m_take 44 = .ok (.iaload, 1) := by decide +kernel
theorem d_m_take_45 : decode c_m_take 45 = .ok (.aload_n 0, 1) := by decide +kernel
theorem d_m_take_46 : decode c_m_take 46 = .ok (.getfield 38, 3) := by decide +kernel
theorem d_m_take_49 : decode c_m_take 49 = .ok (.iload_n 1, 1) := by decide +kernel
theorem d_m_take_50 : decode c_m_take 50 = .ok (.iaload, 1) := by decide +kernel
theorem d_m_take_51 : decode c_m_take 51 = .ok (.if_icmp .le 12, 3) := by decide +kernel
theorem d_m_take_54 : decode c_m_take 54 = .ok (.aload_n 0, 1) := by decide +kernel
theorem d_m_take_55 : decode c_m_take 55 = .ok (.getfield 35, 3) := by decide +kernel
theorem d_m_take_58 : decode c_m_take 58 = .ok (.iload_n 1, 1) := by decide +kernel
theorem d_m_take_59 : decode c_m_take 59 = .ok (.iaload, 1) := by decide +kernel
theorem d_m_take_60 : decode c_m_take 60 = .ok (.goto 9, 3) := by decide +kernel
theorem d_m_take_63 : decode c_m_take 63 = .ok (.aload_n 0, 1) := by decide +kernel
theorem d_m_take_64 : decode c_m_take 64 = .ok (.getfield 38, 3) := by decide +kernel
theorem d_m_take_67 : decode c_m_take 67 = .ok (.iload_n 1, 1) := by decide +kernel
theorem d_m_take_68 : decode c_m_take 68 = .ok (.iaload, 1) := by decide +kernel
theorem d_m_take_69 : decode c_m_take 69 = .ok (.iastore, 1) := by decide +kernel
theorem d_m_take_70 : decode c_m_take 70 = .ok (.goto 65, 3) := by decide +kernel
theorem d_m_take_73 : decode c_m_take 73 = .ok (.aload_n 0, 1) := by decide +kernel
theorem d_m_take_74 : decode c_m_take 74 = .ok (.getfield 35, 3) := by decide +kernel
theorem d_m_take_77 : decode c_m_take 77 = .ok (.iload_n 1, 1) := by decide +kernel
theorem d_m_take_78 : decode c_m_take 78 = .ok (.iload_n 2, 1) := by decide +kernel
theorem d_m_take_79 : decode c_m_take 79 = .ok (.aload_n 0, 1) := by decide +kernel
theorem d_m_take_80 : decode c_m_take 80 = .ok (.getfield 35, 3) := by decide +kernel
theorem d_m_take_83 : decode c_m_take 83 = .ok (.iload_n 1, 1) := by decide +kernel
theorem d_m_take_84 : decode c_m_take 84 = .ok (.iaload, 1) := by decide +kernel
theorem d_m_take_85 : decode c_m_take 85 = .ok (.if_icmp .ge 7, 3) := by decide +kernel
theorem d_m_take_88 : decode c_m_take 88 = .ok (.iload_n 2, 1) := by decide +kernel
theorem d_m_take_89 : decode c_m_take 89 = .ok (.goto 9, 3) := by decide +kernel
theorem d_m_take_92 : decode c_m_take 92 = .ok (.aload_n 0, 1) := by decide +kernel
theorem d_m_take_93 : decode c_m_take 93 = .ok (.getfield 35, 3) := by decide +kernel
theorem d_m_take_96 : decode c_m_take 96 = .ok (.iload_n 1, 1) := by decide +kernel
theorem d_m_take_97 : decode c_m_take 97 = .ok (.iaload, 1) := by decide +kernel
theorem d_m_take_98 : decode c_m_take 98 = .ok (.iastore, 1) := by decide +kernel
theorem d_m_take_99 : decode c_m_take 99 = .ok (.aload_n 0, 1) := by decide +kernel
theorem d_m_take_100 : decode c_m_take 100 = .ok (.getfield 41, 3) := by decide +kernel
theorem d_m_take_103 : decode c_m_take 103 = .ok (.iload_n 1, 1) := by decide +kernel
theorem d_m_take_104 : decode c_m_take 104 = .ok (.aload_n 0, 1) := by decide +kernel
theorem d_m_take_105 : decode c_m_take 105 = .ok (.getfield 35, 3) := by decide +kernel
theorem d_m_take_108 : decode c_m_take 108 = .ok (.iload_n 1, 1) := by decide +kernel
theorem d_m_take_109 : decode c_m_take 109 = .ok (.iaload, 1) := by decide +kernel
theorem d_m_take_110 : decode c_m_take 110 = .ok (.aload_n 0, 1) := by decide +kernel
theorem d_m_take_111 : decode c_m_take 111 = .ok (.getfield 41, 3) := by decide +kernel
theorem d_m_take_114 : decode c_m_take 114 = .ok (.iload_n 1, 1) := by decide +kernel
theorem d_m_take_115 : decode c_m_take 115 = .ok (.iaload, 1) := by decide +kernel
theorem d_m_take_116 : decode c_m_take 116 = .ok (.if_icmp .ge 12, 3) := by decide +kernel
theorem d_m_take_119 : decode c_m_take 119 = .ok (.aload_n 0, 1) := by decide +kernel
theorem d_m_take_120 : decode c_m_take 120 = .ok (.getfield 35, 3) := by decide +kernel
theorem d_m_take_123 : decode c_m_take 123 = .ok (.iload_n 1, 1) := by decide +kernel
theorem d_m_take_124 : decode c_m_take 124 = .ok (.iaload, 1) := by decide +kernel
theorem d_m_take_125 : decode c_m_take 125 = .ok (.goto 9, 3) := by decide +kernel
theorem d_m_take_128 : decode c_m_take 128 = .ok (.aload_n 0, 1) := by decide +kernel
theorem d_m_take_129 : decode c_m_take 129 = .ok (.getfield 41, 3) := by decide +kernel
theorem d_m_take_132 : decode c_m_take 132 = .ok (.iload_n 1, 1) := by decide +kernel
theorem d_m_take_133 : decode c_m_take 133 = .ok (.iaload, 1) := by decide +kernel
theorem d_m_take_134 : decode c_m_take 134 = .ok (.iastore, 1) := by decide +kernel
theorem d_m_take_135 : decode c_m_take 135 = .ok (.aload_n 0, 1) := by decide +kernel
theorem d_m_take_136 : decode c_m_take 136 = .ok (.getfield 32, 3) := by decide +kernel
theorem d_m_take_139 : decode c_m_take 139 = .ok (.iload_n 1, 1) := by decide +kernel
theorem d_m_take_140 : decode c_m_take 140 = .ok (.aload_n 0, 1) := by decide +kernel
theorem d_m_take_141 : decode c_m_take 141 = .ok (.getfield 38, 3) := by decide +kernel
theorem d_m_take_144 : decode c_m_take 144 = .ok (.iload_n 1, 1) := by decide +kernel
theorem d_m_take_145 : decode c_m_take 145 = .ok (.iaload, 1) := by decide +kernel
theorem d_m_take_146 : decode c_m_take 146 = .ok (.aload_n 0, 1) := by decide +kernel
theorem d_m_take_147 : decode c_m_take 147 = .ok (.getfield 41, 3) := by decide +kernel
theorem d_m_take_150 : decode c_m_take 150 = .ok (.iload_n 1, 1) := by decide +kernel
theorem d_m_take_151 : decode c_m_take 151 = .ok (.iaload, 1) := by decide +kernel
theorem d_m_take_152 : decode c_m_take 152 = .ok (.if_icmp .lt 8, 3) := by decide +kernel
theorem d_m_take_155 : decode c_m_take 155 = .ok (.bipush 20, 2) := by decide +kernel
theorem d_m_take_157 : decode c_m_take 157 = .ok (.goto 9, 3) := by decide +kernel
theorem d_m_take_160 : decode c_m_take 160 = .ok (.aload_n 0, 1) := by decide +kernel
theorem d_m_take_161 : decode c_m_take 161 = .ok (.getfield 32, 3) := by decide +kernel
theorem d_m_take_164 : decode c_m_take 164 = .ok (.iload_n 1, 1) := by decide +kernel
theorem d_m_take_165 : decode c_m_take 165 = .ok (.iaload, 1) := by decide +kernel
theorem d_m_take_166 : decode c_m_take 166 = .ok (.iastore, 1) := by decide +kernel
theorem d_m_take_167 : decode c_m_take 167 = .ok (.return_, 1) := by decide +kernel
abbrev c_m_solveFrom : ByteArray := prog_9_method_40_code
def y_m_solveFrom : MethodName := ⟨"ShortBridgeModel", "solveFrom", "(I)I"⟩
theorem d_m_solveFrom_0 : decode c_m_solveFrom 0 = .ok (.iload_n 1, 1) := by decide +kernel
theorem d_m_solveFrom_1 : decode c_m_solveFrom 1 = .ok (.istore_n 2, 1) := by decide +kernel
theorem d_m_solveFrom_2 : decode c_m_solveFrom 2 = .ok (.aload_n 0, 1) := by decide +kernel
theorem d_m_solveFrom_3 : decode c_m_solveFrom 3 = .ok (.iload_n 2, 1) := by decide +kernel
theorem d_m_solveFrom_4 : decode c_m_solveFrom 4 = .ok (.iconst (-1), 1) := by decide +kernel
theorem d_m_solveFrom_5 : decode c_m_solveFrom 5 = .ok (.bipush 6, 2) := by decide +kernel
theorem d_m_solveFrom_7 : decode c_m_solveFrom 7 = .ok (.invokevirtual 171, 3) := by decide +kernel
theorem d_m_solveFrom_10 : decode c_m_solveFrom 10 = .ok (.iconst 1, 1) := by decide +kernel
theorem d_m_solveFrom_11 : decode c_m_solveFrom 11 = .ok (.istore_n 3, 1) := by decide +kernel
theorem d_m_solveFrom_12 : decode c_m_solveFrom 12 = .ok (.iload_n 3, 1) := by decide +kernel
theorem d_m_solveFrom_13 : decode c_m_solveFrom 13 = .ok (.ifCond .eq 125, 3) := by decide +kernel
theorem d_m_solveFrom_16 : decode c_m_solveFrom 16 = .ok (.iload_n 2, 1) := by decide +kernel
theorem d_m_solveFrom_17 : decode c_m_solveFrom 17 = .ok (.bipush 20, 2) := by decide +kernel
theorem d_m_solveFrom_19 : decode c_m_solveFrom 19 = .ok (.if_icmp .ne 8, 3) := by decide +kernel
theorem d_m_solveFrom_22 : decode c_m_solveFrom 22 = .ok (.bipush 20, 2) := by decide +kernel
theorem d_m_solveFrom_24 : decode c_m_solveFrom 24 = .ok (.goto 8, 3) := by decide +kernel
theorem d_m_solveFrom_27 : decode c_m_solveFrom 27 = .ok (.aload_n 0, 1) := by decide +kernel
theorem d_m_solveFrom_28 : decode c_m_solveFrom 28 = .ok (.iload_n 2, 1) := by decide +kernel
theorem d_m_solveFrom_29 : decode c_m_solveFrom 29 = .ok (.invokevirtual 175, 3) := by decide +kernel
theorem d_m_solveFrom_32 : decode c_m_solveFrom 32 = .ok (.istore 4, 2) := by decide +kernel
theorem d_m_solveFrom_34 : decode c_m_solveFrom 34 = .ok (.iload 4, 2) := by decide +kernel
theorem d_m_solveFrom_36 : decode c_m_solveFrom 36 = .ok (.bipush 20, 2) := by decide +kernel
theorem d_m_solveFrom_38 : decode c_m_solveFrom 38 = .ok (.if_icmp .ge 52, 3) := by decide +kernel
theorem d_m_solveFrom_41 : decode c_m_solveFrom 41 = .ok (.aload_n 0, 1) := by decide +kernel
theorem d_m_solveFrom_42 : decode c_m_solveFrom 42 = .ok (.getfield 20, 3) := by decide +kernel
theorem d_m_solveFrom_45 : decode c_m_solveFrom 45 = .ok (.iload_n 2, 1) := by decide +kernel
theorem d_m_solveFrom_46 : decode c_m_solveFrom 46 = .ok (.iload 4, 2) := by decide +kernel
theorem d_m_solveFrom_48 : decode c_m_solveFrom 48 = .ok (.iastore, 1) := by decide +kernel
theorem d_m_solveFrom_49 : decode c_m_solveFrom 49 = .ok (.aload_n 0, 1) := by decide +kernel
theorem d_m_solveFrom_50 : decode c_m_solveFrom 50 = .ok (.getfield 32, 3) := by decide +kernel
theorem d_m_solveFrom_53 : decode c_m_solveFrom 53 = .ok (.iload_n 2, 1) := by decide +kernel
theorem d_m_solveFrom_54 : decode c_m_solveFrom 54 = .ok (.iload 4, 2) := by decide +kernel
theorem d_m_solveFrom_56 : decode c_m_solveFrom 56 = .ok (.iconst 1, 1) := by decide +kernel
theorem d_m_solveFrom_57 : decode c_m_solveFrom 57 = .ok (.iadd, 1) := by decide +kernel
theorem d_m_solveFrom_58 : decode c_m_solveFrom 58 = .ok (.iastore, 1) := by decide +kernel
theorem d_m_solveFrom_59 : decode c_m_solveFrom 59 = .ok (.aload_n 0, 1) := by decide +kernel
theorem d_m_solveFrom_60 : decode c_m_solveFrom 60 = .ok (.iload_n 2, 1) := by decide +kernel
theorem d_m_solveFrom_61 : decode c_m_solveFrom 61 = .ok (.invokevirtual 146, 3) := by decide +kernel
theorem d_m_solveFrom_64 : decode c_m_solveFrom 64 = .ok (.aload_n 0, 1) := by decide +kernel
theorem d_m_solveFrom_65 : decode c_m_solveFrom 65 = .ok (.iload_n 2, 1) := by decide +kernel
theorem d_m_solveFrom_66 : decode c_m_solveFrom 66 = .ok (.iconst 1, 1) := by decide +kernel
theorem d_m_solveFrom_67 : decode c_m_solveFrom 67 = .ok (.iadd, 1) := by decide +kernel
theorem d_m_solveFrom_68 : decode c_m_solveFrom 68 = .ok (.aload_n 0, 1) := by decide +kernel
theorem d_m_solveFrom_69 : decode c_m_solveFrom 69 = .ok (.getfield 38, 3) := by decide +kernel
theorem d_m_solveFrom_72 : decode c_m_solveFrom 72 = .ok (.iload_n 2, 1) := by decide +kernel
theorem d_m_solveFrom_73 : decode c_m_solveFrom 73 = .ok (.iaload, 1) := by decide +kernel
theorem d_m_solveFrom_74 : decode c_m_solveFrom 74 = .ok (.aload_n 0, 1) := by decide +kernel
theorem d_m_solveFrom_75 : decode c_m_solveFrom 75 = .ok (.getfield 41, 3) := by decide +kernel
theorem d_m_solveFrom_78 : decode c_m_solveFrom 78 = .ok (.iload_n 2, 1) := by decide +kernel
theorem d_m_solveFrom_79 : decode c_m_solveFrom 79 = .ok (.iaload, 1) := by decide +kernel
theorem d_m_solveFrom_80 : decode c_m_solveFrom 80 = .ok (.invokevirtual 171, 3) := by decide +kernel
theorem d_m_solveFrom_83 : decode c_m_solveFrom 83 = .ok (.iload_n 2, 1) := by decide +kernel
theorem d_m_solveFrom_84 : decode c_m_solveFrom 84 = .ok (.iconst 1, 1) := by decide +kernel
theorem d_m_solveFrom_85 : decode c_m_solveFrom 85 = .ok (.iadd, 1) := by decide +kernel
theorem d_m_solveFrom_86 : decode c_m_solveFrom 86 = .ok (.istore_n 2, 1) := by decide +kernel
theorem d_m_solveFrom_87 : decode c_m_solveFrom 87 = .ok (.goto 48, 3) := by decide +kernel
theorem d_m_solveFrom_90 : decode c_m_solveFrom 90 = .ok (.iload_n 2, 1) := by decide +kernel
theorem d_m_solveFrom_91 : decode c_m_solveFrom 91 = .ok (.iload_n 1, 1) := by decide +kernel
theorem d_m_solveFrom_92 : decode c_m_solveFrom 92 = .ok (.if_icmp .ne 8, 3) := by decide +kernel
theorem d_m_solveFrom_95 : decode c_m_solveFrom 95 = .ok (.iconst 0, 1) := by decide +kernel
theorem d_m_solveFrom_96 : decode c_m_solveFrom 96 = .ok (.istore_n 3, 1) := by decide +kernel
theorem d_m_solveFrom_97 : decode c_m_solveFrom 97 = .ok (.goto 38, 3) := by decide +kernel
theorem d_m_solveFrom_100 : decode c_m_solveFrom 100 = .ok (.iload_n 2, 1) := by decide +kernel
theorem d_m_solveFrom_101 : decode c_m_solveFrom 101 = .ok (.bipush 20, 2) := by decide +kernel
theorem d_m_solveFrom_103 : decode c_m_solveFrom 103 = .ok (.if_icmp .ne 13, 3) := by decide +kernel
theorem d_m_solveFrom_106 : decode c_m_solveFrom 106 = .ok (.aload_n 0, 1) := by decide +kernel
theorem d_m_solveFrom_107 : decode c_m_solveFrom 107 = .ok (.getfield 26, 3) := by decide +kernel
theorem d_m_solveFrom_110 : decode c_m_solveFrom 110 = .ok (.bipush 20, 2) := by decide +kernel
theorem d_m_solveFrom_112 : decode c_m_solveFrom 112 = .ok (.iaload, 1) := by decide +kernel
theorem d_m_solveFrom_113 : decode c_m_solveFrom 113 = .ok (.goto 9, 3) := by decide +kernel
theorem d_m_solveFrom_116 : decode c_m_solveFrom 116 = .ok (.aload_n 0, 1) := by decide +kernel
theorem d_m_solveFrom_117 : decode c_m_solveFrom 117 = .ok (.getfield 35, 3) := by decide +kernel
theorem d_m_solveFrom_120 : decode c_m_solveFrom 120 = .ok (.iload_n 2, 1) := by decide +kernel
theorem d_m_solveFrom_121 : decode c_m_solveFrom 121 = .ok (.iaload, 1) := by decide +kernel
theorem d_m_solveFrom_122 : decode c_m_solveFrom 122 = .ok (.istore 5, 2) := by decide +kernel
theorem d_m_solveFrom_124 : decode c_m_solveFrom 124 = .ok (.iload_n 2, 1) := by decide +kernel
theorem d_m_solveFrom_125 : decode c_m_solveFrom 125 = .ok (.iconst 1, 1) := by decide +kernel
theorem d_m_solveFrom_126 : decode c_m_solveFrom 126 = .ok (.isub, 1) := by decide +kernel
theorem d_m_solveFrom_127 : decode c_m_solveFrom 127 = .ok (.istore_n 2, 1) := by decide +kernel
theorem d_m_solveFrom_128 : decode c_m_solveFrom 128 = .ok (.aload_n 0, 1) := by decide +kernel
theorem d_m_solveFrom_129 : decode c_m_solveFrom 129 = .ok (.iload_n 2, 1) := by decide +kernel
theorem d_m_solveFrom_130 : decode c_m_solveFrom 130 = .ok (.iload 5, 2) := by decide +kernel
theorem d_m_solveFrom_132 : decode c_m_solveFrom 132 = .ok (.invokevirtual 178, 3) := by decide +kernel
theorem d_m_solveFrom_135 : decode c_m_solveFrom 135 = .ok (.goto (-123), 3) := by decide +kernel
theorem d_m_solveFrom_138 : decode c_m_solveFrom 138 = .ok (.aload_n 0, 1) := by decide +kernel
theorem d_m_solveFrom_139 : decode c_m_solveFrom 139 = .ok (.getfield 35, 3) := by decide +kernel
theorem d_m_solveFrom_142 : decode c_m_solveFrom 142 = .ok (.iload_n 1, 1) := by decide +kernel
theorem d_m_solveFrom_143 : decode c_m_solveFrom 143 = .ok (.iaload, 1) := by decide +kernel
theorem d_m_solveFrom_144 : decode c_m_solveFrom 144 = .ok (.ireturn, 1) := by decide +kernel
abbrev c_m_solve : ByteArray := prog_9_method_41_code
def y_m_solve : MethodName := ⟨"ShortBridgeModel", "solve", "()I"⟩
theorem d_m_solve_0 : decode c_m_solve 0 = .ok (.aload_n 0, 1) := by decide +kernel
theorem d_m_solve_1 : decode c_m_solve 1 = .ok (.aload_n 0, 1) := by decide +kernel
theorem d_m_solve_2 : decode c_m_solve 2 = .ok (.invokevirtual 132, 3) := by decide +kernel
theorem d_m_solve_5 : decode c_m_solve 5 = .ok (.iconst 2, 1) := by decide +kernel
theorem d_m_solve_6 : decode c_m_solve 6 = .ok (.if_icmp .ne 7, 3) := by decide +kernel
theorem d_m_solve_9 : decode c_m_solve 9 = .ok (.iconst 0, 1) := by decide +kernel
theorem d_m_solve_10 : decode c_m_solve 10 = .ok (.goto 4, 3) := by decide +kernel
theorem d_m_solve_13 : decode c_m_solve 13 = .ok (.iconst 1, 1) := by decide +kernel
theorem d_m_solve_14 : decode c_m_solve 14 = .ok (.putfield 50, 3) := by decide +kernel
theorem d_m_solve_17 : decode c_m_solve 17 = .ok (.aload_n 0, 1) := by decide +kernel
theorem d_m_solve_18 : decode c_m_solve 18 = .ok (.invokevirtual 154, 3) := by decide +kernel
theorem d_m_solve_21 : decode c_m_solve 21 = .ok (.aload_n 0, 1) := by decide +kernel
theorem d_m_solve_22 : decode c_m_solve 22 = .ok (.getfield 50, 3) := by decide +kernel
theorem d_m_solve_25 : decode c_m_solve 25 = .ok (.ifCond .ne 83, 3) := by decide +kernel
theorem d_m_solve_28 : decode c_m_solve 28 = .ok (.iconst 0, 1) := by decide +kernel
theorem d_m_solve_29 : decode c_m_solve 29 = .ok (.istore_n 1, 1) := by decide +kernel
theorem d_m_solve_30 : decode c_m_solve 30 = .ok (.iconst 0, 1) := by decide +kernel
theorem d_m_solve_31 : decode c_m_solve 31 = .ok (.istore_n 2, 1) := by decide +kernel
theorem d_m_solve_32 : decode c_m_solve 32 = .ok (.iload_n 2, 1) := by decide +kernel
theorem d_m_solve_33 : decode c_m_solve 33 = .ok (.iconst 4, 1) := by decide +kernel
theorem d_m_solve_34 : decode c_m_solve 34 = .ok (.if_icmp .ge 60, 3) := by decide +kernel
theorem d_m_solve_37 : decode c_m_solve 37 = .ok (.iconst 0, 1) := by decide +kernel
theorem d_m_solve_38 : decode c_m_solve 38 = .ok (.istore_n 3, 1) := by decide +kernel
theorem d_m_solve_39 : decode c_m_solve 39 = .ok (.iconst 0, 1) := by decide +kernel
theorem d_m_solve_40 : decode c_m_solve 40 = .ok (.istore 4, 2) := by decide +kernel
theorem d_m_solve_42 : decode c_m_solve 42 = .ok (.iload 4, 2) := by decide +kernel
theorem d_m_solve_44 : decode c_m_solve 44 = .ok (.bipush 20, 2) := by decide +kernel
theorem d_m_solve_46 : decode c_m_solve 46 = .ok (.if_icmp .ge 31, 3) := by decide +kernel
theorem d_m_solve_49 : decode c_m_solve 49 = .ok (.aload_n 0, 1) := by decide +kernel
theorem d_m_solve_50 : decode c_m_solve 50 = .ok (.iload_n 2, 1) := by decide +kernel
theorem d_m_solve_51 : decode c_m_solve 51 = .ok (.iload 4, 2) := by decide +kernel
theorem d_m_solve_53 : decode c_m_solve 53 = .ok (.aload_n 0, 1) := by decide +kernel
theorem d_m_solve_54 : decode c_m_solve 54 = .ok (.getfield 84, 3) := by decide +kernel
theorem d_m_solve_57 : decode c_m_solve 57 = .ok (.invokevirtual 150, 3) := by decide +kernel
theorem d_m_solve_60 : decode c_m_solve 60 = .ok (.ifCond .eq 9, 3) := by decide +kernel
theorem d_m_solve_63 : decode c_m_solve 63 = .ok (.iload_n 3, 1) := by decide +kernel
theorem d_m_solve_64 : decode c_m_solve 64 = .ok (.iconst 1, 1) := by decide +kernel
theorem d_m_solve_65 : decode c_m_solve 65 = .ok (.iadd, 1) := by decide +kernel
theorem d_m_solve_66 : decode c_m_solve 66 = .ok (.goto 4, 3) := by decide +kernel
theorem d_m_solve_69 : decode c_m_solve 69 = .ok (.iload_n 3, 1) := by decide +kernel
theorem d_m_solve_70 : decode c_m_solve 70 = .ok (.istore_n 3, 1) := by decide +kernel
theorem d_m_solve_71 : decode c_m_solve 71 = .ok (.iinc 4 1, 3) := by decide +kernel
theorem d_m_solve_74 : decode c_m_solve 74 = .ok (.goto (-32), 3) := by decide +kernel
theorem d_m_solve_77 : decode c_m_solve 77 = .ok (.iload_n 3, 1) := by decide +kernel
theorem d_m_solve_78 : decode c_m_solve 78 = .ok (.iload_n 1, 1) := by decide +kernel
theorem d_m_solve_79 : decode c_m_solve 79 = .ok (.if_icmp .le 7, 3) := by decide +kernel
theorem d_m_solve_82 : decode c_m_solve 82 = .ok (.iload_n 3, 1) := by decide +kernel
theorem d_m_solve_83 : decode c_m_solve 83 = .ok (.goto 4, 3) := by decide +kernel
theorem d_m_solve_86 : decode c_m_solve 86 = .ok (.iload_n 1, 1) := by decide +kernel
theorem d_m_solve_87 : decode c_m_solve 87 = .ok (.istore_n 1, 1) := by decide +kernel
theorem d_m_solve_88 : decode c_m_solve 88 = .ok (.iinc 2 1, 3) := by decide +kernel
theorem d_m_solve_91 : decode c_m_solve 91 = .ok (.goto (-59), 3) := by decide +kernel
theorem d_m_solve_94 : decode c_m_solve 94 = .ok (.aload_n 0, 1) := by decide +kernel
theorem d_m_solve_95 : decode c_m_solve 95 = .ok (.iload_n 1, 1) := by decide +kernel
theorem d_m_solve_96 : decode c_m_solve 96 = .ok (.iconst 5, 1) := by decide +kernel
theorem d_m_solve_97 : decode c_m_solve 97 = .ok (.if_icmp .ne 7, 3) := by decide +kernel
theorem d_m_solve_100 : decode c_m_solve 100 = .ok (.iconst 2, 1) := by decide +kernel
theorem d_m_solve_101 : decode c_m_solve 101 = .ok (.goto 4, 3) := by decide +kernel
theorem d_m_solve_104 : decode c_m_solve 104 = .ok (.iconst 0, 1) := by decide +kernel
theorem d_m_solve_105 : decode c_m_solve 105 = .ok (.putfield 50, 3) := by decide +kernel
theorem d_m_solve_108 : decode c_m_solve 108 = .ok (.aload_n 0, 1) := by decide +kernel
theorem d_m_solve_109 : decode c_m_solve 109 = .ok (.getfield 50, 3) := by decide +kernel
theorem d_m_solve_112 : decode c_m_solve 112 = .ok (.ifCond .le 5, 3) := by decide +kernel
theorem d_m_solve_115 : decode c_m_solve 115 = .ok (.iconst 0, 1) := by decide +kernel
theorem d_m_solve_116 : decode c_m_solve 116 = .ok (.ireturn, 1) := by decide +kernel
theorem d_m_solve_117 : decode c_m_solve 117 = .ok (.aload_n 0, 1) := by decide +kernel
theorem d_m_solve_118 : decode c_m_solve 118 = .ok (.aload_n 0, 1) := by decide +kernel
theorem d_m_solve_119 : decode c_m_solve 119 = .ok (.getfield 84, 3) := by decide +kernel
theorem d_m_solve_122 : decode c_m_solve 122 = .ok (.invokevirtual 181, 3) := by decide +kernel
theorem d_m_solve_125 : decode c_m_solve 125 = .ok (.ireturn, 1) := by decide +kernel
abbrev c_m_record : ByteArray := prog_9_method_42_code
def y_m_record : MethodName := ⟨"ShortBridgeModel", "record", "()I"⟩
theorem d_m_record_0 : decode c_m_record 0 = .ok (.aload_n 0, 1) := by decide +kernel
theorem d_m_record_1 : decode c_m_record 1 = .ok (.aload_n 0, 1) := by decide +kernel
theorem d_m_record_2 : decode c_m_record 2 = .ok (.invokevirtual 132, 3) := by decide +kernel
theorem d_m_record_5 : decode c_m_record 5 = .ok (.iconst 3, 1) := by decide +kernel
theorem d_m_record_6 : decode c_m_record 6 = .ok (.if_icmp .eq 7, 3) := by decide +kernel
theorem d_m_record_9 : decode c_m_record 9 = .ok (.iconst 1, 1) := by decide +kernel
theorem d_m_record_10 : decode c_m_record 10 = .ok (.goto 17, 3) := by decide +kernel
theorem d_m_record_13 : decode c_m_record 13 = .ok (.aload_n 0, 1) := by decide +kernel
theorem d_m_record_14 : decode c_m_record 14 = .ok (.getfield 184, 3) := by decide +kernel
theorem d_m_record_17 : decode c_m_record 17 = .ok (.bipush 12, 2) := by decide +kernel
theorem d_m_record_19 : decode c_m_record 19 = .ok (.if_icmp .ne 7, 3) := by decide +kernel
theorem d_m_record_22 : decode c_m_record 22 = .ok (.iconst 2, 1) := by decide +kernel
theorem d_m_record_23 : decode c_m_record 23 = .ok (.goto 4, 3) := by decide +kernel
theorem d_m_record_26 : decode c_m_record 26 = .ok (.iconst 0, 1) := by decide +kernel
theorem d_m_record_27 : decode c_m_record 27 = .ok (.putfield 50, 3) := by decide +kernel
theorem d_m_record_30 : decode c_m_record 30 = .ok (.aload_n 0, 1) := by decide +kernel
theorem d_m_record_31 : decode c_m_record 31 = .ok (.getfield 50, 3) := by decide +kernel
theorem d_m_record_34 : decode c_m_record 34 = .ok (.ifCond .le 5, 3) := by decide +kernel
theorem d_m_record_37 : decode c_m_record 37 = .ok (.iconst 0, 1) := by decide +kernel
theorem d_m_record_38 : decode c_m_record 38 = .ok (.ireturn, 1) := by decide +kernel
theorem d_m_record_39 : decode c_m_record 39 = .ok (.aload_n 0, 1) := by decide +kernel
theorem d_m_record_40 : decode c_m_record 40 = .ok (.getfield 44, 3) := by decide +kernel
theorem d_m_record_43 : decode c_m_record 43 = .ok (.aload_n 0, 1) := by decide +kernel
theorem d_m_record_44 : decode c_m_record 44 = .ok (.getfield 184, 3) := by decide +kernel
theorem d_m_record_47 : decode c_m_record 47 = .ok (.aload_n 0, 1) := by decide +kernel
theorem d_m_record_48 : decode c_m_record 48 = .ok (.invokevirtual 165, 3) := by decide +kernel
theorem d_m_record_51 : decode c_m_record 51 = .ok (.iastore, 1) := by decide +kernel
theorem d_m_record_52 : decode c_m_record 52 = .ok (.aload_n 0, 1) := by decide +kernel
theorem d_m_record_53 : decode c_m_record 53 = .ok (.getfield 47, 3) := by decide +kernel
theorem d_m_record_56 : decode c_m_record 56 = .ok (.aload_n 0, 1) := by decide +kernel
theorem d_m_record_57 : decode c_m_record 57 = .ok (.getfield 184, 3) := by decide +kernel
theorem d_m_record_60 : decode c_m_record 60 = .ok (.aload_n 0, 1) := by decide +kernel
theorem d_m_record_61 : decode c_m_record 61 = .ok (.getfield 71, 3) := by decide +kernel
theorem d_m_record_64 : decode c_m_record 64 = .ok (.lastore, 1) := by decide +kernel
theorem d_m_record_65 : decode c_m_record 65 = .ok (.aload_n 0, 1) := by decide +kernel
theorem d_m_record_66 : decode c_m_record 66 = .ok (.aload_n 0, 1) := by decide +kernel
theorem d_m_record_67 : decode c_m_record 67 = .ok (.getfield 184, 3) := by decide +kernel
theorem d_m_record_70 : decode c_m_record 70 = .ok (.iconst 1, 1) := by decide +kernel
theorem d_m_record_71 : decode c_m_record 71 = .ok (.iadd, 1) := by decide +kernel
theorem d_m_record_72 : decode c_m_record 72 = .ok (.putfield 184, 3) := by decide +kernel
theorem d_m_record_75 : decode c_m_record 75 = .ok (.aload_n 0, 1) := by decide +kernel
theorem d_m_record_76 : decode c_m_record 76 = .ok (.getfield 184, 3) := by decide +kernel
theorem d_m_record_79 : decode c_m_record 79 = .ok (.ireturn, 1) := by decide +kernel
abbrev c_m_isResult : ByteArray := prog_9_method_43_code
def y_m_isResult : MethodName := ⟨"ShortBridgeModel", "isResult", "(I)Z"⟩
theorem d_m_isResult_0 : decode c_m_isResult 0 = .ok (.iload_n 1, 1) := by decide +kernel
theorem d_m_isResult_1 : decode c_m_isResult 1 = .ok (.ifCond .lt 15, 3) := by decide +kernel
theorem d_m_isResult_4 : decode c_m_isResult 4 = .ok (.iload_n 1, 1) := by decide +kernel
theorem d_m_isResult_5 : decode c_m_isResult 5 = .ok (.aload_n 0, 1) := by decide +kernel
theorem d_m_isResult_6 : decode c_m_isResult 6 = .ok (.getfield 184, 3) := by decide +kernel
theorem d_m_isResult_9 : decode c_m_isResult 9 = .ok (.if_icmp .ge 7, 3) := by decide +kernel
theorem d_m_isResult_12 : decode c_m_isResult 12 = .ok (.iconst 1, 1) := by decide +kernel
theorem d_m_isResult_13 : decode c_m_isResult 13 = .ok (.goto 4, 3) := by decide +kernel
theorem d_m_isResult_16 : decode c_m_isResult 16 = .ok (.iconst 0, 1) := by decide +kernel
theorem d_m_isResult_17 : decode c_m_isResult 17 = .ok (.ireturn, 1) := by decide +kernel
abbrev c_m_step : ByteArray := prog_9_method_44_code
def y_m_step : MethodName := ⟨"ShortBridgeModel", "step", "(I)I"⟩
theorem d_m_step_0 : decode c_m_step 0 = .ok (.iload_n 0, 1) := by decide +kernel
theorem d_m_step_1 : decode c_m_step 1 = .ok (.tableswitch 156 0 17 #[87, 90, 93, 96, 100, 104, 108, 112, 116, 120, 124, 128, 132, 136, 140, 144, 148, 152], 87) := by decide +kernel
theorem d_m_step_88 : decode c_m_step 88 = .ok (.bipush 20, 2) := by decide +kernel
theorem d_m_step_90 : decode c_m_step 90 = .ok (.ireturn, 1) := by decide +kernel
theorem d_m_step_91 : decode c_m_step 91 = .ok (.bipush 50, 2) := by decide +kernel
theorem d_m_step_93 : decode c_m_step 93 = .ok (.ireturn, 1) := by decide +kernel
theorem d_m_step_94 : decode c_m_step 94 = .ok (.bipush 90, 2) := by decide +kernel
theorem d_m_step_96 : decode c_m_step 96 = .ok (.ireturn, 1) := by decide +kernel
theorem d_m_step_97 : decode c_m_step 97 = .ok (.sipush 130, 3) := by decide +kernel
theorem d_m_step_100 : decode c_m_step 100 = .ok (.ireturn, 1) := by decide +kernel
theorem d_m_step_101 : decode c_m_step 101 = .ok (.sipush 170, 3) := by decide +kernel
theorem d_m_step_104 : decode c_m_step 104 = .ok (.ireturn, 1) := by decide +kernel
theorem d_m_step_105 : decode c_m_step 105 = .ok (.sipush 220, 3) := by decide +kernel
theorem d_m_step_108 : decode c_m_step 108 = .ok (.ireturn, 1) := by decide +kernel
theorem d_m_step_109 : decode c_m_step 109 = .ok (.sipush 270, 3) := by decide +kernel
theorem d_m_step_112 : decode c_m_step 112 = .ok (.ireturn, 1) := by decide +kernel
theorem d_m_step_113 : decode c_m_step 113 = .ok (.sipush 320, 3) := by decide +kernel
theorem d_m_step_116 : decode c_m_step 116 = .ok (.ireturn, 1) := by decide +kernel
theorem d_m_step_117 : decode c_m_step 117 = .ok (.sipush 370, 3) := by decide +kernel
theorem d_m_step_120 : decode c_m_step 120 = .ok (.ireturn, 1) := by decide +kernel
theorem d_m_step_121 : decode c_m_step 121 = .ok (.sipush 430, 3) := by decide +kernel
theorem d_m_step_124 : decode c_m_step 124 = .ok (.ireturn, 1) := by decide +kernel
theorem d_m_step_125 : decode c_m_step 125 = .ok (.sipush 500, 3) := by decide +kernel
theorem d_m_step_128 : decode c_m_step 128 = .ok (.ireturn, 1) := by decide +kernel
theorem d_m_step_129 : decode c_m_step 129 = .ok (.sipush 600, 3) := by decide +kernel
theorem d_m_step_132 : decode c_m_step 132 = .ok (.ireturn, 1) := by decide +kernel
theorem d_m_step_133 : decode c_m_step 133 = .ok (.sipush 750, 3) := by decide +kernel
theorem d_m_step_136 : decode c_m_step 136 = .ok (.ireturn, 1) := by decide +kernel
theorem d_m_step_137 : decode c_m_step 137 = .ok (.sipush 900, 3) := by decide +kernel
theorem d_m_step_140 : decode c_m_step 140 = .ok (.ireturn, 1) := by decide +kernel
theorem d_m_step_141 : decode c_m_step 141 = .ok (.sipush 1100, 3) := by decide +kernel
theorem d_m_step_144 : decode c_m_step 144 = .ok (.ireturn, 1) := by decide +kernel
theorem d_m_step_145 : decode c_m_step 145 = .ok (.sipush 1300, 3) := by decide +kernel
theorem d_m_step_148 : decode c_m_step 148 = .ok (.ireturn, 1) := by decide +kernel
theorem d_m_step_149 : decode c_m_step 149 = .ok (.sipush 1500, 3) := by decide +kernel
theorem d_m_step_152 : decode c_m_step 152 = .ok (.ireturn, 1) := by decide +kernel
theorem d_m_step_153 : decode c_m_step 153 = .ok (.sipush 1750, 3) := by decide +kernel
theorem d_m_step_156 : decode c_m_step 156 = .ok (.ireturn, 1) := by decide +kernel
theorem d_m_step_157 : decode c_m_step 157 = .ok (.sipush 2000, 3) := by decide +kernel
theorem d_m_step_160 : decode c_m_step 160 = .ok (.ireturn, 1) := by decide +kernel
abbrev c_m_points : ByteArray := prog_9_method_45_code
def y_m_points : MethodName := ⟨"ShortBridgeModel", "points", "(II)I"⟩
theorem d_m_points_0 : decode c_m_points 0 = .ok (.aload_n 0, 1) := by decide +kernel
theorem d_m_points_1 : decode c_m_points 1 = .ok (.aload_n 0, 1) := by decide +kernel
theorem d_m_points_2 : decode c_m_points 2 = .ok (.iload_n 1, 1) := by decide +kernel
theorem d_m_points_3 : decode c_m_points 3 = .ok (.invokevirtual 187, 3) := by decide +kernel
theorem d_m_points_6 : decode c_m_points 6 = .ok (.ifCond .eq 15, 3) := by decide +kernel
theorem d_m_points_9 : decode c_m_points 9 = .ok (.aload_n 0, 1) := by decide +kernel
theorem d_m_points_10 : decode c_m_points 10 = .ok (.iload_n 2, 1) := by decide +kernel
theorem d_m_points_11 : decode c_m_points 11 = .ok (.invokevirtual 187, 3) := by decide +kernel
theorem d_m_points_14 : decode c_m_points 14 = .ok (.ifCond .eq 7, 3) := by decide +kernel
theorem d_m_points_17 : decode c_m_points 17 = .ok (.iconst 0, 1) := by decide +kernel
theorem d_m_points_18 : decode c_m_points 18 = .ok (.goto 4, 3) := by decide +kernel
theorem d_m_points_21 : decode c_m_points 21 = .ok (.iconst 1, 1) := by decide +kernel
theorem d_m_points_22 : decode c_m_points 22 = .ok (.putfield 50, 3) := by decide +kernel
theorem d_m_points_25 : decode c_m_points 25 = .ok (.aload_n 0, 1) := by decide +kernel
theorem d_m_points_26 : decode c_m_points 26 = .ok (.getfield 50, 3) := by decide +kernel
theorem d_m_points_29 : decode c_m_points 29 = .ok (.ifCond .le 5, 3) := by decide +kernel
theorem d_m_points_32 : decode c_m_points 32 = .ok (.iconst 0, 1) := by decide +kernel
theorem d_m_points_33 : decode c_m_points 33 = .ok (.ireturn, 1) := by decide +kernel
theorem d_m_points_34 : decode c_m_points 34 = .ok (.aload_n 0, 1) := by decide +kernel
theorem d_m_points_35 : decode c_m_points 35 = .ok (.getfield 44, 3) := by decide +kernel
theorem d_m_points_38 : decode c_m_points 38 = .ok (.iload_n 1, 1) := by decide +kernel
theorem d_m_points_39 : decode c_m_points 39 = .ok (.iaload, 1) := by decide +kernel
theorem d_m_points_40 : decode c_m_points 40 = .ok (.aload_n 0, 1) := by decide +kernel
theorem d_m_points_41 : decode c_m_points 41 = .ok (.getfield 44, 3) := by decide +kernel
theorem d_m_points_44 : decode c_m_points 44 = .ok (.iload_n 2, 1) := by decide +kernel
theorem d_m_points_45 : decode c_m_points 45 = .ok (.iaload, 1) := by decide +kernel
theorem d_m_points_46 : decode c_m_points 46 = .ok (.isub, 1) := by decide +kernel
theorem d_m_points_47 : decode c_m_points 47 = .ok (.istore_n 3, 1) := by decide +kernel
theorem d_m_points_48 : decode c_m_points 48 = .ok (.iload_n 3, 1) := by decide +kernel
theorem d_m_points_49 : decode c_m_points 49 = .ok (.ifCond .ge 8, 3) := by decide +kernel
theorem d_m_points_52 : decode c_m_points 52 = .ok (.iload_n 3, 1) := by decide +kernel
theorem d_m_points_53 : decode c_m_points 53 = .ok (.ineg, 1) := by decide +kernel
theorem d_m_points_54 : decode c_m_points 54 = .ok (.goto 4, 3) := by decide +kernel
theorem d_m_points_57 : decode c_m_points 57 = .ok (.iload_n 3, 1) := by decide +kernel
theorem d_m_points_58 : decode c_m_points 58 = .ok (.istore 4, 2) := by decide +kernel
theorem d_m_points_60 : decode c_m_points 60 = .ok (.iconst 0, 1) := by decide +kernel
theorem d_m_points_61 : decode c_m_points 61 = .ok (.istore 5, 2) := by decide +kernel
theorem d_m_points_63 : decode c_m_points 63 = .ok (.iconst 0, 1) := by decide +kernel
theorem d_m_points_64 : decode c_m_points 64 = .ok (.istore 6, 2) := by decide +kernel
theorem d_m_points_66 : decode c_m_points 66 = .ok (.iload 6, 2) := by decide +kernel
theorem d_m_points_68 : decode c_m_points 68 = .ok (.bipush 19, 2) := by decide +kernel
theorem d_m_points_70 : decode c_m_points 70 = .ok (.if_icmp .ge 30, 3) := by decide +kernel
theorem d_m_points_73 : decode c_m_points 73 = .ok (.iload 6, 2) := by decide +kernel
theorem d_m_points_75 : decode c_m_points 75 = .ok (.invokestatic 190, 3) := by decide +kernel
theorem d_m_points_78 : decode c_m_points 78 = .ok (.iload 4, 2) := by decide +kernel
theorem d_m_points_80 : decode c_m_points 80 = .ok (.if_icmp .gt 10, 3) := by decide +kernel
theorem d_m_points_83 : decode c_m_points 83 = .ok (.iload 5, 2) := by decide +kernel
theorem d_m_points_85 : decode c_m_points 85 = .ok (.iconst 1, 1) := by decide +kernel
theorem d_m_points_86 : decode c_m_points 86 = .ok (.iadd, 1) := by decide +kernel
theorem d_m_points_87 : decode c_m_points 87 = .ok (.goto 5, 3) := by decide +kernel
theorem d_m_points_90 : decode c_m_points 90 = .ok (.iload 5, 2) := by decide +kernel
theorem d_m_points_92 : decode c_m_points 92 = .ok (.istore 5, 2) := by decide +kernel
theorem d_m_points_94 : decode c_m_points 94 = .ok (.iinc 6 1, 3) := by decide +kernel
theorem d_m_points_97 : decode c_m_points 97 = .ok (.goto (-31), 3) := by decide +kernel
theorem d_m_points_100 : decode c_m_points 100 = .ok (.iload_n 3, 1) := by decide +kernel
theorem d_m_points_101 : decode c_m_points 101 = .ok (.ifCond .ge 9, 3) := by decide +kernel
theorem d_m_points_104 : decode c_m_points 104 = .ok (.iload 5, 2) := by decide +kernel
theorem d_m_points_106 : decode c_m_points 106 = .ok (.ineg, 1) := by decide +kernel
theorem d_m_points_107 : decode c_m_points 107 = .ok (.goto 5, 3) := by decide +kernel
theorem d_m_points_110 : decode c_m_points 110 = .ok (.iload 5, 2) := by decide +kernel
theorem d_m_points_112 : decode c_m_points 112 = .ok (.ireturn, 1) := by decide +kernel
abbrev c_m_places : ByteArray := prog_9_method_46_code
def y_m_places : MethodName := ⟨"ShortBridgeModel", "places", "(I)I"⟩
theorem d_m_places_0 : decode c_m_places 0 = .ok (.aload_n 0, 1) := by decide +kernel
theorem d_m_places_1 : decode c_m_places 1 = .ok (.aload_n 0, 1) := by decide +kernel
theorem d_m_places_2 : decode c_m_places 2 = .ok (.iload_n 1, 1) := by decide +kernel
theorem d_m_places_3 : decode c_m_places 3 = .ok (.invokevirtual 187, 3) := by decide +kernel
theorem d_m_places_6 : decode c_m_places 6 = .ok (.ifCond .eq 7, 3) := by decide +kernel
theorem d_m_places_9 : decode c_m_places 9 = .ok (.iconst 0, 1) := by decide +kernel
theorem d_m_places_10 : decode c_m_places 10 = .ok (.goto 4, 3) := by decide +kernel
theorem d_m_places_13 : decode c_m_places 13 = .ok (.iconst 1, 1) := by decide +kernel
theorem d_m_places_14 : decode c_m_places 14 = .ok (.putfield 50, 3) := by decide +kernel
theorem d_m_places_17 : decode c_m_places 17 = .ok (.iconst 0, 1) := by decide +kernel
theorem d_m_places_18 : decode c_m_places 18 = .ok (.istore_n 2, 1) := by decide +kernel
theorem d_m_places_19 : decode c_m_places 19 = .ok (.iconst 0, 1) := by decide +kernel
theorem d_m_places_20 : decode c_m_places 20 = .ok (.istore_n 3, 1) := by decide +kernel
theorem d_m_places_21 : decode c_m_places 21 = .ok (.iload_n 3, 1) := by decide +kernel
theorem d_m_places_22 : decode c_m_places 22 = .ok (.aload_n 0, 1) := by decide +kernel
theorem d_m_places_23 : decode c_m_places 23 = .ok (.getfield 184, 3) := by decide +kernel
theorem d_m_places_26 : decode c_m_places 26 = .ok (.if_icmp .ge 81, 3) := by decide +kernel
theorem d_m_places_29 : decode c_m_places 29 = .ok (.aload_n 0, 1) := by decide +kernel
theorem d_m_places_30 : decode c_m_places 30 = .ok (.getfield 50, 3) := by decide +kernel
theorem d_m_places_33 : decode c_m_places 33 = .ok (.ifCond .ne 74, 3) := by decide +kernel
theorem d_m_places_36 : decode c_m_places 36 = .ok (.iload_n 3, 1) := by decide +kernel
theorem d_m_places_37 : decode c_m_places 37 = .ok (.iload_n 1, 1) := by decide +kernel
theorem d_m_places_38 : decode c_m_places 38 = .ok (.if_icmp .eq 63, 3) := by decide +kernel
theorem d_m_places_41 : decode c_m_places 41 = .ok (.aload_n 0, 1) := by decide +kernel
theorem d_m_places_42 : decode c_m_places 42 = .ok (.getfield 47, 3) := by decide +kernel
theorem d_m_places_45 : decode c_m_places 45 = .ok (.iload_n 3, 1) := by decide +kernel
theorem d_m_places_46 : decode c_m_places 46 = .ok (.laload, 1) := by decide +kernel
theorem d_m_places_47 : decode c_m_places 47 = .ok (.aload_n 0, 1) := by decide +kernel
theorem d_m_places_48 : decode c_m_places 48 = .ok (.getfield 47, 3) := by decide +kernel
theorem d_m_places_51 : decode c_m_places 51 = .ok (.iload_n 1, 1) := by decide +kernel
theorem d_m_places_52 : decode c_m_places 52 = .ok (.laload, 1) := by decide +kernel
theorem d_m_places_53 : decode c_m_places 53 = .ok (.lcmp, 1) := by decide +kernel
theorem d_m_places_54 : decode c_m_places 54 = .ok (.ifCond .ne 47, 3) := by decide +kernel
theorem d_m_places_57 : decode c_m_places 57 = .ok (.aload_n 0, 1) := by decide +kernel
theorem d_m_places_58 : decode c_m_places 58 = .ok (.getfield 44, 3) := by decide +kernel
theorem d_m_places_61 : decode c_m_places 61 = .ok (.iload_n 3, 1) := by decide +kernel
theorem d_m_places_62 : decode c_m_places 62 = .ok (.iaload, 1) := by decide +kernel
theorem d_m_places_63 : decode c_m_places 63 = .ok (.aload_n 0, 1) := by decide +kernel
theorem d_m_places_64 : decode c_m_places 64 = .ok (.getfield 44, 3) := by decide +kernel
theorem d_m_places_67 : decode c_m_places 67 = .ok (.iload_n 1, 1) := by decide +kernel
theorem d_m_places_68 : decode c_m_places 68 = .ok (.iaload, 1) := by decide +kernel
theorem d_m_places_69 : decode c_m_places 69 = .ok (.if_icmp .ge 9, 3) := by decide +kernel
theorem d_m_places_72 : decode c_m_places 72 = .ok (.iload_n 2, 1) := by decide +kernel
theorem d_m_places_73 : decode c_m_places 73 = .ok (.iconst 2, 1) := by decide +kernel
theorem d_m_places_74 : decode c_m_places 74 = .ok (.iadd, 1) := by decide +kernel
theorem d_m_places_75 : decode c_m_places 75 = .ok (.goto 25, 3) := by decide +kernel
theorem d_m_places_78 : decode c_m_places 78 = .ok (.aload_n 0, 1) := by decide +kernel
theorem d_m_places_79 : decode c_m_places 79 = .ok (.getfield 44, 3) := by decide +kernel
theorem d_m_places_82 : decode c_m_places 82 = .ok (.iload_n 3, 1) := by decide +kernel
theorem d_m_places_83 : decode c_m_places 83 = .ok (.iaload, 1) := by decide +kernel
theorem d_m_places_84 : decode c_m_places 84 = .ok (.aload_n 0, 1) := by decide +kernel
theorem d_m_places_85 : decode c_m_places 85 = .ok (.getfield 44, 3) := by decide +kernel
theorem d_m_places_88 : decode c_m_places 88 = .ok (.iload_n 1, 1) := by decide +kernel
theorem d_m_places_89 : decode c_m_places 89 = .ok (.iaload, 1) := by decide +kernel
theorem d_m_places_90 : decode c_m_places 90 = .ok (.if_icmp .ne 9, 3) := by decide +kernel
theorem d_m_places_93 : decode c_m_places 93 = .ok (.iload_n 2, 1) := by decide +kernel
theorem d_m_places_94 : decode c_m_places 94 = .ok (.iconst 1, 1) := by decide +kernel
theorem d_m_places_95 : decode c_m_places 95 = .ok (.iadd, 1) := by decide +kernel
theorem d_m_places_96 : decode c_m_places 96 = .ok (.goto 4, 3) := by decide +kernel
theorem d_m_places_99 : decode c_m_places 99 = .ok (.iload_n 2, 1) := by decide +kernel
theorem d_m_places_100 : decode c_m_places 100 = .ok (.istore_n 2, 1) := by decide +kernel
theorem d_m_places_101 : decode c_m_places 101 = .ok (.iinc 3 1, 3) := by decide +kernel
theorem d_m_places_104 : decode c_m_places 104 = .ok (.goto (-83), 3) := by decide +kernel
theorem d_m_places_107 : decode c_m_places 107 = .ok (.iload_n 2, 1) := by decide +kernel
theorem d_m_places_108 : decode c_m_places 108 = .ok (.ireturn, 1) := by decide +kernel
end
section
def zNs : List Cond := [Cond.methodLinkNest "ShortBridge" 9 ⟨"ShortBridge$Deal", "<init>", "()V"⟩ "ShortBridge", Cond.fieldLinkNest "ShortBridge$Hands" 53 "ShortBridge$Deal" "owners" "[I" "ShortBridge", Cond.fieldLinkNest "ShortBridge" 58 "ShortBridge$Deal" "rank" "J" "ShortBridge", Cond.methodLinkNest "ShortBridge" 18 ⟨"ShortBridge$Auction", "<init>", "()V"⟩ "ShortBridge", Cond.fieldLinkNest "ShortBridge" 152 "ShortBridge$Auction" "count" "I" "ShortBridge", Cond.methodLinkNest "ShortBridge" 25 ⟨"ShortBridge$Hands", "<init>", "()V"⟩ "ShortBridge", Cond.fieldLinkNest "ShortBridge$Solver" 41 "ShortBridge$Hands" "cards" "[I" "ShortBridge", Cond.fieldLinkNest "ShortBridge$Solver" 9 "ShortBridge$Hands" "count" "I" "ShortBridge", Cond.fieldLinkNest "ShortBridge" 145 "ShortBridge$Hands" "count" "I" "ShortBridge", Cond.methodLinkNest "ShortBridge" 32 ⟨"ShortBridge$Results", "<init>", "()V"⟩ "ShortBridge", Cond.fieldLinkNest "ShortBridge" 196 "ShortBridge$Results" "scores" "[I" "ShortBridge", Cond.fieldLinkNest "ShortBridge" 187 "ShortBridge$Results" "count" "I" "ShortBridge", Cond.methodLinkNest "ShortBridge$Auction" 43 ⟨"ShortBridge", "playerBehind", "(II)I"⟩ "ShortBridge", Cond.methodLinkNest "ShortBridge$Hands" 35 ⟨"ShortBridge", "playerBehind", "(II)I"⟩ "ShortBridge", Cond.methodLinkNest "ShortBridge$Auction" 47 ⟨"ShortBridge", "sideOf", "(I)I"⟩ "ShortBridge", Cond.methodLinkNest "ShortBridge$Hands" 50 ⟨"ShortBridge", "sideOf", "(I)I"⟩ "ShortBridge", Cond.methodLinkNest "ShortBridge$Solver" 32 ⟨"ShortBridge", "sideOf", "(I)I"⟩ "ShortBridge"]
theorem zNs_ok : ∀ w ∈ zNs, zn w = true := List.all_eq_true.mp (by decide +kernel)
theorem nw_0 : Cond.methodLinkNest "ShortBridge" 9 ⟨"ShortBridge$Deal", "<init>", "()V"⟩ "ShortBridge" ∈ zNs := List.mem_of_getElem? (i := 0) rfl
theorem nw_1 : Cond.fieldLinkNest "ShortBridge$Hands" 53 "ShortBridge$Deal" "owners" "[I" "ShortBridge" ∈ zNs := List.mem_of_getElem? (i := 1) rfl
theorem nw_2 : Cond.fieldLinkNest "ShortBridge" 58 "ShortBridge$Deal" "rank" "J" "ShortBridge" ∈ zNs := List.mem_of_getElem? (i := 2) rfl
theorem nw_3 : Cond.methodLinkNest "ShortBridge" 18 ⟨"ShortBridge$Auction", "<init>", "()V"⟩ "ShortBridge" ∈ zNs := List.mem_of_getElem? (i := 3) rfl
theorem nw_4 : Cond.fieldLinkNest "ShortBridge" 152 "ShortBridge$Auction" "count" "I" "ShortBridge" ∈ zNs := List.mem_of_getElem? (i := 4) rfl
theorem nw_5 : Cond.methodLinkNest "ShortBridge" 25 ⟨"ShortBridge$Hands", "<init>", "()V"⟩ "ShortBridge" ∈ zNs := List.mem_of_getElem? (i := 5) rfl
theorem nw_6 : Cond.fieldLinkNest "ShortBridge$Solver" 41 "ShortBridge$Hands" "cards" "[I" "ShortBridge" ∈ zNs := List.mem_of_getElem? (i := 6) rfl
theorem nw_7 : Cond.fieldLinkNest "ShortBridge$Solver" 9 "ShortBridge$Hands" "count" "I" "ShortBridge" ∈ zNs := List.mem_of_getElem? (i := 7) rfl
theorem nw_8 : Cond.fieldLinkNest "ShortBridge" 145 "ShortBridge$Hands" "count" "I" "ShortBridge" ∈ zNs := List.mem_of_getElem? (i := 8) rfl
theorem nw_9 : Cond.methodLinkNest "ShortBridge" 32 ⟨"ShortBridge$Results", "<init>", "()V"⟩ "ShortBridge" ∈ zNs := List.mem_of_getElem? (i := 9) rfl
theorem nw_10 : Cond.fieldLinkNest "ShortBridge" 196 "ShortBridge$Results" "scores" "[I" "ShortBridge" ∈ zNs := List.mem_of_getElem? (i := 10) rfl
theorem nw_11 : Cond.fieldLinkNest "ShortBridge" 187 "ShortBridge$Results" "count" "I" "ShortBridge" ∈ zNs := List.mem_of_getElem? (i := 11) rfl
theorem nw_12 : Cond.methodLinkNest "ShortBridge$Auction" 43 ⟨"ShortBridge", "playerBehind", "(II)I"⟩ "ShortBridge" ∈ zNs := List.mem_of_getElem? (i := 12) rfl
theorem nw_13 : Cond.methodLinkNest "ShortBridge$Hands" 35 ⟨"ShortBridge", "playerBehind", "(II)I"⟩ "ShortBridge" ∈ zNs := List.mem_of_getElem? (i := 13) rfl
theorem nw_14 : Cond.methodLinkNest "ShortBridge$Auction" 47 ⟨"ShortBridge", "sideOf", "(I)I"⟩ "ShortBridge" ∈ zNs := List.mem_of_getElem? (i := 14) rfl
theorem nw_15 : Cond.methodLinkNest "ShortBridge$Hands" 50 ⟨"ShortBridge", "sideOf", "(I)I"⟩ "ShortBridge" ∈ zNs := List.mem_of_getElem? (i := 15) rfl
theorem nw_16 : Cond.methodLinkNest "ShortBridge$Solver" 32 ⟨"ShortBridge", "sideOf", "(I)I"⟩ "ShortBridge" ∈ zNs := List.mem_of_getElem? (i := 16) rfl
theorem zc_iconst_0 : Int32.ofInt 0 = 0 := by decide
theorem zc_iconst_1 : Int32.ofInt 1 = 1 := by decide
theorem zc_iconst_2 : Int32.ofInt 2 = 2 := by decide
theorem zc_iconst_3 : Int32.ofInt 3 = 3 := by decide
theorem zc_iconst_4 : Int32.ofInt 4 = 4 := by decide
theorem zc_iconst_m1 : Int32.ofInt (-1) = (-1) := by decide
theorem zi_m1 : ∀ x : Int32, x + Int32.ofInt (-1) = x + (-1) := fun _ => rfl
theorem hd_au_callerOf : y_au_callerOf.cls ≠ "java/lang/invoke/MethodHandle" ∧ y_au_callerOf.cls ≠ "java/lang/invoke/VarHandle" ∧ (parseMethodDescriptor y_au_callerOf.desc).map (fun d => d.parameters.length) = some 1 := by decide +kernel
theorem hd_au_placeOfLatest : y_au_placeOfLatest.cls ≠ "java/lang/invoke/MethodHandle" ∧ y_au_placeOfLatest.cls ≠ "java/lang/invoke/VarHandle" ∧ (parseMethodDescriptor y_au_placeOfLatest.desc).map (fun d => d.parameters.length) = some 1 := by decide +kernel
theorem hd_x_playerBehind : y_x_playerBehind.cls ≠ "java/lang/invoke/MethodHandle" ∧ y_x_playerBehind.cls ≠ "java/lang/invoke/VarHandle" ∧ (parseMethodDescriptor y_x_playerBehind.desc).map (fun d => d.parameters.length) = some 2 := by decide +kernel
theorem hd_x_sideOf : y_x_sideOf.cls ≠ "java/lang/invoke/MethodHandle" ∧ y_x_sideOf.cls ≠ "java/lang/invoke/VarHandle" ∧ (parseMethodDescriptor y_x_sideOf.desc).map (fun d => d.parameters.length) = some 1 := by decide +kernel
def cW (ad : Nat → Nat) (ca : Nat → ClassId) (u : ZS) : va_W := [(ad 0, .inr (0, [.ref (ad 1), .ref (ad 2), .ref (ad 3), .ref (ad 4), .int (fI u 0), .int (fI u 1)])), (ad 1, .inr (1, [.ref (ad 5), .ref (ad 6), .ref (ad 7), .long (fJ u 0)])), (ad 2, .inr (2, [.ref (ad 8), .int (fI u 2), .int (fI u 3)])), (ad 3, .inr (3, [.ref (ad 9), .ref (ad 10), .ref (ad 11), .ref (ad 12), .int (fI u 4), .int (fI u 5)])), (ad 4, .inr (4, [.ref (ad 13), .ref (ad 14), .int (fI u 6)])), (ad 5, .inl (ca 0, 20, .inl (aI u 0))), (ad 6, .inl (ca 1, 20, .inl (aI u 1))), (ad 7, .inl (ca 2, 4, .inl (aI u 2))), (ad 8, .inl (ca 3, 139, .inl (aI u 3))), (ad 9, .inl (ca 4, 4, .inl (aI u 4))), (ad 10, .inl (ca 5, 20, .inl (aI u 5))), (ad 11, .inl (ca 6, 20, .inl (aI u 6))), (ad 12, .inl (ca 7, 6, .inl (aI u 7))), (ad 13, .inl (ca 8, 12, .inr (.inl (aJ u 0)))), (ad 14, .inl (ca 9, 12, .inl (aI u 8)))]
def cT (ca : Nat → ClassId) : List (ClassId × FieldType) := [(ca 0, .int), (ca 1, .int), (ca 2, .int), (ca 3, .int), (ca 4, .int), (ca 5, .int), (ca 6, .int), (ca 7, .int), (ca 8, .long), (ca 9, .int)]
theorem cg_Auction_calls {p : Program} {l : Launch} {e : Env} {R : Room} {s : State} {m : MethodId} {args : Array Value} {below : List Frame} {meth : Method} {c : Code} {H : Heap} {locs : List Loc} {cells slots : Nat} {Q : State → Prop} {cc : ByteArray} {pc : Nat} {ls : Array Slot} {rest : List Value} {D : va_G} {A : Nat → Prop} {ad : Nat → Nat} {ca : Nat → ClassId} {u : ZS} (hx : p.tables.exec = Jvm.exec) (hb : c.code = cc) {own : String} {index : Nat} (hts : ∀ w ∈ zG, w.before args s = true) (hown : s.vm.findClass own = some m.cls) (hK : va_K D vwCl (cT ca) s) (hI : zw D A s.heap (cW ad ca u) H locs) (hlink : (Cond.fieldLink own index "ShortBridge$Auction" "calls" "[I").before args s = true) (hd : decode cc pc = .ok (.getfield index, 3)) (kk : W p l e R s m args below meth c H locs cells slots Q (F0 m (pc + 3) ls (.ref (ad 8) :: rest))) : W p l e R s m args below meth c H locs cells slots Q (F0 m pc ls (.ref (ad 2) :: rest)) := va_get (C := R_Auction) (T := T_Auction) (N := 3) (ci := 2) hx hb hts in_Auction hown hK hI.1 2 rfl rfl 0 (by decide) hlink (fun _ h => h) rfl hd kk
theorem cg_Auction_count {p : Program} {l : Launch} {e : Env} {R : Room} {s : State} {m : MethodId} {args : Array Value} {below : List Frame} {meth : Method} {c : Code} {H : Heap} {locs : List Loc} {cells slots : Nat} {Q : State → Prop} {cc : ByteArray} {pc : Nat} {ls : Array Slot} {rest : List Value} {D : va_G} {A : Nat → Prop} {ad : Nat → Nat} {ca : Nat → ClassId} {u : ZS} (hx : p.tables.exec = Jvm.exec) (hb : c.code = cc) {own : String} {index : Nat} (hts : ∀ w ∈ zG, w.before args s = true) (hown : s.vm.findClass own = some m.cls) (hK : va_K D vwCl (cT ca) s) (hI : zw D A s.heap (cW ad ca u) H locs) (hlink : (Cond.fieldLink own index "ShortBridge$Auction" "count" "I").before args s = true) (hd : decode cc pc = .ok (.getfield index, 3)) (kk : W p l e R s m args below meth c H locs cells slots Q (F0 m (pc + 3) ls (.int (fI u 2) :: rest))) : W p l e R s m args below meth c H locs cells slots Q (F0 m pc ls (.ref (ad 2) :: rest)) := va_get (C := R_Auction) (T := T_Auction) (N := 3) (ci := 2) hx hb hts in_Auction hown hK hI.1 2 rfl rfl 1 (by decide) hlink (fun _ h => h) rfl hd kk
theorem cg_Auction_dealer {p : Program} {l : Launch} {e : Env} {R : Room} {s : State} {m : MethodId} {args : Array Value} {below : List Frame} {meth : Method} {c : Code} {H : Heap} {locs : List Loc} {cells slots : Nat} {Q : State → Prop} {cc : ByteArray} {pc : Nat} {ls : Array Slot} {rest : List Value} {D : va_G} {A : Nat → Prop} {ad : Nat → Nat} {ca : Nat → ClassId} {u : ZS} (hx : p.tables.exec = Jvm.exec) (hb : c.code = cc) {own : String} {index : Nat} (hts : ∀ w ∈ zG, w.before args s = true) (hown : s.vm.findClass own = some m.cls) (hK : va_K D vwCl (cT ca) s) (hI : zw D A s.heap (cW ad ca u) H locs) (hlink : (Cond.fieldLink own index "ShortBridge$Auction" "dealer" "I").before args s = true) (hd : decode cc pc = .ok (.getfield index, 3)) (kk : W p l e R s m args below meth c H locs cells slots Q (F0 m (pc + 3) ls (.int (fI u 3) :: rest))) : W p l e R s m args below meth c H locs cells slots Q (F0 m pc ls (.ref (ad 2) :: rest)) := va_get (C := R_Auction) (T := T_Auction) (N := 3) (ci := 2) hx hb hts in_Auction hown hK hI.1 2 rfl rfl 2 (by decide) hlink (fun _ h => h) rfl hd kk
theorem ca_calls {p : Program} {l : Launch} {e : Env} {R : Room} {s : State} {m : MethodId} {args : Array Value} {below : List Frame} {meth : Method} {c : Code} {H : Heap} {locs : List Loc} {cells slots : Nat} {Q : State → Prop} {cc : ByteArray} {pc : Nat} {ls : Array Slot} {rest : List Value} {D : va_G} {A : Nat → Prop} {ad : Nat → Nat} {ca : Nat → ClassId} {u : ZS} (hx : p.tables.exec = Jvm.exec) (hb : c.code = cc) {i : Int32} (hK : va_K D vwCl (cT ca) s) (hI : zw D A s.heap (cW ad ca u) H locs) (hi : vp_in i 139) (hd : decode cc pc = .ok (.iaload, 1)) (kk : W p l e R s m args below meth c H locs cells slots Q (F0 m (pc + 1) ls (.int (aI u 3 i.toNatClampNeg) :: rest))) : W p l e R s m args below meth c H locs cells slots Q (F0 m pc ls (.int i :: .ref (ad 8) :: rest)) := va_iald hx hb hK hI.1 8 3 rfl rfl hi hd kk
def mW (ad : Nat → Nat) (ca : Nat → ClassId) (u : ZS) : va_W := [(ad 0, .inr (5, [.int (fI u 0), .int (fI u 1), .long (fJ u 0), .int (fI u 2), .int (fI u 3), .ref (ad 1), .ref (ad 2), .int (fI u 4), .ref (ad 3), .int (fI u 5), .ref (ad 4), .int (fI u 6), .int (fI u 7), .int (fI u 8), .int (fI u 9), .ref (ad 5), .ref (ad 6), .ref (ad 7), .ref (ad 8), .ref (ad 9), .ref (ad 10), .ref (ad 11), .int (fI u 10), .ref (ad 12), .ref (ad 13)])), (ad 1, .inl (ca 0, 20, .inl (aI u 0))), (ad 2, .inl (ca 1, 441, .inr (.inl (aJ u 0)))), (ad 3, .inl (ca 2, 240, .inl (aI u 1))), (ad 4, .inl (ca 3, 20, .inl (aI u 2))), (ad 5, .inl (ca 4, 21, .inl (aI u 3))), (ad 6, .inl (ca 5, 21, .inl (aI u 4))), (ad 7, .inl (ca 6, 21, .inl (aI u 5))), (ad 8, .inl (ca 7, 21, .inl (aI u 6))), (ad 9, .inl (ca 8, 21, .inl (aI u 7))), (ad 10, .inl (ca 9, 21, .inl (aI u 8))), (ad 11, .inl (ca 10, 21, .inl (aI u 9))), (ad 12, .inl (ca 11, 12, .inl (aI u 10))), (ad 13, .inl (ca 12, 12, .inr (.inl (aJ u 1))))]
def mT (ca : Nat → ClassId) : List (ClassId × FieldType) := [(ca 0, .int), (ca 1, .long), (ca 2, .int), (ca 3, .int), (ca 4, .int), (ca 5, .int), (ca 6, .int), (ca 7, .int), (ca 8, .int), (ca 9, .int), (ca 10, .int), (ca 11, .int), (ca 12, .long)]
end
section
def b_au_placeOfLatest_7  (post : Int32 → ZS → Prop) : Nat → Int32 → Int32 → ZS → Prop
  | 0, _, _, _ => False
  | n + 1, v1, v2, u => (v2 < 0 → post (-1 : Int32) u) ∧ (¬ (v2 < 0) → vp_in v2 139 ∧ (((aI u 3 (v2).toNatClampNeg) < v1 → b_au_placeOfLatest_7 post n v1 (v2 + (-1)) u) ∧ (¬ ((aI u 3 (v2).toNatClampNeg) < v1) → post v2 u)))
set_option maxRecDepth 100000 in
set_option maxHeartbeats 4000000 in
theorem k_au_placeOfLatest_7 {p : Program} {l : Launch} {e : Env} {R : Room} {s : State} {m : MethodId} {args : Array Value} {below : List Frame} {meth : Method} {c : Code} {D : va_G} {A : Nat → Prop} {ad : Nat → Nat} {ca : Nat → ClassId}  {post : Int32 → ZS → Prop} (cx : zx p R s m args meth c c_au_placeOfLatest 3 1 12 "ShortBridge$Auction" (some .int) zG zNs D (cT ca)) : ∀ (n : Nat) (v1 : Int32) (v2 : Int32) (u : ZS) (H : Heap) (locs : List Loc) (ls : Array Slot), zw D A s.heap (cW ad ca u) H locs → lv_has ls 3 [(0, .ref (ad 2)), (1, .int v1), (2, .int v2)] → b_au_placeOfLatest_7 post n v1 v2 u → W p l e R s m args below meth c H locs 0 0 (MQ below (va_Qi post (zE D (cT ca) (cW ad ca) A) A) args s 0 0 A) (F0 m 7 ls []) := by
  have cx0 := cx
  obtain ⟨hx, hb, hml, hown, hts, hN, hK, hr, hlk, hfr, hlc⟩ := cx
  intro n
  induction n with
  | zero => intro v1 v2 u H locs ls hI hl h; exact (h : False).elim
  | succ n ih =>
    intro v1 v2 u H locs ls hI hl h
    unfold b_au_placeOfLatest_7 at h
    refine lv_iload_n hx hb d_au_placeOfLatest_7 rfl (lv_at hl 2 rfl) ?_
    refine lv_if_lt hx hb d_au_placeOfLatest_8 rfl (fun hc => ?_) (fun hc => ?_)
    · have h := h.1 hc
      refine lv_iconst (v := (-1)) hx hb d_au_placeOfLatest_29 zc_iconst_m1 ?_
      exact zret_i hx hb hr hlk hK hI h d_au_placeOfLatest_30
    · have h := h.2 hc
      refine lv_aload_n hx hb d_au_placeOfLatest_11 rfl (lv_at hl 0 rfl) ?_
      refine cg_Auction_calls hx hb hts hown hK hI (hts _ q_92) d_au_placeOfLatest_12 ?_
      refine lv_iload_n hx hb d_au_placeOfLatest_15 rfl (lv_at hl 2 rfl) ?_
      obtain ⟨hi, h⟩ := h
      refine ca_calls hx hb hK hI hi d_au_placeOfLatest_16 ?_
      refine lv_iload_n hx hb d_au_placeOfLatest_17 rfl (lv_at hl 1 rfl) ?_
      refine lv_icmp_lt hx hb d_au_placeOfLatest_18 rfl (fun hc => ?_) (fun hc => ?_)
      · have h := h.1 hc
        refine lv_iinc (k := 2) (v := (v2 + (-1))) hx hb d_au_placeOfLatest_23 hl rfl (zi_m1 _) (by decide) rfl ?_
        intro ls hl
        have hl : lv_has ls 3 [(2, .int (v2 + (-1))), (0, .ref (ad 2)), (1, .int v1)] := hl
        refine lv_goto hx hb d_au_placeOfLatest_26 rfl ?_
        exact ih _ _ _ _ _ _ hI (lv_sub hl [1, 2, 0] rfl) h
      · have h := h.2 hc
        refine lv_iload_n hx hb d_au_placeOfLatest_21 rfl (lv_at hl 2 rfl) ?_
        exact zret_i hx hb hr hlk hK hI h d_au_placeOfLatest_22
def w_au_placeOfLatest (v1 : Int32) (u : ZS) (post : Int32 → ZS → Prop) : Prop := ∃ n0, b_au_placeOfLatest_7 post n0 v1 ((fI u 2) - 1) u
set_option maxRecDepth 100000 in
set_option maxHeartbeats 4000000 in
theorem t_au_placeOfLatest (l : Launch) (D : va_G) (ad : Nat → Nat) (ca : Nat → ClassId) {v1 : Int32} {u : ZS} {post : Int32 → ZS → Prop} (h : w_au_placeOfLatest v1 u post) : zI l y_au_placeOfLatest (Cond.code y_au_placeOfLatest c_au_placeOfLatest 3 (some .int) :: zG) { frames := 1, cells := 0, slots := 0, locals := 12 } D (cT ca) zNs (cW ad ca) [.ref (ad 2), .int v1] u post := by
  refine zI_of (cc := c_au_placeOfLatest) (maxL := 3) (ret := (some .int)) (by decide) (Nat.le_of_ble_eq_true rfl) ?_
  intro p e s m args below meth c ls A cx hI hl
  have cx0 := cx
  obtain ⟨hx, hb, hml, hown, hts, hN, hK, hr, hlk, hfr, hlc⟩ := cx
  have hl : lv_has ls 3 [(0, .ref (ad 2)), (1, .int v1)] := hl
  unfold w_au_placeOfLatest at h
  refine lv_aload_n hx hb d_au_placeOfLatest_0 rfl (lv_at hl 0 rfl) ?_
  refine cg_Auction_count hx hb hts hown hK hI (hts _ q_93) d_au_placeOfLatest_1 ?_
  refine lv_iconst (v := 1) hx hb d_au_placeOfLatest_4 zc_iconst_1 ?_
  refine lv_isub hx hb d_au_placeOfLatest_5 ?_
  refine lv_istore_n hx hb d_au_placeOfLatest_6 rfl hl (by decide) rfl ?_
  intro ls hl
  have hl : lv_has ls 3 [(2, .int ((fI u 2) - 1)), (0, .ref (ad 2)), (1, .int v1)] := hl
  obtain ⟨n0, h⟩ := h
  exact k_au_placeOfLatest_7 cx0  n0 _ _ _ _ _ _ hI (lv_sub hl [1, 2, 0] rfl) h
def b_au_bid_21  (post : Int32 → ZS → Prop) (s0 : Int32) (u : ZS) : Prop := post s0 u
set_option maxRecDepth 100000 in
set_option maxHeartbeats 4000000 in
theorem k_au_bid_21 {p : Program} {l : Launch} {e : Env} {R : Room} {s : State} {m : MethodId} {args : Array Value} {below : List Frame} {meth : Method} {c : Code} {D : va_G} {A : Nat → Prop} {ad : Nat → Nat} {ca : Nat → ClassId}  {post : Int32 → ZS → Prop} (cx : zx p R s m args meth c c_au_bid 2 2 34 "ShortBridge$Auction" (some .int) zG zNs D (cT ca)) {s0 : Int32} {u : ZS} {H : Heap} {locs : List Loc} {ls : Array Slot} (hI : zw D A s.heap (cW ad ca u) H locs) (hl : lv_has ls 2 []) (h : b_au_bid_21 post s0 u) : W p l e R s m args below meth c H locs 0 0 (MQ below (va_Qi post (zE D (cT ca) (cW ad ca) A) A) args s 0 0 A) (F0 m 21 ls [.int s0]) := by
  have cx0 := cx
  obtain ⟨hx, hb, hml, hown, hts, hN, hK, hr, hlk, hfr, hlc⟩ := cx
  unfold b_au_bid_21 at h
  exact zret_i hx hb hr hlk hK hI h d_au_bid_21
def w_au_bid  (u : ZS) (post : Int32 → ZS → Prop) : Prop := w_au_placeOfLatest 3 u (fun r1 u2 => (¬ r1 = (-1 : Int32) → vp_in r1 139 ∧ (b_au_bid_21 post (aI u2 3 (r1).toNatClampNeg) u2)) ∧ (¬ (¬ r1 = (-1 : Int32)) → b_au_bid_21 post (-1 : Int32) u2))
set_option maxRecDepth 100000 in
set_option maxHeartbeats 4000000 in
theorem t_au_bid (l : Launch) (D : va_G) (ad : Nat → Nat) (ca : Nat → ClassId)  {u : ZS} {post : Int32 → ZS → Prop} (h : w_au_bid  u post) : zI l y_au_bid (Cond.code y_au_bid c_au_bid 2 (some .int) :: zG) { frames := 2, cells := 0, slots := 0, locals := 34 } D (cT ca) zNs (cW ad ca) [.ref (ad 2)] u post := by
  refine zI_of (cc := c_au_bid) (maxL := 2) (ret := (some .int)) (by decide) (Nat.le_of_ble_eq_true rfl) ?_
  intro p e s m args below meth c ls A cx hI hl
  have cx0 := cx
  obtain ⟨hx, hb, hml, hown, hts, hN, hK, hr, hlk, hfr, hlc⟩ := cx
  have hl : lv_has ls 2 [(0, .ref (ad 2))] := hl
  unfold w_au_bid at h
  refine lv_aload_n hx hb d_au_bid_0 rfl (lv_at hl 0 rfl) ?_
  refine lv_iconst (v := 3) hx hb d_au_bid_1 zc_iconst_3 ?_
  refine zr_i (va_runV (As := [.int 3]) (rest := []) ⟨hx, hb, hml, hown, hts⟩ (t_au_placeOfLatest l D ad ca h _) (cwV 1 hts (zg_V q_242 q_244 q_6 q_41 q_245) rfl rfl rfl ⟨rfl, hd_au_placeOfLatest⟩ ⟨Nat.le_trans (by decide) hfr, Nat.le_trans (by decide) hlc⟩) (z_preV zNs_ok hK hN hI 2 2 rfl rfl _) rfl rfl hl.1 rfl (lv_room (Nat.le_of_ble_eq_true rfl)) d_au_bid_2 ⟨Nat.zero_le _, Nat.zero_le _⟩) hI ?_
  intro r1 u2 H locs h hI
  refine lv_istore_n hx hb d_au_bid_5 rfl hl (by decide) rfl ?_
  intro ls hl
  have hl : lv_has ls 2 [(1, .int r1), (0, .ref (ad 2))] := hl
  refine lv_iload_n hx hb d_au_bid_6 rfl (lv_at hl 0 rfl) ?_
  refine lv_iconst (v := (-1)) hx hb d_au_bid_7 zc_iconst_m1 ?_
  refine lv_icmp_ne hx hb d_au_bid_8 rfl (fun hc => ?_) (fun hc => ?_)
  · have h := h.1 hc
    refine lv_aload_n hx hb d_au_bid_15 rfl (lv_at hl 1 rfl) ?_
    refine cg_Auction_calls hx hb hts hown hK hI (hts _ q_92) d_au_bid_16 ?_
    refine lv_iload_n hx hb d_au_bid_19 rfl (lv_at hl 0 rfl) ?_
    obtain ⟨hi, h⟩ := h
    refine ca_calls hx hb hK hI hi d_au_bid_20 ?_
    exact k_au_bid_21 cx0  hI (lv_sub hl [] rfl) h
  · have h := h.2 hc
    refine lv_iconst (v := (-1)) hx hb d_au_bid_11 zc_iconst_m1 ?_
    refine lv_goto hx hb d_au_bid_12 rfl ?_
    exact k_au_bid_21 cx0  hI (lv_sub hl [] rfl) h
def b_au_hasEnded_34  (post : Int32 → ZS → Prop) (s0 : Int32) (u : ZS) : Prop := (s0 = 0 ∨ s0 = 1) ∧ post s0 u
set_option maxRecDepth 100000 in
set_option maxHeartbeats 4000000 in
theorem k_au_hasEnded_34 {p : Program} {l : Launch} {e : Env} {R : Room} {s : State} {m : MethodId} {args : Array Value} {below : List Frame} {meth : Method} {c : Code} {D : va_G} {A : Nat → Prop} {ad : Nat → Nat} {ca : Nat → ClassId}  {post : Int32 → ZS → Prop} (cx : zx p R s m args meth c c_au_hasEnded 3 2 34 "ShortBridge$Auction" (some .boolean) zG zNs D (cT ca)) {s0 : Int32} {u : ZS} {H : Heap} {locs : List Loc} {ls : Array Slot} (hI : zw D A s.heap (cW ad ca u) H locs) (hl : lv_has ls 3 []) (h : b_au_hasEnded_34 post s0 u) : W p l e R s m args below meth c H locs 0 0 (MQ below (va_Qi post (zE D (cT ca) (cW ad ca) A) A) args s 0 0 A) (F0 m 34 ls [.int s0]) := by
  have cx0 := cx
  obtain ⟨hx, hb, hml, hown, hts, hN, hK, hr, hlk, hfr, hlc⟩ := cx
  unfold b_au_hasEnded_34 at h
  exact zret_z hx hb hr hlk hK hI h.1 h.2 d_au_hasEnded_34
def b_au_hasEnded_26  (post : Int32 → ZS → Prop) (s0 : Int32) (s1 : Int32) (u : ZS) : Prop := (s1 < s0 → b_au_hasEnded_34 post 0 u) ∧ (¬ (s1 < s0) → b_au_hasEnded_34 post 1 u)
set_option maxRecDepth 100000 in
set_option maxHeartbeats 4000000 in
theorem k_au_hasEnded_26 {p : Program} {l : Launch} {e : Env} {R : Room} {s : State} {m : MethodId} {args : Array Value} {below : List Frame} {meth : Method} {c : Code} {D : va_G} {A : Nat → Prop} {ad : Nat → Nat} {ca : Nat → ClassId}  {post : Int32 → ZS → Prop} (cx : zx p R s m args meth c c_au_hasEnded 3 2 34 "ShortBridge$Auction" (some .boolean) zG zNs D (cT ca)) {s0 : Int32} {s1 : Int32} {u : ZS} {H : Heap} {locs : List Loc} {ls : Array Slot} (hI : zw D A s.heap (cW ad ca u) H locs) (hl : lv_has ls 3 []) (h : b_au_hasEnded_26 post s0 s1 u) : W p l e R s m args below meth c H locs 0 0 (MQ below (va_Qi post (zE D (cT ca) (cW ad ca) A) A) args s 0 0 A) (F0 m 26 ls [.int s0, .int s1]) := by
  have cx0 := cx
  obtain ⟨hx, hb, hml, hown, hts, hN, hK, hr, hlk, hfr, hlc⟩ := cx
  unfold b_au_hasEnded_26 at h
  refine lv_icmp_lt hx hb d_au_hasEnded_26 rfl (fun hc => ?_) (fun hc => ?_)
  · have h := h.1 hc
    refine lv_iconst (v := 0) hx hb d_au_hasEnded_33 zc_iconst_0 ?_
    exact k_au_hasEnded_34 cx0  hI (lv_sub hl [] rfl) h
  · have h := h.2 hc
    refine lv_iconst (v := 1) hx hb d_au_hasEnded_29 zc_iconst_1 ?_
    refine lv_goto hx hb d_au_hasEnded_30 rfl ?_
    exact k_au_hasEnded_34 cx0  hI (lv_sub hl [] rfl) h
def w_au_hasEnded  (u : ZS) (post : Int32 → ZS → Prop) : Prop := w_au_placeOfLatest 1 u (fun r1 u2 => (¬ r1 = (-1 : Int32) → b_au_hasEnded_26 post 3 (((fI u2 2) - 1) - r1) u2) ∧ (¬ (¬ r1 = (-1 : Int32)) → b_au_hasEnded_26 post 4 (((fI u2 2) - 1) - r1) u2))
set_option maxRecDepth 100000 in
set_option maxHeartbeats 4000000 in
theorem t_au_hasEnded (l : Launch) (D : va_G) (ad : Nat → Nat) (ca : Nat → ClassId)  {u : ZS} {post : Int32 → ZS → Prop} (h : w_au_hasEnded  u post) : zI l y_au_hasEnded (Cond.code y_au_hasEnded c_au_hasEnded 3 (some .boolean) :: zG) { frames := 2, cells := 0, slots := 0, locals := 34 } D (cT ca) zNs (cW ad ca) [.ref (ad 2)] u post := by
  refine zI_of (cc := c_au_hasEnded) (maxL := 3) (ret := (some .boolean)) (by decide) (Nat.le_of_ble_eq_true rfl) ?_
  intro p e s m args below meth c ls A cx hI hl
  have cx0 := cx
  obtain ⟨hx, hb, hml, hown, hts, hN, hK, hr, hlk, hfr, hlc⟩ := cx
  have hl : lv_has ls 3 [(0, .ref (ad 2))] := hl
  unfold w_au_hasEnded at h
  refine lv_aload_n hx hb d_au_hasEnded_0 rfl (lv_at hl 0 rfl) ?_
  refine lv_iconst (v := 1) hx hb d_au_hasEnded_1 zc_iconst_1 ?_
  refine zr_i (va_runV (As := [.int 1]) (rest := []) ⟨hx, hb, hml, hown, hts⟩ (t_au_placeOfLatest l D ad ca h _) (cwV 1 hts (zg_V q_242 q_244 q_6 q_41 q_245) rfl rfl rfl ⟨rfl, hd_au_placeOfLatest⟩ ⟨Nat.le_trans (by decide) hfr, Nat.le_trans (by decide) hlc⟩) (z_preV zNs_ok hK hN hI 2 2 rfl rfl _) rfl rfl hl.1 rfl (lv_room (Nat.le_of_ble_eq_true rfl)) d_au_hasEnded_2 ⟨Nat.zero_le _, Nat.zero_le _⟩) hI ?_
  intro r1 u2 H locs h hI
  refine lv_istore_n hx hb d_au_hasEnded_5 rfl hl (by decide) rfl ?_
  intro ls hl
  have hl : lv_has ls 3 [(1, .int r1), (0, .ref (ad 2))] := hl
  refine lv_aload_n hx hb d_au_hasEnded_6 rfl (lv_at hl 1 rfl) ?_
  refine cg_Auction_count hx hb hts hown hK hI (hts _ q_93) d_au_hasEnded_7 ?_
  refine lv_iconst (v := 1) hx hb d_au_hasEnded_10 zc_iconst_1 ?_
  refine lv_isub hx hb d_au_hasEnded_11 ?_
  refine lv_iload_n hx hb d_au_hasEnded_12 rfl (lv_at hl 0 rfl) ?_
  refine lv_isub hx hb d_au_hasEnded_13 ?_
  refine lv_istore_n hx hb d_au_hasEnded_14 rfl hl (by decide) rfl ?_
  intro ls hl
  have hl : lv_has ls 3 [(2, .int (((fI u2 2) - 1) - r1)), (1, .int r1), (0, .ref (ad 2))] := hl
  refine lv_iload_n hx hb d_au_hasEnded_15 rfl (lv_at hl 0 rfl) ?_
  refine lv_iload_n hx hb d_au_hasEnded_16 rfl (lv_at hl 1 rfl) ?_
  refine lv_iconst (v := (-1)) hx hb d_au_hasEnded_17 zc_iconst_m1 ?_
  refine lv_icmp_ne hx hb d_au_hasEnded_18 rfl (fun hc => ?_) (fun hc => ?_)
  · have h := h.1 hc
    refine lv_iconst (v := 3) hx hb d_au_hasEnded_25 zc_iconst_3 ?_
    exact k_au_hasEnded_26 cx0  hI (lv_sub hl [] rfl) h
  · have h := h.2 hc
    refine lv_iconst (v := 4) hx hb d_au_hasEnded_21 zc_iconst_4 ?_
    refine lv_goto hx hb d_au_hasEnded_22 rfl ?_
    exact k_au_hasEnded_26 cx0  hI (lv_sub hl [] rfl) h
def b_au_doubled_21  (post : Int32 → ZS → Prop)  (u : ZS) : Prop := post 0 u
set_option maxRecDepth 100000 in
set_option maxHeartbeats 4000000 in
theorem k_au_doubled_21 {p : Program} {l : Launch} {e : Env} {R : Room} {s : State} {m : MethodId} {args : Array Value} {below : List Frame} {meth : Method} {c : Code} {D : va_G} {A : Nat → Prop} {ad : Nat → Nat} {ca : Nat → ClassId}  {post : Int32 → ZS → Prop} (cx : zx p R s m args meth c c_au_doubled 2 2 34 "ShortBridge$Auction" (some .int) zG zNs D (cT ca)) {u : ZS} {H : Heap} {locs : List Loc} {ls : Array Slot} (hI : zw D A s.heap (cW ad ca u) H locs) (hl : lv_has ls 2 []) (h : b_au_doubled_21 post  u) : W p l e R s m args below meth c H locs 0 0 (MQ below (va_Qi post (zE D (cT ca) (cW ad ca) A) A) args s 0 0 A) (F0 m 21 ls []) := by
  have cx0 := cx
  obtain ⟨hx, hb, hml, hown, hts, hN, hK, hr, hlk, hfr, hlc⟩ := cx
  unfold b_au_doubled_21 at h
  refine lv_iconst (v := 0) hx hb d_au_doubled_21 zc_iconst_0 ?_
  exact zret_i hx hb hr hlk hK hI h d_au_doubled_22
def b_au_doubled_38  (post : Int32 → ZS → Prop) (s0 : Int32) (u : ZS) : Prop := post s0 u
set_option maxRecDepth 100000 in
set_option maxHeartbeats 4000000 in
theorem k_au_doubled_38 {p : Program} {l : Launch} {e : Env} {R : Room} {s : State} {m : MethodId} {args : Array Value} {below : List Frame} {meth : Method} {c : Code} {D : va_G} {A : Nat → Prop} {ad : Nat → Nat} {ca : Nat → ClassId}  {post : Int32 → ZS → Prop} (cx : zx p R s m args meth c c_au_doubled 2 2 34 "ShortBridge$Auction" (some .int) zG zNs D (cT ca)) {s0 : Int32} {u : ZS} {H : Heap} {locs : List Loc} {ls : Array Slot} (hI : zw D A s.heap (cW ad ca u) H locs) (hl : lv_has ls 2 []) (h : b_au_doubled_38 post s0 u) : W p l e R s m args below meth c H locs 0 0 (MQ below (va_Qi post (zE D (cT ca) (cW ad ca) A) A) args s 0 0 A) (F0 m 38 ls [.int s0]) := by
  have cx0 := cx
  obtain ⟨hx, hb, hml, hown, hts, hN, hK, hr, hlk, hfr, hlc⟩ := cx
  unfold b_au_doubled_38 at h
  exact zret_i hx hb hr hlk hK hI h d_au_doubled_38
def w_au_doubled  (u : ZS) (post : Int32 → ZS → Prop) : Prop := w_au_placeOfLatest 1 u (fun r1 u2 => (r1 = (-1 : Int32) → b_au_doubled_21 post u2) ∧ (¬ (r1 = (-1 : Int32)) → vp_in r1 139 ∧ (((aI u2 3 (r1).toNatClampNeg) < 3 → vp_in r1 139 ∧ ((¬ (aI u2 3 (r1).toNatClampNeg) = 2 → b_au_doubled_38 post 1 u2) ∧ (¬ (¬ (aI u2 3 (r1).toNatClampNeg) = 2) → b_au_doubled_38 post 2 u2))) ∧ (¬ ((aI u2 3 (r1).toNatClampNeg) < 3) → b_au_doubled_21 post u2))))
set_option maxRecDepth 100000 in
set_option maxHeartbeats 4000000 in
theorem t_au_doubled (l : Launch) (D : va_G) (ad : Nat → Nat) (ca : Nat → ClassId)  {u : ZS} {post : Int32 → ZS → Prop} (h : w_au_doubled  u post) : zI l y_au_doubled (Cond.code y_au_doubled c_au_doubled 2 (some .int) :: zG) { frames := 2, cells := 0, slots := 0, locals := 34 } D (cT ca) zNs (cW ad ca) [.ref (ad 2)] u post := by
  refine zI_of (cc := c_au_doubled) (maxL := 2) (ret := (some .int)) (by decide) (Nat.le_of_ble_eq_true rfl) ?_
  intro p e s m args below meth c ls A cx hI hl
  have cx0 := cx
  obtain ⟨hx, hb, hml, hown, hts, hN, hK, hr, hlk, hfr, hlc⟩ := cx
  have hl : lv_has ls 2 [(0, .ref (ad 2))] := hl
  unfold w_au_doubled at h
  refine lv_aload_n hx hb d_au_doubled_0 rfl (lv_at hl 0 rfl) ?_
  refine lv_iconst (v := 1) hx hb d_au_doubled_1 zc_iconst_1 ?_
  refine zr_i (va_runV (As := [.int 1]) (rest := []) ⟨hx, hb, hml, hown, hts⟩ (t_au_placeOfLatest l D ad ca h _) (cwV 1 hts (zg_V q_242 q_244 q_6 q_41 q_245) rfl rfl rfl ⟨rfl, hd_au_placeOfLatest⟩ ⟨Nat.le_trans (by decide) hfr, Nat.le_trans (by decide) hlc⟩) (z_preV zNs_ok hK hN hI 2 2 rfl rfl _) rfl rfl hl.1 rfl (lv_room (Nat.le_of_ble_eq_true rfl)) d_au_doubled_2 ⟨Nat.zero_le _, Nat.zero_le _⟩) hI ?_
  intro r1 u2 H locs h hI
  refine lv_istore_n hx hb d_au_doubled_5 rfl hl (by decide) rfl ?_
  intro ls hl
  have hl : lv_has ls 2 [(1, .int r1), (0, .ref (ad 2))] := hl
  refine lv_iload_n hx hb d_au_doubled_6 rfl (lv_at hl 0 rfl) ?_
  refine lv_iconst (v := (-1)) hx hb d_au_doubled_7 zc_iconst_m1 ?_
  refine lv_icmp_eq hx hb d_au_doubled_8 rfl (fun hc => ?_) (fun hc => ?_)
  · have h := h.1 hc
    exact k_au_doubled_21 cx0  hI (lv_sub hl [] rfl) h
  · have h := h.2 hc
    refine lv_aload_n hx hb d_au_doubled_11 rfl (lv_at hl 1 rfl) ?_
    refine cg_Auction_calls hx hb hts hown hK hI (hts _ q_92) d_au_doubled_12 ?_
    refine lv_iload_n hx hb d_au_doubled_15 rfl (lv_at hl 0 rfl) ?_
    obtain ⟨hi, h⟩ := h
    refine ca_calls hx hb hK hI hi d_au_doubled_16 ?_
    refine lv_iconst (v := 3) hx hb d_au_doubled_17 zc_iconst_3 ?_
    refine lv_icmp_lt hx hb d_au_doubled_18 rfl (fun hc => ?_) (fun hc => ?_)
    · have h := h.1 hc
      refine lv_aload_n hx hb d_au_doubled_23 rfl (lv_at hl 1 rfl) ?_
      refine cg_Auction_calls hx hb hts hown hK hI (hts _ q_92) d_au_doubled_24 ?_
      refine lv_iload_n hx hb d_au_doubled_27 rfl (lv_at hl 0 rfl) ?_
      obtain ⟨hi, h⟩ := h
      refine ca_calls hx hb hK hI hi d_au_doubled_28 ?_
      refine lv_iconst (v := 2) hx hb d_au_doubled_29 zc_iconst_2 ?_
      refine lv_icmp_ne hx hb d_au_doubled_30 rfl (fun hc => ?_) (fun hc => ?_)
      · have h := h.1 hc
        refine lv_iconst (v := 1) hx hb d_au_doubled_37 zc_iconst_1 ?_
        exact k_au_doubled_38 cx0  hI (lv_sub hl [] rfl) h
      · have h := h.2 hc
        refine lv_iconst (v := 2) hx hb d_au_doubled_33 zc_iconst_2 ?_
        refine lv_goto hx hb d_au_doubled_34 rfl ?_
        exact k_au_doubled_38 cx0  hI (lv_sub hl [] rfl) h
    · have h := h.2 hc
      exact k_au_doubled_21 cx0  hI (lv_sub hl [] rfl) h
def w_x_playerBehind (v0 : Int32) (v1 : Int32) (u : ZS) (post : Int32 → ZS → Prop) : Prop := post ((v0 + v1) - (v0 + v1) / 4 * 4) u
set_option maxRecDepth 100000 in
set_option maxHeartbeats 4000000 in
theorem t_x_playerBehind (l : Launch) (D : va_G) (ad : Nat → Nat) (ca : Nat → ClassId) {v0 : Int32} {v1 : Int32} {u : ZS} {post : Int32 → ZS → Prop} (h : w_x_playerBehind v0 v1 u post) : zI l y_x_playerBehind (Cond.code y_x_playerBehind c_x_playerBehind 2 (some .int) :: zG) { frames := 1, cells := 0, slots := 0, locals := 12 } D (cT ca) zNs (cW ad ca) [.int v0, .int v1] u post := by
  refine zI_of (cc := c_x_playerBehind) (maxL := 2) (ret := (some .int)) (by decide) (Nat.le_of_ble_eq_true rfl) ?_
  intro p e s m args below meth c ls A cx hI hl
  have cx0 := cx
  obtain ⟨hx, hb, hml, hown, hts, hN, hK, hr, hlk, hfr, hlc⟩ := cx
  have hl : lv_has ls 2 [(0, .int v0), (1, .int v1)] := hl
  unfold w_x_playerBehind at h
  refine lv_iload_n hx hb d_x_playerBehind_0 rfl (lv_at hl 0 rfl) ?_
  refine lv_iload_n hx hb d_x_playerBehind_1 rfl (lv_at hl 1 rfl) ?_
  refine lv_iadd hx hb d_x_playerBehind_2 ?_
  refine lv_iconst (v := 4) hx hb d_x_playerBehind_3 zc_iconst_4 ?_
  refine lv_irem hx hb d_x_playerBehind_4 (by decide) ?_
  exact zret_i hx hb hr hlk hK hI h d_x_playerBehind_5
def w_au_callerOf (v1 : Int32) (u : ZS) (post : Int32 → ZS → Prop) : Prop := w_x_playerBehind (fI u 3) v1 u (fun r1 u2 => post r1 u2)
set_option maxRecDepth 100000 in
set_option maxHeartbeats 4000000 in
theorem t_au_callerOf (l : Launch) (D : va_G) (ad : Nat → Nat) (ca : Nat → ClassId) {v1 : Int32} {u : ZS} {post : Int32 → ZS → Prop} (h : w_au_callerOf v1 u post) : zI l y_au_callerOf (Cond.code y_au_callerOf c_au_callerOf 2 (some .int) :: zG) { frames := 2, cells := 0, slots := 0, locals := 33 } D (cT ca) zNs (cW ad ca) [.ref (ad 2), .int v1] u post := by
  refine zI_of (cc := c_au_callerOf) (maxL := 2) (ret := (some .int)) (by decide) (Nat.le_of_ble_eq_true rfl) ?_
  intro p e s m args below meth c ls A cx hI hl
  have cx0 := cx
  obtain ⟨hx, hb, hml, hown, hts, hN, hK, hr, hlk, hfr, hlc⟩ := cx
  have hl : lv_has ls 2 [(0, .ref (ad 2)), (1, .int v1)] := hl
  unfold w_au_callerOf at h
  refine lv_aload_n hx hb d_au_callerOf_0 rfl (lv_at hl 0 rfl) ?_
  refine cg_Auction_dealer hx hb hts hown hK hI (hts _ q_95) d_au_callerOf_1 ?_
  refine lv_iload_n hx hb d_au_callerOf_4 rfl (lv_at hl 1 rfl) ?_
  refine zr_i (va_runSN (As := [.int (fI u 3), .int v1]) (rest := []) ⟨hx, hb, hml, hown, hts⟩ (t_x_playerBehind l D ad ca h _) ⟨va_cnB 2 hts (zg_c q_269) rfl rfl rfl (hN _ nw_12) (hts _ q_39) hd_x_playerBehind ⟨Nat.le_trans (by decide) hfr, Nat.le_trans (by decide) hlc⟩, hts _ q_268, trivial⟩ (z_preS zNs_ok hK hN hI _) rfl rfl hl.1 rfl (lv_room (Nat.le_of_ble_eq_true rfl)) d_au_callerOf_5 ⟨Nat.zero_le _, Nat.zero_le _⟩) hI ?_
  intro r1 u2 H locs h hI
  exact zret_i hx hb hr hlk hK hI h d_au_callerOf_8
def w_x_sideOf (v0 : Int32) (u : ZS) (post : Int32 → ZS → Prop) : Prop := post (v0 &&& 1) u
set_option maxRecDepth 100000 in
set_option maxHeartbeats 4000000 in
theorem t_x_sideOf (l : Launch) (D : va_G) (ad : Nat → Nat) (ca : Nat → ClassId) {v0 : Int32} {u : ZS} {post : Int32 → ZS → Prop} (h : w_x_sideOf v0 u post) : zI l y_x_sideOf (Cond.code y_x_sideOf c_x_sideOf 1 (some .int) :: zG) { frames := 1, cells := 0, slots := 0, locals := 12 } D (cT ca) zNs (cW ad ca) [.int v0] u post := by
  refine zI_of (cc := c_x_sideOf) (maxL := 1) (ret := (some .int)) (by decide) (Nat.le_of_ble_eq_true rfl) ?_
  intro p e s m args below meth c ls A cx hI hl
  have cx0 := cx
  obtain ⟨hx, hb, hml, hown, hts, hN, hK, hr, hlk, hfr, hlc⟩ := cx
  have hl : lv_has ls 1 [(0, .int v0)] := hl
  unfold w_x_sideOf at h
  refine lv_iload_n hx hb d_x_sideOf_0 rfl (lv_at hl 0 rfl) ?_
  refine lv_iconst (v := 1) hx hb d_x_sideOf_1 zc_iconst_1 ?_
  refine lv_iand hx hb d_x_sideOf_2 ?_
  exact zret_i hx hb hr hlk hK hI h d_x_sideOf_3
def b_au_isSameSide_24  (post : Int32 → ZS → Prop) (s0 : Int32) (u : ZS) : Prop := (s0 = 0 ∨ s0 = 1) ∧ post s0 u
set_option maxRecDepth 100000 in
set_option maxHeartbeats 4000000 in
theorem k_au_isSameSide_24 {p : Program} {l : Launch} {e : Env} {R : Room} {s : State} {m : MethodId} {args : Array Value} {below : List Frame} {meth : Method} {c : Code} {D : va_G} {A : Nat → Prop} {ad : Nat → Nat} {ca : Nat → ClassId}  {post : Int32 → ZS → Prop} (cx : zx p R s m args meth c c_au_isSameSide 3 3 54 "ShortBridge$Auction" (some .boolean) zG zNs D (cT ca)) {s0 : Int32} {u : ZS} {H : Heap} {locs : List Loc} {ls : Array Slot} (hI : zw D A s.heap (cW ad ca u) H locs) (hl : lv_has ls 3 []) (h : b_au_isSameSide_24 post s0 u) : W p l e R s m args below meth c H locs 0 0 (MQ below (va_Qi post (zE D (cT ca) (cW ad ca) A) A) args s 0 0 A) (F0 m 24 ls [.int s0]) := by
  have cx0 := cx
  obtain ⟨hx, hb, hml, hown, hts, hN, hK, hr, hlk, hfr, hlc⟩ := cx
  unfold b_au_isSameSide_24 at h
  exact zret_z hx hb hr hlk hK hI h.1 h.2 d_au_isSameSide_24
def w_au_isSameSide (v1 : Int32) (v2 : Int32) (u : ZS) (post : Int32 → ZS → Prop) : Prop := w_au_callerOf v1 u (fun r1 u2 => w_x_sideOf r1 u2 (fun r3 u4 => w_au_callerOf v2 u4 (fun r5 u6 => w_x_sideOf r5 u6 (fun r7 u8 => (¬ r3 = r7 → b_au_isSameSide_24 post 0 u8) ∧ (¬ (¬ r3 = r7) → b_au_isSameSide_24 post 1 u8)))))
set_option maxRecDepth 100000 in
set_option maxHeartbeats 4000000 in
theorem t_au_isSameSide (l : Launch) (D : va_G) (ad : Nat → Nat) (ca : Nat → ClassId) {v1 : Int32} {v2 : Int32} {u : ZS} {post : Int32 → ZS → Prop} (h : w_au_isSameSide v1 v2 u post) : zI l y_au_isSameSide (Cond.code y_au_isSameSide c_au_isSameSide 3 (some .boolean) :: zG) { frames := 3, cells := 0, slots := 0, locals := 54 } D (cT ca) zNs (cW ad ca) [.ref (ad 2), .int v1, .int v2] u post := by
  refine zI_of (cc := c_au_isSameSide) (maxL := 3) (ret := (some .boolean)) (by decide) (Nat.le_of_ble_eq_true rfl) ?_
  intro p e s m args below meth c ls A cx hI hl
  have cx0 := cx
  obtain ⟨hx, hb, hml, hown, hts, hN, hK, hr, hlk, hfr, hlc⟩ := cx
  have hl : lv_has ls 3 [(0, .ref (ad 2)), (1, .int v1), (2, .int v2)] := hl
  unfold w_au_isSameSide at h
  refine lv_aload_n hx hb d_au_isSameSide_0 rfl (lv_at hl 0 rfl) ?_
  refine lv_iload_n hx hb d_au_isSameSide_1 rfl (lv_at hl 1 rfl) ?_
  refine zr_i (va_runV (As := [.int v1]) (rest := []) ⟨hx, hb, hml, hown, hts⟩ (t_au_callerOf l D ad ca h _) (cwV 1 hts (zg_V q_263 q_265 q_7 q_41 q_266) rfl rfl rfl ⟨rfl, hd_au_callerOf⟩ ⟨Nat.le_trans (by decide) hfr, Nat.le_trans (by decide) hlc⟩) (z_preV zNs_ok hK hN hI 2 2 rfl rfl _) rfl rfl hl.1 rfl (lv_room (Nat.le_of_ble_eq_true rfl)) d_au_isSameSide_2 ⟨Nat.zero_le _, Nat.zero_le _⟩) hI ?_
  intro r1 u2 H locs h hI
  refine zr_i (va_runSN (As := [.int r1]) (rest := []) ⟨hx, hb, hml, hown, hts⟩ (t_x_sideOf l D ad ca h _) ⟨va_cnB 1 hts (zg_c q_314) rfl rfl rfl (hN _ nw_14) (hts _ q_39) hd_x_sideOf ⟨Nat.le_trans (by decide) hfr, Nat.le_trans (by decide) hlc⟩, hts _ q_313, trivial⟩ (z_preS zNs_ok hK hN hI _) rfl rfl hl.1 rfl (lv_room (Nat.le_of_ble_eq_true rfl)) d_au_isSameSide_5 ⟨Nat.zero_le _, Nat.zero_le _⟩) hI ?_
  intro r3 u4 H locs h hI
  refine lv_aload_n hx hb d_au_isSameSide_8 rfl (lv_at hl 0 rfl) ?_
  refine lv_iload_n hx hb d_au_isSameSide_9 rfl (lv_at hl 2 rfl) ?_
  refine zr_i (va_runV (As := [.int v2]) (rest := [.int r3]) ⟨hx, hb, hml, hown, hts⟩ (t_au_callerOf l D ad ca h _) (cwV 1 hts (zg_V q_263 q_265 q_7 q_41 q_266) rfl rfl rfl ⟨rfl, hd_au_callerOf⟩ ⟨Nat.le_trans (by decide) hfr, Nat.le_trans (by decide) hlc⟩) (z_preV zNs_ok hK hN hI 2 2 rfl rfl _) rfl rfl hl.1 rfl (lv_room (Nat.le_of_ble_eq_true rfl)) d_au_isSameSide_10 ⟨Nat.zero_le _, Nat.zero_le _⟩) hI ?_
  intro r5 u6 H locs h hI
  refine zr_i (va_runSN (As := [.int r5]) (rest := [.int r3]) ⟨hx, hb, hml, hown, hts⟩ (t_x_sideOf l D ad ca h _) ⟨va_cnB 1 hts (zg_c q_314) rfl rfl rfl (hN _ nw_14) (hts _ q_39) hd_x_sideOf ⟨Nat.le_trans (by decide) hfr, Nat.le_trans (by decide) hlc⟩, hts _ q_313, trivial⟩ (z_preS zNs_ok hK hN hI _) rfl rfl hl.1 rfl (lv_room (Nat.le_of_ble_eq_true rfl)) d_au_isSameSide_13 ⟨Nat.zero_le _, Nat.zero_le _⟩) hI ?_
  intro r7 u8 H locs h hI
  refine lv_icmp_ne hx hb d_au_isSameSide_16 rfl (fun hc => ?_) (fun hc => ?_)
  · have h := h.1 hc
    refine lv_iconst (v := 0) hx hb d_au_isSameSide_23 zc_iconst_0 ?_
    exact k_au_isSameSide_24 cx0  hI (lv_sub hl [] rfl) h
  · have h := h.2 hc
    refine lv_iconst (v := 1) hx hb d_au_isSameSide_19 zc_iconst_1 ?_
    refine lv_goto hx hb d_au_isSameSide_20 rfl ?_
    exact k_au_isSameSide_24 cx0  hI (lv_sub hl [] rfl) h
end
