abbrev c_x_init : ByteArray := prog_1_method_1_code
def y_x_init : MethodName := ⟨"ShortBridge", "<init>", "()V"⟩
theorem d_x_init_0 : decode c_x_init 0 = .ok (.aload_n 0, 1) := by decide +kernel
theorem d_x_init_1 : decode c_x_init 1 = .ok (.invokespecial 1, 3) := by decide +kernel
theorem d_x_init_4 : decode c_x_init 4 = .ok (.aload_n 0, 1) := by decide +kernel
theorem d_x_init_5 : decode c_x_init 5 = .ok (.new 7, 3) := by decide +kernel
theorem d_x_init_8 : decode c_x_init 8 = .ok (.dup, 1) := by decide +kernel
theorem d_x_init_9 : decode c_x_init 9 = .ok (.invokespecial 9, 3) := by decide +kernel
theorem d_x_init_12 : decode c_x_init 12 = .ok (.putfield 10, 3) := by decide +kernel
theorem d_x_init_15 : decode c_x_init 15 = .ok (.aload_n 0, 1) := by decide +kernel
theorem d_x_init_16 : decode c_x_init 16 = .ok (.new 16, 3) := by decide +kernel
theorem d_x_init_19 : decode c_x_init 19 = .ok (.dup, 1) := by decide +kernel
theorem d_x_init_20 : decode c_x_init 20 = .ok (.invokespecial 18, 3) := by decide +kernel
theorem d_x_init_23 : decode c_x_init 23 = .ok (.putfield 19, 3) := by decide +kernel
theorem d_x_init_26 : decode c_x_init 26 = .ok (.aload_n 0, 1) := by decide +kernel
theorem d_x_init_27 : decode c_x_init 27 = .ok (.new 23, 3) := by decide +kernel
theorem d_x_init_30 : decode c_x_init 30 = .ok (.dup, 1) := by decide +kernel
theorem d_x_init_31 : decode c_x_init 31 = .ok (.invokespecial 25, 3) := by decide +kernel
theorem d_x_init_34 : decode c_x_init 34 = .ok (.putfield 26, 3) := by decide +kernel
theorem d_x_init_37 : decode c_x_init 37 = .ok (.aload_n 0, 1) := by decide +kernel
theorem d_x_init_38 : decode c_x_init 38 = .ok (.new 30, 3) := by decide +kernel
theorem d_x_init_41 : decode c_x_init 41 = .ok (.dup, 1) := by decide +kernel
theorem d_x_init_42 : decode c_x_init 42 = .ok (.invokespecial 32, 3) := by decide +kernel
theorem d_x_init_45 : decode c_x_init 45 = .ok (.putfield 33, 3) := by decide +kernel
theorem d_x_init_48 : decode c_x_init 48 = .ok (.return_, 1) := by decide +kernel
abbrev c_x_deal : ByteArray := prog_1_method_2_code
def y_x_deal : MethodName := ⟨"ShortBridge", "deal", "(JII)Z"⟩
theorem d_x_deal_0 : decode c_x_deal 0 = .ok (.lload_n 1, 1) := by decide +kernel
theorem d_x_deal_1 : decode c_x_deal 1 = .ok (.invokestatic 37, 3) := by decide +kernel
theorem d_x_deal_4 : decode c_x_deal 4 = .ok (.ifCond .eq 12, 3) := by decide +kernel
theorem d_x_deal_7 : decode c_x_deal 7 = .ok (.iload_n 3, 1) := by decide +kernel
theorem d_x_deal_8 : decode c_x_deal 8 = .ok (.iload 4, 2) := by decide +kernel
theorem d_x_deal_10 : decode c_x_deal 10 = .ok (.invokestatic 41, 3) := by decide +kernel
theorem d_x_deal_13 : decode c_x_deal 13 = .ok (.ifCond .ne 5, 3) := by decide +kernel
theorem d_x_deal_16 : decode c_x_deal 16 = .ok (.iconst 0, 1) := by decide +kernel
theorem d_x_deal_17 : decode c_x_deal 17 = .ok (.ireturn, 1) := by decide +kernel
theorem d_x_deal_18 : decode c_x_deal 18 = .ok (.aload_n 0, 1) := by decide +kernel
theorem d_x_deal_19 : decode c_x_deal 19 = .ok (.getfield 10, 3) := by decide +kernel
theorem d_x_deal_22 : decode c_x_deal 22 = .ok (.lload_n 1, 1) := by decide +kernel
theorem d_x_deal_23 : decode c_x_deal 23 = .ok (.invokevirtual 45, 3) := by decide +kernel
theorem d_x_deal_26 : decode c_x_deal 26 = .ok (.aload_n 0, 1) := by decide +kernel
theorem d_x_deal_27 : decode c_x_deal 27 = .ok (.iload_n 3, 1) := by decide +kernel
theorem d_x_deal_28 : decode c_x_deal 28 = .ok (.iload 4, 2) := by decide +kernel
theorem d_x_deal_30 : decode c_x_deal 30 = .ok (.invokevirtual 49, 3) := by decide +kernel
theorem d_x_deal_33 : decode c_x_deal 33 = .ok (.iconst 1, 1) := by decide +kernel
theorem d_x_deal_34 : decode c_x_deal 34 = .ok (.ireturn, 1) := by decide +kernel
abbrev c_x_shuffle : ByteArray := prog_1_method_3_code
def y_x_shuffle : MethodName := ⟨"ShortBridge", "shuffle", "(JII)J"⟩
theorem d_x_shuffle_0 : decode c_x_shuffle 0 = .ok (.iload_n 3, 1) := by decide +kernel
theorem d_x_shuffle_1 : decode c_x_shuffle 1 = .ok (.iload 4, 2) := by decide +kernel
theorem d_x_shuffle_3 : decode c_x_shuffle 3 = .ok (.invokestatic 41, 3) := by decide +kernel
theorem d_x_shuffle_6 : decode c_x_shuffle 6 = .ok (.ifCond .ne 7, 3) := by decide +kernel
theorem d_x_shuffle_9 : decode c_x_shuffle 9 = .ok (.ldc2_w 53, 3) := by decide +kernel
theorem d_x_shuffle_12 : decode c_x_shuffle 12 = .ok (.lreturn, 1) := by decide +kernel
theorem d_x_shuffle_13 : decode c_x_shuffle 13 = .ok (.aload_n 0, 1) := by decide +kernel
theorem d_x_shuffle_14 : decode c_x_shuffle 14 = .ok (.getfield 10, 3) := by decide +kernel
theorem d_x_shuffle_17 : decode c_x_shuffle 17 = .ok (.lload_n 1, 1) := by decide +kernel
theorem d_x_shuffle_18 : decode c_x_shuffle 18 = .ok (.invokevirtual 55, 3) := by decide +kernel
theorem d_x_shuffle_21 : decode c_x_shuffle 21 = .ok (.aload_n 0, 1) := by decide +kernel
theorem d_x_shuffle_22 : decode c_x_shuffle 22 = .ok (.iload_n 3, 1) := by decide +kernel
theorem d_x_shuffle_23 : decode c_x_shuffle 23 = .ok (.iload 4, 2) := by decide +kernel
theorem d_x_shuffle_25 : decode c_x_shuffle 25 = .ok (.invokevirtual 49, 3) := by decide +kernel
theorem d_x_shuffle_28 : decode c_x_shuffle 28 = .ok (.aload_n 0, 1) := by decide +kernel
theorem d_x_shuffle_29 : decode c_x_shuffle 29 = .ok (.getfield 10, 3) := by decide +kernel
theorem d_x_shuffle_32 : decode c_x_shuffle 32 = .ok (.getfield 58, 3) := by decide +kernel
theorem d_x_shuffle_35 : decode c_x_shuffle 35 = .ok (.lreturn, 1) := by decide +kernel
abbrev c_x_number : ByteArray := prog_1_method_4_code
def y_x_number : MethodName := ⟨"ShortBridge", "number", "()J"⟩
theorem d_x_number_0 : decode c_x_number 0 = .ok (.aload_n 0, 1) := by decide +kernel
theorem d_x_number_1 : decode c_x_number 1 = .ok (.getfield 62, 3) := by decide +kernel
theorem d_x_number_4 : decode c_x_number 4 = .ok (.ifCond .eq 13, 3) := by decide +kernel
theorem d_x_number_7 : decode c_x_number 7 = .ok (.aload_n 0, 1) := by decide +kernel
theorem d_x_number_8 : decode c_x_number 8 = .ok (.getfield 10, 3) := by decide +kernel
theorem d_x_number_11 : decode c_x_number 11 = .ok (.getfield 58, 3) := by decide +kernel
theorem d_x_number_14 : decode c_x_number 14 = .ok (.goto 6, 3) := by decide +kernel
theorem d_x_number_17 : decode c_x_number 17 = .ok (.ldc2_w 53, 3) := by decide +kernel
theorem d_x_number_20 : decode c_x_number 20 = .ok (.lreturn, 1) := by decide +kernel
abbrev c_x_phase : ByteArray := prog_1_method_5_code
def y_x_phase : MethodName := ⟨"ShortBridge", "phase", "()I"⟩
theorem d_x_phase_0 : decode c_x_phase 0 = .ok (.aload_n 0, 1) := by decide +kernel
theorem d_x_phase_1 : decode c_x_phase 1 = .ok (.getfield 62, 3) := by decide +kernel
theorem d_x_phase_4 : decode c_x_phase 4 = .ok (.ifCond .ne 5, 3) := by decide +kernel
theorem d_x_phase_7 : decode c_x_phase 7 = .ok (.iconst 0, 1) := by decide +kernel
theorem d_x_phase_8 : decode c_x_phase 8 = .ok (.ireturn, 1) := by decide +kernel
theorem d_x_phase_9 : decode c_x_phase 9 = .ok (.aload_n 0, 1) := by decide +kernel
theorem d_x_phase_10 : decode c_x_phase 10 = .ok (.getfield 19, 3) := by decide +kernel
theorem d_x_phase_13 : decode c_x_phase 13 = .ok (.invokevirtual 66, 3) := by decide +kernel
theorem d_x_phase_16 : decode c_x_phase 16 = .ok (.ifCond .ne 5, 3) := by decide +kernel
theorem d_x_phase_19 : decode c_x_phase 19 = .ok (.iconst 1, 1) := by decide +kernel
theorem d_x_phase_20 : decode c_x_phase 20 = .ok (.ireturn, 1) := by decide +kernel
theorem d_x_phase_21 : decode c_x_phase 21 = .ok (.aload_n 0, 1) := by decide +kernel
theorem d_x_phase_22 : decode c_x_phase 22 = .ok (.getfield 19, 3) := by decide +kernel
theorem d_x_phase_25 : decode c_x_phase 25 = .ok (.invokevirtual 70, 3) := by decide +kernel
theorem d_x_phase_28 : decode c_x_phase 28 = .ok (.iconst (-1), 1) := by decide +kernel
theorem d_x_phase_29 : decode c_x_phase 29 = .ok (.if_icmp .eq 13, 3) := by decide +kernel
theorem d_x_phase_32 : decode c_x_phase 32 = .ok (.aload_n 0, 1) := by decide +kernel
theorem d_x_phase_33 : decode c_x_phase 33 = .ok (.getfield 26, 3) := by decide +kernel
theorem d_x_phase_36 : decode c_x_phase 36 = .ok (.invokevirtual 74, 3) := by decide +kernel
theorem d_x_phase_39 : decode c_x_phase 39 = .ok (.ifCond .eq 7, 3) := by decide +kernel
theorem d_x_phase_42 : decode c_x_phase 42 = .ok (.iconst 3, 1) := by decide +kernel
theorem d_x_phase_43 : decode c_x_phase 43 = .ok (.goto 4, 3) := by decide +kernel
theorem d_x_phase_46 : decode c_x_phase 46 = .ok (.iconst 2, 1) := by decide +kernel
theorem d_x_phase_47 : decode c_x_phase 47 = .ok (.ireturn, 1) := by decide +kernel
abbrev c_x_turn : ByteArray := prog_1_method_6_code
def y_x_turn : MethodName := ⟨"ShortBridge", "turn", "()I"⟩
theorem d_x_turn_0 : decode c_x_turn 0 = .ok (.aload_n 0, 1) := by decide +kernel
theorem d_x_turn_1 : decode c_x_turn 1 = .ok (.invokevirtual 77, 3) := by decide +kernel
theorem d_x_turn_4 : decode c_x_turn 4 = .ok (.lookupswitch 44 #[(1, 28), (2, 36)], 28) := by decide +kernel
theorem d_x_turn_32 : decode c_x_turn 32 = .ok (.aload_n 0, 1) := by decide +kernel
theorem d_x_turn_33 : decode c_x_turn 33 = .ok (.getfield 19, 3) := by decide +kernel
theorem d_x_turn_36 : decode c_x_turn 36 = .ok (.invokevirtual 80, 3) := by decide +kernel
theorem d_x_turn_39 : decode c_x_turn 39 = .ok (.ireturn, 1) := by decide +kernel
theorem d_x_turn_40 : decode c_x_turn 40 = .ok (.aload_n 0, 1) := by decide +kernel
theorem d_x_turn_41 : decode c_x_turn 41 = .ok (.getfield 26, 3) := by decide +kernel
theorem d_x_turn_44 : decode c_x_turn 44 = .ok (.invokevirtual 83, 3) := by decide +kernel
theorem d_x_turn_47 : decode c_x_turn 47 = .ok (.ireturn, 1) := by decide +kernel
theorem d_x_turn_48 : decode c_x_turn 48 = .ok (.iconst (-1), 1) := by decide +kernel
theorem d_x_turn_49 : decode c_x_turn 49 = .ok (.ireturn, 1) := by decide +kernel
abbrev c_x_has : ByteArray := prog_1_method_7_code
def y_x_has : MethodName := ⟨"ShortBridge", "has", "(II)Z"⟩
theorem d_x_has_0 : decode c_x_has 0 = .ok (.iload_n 1, 1) := by decide +kernel
theorem d_x_has_1 : decode c_x_has 1 = .ok (.invokestatic 86, 3) := by decide +kernel
theorem d_x_has_4 : decode c_x_has 4 = .ok (.ifCond .eq 19, 3) := by decide +kernel
theorem d_x_has_7 : decode c_x_has 7 = .ok (.aload_n 0, 1) := by decide +kernel
theorem d_x_has_8 : decode c_x_has 8 = .ok (.getfield 26, 3) := by decide +kernel
theorem d_x_has_11 : decode c_x_has 11 = .ok (.iload_n 1, 1) := by decide +kernel
theorem d_x_has_12 : decode c_x_has 12 = .ok (.iload_n 2, 1) := by decide +kernel
theorem d_x_has_13 : decode c_x_has 13 = .ok (.invokevirtual 90, 3) := by decide +kernel
theorem d_x_has_16 : decode c_x_has 16 = .ok (.ifCond .eq 7, 3) := by decide +kernel
theorem d_x_has_19 : decode c_x_has 19 = .ok (.iconst 1, 1) := by decide +kernel
theorem d_x_has_20 : decode c_x_has 20 = .ok (.goto 4, 3) := by decide +kernel
theorem d_x_has_23 : decode c_x_has 23 = .ok (.iconst 0, 1) := by decide +kernel
theorem d_x_has_24 : decode c_x_has 24 = .ok (.ireturn, 1) := by decide +kernel
abbrev c_x_call : ByteArray := prog_1_method_8_code
def y_x_call : MethodName := ⟨"ShortBridge", "call", "(I)V"⟩
theorem d_x_call_0 : decode c_x_call 0 = .ok (.aload_n 0, 1) := by decide +kernel
theorem d_x_call_1 : decode c_x_call 1 = .ok (.invokevirtual 77, 3) := by decide +kernel
theorem d_x_call_4 : decode c_x_call 4 = .ok (.iconst 1, 1) := by decide +kernel
theorem d_x_call_5 : decode c_x_call 5 = .ok (.if_icmp .eq 13, 3) := by decide +kernel
theorem d_x_call_8 : decode c_x_call 8 = .ok (.new 93, 3) := by decide +kernel
theorem d_x_call_11 : decode c_x_call 11 = .ok (.dup, 1) := by decide +kernel
theorem d_x_call_12 : decode c_x_call 12 = .ok (.ldc 95, 2) := by decide +kernel
theorem d_x_call_14 : decode c_x_call 14 = .ok (.invokespecial 97, 3) := by decide +kernel
theorem d_x_call_17 : decode c_x_call 17 = .ok (.athrow, 1) := by decide +kernel
theorem d_x_call_18 : decode c_x_call 18 = .ok (.iload_n 1, 1) := by decide +kernel
theorem d_x_call_19 : decode c_x_call 19 = .ok (.invokestatic 100, 3) := by decide +kernel
theorem d_x_call_22 : decode c_x_call 22 = .ok (.ifCond .ne 13, 3) := by decide +kernel
theorem d_x_call_25 : decode c_x_call 25 = .ok (.new 103, 3) := by decide +kernel
theorem d_x_call_28 : decode c_x_call 28 = .ok (.dup, 1) := by decide +kernel
theorem d_x_call_29 : decode c_x_call 29 = .ok (.ldc 105, 2) := by decide +kernel
theorem d_x_call_31 : decode c_x_call 31 = .ok (.invokespecial 107, 3) := by decide +kernel
theorem d_x_call_34 : decode c_x_call 34 = .ok (.athrow, 1) := by decide +kernel
theorem d_x_call_35 : decode c_x_call 35 = .ok (.aload_n 0, 1) := by decide +kernel
theorem d_x_call_36 : decode c_x_call 36 = .ok (.getfield 19, 3) := by decide +kernel
theorem d_x_call_39 : decode c_x_call 39 = .ok (.iload_n 1, 1) := by decide +kernel
theorem d_x_call_40 : decode c_x_call 40 = .ok (.invokevirtual 108, 3) := by decide +kernel
theorem d_x_call_43 : decode c_x_call 43 = .ok (.ifCond .ne 13, 3) := by decide +kernel
theorem d_x_call_46 : decode c_x_call 46 = .ok (.new 111, 3) := by decide +kernel
theorem d_x_call_49 : decode c_x_call 49 = .ok (.dup, 1) := by decide +kernel
theorem d_x_call_50 : decode c_x_call 50 = .ok (.ldc 113, 2) := by decide +kernel
theorem d_x_call_52 : decode c_x_call 52 = .ok (.invokespecial 115, 3) := by decide +kernel
theorem d_x_call_55 : decode c_x_call 55 = .ok (.athrow, 1) := by decide +kernel
theorem d_x_call_56 : decode c_x_call 56 = .ok (.aload_n 0, 1) := by decide +kernel
theorem d_x_call_57 : decode c_x_call 57 = .ok (.getfield 19, 3) := by decide +kernel
theorem d_x_call_60 : decode c_x_call 60 = .ok (.iload_n 1, 1) := by decide +kernel
theorem d_x_call_61 : decode c_x_call 61 = .ok (.invokevirtual 116, 3) := by decide +kernel
theorem d_x_call_64 : decode c_x_call 64 = .ok (.aload_n 0, 1) := by decide +kernel
theorem d_x_call_65 : decode c_x_call 65 = .ok (.invokevirtual 77, 3) := by decide +kernel
theorem d_x_call_68 : decode c_x_call 68 = .ok (.iconst 2, 1) := by decide +kernel
theorem d_x_call_69 : decode c_x_call 69 = .ok (.if_icmp .ne 27, 3) := by decide +kernel
theorem d_x_call_72 : decode c_x_call 72 = .ok (.aload_n 0, 1) := by decide +kernel
theorem d_x_call_73 : decode c_x_call 73 = .ok (.getfield 26, 3) := by decide +kernel
theorem d_x_call_76 : decode c_x_call 76 = .ok (.aload_n 0, 1) := by decide +kernel
theorem d_x_call_77 : decode c_x_call 77 = .ok (.getfield 19, 3) := by decide +kernel
theorem d_x_call_80 : decode c_x_call 80 = .ok (.invokevirtual 120, 3) := by decide +kernel
theorem d_x_call_83 : decode c_x_call 83 = .ok (.aload_n 0, 1) := by decide +kernel
theorem d_x_call_84 : decode c_x_call 84 = .ok (.getfield 19, 3) := by decide +kernel
theorem d_x_call_87 : decode c_x_call 87 = .ok (.invokevirtual 70, 3) := by decide +kernel
theorem d_x_call_90 : decode c_x_call 90 = .ok (.invokestatic 123, 3) := by decide +kernel
theorem d_x_call_93 : decode c_x_call 93 = .ok (.invokevirtual 127, 3) := by decide +kernel
theorem d_x_call_96 : decode c_x_call 96 = .ok (.return_, 1) := by decide +kernel
abbrev c_x_play : ByteArray := prog_1_method_9_code
def y_x_play : MethodName := ⟨"ShortBridge", "play", "(I)V"⟩
theorem d_x_play_0 : decode c_x_play 0 = .ok (.aload_n 0, 1) := by decide +kernel
theorem d_x_play_1 : decode c_x_play 1 = .ok (.invokevirtual 77, 3) := by decide +kernel
theorem d_x_play_4 : decode c_x_play 4 = .ok (.iconst 2, 1) := by decide +kernel
theorem d_x_play_5 : decode c_x_play 5 = .ok (.if_icmp .eq 13, 3) := by decide +kernel
theorem d_x_play_8 : decode c_x_play 8 = .ok (.new 93, 3) := by decide +kernel
theorem d_x_play_11 : decode c_x_play 11 = .ok (.dup, 1) := by decide +kernel
theorem d_x_play_12 : decode c_x_play 12 = .ok (.ldc 130, 2) := by decide +kernel
theorem d_x_play_14 : decode c_x_play 14 = .ok (.invokespecial 97, 3) := by decide +kernel
theorem d_x_play_17 : decode c_x_play 17 = .ok (.athrow, 1) := by decide +kernel
theorem d_x_play_18 : decode c_x_play 18 = .ok (.aload_n 0, 1) := by decide +kernel
theorem d_x_play_19 : decode c_x_play 19 = .ok (.getfield 26, 3) := by decide +kernel
theorem d_x_play_22 : decode c_x_play 22 = .ok (.aload_n 0, 1) := by decide +kernel
theorem d_x_play_23 : decode c_x_play 23 = .ok (.getfield 26, 3) := by decide +kernel
theorem d_x_play_26 : decode c_x_play 26 = .ok (.invokevirtual 83, 3) := by decide +kernel
theorem d_x_play_29 : decode c_x_play 29 = .ok (.iload_n 1, 1) := by decide +kernel
theorem d_x_play_30 : decode c_x_play 30 = .ok (.invokevirtual 90, 3) := by decide +kernel
theorem d_x_play_33 : decode c_x_play 33 = .ok (.ifCond .ne 13, 3) := by decide +kernel
theorem d_x_play_36 : decode c_x_play 36 = .ok (.new 132, 3) := by decide +kernel
theorem d_x_play_39 : decode c_x_play 39 = .ok (.dup, 1) := by decide +kernel
theorem d_x_play_40 : decode c_x_play 40 = .ok (.ldc 134, 2) := by decide +kernel
theorem d_x_play_42 : decode c_x_play 42 = .ok (.invokespecial 136, 3) := by decide +kernel
theorem d_x_play_45 : decode c_x_play 45 = .ok (.athrow, 1) := by decide +kernel
theorem d_x_play_46 : decode c_x_play 46 = .ok (.aload_n 0, 1) := by decide +kernel
theorem d_x_play_47 : decode c_x_play 47 = .ok (.getfield 26, 3) := by decide +kernel
theorem d_x_play_50 : decode c_x_play 50 = .ok (.iload_n 1, 1) := by decide +kernel
theorem d_x_play_51 : decode c_x_play 51 = .ok (.invokevirtual 137, 3) := by decide +kernel
theorem d_x_play_54 : decode c_x_play 54 = .ok (.ifCond .ne 13, 3) := by decide +kernel
theorem d_x_play_57 : decode c_x_play 57 = .ok (.new 111, 3) := by decide +kernel
theorem d_x_play_60 : decode c_x_play 60 = .ok (.dup, 1) := by decide +kernel
theorem d_x_play_61 : decode c_x_play 61 = .ok (.ldc 140, 2) := by decide +kernel
theorem d_x_play_63 : decode c_x_play 63 = .ok (.invokespecial 115, 3) := by decide +kernel
theorem d_x_play_66 : decode c_x_play 66 = .ok (.athrow, 1) := by decide +kernel
theorem d_x_play_67 : decode c_x_play 67 = .ok (.aload_n 0, 1) := by decide +kernel
theorem d_x_play_68 : decode c_x_play 68 = .ok (.getfield 26, 3) := by decide +kernel
theorem d_x_play_71 : decode c_x_play 71 = .ok (.iload_n 1, 1) := by decide +kernel
theorem d_x_play_72 : decode c_x_play 72 = .ok (.invokevirtual 142, 3) := by decide +kernel
theorem d_x_play_75 : decode c_x_play 75 = .ok (.return_, 1) := by decide +kernel
abbrev c_x_back : ByteArray := prog_1_method_10_code
def y_x_back : MethodName := ⟨"ShortBridge", "back", "()Z"⟩
theorem d_x_back_0 : decode c_x_back 0 = .ok (.aload_n 0, 1) := by decide +kernel
theorem d_x_back_1 : decode c_x_back 1 = .ok (.getfield 26, 3) := by decide +kernel
theorem d_x_back_4 : decode c_x_back 4 = .ok (.getfield 145, 3) := by decide +kernel
theorem d_x_back_7 : decode c_x_back 7 = .ok (.ifCond .le 12, 3) := by decide +kernel
theorem d_x_back_10 : decode c_x_back 10 = .ok (.aload_n 0, 1) := by decide +kernel
theorem d_x_back_11 : decode c_x_back 11 = .ok (.getfield 26, 3) := by decide +kernel
theorem d_x_back_14 : decode c_x_back 14 = .ok (.invokevirtual 149, 3) := by decide +kernel
theorem d_x_back_17 : decode c_x_back 17 = .ok (.iconst 1, 1) := by decide +kernel
theorem d_x_back_18 : decode c_x_back 18 = .ok (.ireturn, 1) := by decide +kernel
theorem d_x_back_19 : decode c_x_back 19 = .ok (.aload_n 0, 1) := by decide +kernel
theorem d_x_back_20 : decode c_x_back 20 = .ok (.invokevirtual 77, 3) := by decide +kernel
theorem d_x_back_23 : decode c_x_back 23 = .ok (.iconst 2, 1) := by decide +kernel
theorem d_x_back_24 : decode c_x_back 24 = .ok (.if_icmp .eq 13, 3) := by decide +kernel
theorem d_x_back_27 : decode c_x_back 27 = .ok (.aload_n 0, 1) := by decide +kernel
theorem d_x_back_28 : decode c_x_back 28 = .ok (.getfield 19, 3) := by decide +kernel
theorem d_x_back_31 : decode c_x_back 31 = .ok (.getfield 152, 3) := by decide +kernel
theorem d_x_back_34 : decode c_x_back 34 = .ok (.ifCond .ne 5, 3) := by decide +kernel
theorem d_x_back_37 : decode c_x_back 37 = .ok (.iconst 0, 1) := by decide +kernel
theorem d_x_back_38 : decode c_x_back 38 = .ok (.ireturn, 1) := by decide +kernel
theorem d_x_back_39 : decode c_x_back 39 = .ok (.aload_n 0, 1) := by decide +kernel
theorem d_x_back_40 : decode c_x_back 40 = .ok (.getfield 19, 3) := by decide +kernel
theorem d_x_back_43 : decode c_x_back 43 = .ok (.invokevirtual 153, 3) := by decide +kernel
theorem d_x_back_46 : decode c_x_back 46 = .ok (.iconst 1, 1) := by decide +kernel
theorem d_x_back_47 : decode c_x_back 47 = .ok (.ireturn, 1) := by decide +kernel
abbrev c_x_contract : ByteArray := prog_1_method_11_code
def y_x_contract : MethodName := ⟨"ShortBridge", "contract", "(I)I"⟩
theorem d_x_contract_0 : decode c_x_contract 0 = .ok (.aload_n 0, 1) := by decide +kernel
theorem d_x_contract_1 : decode c_x_contract 1 = .ok (.getfield 19, 3) := by decide +kernel
theorem d_x_contract_4 : decode c_x_contract 4 = .ok (.invokevirtual 70, 3) := by decide +kernel
theorem d_x_contract_7 : decode c_x_contract 7 = .ok (.iconst (-1), 1) := by decide +kernel
theorem d_x_contract_8 : decode c_x_contract 8 = .ok (.if_icmp .ne 5, 3) := by decide +kernel
theorem d_x_contract_11 : decode c_x_contract 11 = .ok (.iconst (-1), 1) := by decide +kernel
theorem d_x_contract_12 : decode c_x_contract 12 = .ok (.ireturn, 1) := by decide +kernel
theorem d_x_contract_13 : decode c_x_contract 13 = .ok (.iload_n 1, 1) := by decide +kernel
theorem d_x_contract_14 : decode c_x_contract 14 = .ok (.tableswitch 50 0 2 #[26, 34, 42], 26) := by decide +kernel
theorem d_x_contract_40 : decode c_x_contract 40 = .ok (.aload_n 0, 1) := by decide +kernel
theorem d_x_contract_41 : decode c_x_contract 41 = .ok (.getfield 19, 3) := by decide +kernel
theorem d_x_contract_44 : decode c_x_contract 44 = .ok (.invokevirtual 70, 3) := by decide +kernel
theorem d_x_contract_47 : decode c_x_contract 47 = .ok (.ireturn, 1) := by decide +kernel
theorem d_x_contract_48 : decode c_x_contract 48 = .ok (.aload_n 0, 1) := by decide +kernel
theorem d_x_contract_49 : decode c_x_contract 49 = .ok (.getfield 19, 3) := by decide +kernel
theorem d_x_contract_52 : decode c_x_contract 52 = .ok (.invokevirtual 154, 3) := by decide +kernel
theorem d_x_contract_55 : decode c_x_contract 55 = .ok (.ireturn, 1) := by decide +kernel
theorem d_x_contract_56 : decode c_x_contract 56 = .ok (.aload_n 0, 1) := by decide +kernel
theorem d_x_contract_57 : decode c_x_contract 57 = .ok (.getfield 19, 3) := by decide +kernel
theorem d_x_contract_60 : decode c_x_contract 60 = .ok (.invokevirtual 120, 3) := by decide +kernel
theorem d_x_contract_63 : decode c_x_contract 63 = .ok (.ireturn, 1) := by decide +kernel
theorem d_x_contract_64 : decode c_x_contract 64 = .ok (.iconst (-1), 1) := by decide +kernel
theorem d_x_contract_65 : decode c_x_contract 65 = .ok (.ireturn, 1) := by decide +kernel
abbrev c_x_tricks : ByteArray := prog_1_method_12_code
def y_x_tricks : MethodName := ⟨"ShortBridge", "tricks", "(I)I"⟩
theorem d_x_tricks_0 : decode c_x_tricks 0 = .ok (.iload_n 1, 1) := by decide +kernel
theorem d_x_tricks_1 : decode c_x_tricks 1 = .ok (.ifCond .eq 8, 3) := by decide +kernel
theorem d_x_tricks_4 : decode c_x_tricks 4 = .ok (.iload_n 1, 1) := by decide +kernel
theorem d_x_tricks_5 : decode c_x_tricks 5 = .ok (.iconst 1, 1) := by decide +kernel
theorem d_x_tricks_6 : decode c_x_tricks 6 = .ok (.if_icmp .ne 14, 3) := by decide +kernel
theorem d_x_tricks_9 : decode c_x_tricks 9 = .ok (.aload_n 0, 1) := by decide +kernel
theorem d_x_tricks_10 : decode c_x_tricks 10 = .ok (.getfield 26, 3) := by decide +kernel
theorem d_x_tricks_13 : decode c_x_tricks 13 = .ok (.iload_n 1, 1) := by decide +kernel
theorem d_x_tricks_14 : decode c_x_tricks 14 = .ok (.invokevirtual 157, 3) := by decide +kernel
theorem d_x_tricks_17 : decode c_x_tricks 17 = .ok (.goto 4, 3) := by decide +kernel
theorem d_x_tricks_20 : decode c_x_tricks 20 = .ok (.iconst (-1), 1) := by decide +kernel
theorem d_x_tricks_21 : decode c_x_tricks 21 = .ok (.ireturn, 1) := by decide +kernel
abbrev c_x_table : ByteArray := prog_1_method_13_code
def y_x_table : MethodName := ⟨"ShortBridge", "table", "(I)I"⟩
theorem d_x_table_0 : decode c_x_table 0 = .ok (.aload_n 0, 1) := by decide +kernel
theorem d_x_table_1 : decode c_x_table 1 = .ok (.getfield 26, 3) := by decide +kernel
theorem d_x_table_4 : decode c_x_table 4 = .ok (.iload_n 1, 1) := by decide +kernel
theorem d_x_table_5 : decode c_x_table 5 = .ok (.invokevirtual 160, 3) := by decide +kernel
theorem d_x_table_8 : decode c_x_table 8 = .ok (.ireturn, 1) := by decide +kernel
abbrev c_x_score : ByteArray := prog_1_method_14_code
def y_x_score : MethodName := ⟨"ShortBridge", "score", "()I"⟩
theorem d_x_score_0 : decode c_x_score 0 = .ok (.aload_n 0, 1) := by decide +kernel
theorem d_x_score_1 : decode c_x_score 1 = .ok (.invokevirtual 77, 3) := by decide +kernel
theorem d_x_score_4 : decode c_x_score 4 = .ok (.iconst 3, 1) := by decide +kernel
theorem d_x_score_5 : decode c_x_score 5 = .ok (.if_icmp .eq 13, 3) := by decide +kernel
theorem d_x_score_8 : decode c_x_score 8 = .ok (.new 93, 3) := by decide +kernel
theorem d_x_score_11 : decode c_x_score 11 = .ok (.dup, 1) := by decide +kernel
theorem d_x_score_12 : decode c_x_score 12 = .ok (.ldc 163, 2) := by decide +kernel
theorem d_x_score_14 : decode c_x_score 14 = .ok (.invokespecial 97, 3) := by decide +kernel
theorem d_x_score_17 : decode c_x_score 17 = .ok (.athrow, 1) := by decide +kernel
theorem d_x_score_18 : decode c_x_score 18 = .ok (.aload_n 0, 1) := by decide +kernel
theorem d_x_score_19 : decode c_x_score 19 = .ok (.invokevirtual 165, 3) := by decide +kernel
theorem d_x_score_22 : decode c_x_score 22 = .ok (.ireturn, 1) := by decide +kernel
abbrev c_x_solve : ByteArray := prog_1_method_15_code
def y_x_solve : MethodName := ⟨"ShortBridge", "solve", "()I"⟩
theorem d_x_solve_0 : decode c_x_solve 0 = .ok (.aload_n 0, 1) := by decide +kernel
theorem d_x_solve_1 : decode c_x_solve 1 = .ok (.invokevirtual 77, 3) := by decide +kernel
theorem d_x_solve_4 : decode c_x_solve 4 = .ok (.iconst 2, 1) := by decide +kernel
theorem d_x_solve_5 : decode c_x_solve 5 = .ok (.if_icmp .eq 13, 3) := by decide +kernel
theorem d_x_solve_8 : decode c_x_solve 8 = .ok (.new 93, 3) := by decide +kernel
theorem d_x_solve_11 : decode c_x_solve 11 = .ok (.dup, 1) := by decide +kernel
theorem d_x_solve_12 : decode c_x_solve 12 = .ok (.ldc 130, 2) := by decide +kernel
theorem d_x_solve_14 : decode c_x_solve 14 = .ok (.invokespecial 97, 3) := by decide +kernel
theorem d_x_solve_17 : decode c_x_solve 17 = .ok (.athrow, 1) := by decide +kernel
theorem d_x_solve_18 : decode c_x_solve 18 = .ok (.aload_n 0, 1) := by decide +kernel
theorem d_x_solve_19 : decode c_x_solve 19 = .ok (.getfield 26, 3) := by decide +kernel
theorem d_x_solve_22 : decode c_x_solve 22 = .ok (.getfield 145, 3) := by decide +kernel
theorem d_x_solve_25 : decode c_x_solve 25 = .ok (.iconst 4, 1) := by decide +kernel
theorem d_x_solve_26 : decode c_x_solve 26 = .ok (.if_icmp .ge 13, 3) := by decide +kernel
theorem d_x_solve_29 : decode c_x_solve 29 = .ok (.new 111, 3) := by decide +kernel
theorem d_x_solve_32 : decode c_x_solve 32 = .ok (.dup, 1) := by decide +kernel
theorem d_x_solve_33 : decode c_x_solve 33 = .ok (.ldc 168, 2) := by decide +kernel
theorem d_x_solve_35 : decode c_x_solve 35 = .ok (.invokespecial 115, 3) := by decide +kernel
theorem d_x_solve_38 : decode c_x_solve 38 = .ok (.athrow, 1) := by decide +kernel
theorem d_x_solve_39 : decode c_x_solve 39 = .ok (.aload_n 0, 1) := by decide +kernel
theorem d_x_solve_40 : decode c_x_solve 40 = .ok (.getfield 26, 3) := by decide +kernel
theorem d_x_solve_43 : decode c_x_solve 43 = .ok (.aload_n 0, 1) := by decide +kernel
theorem d_x_solve_44 : decode c_x_solve 44 = .ok (.getfield 19, 3) := by decide +kernel
theorem d_x_solve_47 : decode c_x_solve 47 = .ok (.invokevirtual 120, 3) := by decide +kernel
theorem d_x_solve_50 : decode c_x_solve 50 = .ok (.invokestatic 170, 3) := by decide +kernel
theorem d_x_solve_53 : decode c_x_solve 53 = .ok (.invokestatic 173, 3) := by decide +kernel
theorem d_x_solve_56 : decode c_x_solve 56 = .ok (.ireturn, 1) := by decide +kernel
abbrev c_x_record : ByteArray := prog_1_method_16_code
def y_x_record : MethodName := ⟨"ShortBridge", "record", "()I"⟩
theorem d_x_record_0 : decode c_x_record 0 = .ok (.aload_n 0, 1) := by decide +kernel
theorem d_x_record_1 : decode c_x_record 1 = .ok (.invokevirtual 77, 3) := by decide +kernel
theorem d_x_record_4 : decode c_x_record 4 = .ok (.iconst 3, 1) := by decide +kernel
theorem d_x_record_5 : decode c_x_record 5 = .ok (.if_icmp .eq 13, 3) := by decide +kernel
theorem d_x_record_8 : decode c_x_record 8 = .ok (.new 93, 3) := by decide +kernel
theorem d_x_record_11 : decode c_x_record 11 = .ok (.dup, 1) := by decide +kernel
theorem d_x_record_12 : decode c_x_record 12 = .ok (.ldc 163, 2) := by decide +kernel
theorem d_x_record_14 : decode c_x_record 14 = .ok (.invokespecial 97, 3) := by decide +kernel
theorem d_x_record_17 : decode c_x_record 17 = .ok (.athrow, 1) := by decide +kernel
theorem d_x_record_18 : decode c_x_record 18 = .ok (.aload_n 0, 1) := by decide +kernel
theorem d_x_record_19 : decode c_x_record 19 = .ok (.getfield 33, 3) := by decide +kernel
theorem d_x_record_22 : decode c_x_record 22 = .ok (.invokevirtual 179, 3) := by decide +kernel
theorem d_x_record_25 : decode c_x_record 25 = .ok (.ifCond .eq 13, 3) := by decide +kernel
theorem d_x_record_28 : decode c_x_record 28 = .ok (.new 111, 3) := by decide +kernel
theorem d_x_record_31 : decode c_x_record 31 = .ok (.dup, 1) := by decide +kernel
theorem d_x_record_32 : decode c_x_record 32 = .ok (.ldc 182, 2) := by decide +kernel
theorem d_x_record_34 : decode c_x_record 34 = .ok (.invokespecial 115, 3) := by decide +kernel
theorem d_x_record_37 : decode c_x_record 37 = .ok (.athrow, 1) := by decide +kernel
theorem d_x_record_38 : decode c_x_record 38 = .ok (.aload_n 0, 1) := by decide +kernel
theorem d_x_record_39 : decode c_x_record 39 = .ok (.getfield 33, 3) := by decide +kernel
theorem d_x_record_42 : decode c_x_record 42 = .ok (.aload_n 0, 1) := by decide +kernel
theorem d_x_record_43 : decode c_x_record 43 = .ok (.getfield 10, 3) := by decide +kernel
theorem d_x_record_46 : decode c_x_record 46 = .ok (.getfield 58, 3) := by decide +kernel
theorem d_x_record_49 : decode c_x_record 49 = .ok (.aload_n 0, 1) := by decide +kernel
theorem d_x_record_50 : decode c_x_record 50 = .ok (.invokevirtual 165, 3) := by decide +kernel
theorem d_x_record_53 : decode c_x_record 53 = .ok (.invokevirtual 184, 3) := by decide +kernel
theorem d_x_record_56 : decode c_x_record 56 = .ok (.aload_n 0, 1) := by decide +kernel
theorem d_x_record_57 : decode c_x_record 57 = .ok (.getfield 33, 3) := by decide +kernel
theorem d_x_record_60 : decode c_x_record 60 = .ok (.getfield 187, 3) := by decide +kernel
theorem d_x_record_63 : decode c_x_record 63 = .ok (.ireturn, 1) := by decide +kernel
abbrev c_x_points : ByteArray := prog_1_method_17_code
def y_x_points : MethodName := ⟨"ShortBridge", "points", "(II)I"⟩
theorem d_x_points_0 : decode c_x_points 0 = .ok (.aload_n 0, 1) := by decide +kernel
theorem d_x_points_1 : decode c_x_points 1 = .ok (.getfield 33, 3) := by decide +kernel
theorem d_x_points_4 : decode c_x_points 4 = .ok (.iload_n 1, 1) := by decide +kernel
theorem d_x_points_5 : decode c_x_points 5 = .ok (.invokevirtual 188, 3) := by decide +kernel
theorem d_x_points_8 : decode c_x_points 8 = .ok (.ifCond .eq 14, 3) := by decide +kernel
theorem d_x_points_11 : decode c_x_points 11 = .ok (.aload_n 0, 1) := by decide +kernel
theorem d_x_points_12 : decode c_x_points 12 = .ok (.getfield 33, 3) := by decide +kernel
theorem d_x_points_15 : decode c_x_points 15 = .ok (.iload_n 2, 1) := by decide +kernel
theorem d_x_points_16 : decode c_x_points 16 = .ok (.invokevirtual 188, 3) := by decide +kernel
theorem d_x_points_19 : decode c_x_points 19 = .ok (.ifCond .ne 13, 3) := by decide +kernel
theorem d_x_points_22 : decode c_x_points 22 = .ok (.new 191, 3) := by decide +kernel
theorem d_x_points_25 : decode c_x_points 25 = .ok (.dup, 1) := by decide +kernel
theorem d_x_points_26 : decode c_x_points 26 = .ok (.ldc 193, 2) := by decide +kernel
theorem d_x_points_28 : decode c_x_points 28 = .ok (.invokespecial 195, 3) := by decide +kernel
theorem d_x_points_31 : decode c_x_points 31 = .ok (.athrow, 1) := by decide +kernel
theorem d_x_points_32 : decode c_x_points 32 = .ok (.aload_n 0, 1) := by decide +kernel
theorem d_x_points_33 : decode c_x_points 33 = .ok (.getfield 33, 3) := by decide +kernel
theorem d_x_points_36 : decode c_x_points 36 = .ok (.getfield 196, 3) := by decide +kernel
theorem d_x_points_39 : decode c_x_points 39 = .ok (.iload_n 1, 1) := by decide +kernel
theorem d_x_points_40 : decode c_x_points 40 = .ok (.iaload, 1) := by decide +kernel
theorem d_x_points_41 : decode c_x_points 41 = .ok (.aload_n 0, 1) := by decide +kernel
theorem d_x_points_42 : decode c_x_points 42 = .ok (.getfield 33, 3) := by decide +kernel
theorem d_x_points_45 : decode c_x_points 45 = .ok (.getfield 196, 3) := by decide +kernel
theorem d_x_points_48 : decode c_x_points 48 = .ok (.iload_n 2, 1) := by decide +kernel
theorem d_x_points_49 : decode c_x_points 49 = .ok (.iaload, 1) := by decide +kernel
theorem d_x_points_50 : decode c_x_points 50 = .ok (.isub, 1) := by decide +kernel
theorem d_x_points_51 : decode c_x_points 51 = .ok (.invokestatic 200, 3) := by decide +kernel
theorem d_x_points_54 : decode c_x_points 54 = .ok (.ireturn, 1) := by decide +kernel
abbrev c_x_places : ByteArray := prog_1_method_18_code
def y_x_places : MethodName := ⟨"ShortBridge", "places", "(I)I"⟩
theorem d_x_places_0 : decode c_x_places 0 = .ok (.aload_n 0, 1) := by decide +kernel
theorem d_x_places_1 : decode c_x_places 1 = .ok (.getfield 33, 3) := by decide +kernel
theorem d_x_places_4 : decode c_x_places 4 = .ok (.iload_n 1, 1) := by decide +kernel
theorem d_x_places_5 : decode c_x_places 5 = .ok (.invokevirtual 188, 3) := by decide +kernel
theorem d_x_places_8 : decode c_x_places 8 = .ok (.ifCond .ne 13, 3) := by decide +kernel
theorem d_x_places_11 : decode c_x_places 11 = .ok (.new 191, 3) := by decide +kernel
theorem d_x_places_14 : decode c_x_places 14 = .ok (.dup, 1) := by decide +kernel
theorem d_x_places_15 : decode c_x_places 15 = .ok (.ldc 193, 2) := by decide +kernel
theorem d_x_places_17 : decode c_x_places 17 = .ok (.invokespecial 195, 3) := by decide +kernel
theorem d_x_places_20 : decode c_x_places 20 = .ok (.athrow, 1) := by decide +kernel
theorem d_x_places_21 : decode c_x_places 21 = .ok (.aload_n 0, 1) := by decide +kernel
theorem d_x_places_22 : decode c_x_places 22 = .ok (.getfield 33, 3) := by decide +kernel
theorem d_x_places_25 : decode c_x_places 25 = .ok (.iload_n 1, 1) := by decide +kernel
theorem d_x_places_26 : decode c_x_places 26 = .ok (.invokevirtual 205, 3) := by decide +kernel
theorem d_x_places_29 : decode c_x_places 29 = .ok (.ireturn, 1) := by decide +kernel
abbrev c_x_isPlayer : ByteArray := prog_1_method_19_code
def y_x_isPlayer : MethodName := ⟨"ShortBridge", "isPlayer", "(I)Z"⟩
theorem d_x_isPlayer_0 : decode c_x_isPlayer 0 = .ok (.iload_n 0, 1) := by decide +kernel
theorem d_x_isPlayer_1 : decode c_x_isPlayer 1 = .ok (.ifCond .lt 12, 3) := by decide +kernel
theorem d_x_isPlayer_4 : decode c_x_isPlayer 4 = .ok (.iload_n 0, 1) := by decide +kernel
theorem d_x_isPlayer_5 : decode c_x_isPlayer 5 = .ok (.iconst 4, 1) := by decide +kernel
theorem d_x_isPlayer_6 : decode c_x_isPlayer 6 = .ok (.if_icmp .ge 7, 3) := by decide +kernel
theorem d_x_isPlayer_9 : decode c_x_isPlayer 9 = .ok (.iconst 1, 1) := by decide +kernel
theorem d_x_isPlayer_10 : decode c_x_isPlayer 10 = .ok (.goto 4, 3) := by decide +kernel
theorem d_x_isPlayer_13 : decode c_x_isPlayer 13 = .ok (.iconst 0, 1) := by decide +kernel
theorem d_x_isPlayer_14 : decode c_x_isPlayer 14 = .ok (.ireturn, 1) := by decide +kernel
abbrev c_x_sideOf : ByteArray := prog_1_method_20_code
def y_x_sideOf : MethodName := ⟨"ShortBridge", "sideOf", "(I)I"⟩
theorem d_x_sideOf_0 : decode c_x_sideOf 0 = .ok (.iload_n 0, 1) := by decide +kernel
theorem d_x_sideOf_1 : decode c_x_sideOf 1 = .ok (.iconst 1, 1) := by decide +kernel
theorem d_x_sideOf_2 : decode c_x_sideOf 2 = .ok (.iand, 1) := by decide +kernel
theorem d_x_sideOf_3 : decode c_x_sideOf 3 = .ok (.ireturn, 1) := by decide +kernel
abbrev c_x_playerBehind : ByteArray := prog_1_method_21_code
def y_x_playerBehind : MethodName := ⟨"ShortBridge", "playerBehind", "(II)I"⟩
theorem d_x_playerBehind_0 : decode c_x_playerBehind 0 = .ok (.iload_n 0, 1) := by decide +kernel
theorem d_x_playerBehind_1 : decode c_x_playerBehind 1 = .ok (.iload_n 1, 1) := by decide +kernel
theorem d_x_playerBehind_2 : decode c_x_playerBehind 2 = .ok (.iadd, 1) := by decide +kernel
theorem d_x_playerBehind_3 : decode c_x_playerBehind 3 = .ok (.iconst 4, 1) := by decide +kernel
theorem d_x_playerBehind_4 : decode c_x_playerBehind 4 = .ok (.irem, 1) := by decide +kernel
theorem d_x_playerBehind_5 : decode c_x_playerBehind 5 = .ok (.ireturn, 1) := by decide +kernel
abbrev c_x_canBegin : ByteArray := prog_1_method_22_code
def y_x_canBegin : MethodName := ⟨"ShortBridge", "canBegin", "(II)Z"⟩
theorem d_x_canBegin_0 : decode c_x_canBegin 0 = .ok (.iload_n 0, 1) := by decide +kernel
theorem d_x_canBegin_1 : decode c_x_canBegin 1 = .ok (.invokestatic 86, 3) := by decide +kernel
theorem d_x_canBegin_4 : decode c_x_canBegin 4 = .ok (.ifCond .eq 16, 3) := by decide +kernel
theorem d_x_canBegin_7 : decode c_x_canBegin 7 = .ok (.iload_n 1, 1) := by decide +kernel
theorem d_x_canBegin_8 : decode c_x_canBegin 8 = .ok (.ifCond .lt 12, 3) := by decide +kernel
theorem d_x_canBegin_11 : decode c_x_canBegin 11 = .ok (.iload_n 1, 1) := by decide +kernel
theorem d_x_canBegin_12 : decode c_x_canBegin 12 = .ok (.iconst 3, 1) := by decide +kernel
theorem d_x_canBegin_13 : decode c_x_canBegin 13 = .ok (.if_icmp .gt 7, 3) := by decide +kernel
theorem d_x_canBegin_16 : decode c_x_canBegin 16 = .ok (.iconst 1, 1) := by decide +kernel
theorem d_x_canBegin_17 : decode c_x_canBegin 17 = .ok (.goto 4, 3) := by decide +kernel
theorem d_x_canBegin_20 : decode c_x_canBegin 20 = .ok (.iconst 0, 1) := by decide +kernel
theorem d_x_canBegin_21 : decode c_x_canBegin 21 = .ok (.ireturn, 1) := by decide +kernel
abbrev c_x_begin : ByteArray := prog_1_method_23_code
def y_x_begin : MethodName := ⟨"ShortBridge", "begin", "(II)V"⟩
theorem d_x_begin_0 : decode c_x_begin 0 = .ok (.aload_n 0, 1) := by decide +kernel
theorem d_x_begin_1 : decode c_x_begin 1 = .ok (.iconst 1, 1) := by decide +kernel
theorem d_x_begin_2 : decode c_x_begin 2 = .ok (.putfield 62, 3) := by decide +kernel
theorem d_x_begin_5 : decode c_x_begin 5 = .ok (.aload_n 0, 1) := by decide +kernel
theorem d_x_begin_6 : decode c_x_begin 6 = .ok (.iload_n 2, 1) := by decide +kernel
theorem d_x_begin_7 : decode c_x_begin 7 = .ok (.putfield 208, 3) := by decide +kernel
theorem d_x_begin_10 : decode c_x_begin 10 = .ok (.aload_n 0, 1) := by decide +kernel
theorem d_x_begin_11 : decode c_x_begin 11 = .ok (.getfield 19, 3) := by decide +kernel
theorem d_x_begin_14 : decode c_x_begin 14 = .ok (.iload_n 1, 1) := by decide +kernel
theorem d_x_begin_15 : decode c_x_begin 15 = .ok (.invokevirtual 211, 3) := by decide +kernel
theorem d_x_begin_18 : decode c_x_begin 18 = .ok (.aload_n 0, 1) := by decide +kernel
theorem d_x_begin_19 : decode c_x_begin 19 = .ok (.getfield 26, 3) := by decide +kernel
theorem d_x_begin_22 : decode c_x_begin 22 = .ok (.aload_n 0, 1) := by decide +kernel
theorem d_x_begin_23 : decode c_x_begin 23 = .ok (.getfield 10, 3) := by decide +kernel
theorem d_x_begin_26 : decode c_x_begin 26 = .ok (.invokevirtual 213, 3) := by decide +kernel
theorem d_x_begin_29 : decode c_x_begin 29 = .ok (.return_, 1) := by decide +kernel
abbrev c_x_scoreOfSide0 : ByteArray := prog_1_method_24_code
def y_x_scoreOfSide0 : MethodName := ⟨"ShortBridge", "scoreOfSide0", "()I"⟩
theorem d_x_scoreOfSide0_0 : decode c_x_scoreOfSide0 0 = .ok (.aload_n 0, 1) := by decide +kernel
theorem d_x_scoreOfSide0_1 : decode c_x_scoreOfSide0 1 = .ok (.getfield 19, 3) := by decide +kernel
theorem d_x_scoreOfSide0_4 : decode c_x_scoreOfSide0 4 = .ok (.invokevirtual 70, 3) := by decide +kernel
theorem d_x_scoreOfSide0_7 : decode c_x_scoreOfSide0 7 = .ok (.istore_n 1, 1) := by decide +kernel
theorem d_x_scoreOfSide0_8 : decode c_x_scoreOfSide0 8 = .ok (.iload_n 1, 1) := by decide +kernel
theorem d_x_scoreOfSide0_9 : decode c_x_scoreOfSide0 9 = .ok (.iconst (-1), 1) := by decide +kernel
theorem d_x_scoreOfSide0_10 : decode c_x_scoreOfSide0 10 = .ok (.if_icmp .ne 5, 3) := by decide +kernel
theorem d_x_scoreOfSide0_13 : decode c_x_scoreOfSide0 13 = .ok (.iconst 0, 1) := by decide +kernel
theorem d_x_scoreOfSide0_14 : decode c_x_scoreOfSide0 14 = .ok (.ireturn, 1) := by decide +kernel
theorem d_x_scoreOfSide0_15 : decode c_x_scoreOfSide0 15 = .ok (.aload_n 0, 1) := by decide +kernel
theorem d_x_scoreOfSide0_16 : decode c_x_scoreOfSide0 16 = .ok (.getfield 19, 3) := by decide +kernel
theorem d_x_scoreOfSide0_19 : decode c_x_scoreOfSide0 19 = .ok (.invokevirtual 120, 3) := by decide +kernel
theorem d_x_scoreOfSide0_22 : decode c_x_scoreOfSide0 22 = .ok (.invokestatic 170, 3) := by decide +kernel
theorem d_x_scoreOfSide0_25 : decode c_x_scoreOfSide0 25 = .ok (.istore_n 2, 1) := by decide +kernel
theorem d_x_scoreOfSide0_26 : decode c_x_scoreOfSide0 26 = .ok (.aload_n 0, 1) := by decide +kernel
theorem d_x_scoreOfSide0_27 : decode c_x_scoreOfSide0 27 = .ok (.getfield 208, 3) := by decide +kernel
theorem d_x_scoreOfSide0_30 : decode c_x_scoreOfSide0 30 = .ok (.iload_n 2, 1) := by decide +kernel
theorem d_x_scoreOfSide0_31 : decode c_x_scoreOfSide0 31 = .ok (.ishr, 1) := by decide +kernel
theorem d_x_scoreOfSide0_32 : decode c_x_scoreOfSide0 32 = .ok (.iconst 1, 1) := by decide +kernel
theorem d_x_scoreOfSide0_33 : decode c_x_scoreOfSide0 33 = .ok (.iand, 1) := by decide +kernel
theorem d_x_scoreOfSide0_34 : decode c_x_scoreOfSide0 34 = .ok (.iconst 1, 1) := by decide +kernel
theorem d_x_scoreOfSide0_35 : decode c_x_scoreOfSide0 35 = .ok (.if_icmp .ne 7, 3) := by decide +kernel
theorem d_x_scoreOfSide0_38 : decode c_x_scoreOfSide0 38 = .ok (.iconst 1, 1) := by decide +kernel
theorem d_x_scoreOfSide0_39 : decode c_x_scoreOfSide0 39 = .ok (.goto 4, 3) := by decide +kernel
theorem d_x_scoreOfSide0_42 : decode c_x_scoreOfSide0 42 = .ok (.iconst 0, 1) := by decide +kernel
theorem d_x_scoreOfSide0_43 : decode c_x_scoreOfSide0 43 = .ok (.istore_n 3, 1) := by decide +kernel
theorem d_x_scoreOfSide0_44 : decode c_x_scoreOfSide0 44 = .ok (.iload_n 1, 1) := by decide +kernel
theorem d_x_scoreOfSide0_45 : decode c_x_scoreOfSide0 45 = .ok (.aload_n 0, 1) := by decide +kernel
theorem d_x_scoreOfSide0_46 : decode c_x_scoreOfSide0 46 = .ok (.getfield 19, 3) := by decide +kernel
theorem d_x_scoreOfSide0_49 : decode c_x_scoreOfSide0 49 = .ok (.invokevirtual 154, 3) := by decide +kernel
theorem d_x_scoreOfSide0_52 : decode c_x_scoreOfSide0 52 = .ok (.aload_n 0, 1) := by decide +kernel
theorem d_x_scoreOfSide0_53 : decode c_x_scoreOfSide0 53 = .ok (.getfield 26, 3) := by decide +kernel
theorem d_x_scoreOfSide0_56 : decode c_x_scoreOfSide0 56 = .ok (.iload_n 2, 1) := by decide +kernel
theorem d_x_scoreOfSide0_57 : decode c_x_scoreOfSide0 57 = .ok (.invokevirtual 157, 3) := by decide +kernel
theorem d_x_scoreOfSide0_60 : decode c_x_scoreOfSide0 60 = .ok (.iload_n 3, 1) := by decide +kernel
theorem d_x_scoreOfSide0_61 : decode c_x_scoreOfSide0 61 = .ok (.invokestatic 217, 3) := by decide +kernel
theorem d_x_scoreOfSide0_64 : decode c_x_scoreOfSide0 64 = .ok (.istore 4, 2) := by decide +kernel
theorem d_x_scoreOfSide0_66 : decode c_x_scoreOfSide0 66 = .ok (.iload_n 2, 1) := by decide +kernel
theorem d_x_scoreOfSide0_67 : decode c_x_scoreOfSide0 67 = .ok (.ifCond .ne 8, 3) := by decide +kernel
theorem d_x_scoreOfSide0_70 : decode c_x_scoreOfSide0 70 = .ok (.iload 4, 2) := by decide +kernel
theorem d_x_scoreOfSide0_72 : decode c_x_scoreOfSide0 72 = .ok (.goto 6, 3) := by decide +kernel
theorem d_x_scoreOfSide0_75 : decode c_x_scoreOfSide0 75 = .ok (.iload 4, 2) := by decide +kernel
theorem d_x_scoreOfSide0_77 : decode c_x_scoreOfSide0 77 = .ok (.ineg, 1) := by decide +kernel
theorem d_x_scoreOfSide0_78 : decode c_x_scoreOfSide0 78 = .ok (.ireturn, 1) := by decide +kernel
abbrev c_au_init : ByteArray := prog_2_method_1_code
def y_au_init : MethodName := ⟨"ShortBridge$Auction", "<init>", "()V"⟩
theorem d_au_init_0 : decode c_au_init 0 = .ok (.aload_n 0, 1) := by decide +kernel
theorem d_au_init_1 : decode c_au_init 1 = .ok (.invokespecial 3, 3) := by decide +kernel
theorem d_au_init_4 : decode c_au_init 4 = .ok (.aload_n 0, 1) := by decide +kernel
theorem d_au_init_5 : decode c_au_init 5 = .ok (.sipush 139, 3) := by decide +kernel
theorem d_au_init_8 : decode c_au_init 8 = .ok (.newarray .int, 2) := by decide +kernel
theorem d_au_init_10 : decode c_au_init 10 = .ok (.putfield 11, 3) := by decide +kernel
theorem d_au_init_13 : decode c_au_init 13 = .ok (.return_, 1) := by decide +kernel
abbrev c_au_isCall : ByteArray := prog_2_method_2_code
def y_au_isCall : MethodName := ⟨"ShortBridge$Auction", "isCall", "(I)Z"⟩
theorem d_au_isCall_0 : decode c_au_isCall 0 = .ok (.iload_n 0, 1) := by decide +kernel
theorem d_au_isCall_1 : decode c_au_isCall 1 = .ok (.ifCond .lt 13, 3) := by decide +kernel
theorem d_au_isCall_4 : decode c_au_isCall 4 = .ok (.iload_n 0, 1) := by decide +kernel
theorem d_au_isCall_5 : decode c_au_isCall 5 = .ok (.bipush 17, 2) := by decide +kernel
theorem d_au_isCall_7 : decode c_au_isCall 7 = .ok (.if_icmp .gt 7, 3) := by decide +kernel
theorem d_au_isCall_10 : decode c_au_isCall 10 = .ok (.iconst 1, 1) := by decide +kernel
theorem d_au_isCall_11 : decode c_au_isCall 11 = .ok (.goto 4, 3) := by decide +kernel
theorem d_au_isCall_14 : decode c_au_isCall 14 = .ok (.iconst 0, 1) := by decide +kernel
theorem d_au_isCall_15 : decode c_au_isCall 15 = .ok (.ireturn, 1) := by decide +kernel
abbrev c_au_level : ByteArray := prog_2_method_3_code
def y_au_level : MethodName := ⟨"ShortBridge$Auction", "level", "(I)I"⟩
theorem d_au_level_0 : decode c_au_level 0 = .ok (.iconst 1, 1) := by decide +kernel
theorem d_au_level_1 : decode c_au_level 1 = .ok (.iload_n 0, 1) := by decide +kernel
theorem d_au_level_2 : decode c_au_level 2 = .ok (.iconst 3, 1) := by decide +kernel
theorem d_au_level_3 : decode c_au_level 3 = .ok (.isub, 1) := by decide +kernel
theorem d_au_level_4 : decode c_au_level 4 = .ok (.iconst 5, 1) := by decide +kernel
theorem d_au_level_5 : decode c_au_level 5 = .ok (.idiv, 1) := by decide +kernel
theorem d_au_level_6 : decode c_au_level 6 = .ok (.iadd, 1) := by decide +kernel
theorem d_au_level_7 : decode c_au_level 7 = .ok (.ireturn, 1) := by decide +kernel
abbrev c_au_strain : ByteArray := prog_2_method_4_code
def y_au_strain : MethodName := ⟨"ShortBridge$Auction", "strain", "(I)I"⟩
theorem d_au_strain_0 : decode c_au_strain 0 = .ok (.iload_n 0, 1) := by decide +kernel
theorem d_au_strain_1 : decode c_au_strain 1 = .ok (.iconst 3, 1) := by decide +kernel
theorem d_au_strain_2 : decode c_au_strain 2 = .ok (.isub, 1) := by decide +kernel
theorem d_au_strain_3 : decode c_au_strain 3 = .ok (.iconst 5, 1) := by decide +kernel
theorem d_au_strain_4 : decode c_au_strain 4 = .ok (.irem, 1) := by decide +kernel
theorem d_au_strain_5 : decode c_au_strain 5 = .ok (.ireturn, 1) := by decide +kernel
abbrev c_au_begin : ByteArray := prog_2_method_5_code
def y_au_begin : MethodName := ⟨"ShortBridge$Auction", "begin", "(I)V"⟩
theorem d_au_begin_0 : decode c_au_begin 0 = .ok (.aload_n 0, 1) := by decide +kernel
theorem d_au_begin_1 : decode c_au_begin 1 = .ok (.iload_n 1, 1) := by decide +kernel
theorem d_au_begin_2 : decode c_au_begin 2 = .ok (.putfield 15, 3) := by decide +kernel
theorem d_au_begin_5 : decode c_au_begin 5 = .ok (.aload_n 0, 1) := by decide +kernel
theorem d_au_begin_6 : decode c_au_begin 6 = .ok (.iconst 0, 1) := by decide +kernel
theorem d_au_begin_7 : decode c_au_begin 7 = .ok (.putfield 19, 3) := by decide +kernel
theorem d_au_begin_10 : decode c_au_begin 10 = .ok (.return_, 1) := by decide +kernel
abbrev c_au_caller : ByteArray := prog_2_method_6_code
def y_au_caller : MethodName := ⟨"ShortBridge$Auction", "caller", "()I"⟩
theorem d_au_caller_0 : decode c_au_caller 0 = .ok (.aload_n 0, 1) := by decide +kernel
theorem d_au_caller_1 : decode c_au_caller 1 = .ok (.aload_n 0, 1) := by decide +kernel
theorem d_au_caller_2 : decode c_au_caller 2 = .ok (.getfield 19, 3) := by decide +kernel
theorem d_au_caller_5 : decode c_au_caller 5 = .ok (.invokevirtual 22, 3) := by decide +kernel
theorem d_au_caller_8 : decode c_au_caller 8 = .ok (.ireturn, 1) := by decide +kernel
abbrev c_au_allows : ByteArray := prog_2_method_7_code
def y_au_allows : MethodName := ⟨"ShortBridge$Auction", "allows", "(I)Z"⟩
theorem d_au_allows_0 : decode c_au_allows 0 = .ok (.iload_n 1, 1) := by decide +kernel
theorem d_au_allows_1 : decode c_au_allows 1 = .ok (.tableswitch 57 0 2 #[27, 29, 43], 27) := by decide +kernel
theorem d_au_allows_28 : decode c_au_allows 28 = .ok (.iconst 1, 1) := by decide +kernel
theorem d_au_allows_29 : decode c_au_allows 29 = .ok (.ireturn, 1) := by decide +kernel
theorem d_au_allows_30 : decode c_au_allows 30 = .ok (.aload_n 0, 1) := by decide +kernel
theorem d_au_allows_31 : decode c_au_allows 31 = .ok (.invokevirtual 26, 3) := by decide +kernel
theorem d_au_allows_34 : decode c_au_allows 34 = .ok (.iconst 3, 1) := by decide +kernel
theorem d_au_allows_35 : decode c_au_allows 35 = .ok (.if_icmp .lt 7, 3) := by decide +kernel
theorem d_au_allows_38 : decode c_au_allows 38 = .ok (.iconst 1, 1) := by decide +kernel
theorem d_au_allows_39 : decode c_au_allows 39 = .ok (.goto 4, 3) := by decide +kernel
theorem d_au_allows_42 : decode c_au_allows 42 = .ok (.iconst 0, 1) := by decide +kernel
theorem d_au_allows_43 : decode c_au_allows 43 = .ok (.ireturn, 1) := by decide +kernel
theorem d_au_allows_44 : decode c_au_allows 44 = .ok (.aload_n 0, 1) := by decide +kernel
theorem d_au_allows_45 : decode c_au_allows 45 = .ok (.invokevirtual 26, 3) := by decide +kernel
theorem d_au_allows_48 : decode c_au_allows 48 = .ok (.iconst 1, 1) := by decide +kernel
theorem d_au_allows_49 : decode c_au_allows 49 = .ok (.if_icmp .ne 7, 3) := by decide +kernel
theorem d_au_allows_52 : decode c_au_allows 52 = .ok (.iconst 1, 1) := by decide +kernel
theorem d_au_allows_53 : decode c_au_allows 53 = .ok (.goto 4, 3) := by decide +kernel
theorem d_au_allows_56 : decode c_au_allows 56 = .ok (.iconst 0, 1) := by decide +kernel
theorem d_au_allows_57 : decode c_au_allows 57 = .ok (.ireturn, 1) := by decide +kernel
theorem d_au_allows_58 : decode c_au_allows 58 = .ok (.iload_n 1, 1) := by decide +kernel
theorem d_au_allows_59 : decode c_au_allows 59 = .ok (.aload_n 0, 1) := by decide +kernel
theorem d_au_allows_60 : decode c_au_allows 60 = .ok (.invokevirtual 30, 3) := by decide +kernel
theorem d_au_allows_63 : decode c_au_allows 63 = .ok (.if_icmp .le 7, 3) := by decide +kernel
theorem d_au_allows_66 : decode c_au_allows 66 = .ok (.iconst 1, 1) := by decide +kernel
theorem d_au_allows_67 : decode c_au_allows 67 = .ok (.goto 4, 3) := by decide +kernel
theorem d_au_allows_70 : decode c_au_allows 70 = .ok (.iconst 0, 1) := by decide +kernel
theorem d_au_allows_71 : decode c_au_allows 71 = .ok (.ireturn, 1) := by decide +kernel
abbrev c_au_add : ByteArray := prog_2_method_8_code
def y_au_add : MethodName := ⟨"ShortBridge$Auction", "add", "(I)V"⟩
theorem d_au_add_0 : decode c_au_add 0 = .ok (.aload_n 0, 1) := by decide +kernel
theorem d_au_add_1 : decode c_au_add 1 = .ok (.getfield 19, 3) := by decide +kernel
theorem d_au_add_4 : decode c_au_add 4 = .ok (.sipush 139, 3) := by decide +kernel
theorem d_au_add_7 : decode c_au_add 7 = .ok (.if_icmp .ge 23, 3) := by decide +kernel
theorem d_au_add_10 : decode c_au_add 10 = .ok (.aload_n 0, 1) := by decide +kernel
theorem d_au_add_11 : decode c_au_add 11 = .ok (.getfield 11, 3) := by decide +kernel
theorem d_au_add_14 : decode c_au_add 14 = .ok (.aload_n 0, 1) := by decide +kernel
theorem d_au_add_15 : decode c_au_add 15 = .ok (.getfield 19, 3) := by decide +kernel
theorem d_au_add_18 : decode c_au_add 18 = .ok (.iload_n 1, 1) := by decide +kernel
theorem d_au_add_19 : decode c_au_add 19 = .ok (.iastore, 1) := by decide +kernel
theorem d_au_add_20 : decode c_au_add 20 = .ok (.aload_n 0, 1) := by decide +kernel
theorem d_au_add_21 : decode c_au_add 21 = .ok (.dup, 1) := by decide +kernel
theorem d_au_add_22 : decode c_au_add 22 = .ok (.getfield 19, 3) := by decide +kernel
theorem d_au_add_25 : decode c_au_add 25 = .ok (.iconst 1, 1) := by decide +kernel
theorem d_au_add_26 : decode c_au_add 26 = .ok (.iadd, 1) := by decide +kernel
theorem d_au_add_27 : decode c_au_add 27 = .ok (.putfield 19, 3) := by decide +kernel
theorem d_au_add_30 : decode c_au_add 30 = .ok (.return_, 1) := by decide +kernel
abbrev c_au_takeBack : ByteArray := prog_2_method_9_code
def y_au_takeBack : MethodName := ⟨"ShortBridge$Auction", "takeBack", "()V"⟩
theorem d_au_takeBack_0 : decode c_au_takeBack 0 = .ok (.aload_n 0, 1) := by decide +kernel
theorem d_au_takeBack_1 : decode c_au_takeBack 1 = .ok (.getfield 19, 3) := by decide +kernel
theorem d_au_takeBack_4 : decode c_au_takeBack 4 = .ok (.ifCond .le 13, 3) := by decide +kernel
theorem d_au_takeBack_7 : decode c_au_takeBack 7 = .ok (.aload_n 0, 1) := by decide +kernel
theorem d_au_takeBack_8 : decode c_au_takeBack 8 = .ok (.dup, 1) := by decide +kernel
theorem d_au_takeBack_9 : decode c_au_takeBack 9 = .ok (.getfield 19, 3) := by decide +kernel
theorem d_au_takeBack_12 : decode c_au_takeBack 12 = .ok (.iconst 1, 1) := by decide +kernel
theorem d_au_takeBack_13 : decode c_au_takeBack 13 = .ok (.isub, 1) := by decide +kernel
theorem d_au_takeBack_14 : decode c_au_takeBack 14 = .ok (.putfield 19, 3) := by decide +kernel
theorem d_au_takeBack_17 : decode c_au_takeBack 17 = .ok (.return_, 1) := by decide +kernel
abbrev c_au_hasEnded : ByteArray := prog_2_method_10_code
def y_au_hasEnded : MethodName := ⟨"ShortBridge$Auction", "hasEnded", "()Z"⟩
theorem d_au_hasEnded_0 : decode c_au_hasEnded 0 = .ok (.aload_n 0, 1) := by decide +kernel
theorem d_au_hasEnded_1 : decode c_au_hasEnded 1 = .ok (.iconst 1, 1) := by decide +kernel
theorem d_au_hasEnded_2 : decode c_au_hasEnded 2 = .ok (.invokevirtual 33, 3) := by decide +kernel
theorem d_au_hasEnded_5 : decode c_au_hasEnded 5 = .ok (.istore_n 1, 1) := by decide +kernel
theorem d_au_hasEnded_6 : decode c_au_hasEnded 6 = .ok (.aload_n 0, 1) := by decide +kernel
theorem d_au_hasEnded_7 : decode c_au_hasEnded 7 = .ok (.getfield 19, 3) := by decide +kernel
theorem d_au_hasEnded_10 : decode c_au_hasEnded 10 = .ok (.iconst 1, 1) := by decide +kernel
theorem d_au_hasEnded_11 : decode c_au_hasEnded 11 = .ok (.isub, 1) := by decide +kernel
theorem d_au_hasEnded_12 : decode c_au_hasEnded 12 = .ok (.iload_n 1, 1) := by decide +kernel
theorem d_au_hasEnded_13 : decode c_au_hasEnded 13 = .ok (.isub, 1) := by decide +kernel
theorem d_au_hasEnded_14 : decode c_au_hasEnded 14 = .ok (.istore_n 2, 1) := by decide +kernel
theorem d_au_hasEnded_15 : decode c_au_hasEnded 15 = .ok (.iload_n 2, 1) := by decide +kernel
theorem d_au_hasEnded_16 : decode c_au_hasEnded 16 = .ok (.iload_n 1, 1) := by decide +kernel
theorem d_au_hasEnded_17 : decode c_au_hasEnded 17 = .ok (.iconst (-1), 1) := by decide +kernel
theorem d_au_hasEnded_18 : decode c_au_hasEnded 18 = .ok (.if_icmp .ne 7, 3) := by decide +kernel
theorem d_au_hasEnded_21 : decode c_au_hasEnded 21 = .ok (.iconst 4, 1) := by decide +kernel
theorem d_au_hasEnded_22 : decode c_au_hasEnded 22 = .ok (.goto 4, 3) := by decide +kernel
theorem d_au_hasEnded_25 : decode c_au_hasEnded 25 = .ok (.iconst 3, 1) := by decide +kernel
theorem d_au_hasEnded_26 : decode c_au_hasEnded 26 = .ok (.if_icmp .lt 7, 3) := by decide +kernel
theorem d_au_hasEnded_29 : decode c_au_hasEnded 29 = .ok (.iconst 1, 1) := by decide +kernel
theorem d_au_hasEnded_30 : decode c_au_hasEnded 30 = .ok (.goto 4, 3) := by decide +kernel
theorem d_au_hasEnded_33 : decode c_au_hasEnded 33 = .ok (.iconst 0, 1) := by decide +kernel
theorem d_au_hasEnded_34 : decode c_au_hasEnded 34 = .ok (.ireturn, 1) := by decide +kernel
abbrev c_au_bid : ByteArray := prog_2_method_11_code
def y_au_bid : MethodName := ⟨"ShortBridge$Auction", "bid", "()I"⟩
theorem d_au_bid_0 : decode c_au_bid 0 = .ok (.aload_n 0, 1) := by decide +kernel
theorem d_au_bid_1 : decode c_au_bid 1 = .ok (.iconst 3, 1) := by decide +kernel
theorem d_au_bid_2 : decode c_au_bid 2 = .ok (.invokevirtual 33, 3) := by decide +kernel
theorem d_au_bid_5 : decode c_au_bid 5 = .ok (.istore_n 1, 1) := by decide +kernel
theorem d_au_bid_6 : decode c_au_bid 6 = .ok (.iload_n 1, 1) := by decide +kernel
theorem d_au_bid_7 : decode c_au_bid 7 = .ok (.iconst (-1), 1) := by decide +kernel
theorem d_au_bid_8 : decode c_au_bid 8 = .ok (.if_icmp .ne 7, 3) := by decide +kernel
theorem d_au_bid_11 : decode c_au_bid 11 = .ok (.iconst (-1), 1) := by decide +kernel
theorem d_au_bid_12 : decode c_au_bid 12 = .ok (.goto 9, 3) := by decide +kernel
theorem d_au_bid_15 : decode c_au_bid 15 = .ok (.aload_n 0, 1) := by decide +kernel
theorem d_au_bid_16 : decode c_au_bid 16 = .ok (.getfield 11, 3) := by decide +kernel
theorem d_au_bid_19 : decode c_au_bid 19 = .ok (.iload_n 1, 1) := by decide +kernel
theorem d_au_bid_20 : decode c_au_bid 20 = .ok (.iaload, 1) := by decide +kernel
theorem d_au_bid_21 : decode c_au_bid 21 = .ok (.ireturn, 1) := by decide +kernel
abbrev c_au_doubled : ByteArray := prog_2_method_12_code
def y_au_doubled : MethodName := ⟨"ShortBridge$Auction", "doubled", "()I"⟩
theorem d_au_doubled_0 : decode c_au_doubled 0 = .ok (.aload_n 0, 1) := by decide +kernel
theorem d_au_doubled_1 : decode c_au_doubled 1 = .ok (.iconst 1, 1) := by decide +kernel
theorem d_au_doubled_2 : decode c_au_doubled 2 = .ok (.invokevirtual 33, 3) := by decide +kernel
theorem d_au_doubled_5 : decode c_au_doubled 5 = .ok (.istore_n 1, 1) := by decide +kernel
theorem d_au_doubled_6 : decode c_au_doubled 6 = .ok (.iload_n 1, 1) := by decide +kernel
theorem d_au_doubled_7 : decode c_au_doubled 7 = .ok (.iconst (-1), 1) := by decide +kernel
theorem d_au_doubled_8 : decode c_au_doubled 8 = .ok (.if_icmp .eq 13, 3) := by decide +kernel
theorem d_au_doubled_11 : decode c_au_doubled 11 = .ok (.aload_n 0, 1) := by decide +kernel
theorem d_au_doubled_12 : decode c_au_doubled 12 = .ok (.getfield 11, 3) := by decide +kernel
theorem d_au_doubled_15 : decode c_au_doubled 15 = .ok (.iload_n 1, 1) := by decide +kernel
theorem d_au_doubled_16 : decode c_au_doubled 16 = .ok (.iaload, 1) := by decide +kernel
theorem d_au_doubled_17 : decode c_au_doubled 17 = .ok (.iconst 3, 1) := by decide +kernel
theorem d_au_doubled_18 : decode c_au_doubled 18 = .ok (.if_icmp .lt 5, 3) := by decide +kernel
theorem d_au_doubled_21 : decode c_au_doubled 21 = .ok (.iconst 0, 1) := by decide +kernel
theorem d_au_doubled_22 : decode c_au_doubled 22 = .ok (.ireturn, 1) := by decide +kernel
theorem d_au_doubled_23 : decode c_au_doubled 23 = .ok (.aload_n 0, 1) := by decide +kernel
theorem d_au_doubled_24 : decode c_au_doubled 24 = .ok (.getfield 11, 3) := by decide +kernel
theorem d_au_doubled_27 : decode c_au_doubled 27 = .ok (.iload_n 1, 1) := by decide +kernel
theorem d_au_doubled_28 : decode c_au_doubled 28 = .ok (.iaload, 1) := by decide +kernel
theorem d_au_doubled_29 : decode c_au_doubled 29 = .ok (.iconst 2, 1) := by decide +kernel
theorem d_au_doubled_30 : decode c_au_doubled 30 = .ok (.if_icmp .ne 7, 3) := by decide +kernel
theorem d_au_doubled_33 : decode c_au_doubled 33 = .ok (.iconst 2, 1) := by decide +kernel
theorem d_au_doubled_34 : decode c_au_doubled 34 = .ok (.goto 4, 3) := by decide +kernel
theorem d_au_doubled_37 : decode c_au_doubled 37 = .ok (.iconst 1, 1) := by decide +kernel
theorem d_au_doubled_38 : decode c_au_doubled 38 = .ok (.ireturn, 1) := by decide +kernel
abbrev c_au_declarer : ByteArray := prog_2_method_13_code
def y_au_declarer : MethodName := ⟨"ShortBridge$Auction", "declarer", "()I"⟩
theorem d_au_declarer_0 : decode c_au_declarer 0 = .ok (.aload_n 0, 1) := by decide +kernel
theorem d_au_declarer_1 : decode c_au_declarer 1 = .ok (.iconst 3, 1) := by decide +kernel
theorem d_au_declarer_2 : decode c_au_declarer 2 = .ok (.invokevirtual 33, 3) := by decide +kernel
theorem d_au_declarer_5 : decode c_au_declarer 5 = .ok (.istore_n 1, 1) := by decide +kernel
theorem d_au_declarer_6 : decode c_au_declarer 6 = .ok (.iload_n 1, 1) := by decide +kernel
theorem d_au_declarer_7 : decode c_au_declarer 7 = .ok (.iconst (-1), 1) := by decide +kernel
theorem d_au_declarer_8 : decode c_au_declarer 8 = .ok (.if_icmp .ne 5, 3) := by decide +kernel
theorem d_au_declarer_11 : decode c_au_declarer 11 = .ok (.iconst (-1), 1) := by decide +kernel
theorem d_au_declarer_12 : decode c_au_declarer 12 = .ok (.ireturn, 1) := by decide +kernel
theorem d_au_declarer_13 : decode c_au_declarer 13 = .ok (.iconst 0, 1) := by decide +kernel
theorem d_au_declarer_14 : decode c_au_declarer 14 = .ok (.istore_n 2, 1) := by decide +kernel
theorem d_au_declarer_15 : decode c_au_declarer 15 = .ok (.iload_n 2, 1) := by decide +kernel
theorem d_au_declarer_16 : decode c_au_declarer 16 = .ok (.iload_n 1, 1) := by decide +kernel
theorem d_au_declarer_17 : decode c_au_declarer 17 = .ok (.if_icmp .ge 55, 3) := by decide +kernel
theorem d_au_declarer_20 : decode c_au_declarer 20 = .ok (.aload_n 0, 1) := by decide +kernel
theorem d_au_declarer_21 : decode c_au_declarer 21 = .ok (.iload_n 2, 1) := by decide +kernel
theorem d_au_declarer_22 : decode c_au_declarer 22 = .ok (.iload_n 1, 1) := by decide +kernel
theorem d_au_declarer_23 : decode c_au_declarer 23 = .ok (.invokevirtual 36, 3) := by decide +kernel
theorem d_au_declarer_26 : decode c_au_declarer 26 = .ok (.ifCond .eq 40, 3) := by decide +kernel
theorem d_au_declarer_29 : decode c_au_declarer 29 = .ok (.aload_n 0, 1) := by decide +kernel
theorem d_au_declarer_30 : decode c_au_declarer 30 = .ok (.getfield 11, 3) := by decide +kernel
theorem d_au_declarer_33 : decode c_au_declarer 33 = .ok (.iload_n 2, 1) := by decide +kernel
theorem d_au_declarer_34 : decode c_au_declarer 34 = .ok (.iaload, 1) := by decide +kernel
theorem d_au_declarer_35 : decode c_au_declarer 35 = .ok (.iconst 3, 1) := by decide +kernel
theorem d_au_declarer_36 : decode c_au_declarer 36 = .ok (.if_icmp .lt 30, 3) := by decide +kernel
theorem d_au_declarer_39 : decode c_au_declarer 39 = .ok (.aload_n 0, 1) := by decide +kernel
theorem d_au_declarer_40 : decode c_au_declarer 40 = .ok (.getfield 11, 3) := by decide +kernel
theorem d_au_declarer_43 : decode c_au_declarer 43 = .ok (.iload_n 2, 1) := by decide +kernel
theorem d_au_declarer_44 : decode c_au_declarer 44 = .ok (.iaload, 1) := by decide +kernel
theorem d_au_declarer_45 : decode c_au_declarer 45 = .ok (.invokestatic 40, 3) := by decide +kernel
theorem d_au_declarer_48 : decode c_au_declarer 48 = .ok (.aload_n 0, 1) := by decide +kernel
theorem d_au_declarer_49 : decode c_au_declarer 49 = .ok (.getfield 11, 3) := by decide +kernel
theorem d_au_declarer_52 : decode c_au_declarer 52 = .ok (.iload_n 1, 1) := by decide +kernel
theorem d_au_declarer_53 : decode c_au_declarer 53 = .ok (.iaload, 1) := by decide +kernel
theorem d_au_declarer_54 : decode c_au_declarer 54 = .ok (.invokestatic 40, 3) := by decide +kernel
theorem d_au_declarer_57 : decode c_au_declarer 57 = .ok (.if_icmp .ne 9, 3) := by decide +kernel
theorem d_au_declarer_60 : decode c_au_declarer 60 = .ok (.aload_n 0, 1) := by decide +kernel
theorem d_au_declarer_61 : decode c_au_declarer 61 = .ok (.iload_n 2, 1) := by decide +kernel
theorem d_au_declarer_62 : decode c_au_declarer 62 = .ok (.invokevirtual 22, 3) := by decide +kernel
theorem d_au_declarer_65 : decode c_au_declarer 65 = .ok (.ireturn, 1) := by decide +kernel
theorem d_au_declarer_66 : decode c_au_declarer 66 = .ok (.iinc 2 1, 3) := by decide +kernel
theorem d_au_declarer_69 : decode c_au_declarer 69 = .ok (.goto (-54), 3) := by decide +kernel
theorem d_au_declarer_72 : decode c_au_declarer 72 = .ok (.aload_n 0, 1) := by decide +kernel
theorem d_au_declarer_73 : decode c_au_declarer 73 = .ok (.iload_n 1, 1) := by decide +kernel
theorem d_au_declarer_74 : decode c_au_declarer 74 = .ok (.invokevirtual 22, 3) := by decide +kernel
theorem d_au_declarer_77 : decode c_au_declarer 77 = .ok (.ireturn, 1) := by decide +kernel
abbrev c_au_latestOfOthers : ByteArray := prog_2_method_14_code
def y_au_latestOfOthers : MethodName := ⟨"ShortBridge$Auction", "latestOfOthers", "()I"⟩
theorem d_au_latestOfOthers_0 : decode c_au_latestOfOthers 0 = .ok (.aload_n 0, 1) := by decide +kernel
theorem d_au_latestOfOthers_1 : decode c_au_latestOfOthers 1 = .ok (.iconst 1, 1) := by decide +kernel
theorem d_au_latestOfOthers_2 : decode c_au_latestOfOthers 2 = .ok (.invokevirtual 33, 3) := by decide +kernel
theorem d_au_latestOfOthers_5 : decode c_au_latestOfOthers 5 = .ok (.istore_n 1, 1) := by decide +kernel
theorem d_au_latestOfOthers_6 : decode c_au_latestOfOthers 6 = .ok (.iload_n 1, 1) := by decide +kernel
theorem d_au_latestOfOthers_7 : decode c_au_latestOfOthers 7 = .ok (.iconst (-1), 1) := by decide +kernel
theorem d_au_latestOfOthers_8 : decode c_au_latestOfOthers 8 = .ok (.if_icmp .eq 15, 3) := by decide +kernel
theorem d_au_latestOfOthers_11 : decode c_au_latestOfOthers 11 = .ok (.aload_n 0, 1) := by decide +kernel
theorem d_au_latestOfOthers_12 : decode c_au_latestOfOthers 12 = .ok (.iload_n 1, 1) := by decide +kernel
theorem d_au_latestOfOthers_13 : decode c_au_latestOfOthers 13 = .ok (.aload_n 0, 1) := by decide +kernel
theorem d_au_latestOfOthers_14 : decode c_au_latestOfOthers 14 = .ok (.getfield 19, 3) := by decide +kernel
theorem d_au_latestOfOthers_17 : decode c_au_latestOfOthers 17 = .ok (.invokevirtual 36, 3) := by decide +kernel
theorem d_au_latestOfOthers_20 : decode c_au_latestOfOthers 20 = .ok (.ifCond .eq 7, 3) := by decide +kernel
theorem d_au_latestOfOthers_23 : decode c_au_latestOfOthers 23 = .ok (.iconst (-1), 1) := by decide +kernel
theorem d_au_latestOfOthers_24 : decode c_au_latestOfOthers 24 = .ok (.goto 9, 3) := by decide +kernel
theorem d_au_latestOfOthers_27 : decode c_au_latestOfOthers 27 = .ok (.aload_n 0, 1) := by decide +kernel
theorem d_au_latestOfOthers_28 : decode c_au_latestOfOthers 28 = .ok (.getfield 11, 3) := by decide +kernel
theorem d_au_latestOfOthers_31 : decode c_au_latestOfOthers 31 = .ok (.iload_n 1, 1) := by decide +kernel
theorem d_au_latestOfOthers_32 : decode c_au_latestOfOthers 32 = .ok (.iaload, 1) := by decide +kernel
theorem d_au_latestOfOthers_33 : decode c_au_latestOfOthers 33 = .ok (.ireturn, 1) := by decide +kernel
abbrev c_au_placeOfLatest : ByteArray := prog_2_method_15_code
def y_au_placeOfLatest : MethodName := ⟨"ShortBridge$Auction", "placeOfLatest", "(I)I"⟩
theorem d_au_placeOfLatest_0 : decode c_au_placeOfLatest 0 = .ok (.aload_n 0, 1) := by decide +kernel
theorem d_au_placeOfLatest_1 : decode c_au_placeOfLatest 1 = .ok (.getfield 19, 3) := by decide +kernel
theorem d_au_placeOfLatest_4 : decode c_au_placeOfLatest 4 = .ok (.iconst 1, 1) := by decide +kernel
theorem d_au_placeOfLatest_5 : decode c_au_placeOfLatest 5 = .ok (.isub, 1) := by decide +kernel
theorem d_au_placeOfLatest_6 : decode c_au_placeOfLatest 6 = .ok (.istore_n 2, 1) := by decide +kernel
theorem d_au_placeOfLatest_7 : decode c_au_placeOfLatest 7 = .ok (.iload_n 2, 1) := by decide +kernel
theorem d_au_placeOfLatest_8 : decode c_au_placeOfLatest 8 = .ok (.ifCond .lt 21, 3) := by decide +kernel
theorem d_au_placeOfLatest_11 : decode c_au_placeOfLatest 11 = .ok (.aload_n 0, 1) := by decide +kernel
theorem d_au_placeOfLatest_12 : decode c_au_placeOfLatest 12 = .ok (.getfield 11, 3) := by decide +kernel
theorem d_au_placeOfLatest_15 : decode c_au_placeOfLatest 15 = .ok (.iload_n 2, 1) := by decide +kernel
theorem d_au_placeOfLatest_16 : decode c_au_placeOfLatest 16 = .ok (.iaload, 1) := by decide +kernel
theorem d_au_placeOfLatest_17 : decode c_au_placeOfLatest 17 = .ok (.iload_n 1, 1) := by decide +kernel
theorem d_au_placeOfLatest_18 : decode c_au_placeOfLatest 18 = .ok (.if_icmp .lt 5, 3) := by decide +kernel
theorem d_au_placeOfLatest_21 : decode c_au_placeOfLatest 21 = .ok (.iload_n 2, 1) := by decide +kernel
theorem d_au_placeOfLatest_22 : decode c_au_placeOfLatest 22 = .ok (.ireturn, 1) := by decide +kernel
theorem d_au_placeOfLatest_23 : decode c_au_placeOfLatest 23 = .ok (.iinc 2 (-1), 3) := by decide +kernel
theorem d_au_placeOfLatest_26 : decode c_au_placeOfLatest 26 = .ok (.goto (-19), 3) := by decide +kernel
theorem d_au_placeOfLatest_29 : decode c_au_placeOfLatest 29 = .ok (.iconst (-1), 1) := by decide +kernel
theorem d_au_placeOfLatest_30 : decode c_au_placeOfLatest 30 = .ok (.ireturn, 1) := by decide +kernel
abbrev c_au_callerOf : ByteArray := prog_2_method_16_code
def y_au_callerOf : MethodName := ⟨"ShortBridge$Auction", "callerOf", "(I)I"⟩
theorem d_au_callerOf_0 : decode c_au_callerOf 0 = .ok (.aload_n 0, 1) := by decide +kernel
theorem d_au_callerOf_1 : decode c_au_callerOf 1 = .ok (.getfield 15, 3) := by decide +kernel
theorem d_au_callerOf_4 : decode c_au_callerOf 4 = .ok (.iload_n 1, 1) := by decide +kernel
theorem d_au_callerOf_5 : decode c_au_callerOf 5 = .ok (.invokestatic 43, 3) := by decide +kernel
theorem d_au_callerOf_8 : decode c_au_callerOf 8 = .ok (.ireturn, 1) := by decide +kernel
abbrev c_au_isSameSide : ByteArray := prog_2_method_17_code
def y_au_isSameSide : MethodName := ⟨"ShortBridge$Auction", "isSameSide", "(II)Z"⟩
theorem d_au_isSameSide_0 : decode c_au_isSameSide 0 = .ok (.aload_n 0, 1) := by decide +kernel
theorem d_au_isSameSide_1 : decode c_au_isSameSide 1 = .ok (.iload_n 1, 1) := by decide +kernel
theorem d_au_isSameSide_2 : decode c_au_isSameSide 2 = .ok (.invokevirtual 22, 3) := by decide +kernel
theorem d_au_isSameSide_5 : decode c_au_isSameSide 5 = .ok (.invokestatic 47, 3) := by decide +kernel
theorem d_au_isSameSide_8 : decode c_au_isSameSide 8 = .ok (.aload_n 0, 1) := by decide +kernel
theorem d_au_isSameSide_9 : decode c_au_isSameSide 9 = .ok (.iload_n 2, 1) := by decide +kernel
theorem d_au_isSameSide_10 : decode c_au_isSameSide 10 = .ok (.invokevirtual 22, 3) := by decide +kernel
theorem d_au_isSameSide_13 : decode c_au_isSameSide 13 = .ok (.invokestatic 47, 3) := by decide +kernel
theorem d_au_isSameSide_16 : decode c_au_isSameSide 16 = .ok (.if_icmp .ne 7, 3) := by decide +kernel
theorem d_au_isSameSide_19 : decode c_au_isSameSide 19 = .ok (.iconst 1, 1) := by decide +kernel
theorem d_au_isSameSide_20 : decode c_au_isSameSide 20 = .ok (.goto 4, 3) := by decide +kernel
theorem d_au_isSameSide_23 : decode c_au_isSameSide 23 = .ok (.iconst 0, 1) := by decide +kernel
theorem d_au_isSameSide_24 : decode c_au_isSameSide 24 = .ok (.ireturn, 1) := by decide +kernel
abbrev c_de_init : ByteArray := prog_3_method_1_code
def y_de_init : MethodName := ⟨"ShortBridge$Deal", "<init>", "()V"⟩
theorem d_de_init_0 : decode c_de_init 0 = .ok (.aload_n 0, 1) := by decide +kernel
theorem d_de_init_1 : decode c_de_init 1 = .ok (.invokespecial 3, 3) := by decide +kernel
theorem d_de_init_4 : decode c_de_init 4 = .ok (.aload_n 0, 1) := by decide +kernel
theorem d_de_init_5 : decode c_de_init 5 = .ok (.bipush 20, 2) := by decide +kernel
theorem d_de_init_7 : decode c_de_init 7 = .ok (.newarray .int, 2) := by decide +kernel
theorem d_de_init_9 : decode c_de_init 9 = .ok (.putfield 9, 3) := by decide +kernel
theorem d_de_init_12 : decode c_de_init 12 = .ok (.aload_n 0, 1) := by decide +kernel
theorem d_de_init_13 : decode c_de_init 13 = .ok (.bipush 20, 2) := by decide +kernel
theorem d_de_init_15 : decode c_de_init 15 = .ok (.newarray .int, 2) := by decide +kernel
theorem d_de_init_17 : decode c_de_init 17 = .ok (.putfield 15, 3) := by decide +kernel
theorem d_de_init_20 : decode c_de_init 20 = .ok (.aload_n 0, 1) := by decide +kernel
theorem d_de_init_21 : decode c_de_init 21 = .ok (.iconst 4, 1) := by decide +kernel
theorem d_de_init_22 : decode c_de_init 22 = .ok (.newarray .int, 2) := by decide +kernel
theorem d_de_init_24 : decode c_de_init 24 = .ok (.putfield 18, 3) := by decide +kernel
theorem d_de_init_27 : decode c_de_init 27 = .ok (.return_, 1) := by decide +kernel
abbrev c_de_isNumber : ByteArray := prog_3_method_2_code
def y_de_isNumber : MethodName := ⟨"ShortBridge$Deal", "isNumber", "(J)Z"⟩
theorem d_de_isNumber_0 : decode c_de_isNumber 0 = .ok (.lload_n 0, 1) := by decide +kernel
theorem d_de_isNumber_1 : decode c_de_isNumber 1 = .ok (.lconst 0, 1) := by decide +kernel
theorem d_de_isNumber_2 : decode c_de_isNumber 2 = .ok (.lcmp, 1) := by decide +kernel
theorem d_de_isNumber_3 : decode c_de_isNumber 3 = .ok (.ifCond .lt 15, 3) := by decide +kernel
theorem d_de_isNumber_6 : decode c_de_isNumber 6 = .ok (.lload_n 0, 1) := by decide +kernel
theorem d_de_isNumber_7 : decode c_de_isNumber 7 = .ok (.ldc2_w 21, 3) := by decide +kernel
theorem d_de_isNumber_10 : decode c_de_isNumber 10 = .ok (.lcmp, 1) := by decide +kernel
theorem d_de_isNumber_11 : decode c_de_isNumber 11 = .ok (.ifCond .ge 7, 3) := by decide +kernel
theorem d_de_isNumber_14 : decode c_de_isNumber 14 = .ok (.iconst 1, 1) := by decide +kernel
theorem d_de_isNumber_15 : decode c_de_isNumber 15 = .ok (.goto 4, 3) := by decide +kernel
theorem d_de_isNumber_18 : decode c_de_isNumber 18 = .ok (.iconst 0, 1) := by decide +kernel
theorem d_de_isNumber_19 : decode c_de_isNumber 19 = .ok (.ireturn, 1) := by decide +kernel
abbrev c_de_takeNumber : ByteArray := prog_3_method_3_code
def y_de_takeNumber : MethodName := ⟨"ShortBridge$Deal", "takeNumber", "(J)V"⟩
theorem d_de_takeNumber_0 : decode c_de_takeNumber 0 = .ok (.aload_n 0, 1) := by decide +kernel
theorem d_de_takeNumber_1 : decode c_de_takeNumber 1 = .ok (.lload_n 1, 1) := by decide +kernel
theorem d_de_takeNumber_2 : decode c_de_takeNumber 2 = .ok (.putfield 23, 3) := by decide +kernel
theorem d_de_takeNumber_5 : decode c_de_takeNumber 5 = .ok (.aload_n 0, 1) := by decide +kernel
theorem d_de_takeNumber_6 : decode c_de_takeNumber 6 = .ok (.invokevirtual 27, 3) := by decide +kernel
theorem d_de_takeNumber_9 : decode c_de_takeNumber 9 = .ok (.lload_n 1, 1) := by decide +kernel
theorem d_de_takeNumber_10 : decode c_de_takeNumber 10 = .ok (.lstore_n 3, 1) := by decide +kernel
theorem d_de_takeNumber_11 : decode c_de_takeNumber 11 = .ok (.ldc2_w 21, 3) := by decide +kernel
theorem d_de_takeNumber_14 : decode c_de_takeNumber 14 = .ok (.lstore 5, 2) := by decide +kernel
theorem d_de_takeNumber_16 : decode c_de_takeNumber 16 = .ok (.iconst 0, 1) := by decide +kernel
theorem d_de_takeNumber_17 : decode c_de_takeNumber 17 = .ok (.istore 7, 2) := by decide +kernel
theorem d_de_takeNumber_19 : decode c_de_takeNumber 19 = .ok (.iload 7, 2) := by decide +kernel
theorem d_de_takeNumber_21 : decode c_de_takeNumber 21 = .ok (.bipush 20, 2) := by decide +kernel
theorem d_de_takeNumber_23 : decode c_de_takeNumber 23 = .ok (.if_icmp .ge 84, 3) := by decide +kernel
theorem d_de_takeNumber_26 : decode c_de_takeNumber 26 = .ok (.iconst 0, 1) := by decide +kernel
theorem d_de_takeNumber_27 : decode c_de_takeNumber 27 = .ok (.istore 8, 2) := by decide +kernel
theorem d_de_takeNumber_29 : decode c_de_takeNumber 29 = .ok (.aload_n 0, 1) := by decide +kernel
theorem d_de_takeNumber_30 : decode c_de_takeNumber 30 = .ok (.lload 5, 2) := by decide +kernel
theorem d_de_takeNumber_32 : decode c_de_takeNumber 32 = .ok (.iload 8, 2) := by decide +kernel
theorem d_de_takeNumber_34 : decode c_de_takeNumber 34 = .ok (.iload 7, 2) := by decide +kernel
theorem d_de_takeNumber_36 : decode c_de_takeNumber 36 = .ok (.invokevirtual 30, 3) := by decide +kernel
theorem d_de_takeNumber_39 : decode c_de_takeNumber 39 = .ok (.lstore 9, 2) := by decide +kernel
theorem d_de_takeNumber_41 : decode c_de_takeNumber 41 = .ok (.iload 8, 2) := by decide +kernel
theorem d_de_takeNumber_43 : decode c_de_takeNumber 43 = .ok (.iconst 3, 1) := by decide +kernel
theorem d_de_takeNumber_44 : decode c_de_takeNumber 44 = .ok (.if_icmp .ge 33, 3) := by decide +kernel
theorem d_de_takeNumber_47 : decode c_de_takeNumber 47 = .ok (.lload_n 3, 1) := by decide +kernel
theorem d_de_takeNumber_48 : decode c_de_takeNumber 48 = .ok (.lload 9, 2) := by decide +kernel
theorem d_de_takeNumber_50 : decode c_de_takeNumber 50 = .ok (.lcmp, 1) := by decide +kernel
theorem d_de_takeNumber_51 : decode c_de_takeNumber 51 = .ok (.ifCond .lt 26, 3) := by decide +kernel
theorem d_de_takeNumber_54 : decode c_de_takeNumber 54 = .ok (.lload_n 3, 1) := by decide +kernel
theorem d_de_takeNumber_55 : decode c_de_takeNumber 55 = .ok (.lload 9, 2) := by decide +kernel
theorem d_de_takeNumber_57 : decode c_de_takeNumber 57 = .ok (.lsub, 1) := by decide +kernel
theorem d_de_takeNumber_58 : decode c_de_takeNumber 58 = .ok (.lstore_n 3, 1) := by decide +kernel
theorem d_de_takeNumber_59 : decode c_de_takeNumber 59 = .ok (.iinc 8 1, 3) := by decide +kernel
theorem d_de_takeNumber_62 : decode c_de_takeNumber 62 = .ok (.aload_n 0, 1) := by decide +kernel
theorem d_de_takeNumber_63 : decode c_de_takeNumber 63 = .ok (.lload 5, 2) := by decide +kernel
theorem d_de_takeNumber_65 : decode c_de_takeNumber 65 = .ok (.iload 8, 2) := by decide +kernel
theorem d_de_takeNumber_67 : decode c_de_takeNumber 67 = .ok (.iload 7, 2) := by decide +kernel
theorem d_de_takeNumber_69 : decode c_de_takeNumber 69 = .ok (.invokevirtual 30, 3) := by decide +kernel
theorem d_de_takeNumber_72 : decode c_de_takeNumber 72 = .ok (.lstore 9, 2) := by decide +kernel
theorem d_de_takeNumber_74 : decode c_de_takeNumber 74 = .ok (.goto (-33), 3) := by decide +kernel
theorem d_de_takeNumber_77 : decode c_de_takeNumber 77 = .ok (.aload_n 0, 1) := by decide +kernel
theorem d_de_takeNumber_78 : decode c_de_takeNumber 78 = .ok (.getfield 9, 3) := by decide +kernel
theorem d_de_takeNumber_81 : decode c_de_takeNumber 81 = .ok (.iload 7, 2) := by decide +kernel
theorem d_de_takeNumber_83 : decode c_de_takeNumber 83 = .ok (.iload 8, 2) := by decide +kernel
theorem d_de_takeNumber_85 : decode c_de_takeNumber 85 = .ok (.iastore, 1) := by decide +kernel
theorem d_de_takeNumber_86 : decode c_de_takeNumber 86 = .ok (.aload_n 0, 1) := by decide +kernel
theorem d_de_takeNumber_87 : decode c_de_takeNumber 87 = .ok (.getfield 18, 3) := by decide +kernel
theorem d_de_takeNumber_90 : decode c_de_takeNumber 90 = .ok (.iload 8, 2) := by decide +kernel
theorem d_de_takeNumber_92 : decode c_de_takeNumber 92 = .ok (.dup2, 1) := by decide +kernel
theorem d_de_takeNumber_93 : decode c_de_takeNumber 93 = .ok (.iaload, 1) := by decide +kernel
theorem d_de_takeNumber_94 : decode c_de_takeNumber 94 = .ok (.iconst 1, 1) := by decide +kernel
theorem d_de_takeNumber_95 : decode c_de_takeNumber 95 = .ok (.isub, 1) := by decide +kernel
theorem d_de_takeNumber_96 : decode c_de_takeNumber 96 = .ok (.iastore, 1) := by decide +kernel
theorem d_de_takeNumber_97 : decode c_de_takeNumber 97 = .ok (.lload 9, 2) := by decide +kernel
theorem d_de_takeNumber_99 : decode c_de_takeNumber 99 = .ok (.lstore 5, 2) := by decide +kernel
theorem d_de_takeNumber_101 : decode c_de_takeNumber 101 = .ok (.iinc 7 1, 3) := by decide +kernel
theorem d_de_takeNumber_104 : decode c_de_takeNumber 104 = .ok (.goto (-85), 3) := by decide +kernel
theorem d_de_takeNumber_107 : decode c_de_takeNumber 107 = .ok (.return_, 1) := by decide +kernel
abbrev c_de_takeSeed : ByteArray := prog_3_method_4_code
def y_de_takeSeed : MethodName := ⟨"ShortBridge$Deal", "takeSeed", "(J)V"⟩
theorem d_de_takeSeed_0 : decode c_de_takeSeed 0 = .ok (.aload_n 0, 1) := by decide +kernel
theorem d_de_takeSeed_1 : decode c_de_takeSeed 1 = .ok (.lload_n 1, 1) := by decide +kernel
theorem d_de_takeSeed_2 : decode c_de_takeSeed 2 = .ok (.invokevirtual 34, 3) := by decide +kernel
theorem d_de_takeSeed_5 : decode c_de_takeSeed 5 = .ok (.iconst 0, 1) := by decide +kernel
theorem d_de_takeSeed_6 : decode c_de_takeSeed 6 = .ok (.istore_n 3, 1) := by decide +kernel
theorem d_de_takeSeed_7 : decode c_de_takeSeed 7 = .ok (.iload_n 3, 1) := by decide +kernel
theorem d_de_takeSeed_8 : decode c_de_takeSeed 8 = .ok (.bipush 20, 2) := by decide +kernel
theorem d_de_takeSeed_10 : decode c_de_takeSeed 10 = .ok (.if_icmp .ge 23, 3) := by decide +kernel
theorem d_de_takeSeed_13 : decode c_de_takeSeed 13 = .ok (.aload_n 0, 1) := by decide +kernel
theorem d_de_takeSeed_14 : decode c_de_takeSeed 14 = .ok (.getfield 9, 3) := by decide +kernel
theorem d_de_takeSeed_17 : decode c_de_takeSeed 17 = .ok (.aload_n 0, 1) := by decide +kernel
theorem d_de_takeSeed_18 : decode c_de_takeSeed 18 = .ok (.getfield 15, 3) := by decide +kernel
theorem d_de_takeSeed_21 : decode c_de_takeSeed 21 = .ok (.iload_n 3, 1) := by decide +kernel
theorem d_de_takeSeed_22 : decode c_de_takeSeed 22 = .ok (.iaload, 1) := by decide +kernel
theorem d_de_takeSeed_23 : decode c_de_takeSeed 23 = .ok (.iload_n 3, 1) := by decide +kernel
theorem d_de_takeSeed_24 : decode c_de_takeSeed 24 = .ok (.iconst 5, 1) := by decide +kernel
theorem d_de_takeSeed_25 : decode c_de_takeSeed 25 = .ok (.idiv, 1) := by decide +kernel
theorem d_de_takeSeed_26 : decode c_de_takeSeed 26 = .ok (.iastore, 1) := by decide +kernel
theorem d_de_takeSeed_27 : decode c_de_takeSeed 27 = .ok (.iinc 3 1, 3) := by decide +kernel
theorem d_de_takeSeed_30 : decode c_de_takeSeed 30 = .ok (.goto (-23), 3) := by decide +kernel
theorem d_de_takeSeed_33 : decode c_de_takeSeed 33 = .ok (.aload_n 0, 1) := by decide +kernel
theorem d_de_takeSeed_34 : decode c_de_takeSeed 34 = .ok (.aload_n 0, 1) := by decide +kernel
theorem d_de_takeSeed_35 : decode c_de_takeSeed 35 = .ok (.invokevirtual 38, 3) := by decide +kernel
theorem d_de_takeSeed_38 : decode c_de_takeSeed 38 = .ok (.putfield 23, 3) := by decide +kernel
theorem d_de_takeSeed_41 : decode c_de_takeSeed 41 = .ok (.return_, 1) := by decide +kernel
abbrev c_de_shuffleRow : ByteArray := prog_3_method_5_code
def y_de_shuffleRow : MethodName := ⟨"ShortBridge$Deal", "shuffleRow", "(J)V"⟩
theorem d_de_shuffleRow_0 : decode c_de_shuffleRow 0 = .ok (.iconst 0, 1) := by decide +kernel
theorem d_de_shuffleRow_1 : decode c_de_shuffleRow 1 = .ok (.istore_n 3, 1) := by decide +kernel
theorem d_de_shuffleRow_2 : decode c_de_shuffleRow 2 = .ok (.iload_n 3, 1) := by decide +kernel
theorem d_de_shuffleRow_3 : decode c_de_shuffleRow 3 = .ok (.bipush 20, 2) := by decide +kernel
theorem d_de_shuffleRow_5 : decode c_de_shuffleRow 5 = .ok (.if_icmp .ge 16, 3) := by decide +kernel
theorem d_de_shuffleRow_8 : decode c_de_shuffleRow 8 = .ok (.aload_n 0, 1) := by decide +kernel
theorem d_de_shuffleRow_9 : decode c_de_shuffleRow 9 = .ok (.getfield 15, 3) := by decide +kernel
theorem d_de_shuffleRow_12 : decode c_de_shuffleRow 12 = .ok (.iload_n 3, 1) := by decide +kernel
theorem d_de_shuffleRow_13 : decode c_de_shuffleRow 13 = .ok (.iload_n 3, 1) := by decide +kernel
theorem d_de_shuffleRow_14 : decode c_de_shuffleRow 14 = .ok (.iastore, 1) := by decide +kernel
theorem d_de_shuffleRow_15 : decode c_de_shuffleRow 15 = .ok (.iinc 3 1, 3) := by decide +kernel
theorem d_de_shuffleRow_18 : decode c_de_shuffleRow 18 = .ok (.goto (-16), 3) := by decide +kernel
theorem d_de_shuffleRow_21 : decode c_de_shuffleRow 21 = .ok (.lload_n 1, 1) := by decide +kernel
theorem d_de_shuffleRow_22 : decode c_de_shuffleRow 22 = .ok (.lstore_n 3, 1) := by decide +kernel
theorem d_de_shuffleRow_23 : decode c_de_shuffleRow 23 = .ok (.bipush 19, 2) := by decide +kernel
theorem d_de_shuffleRow_25 : decode c_de_shuffleRow 25 = .ok (.istore 5, 2) := by decide +kernel
theorem d_de_shuffleRow_27 : decode c_de_shuffleRow 27 = .ok (.iload 5, 2) := by decide +kernel
theorem d_de_shuffleRow_29 : decode c_de_shuffleRow 29 = .ok (.iconst 1, 1) := by decide +kernel
theorem d_de_shuffleRow_30 : decode c_de_shuffleRow 30 = .ok (.if_icmp .lt 64, 3) := by decide +kernel
theorem d_de_shuffleRow_33 : decode c_de_shuffleRow 33 = .ok (.lload_n 3, 1) := by decide +kernel
theorem d_de_shuffleRow_34 : decode c_de_shuffleRow 34 = .ok (.ldc2_w 42, 3) := by decide +kernel
theorem d_de_shuffleRow_37 : decode c_de_shuffleRow 37 = .ok (.lmul, 1) := by decide +kernel
theorem d_de_shuffleRow_38 : decode c_de_shuffleRow 38 = .ok (.ldc2_w 44, 3) := by decide +kernel
theorem d_de_shuffleRow_41 : decode c_de_shuffleRow 41 = .ok (.ladd, 1) := by decide +kernel
theorem d_de_shuffleRow_42 : decode c_de_shuffleRow 42 = .ok (.lstore_n 3, 1) := by decide +kernel
theorem d_de_shuffleRow_43 : decode c_de_shuffleRow 43 = .ok (.lload_n 3, 1) := by decide +kernel
theorem d_de_shuffleRow_44 : decode c_de_shuffleRow 44 = .ok (.bipush 33, 2) := by decide +kernel
theorem d_de_shuffleRow_46 : decode c_de_shuffleRow 46 = .ok (.lushr, 1) := by decide +kernel
theorem d_de_shuffleRow_47 : decode c_de_shuffleRow 47 = .ok (.iload 5, 2) := by decide +kernel
theorem d_de_shuffleRow_49 : decode c_de_shuffleRow 49 = .ok (.iconst 1, 1) := by decide +kernel
theorem d_de_shuffleRow_50 : decode c_de_shuffleRow 50 = .ok (.iadd, 1) := by decide +kernel
theorem d_de_shuffleRow_51 : decode c_de_shuffleRow 51 = .ok (.i2l, 1) := by decide +kernel
theorem d_de_shuffleRow_52 : decode c_de_shuffleRow 52 = .ok (.lrem, 1) := by decide +kernel
theorem d_de_shuffleRow_53 : decode c_de_shuffleRow 53 = .ok (.l2i, 1) := by decide +kernel
theorem d_de_shuffleRow_54 : decode c_de_shuffleRow 54 = .ok (.istore 6, 2) := by decide +kernel
theorem d_de_shuffleRow_56 : decode c_de_shuffleRow 56 = .ok (.aload_n 0, 1) := by decide +kernel
theorem d_de_shuffleRow_57 : decode c_de_shuffleRow 57 = .ok (.getfield 15, 3) := by decide +kernel
theorem d_de_shuffleRow_60 : decode c_de_shuffleRow 60 = .ok (.iload 5, 2) := by decide +kernel
theorem d_de_shuffleRow_62 : decode c_de_shuffleRow 62 = .ok (.iaload, 1) := by decide +kernel
theorem d_de_shuffleRow_63 : decode c_de_shuffleRow 63 = .ok (.istore 7, 2) := by decide +kernel
theorem d_de_shuffleRow_65 : decode c_de_shuffleRow 65 = .ok (.aload_n 0, 1) := by decide +kernel
theorem d_de_shuffleRow_66 : decode c_de_shuffleRow 66 = .ok (.getfield 15, 3) := by decide +kernel
theorem d_de_shuffleRow_69 : decode c_de_shuffleRow 69 = .ok (.iload 5, 2) := by decide +kernel
theorem d_de_shuffleRow_71 : decode c_de_shuffleRow 71 = .ok (.aload_n 0, 1) := by decide +kernel
theorem d_de_shuffleRow_72 : decode c_de_shuffleRow 72 = .ok (.getfield 15, 3) := by decide +kernel
theorem d_de_shuffleRow_75 : decode c_de_shuffleRow 75 = .ok (.iload 6, 2) := by decide +kernel
theorem d_de_shuffleRow_77 : decode c_de_shuffleRow 77 = .ok (.iaload, 1) := by decide +kernel
theorem d_de_shuffleRow_78 : decode c_de_shuffleRow 78 = .ok (.iastore, 1) := by decide +kernel
theorem d_de_shuffleRow_79 : decode c_de_shuffleRow 79 = .ok (.aload_n 0, 1) := by decide +kernel
theorem d_de_shuffleRow_80 : decode c_de_shuffleRow 80 = .ok (.getfield 15, 3) := by decide +kernel
theorem d_de_shuffleRow_83 : decode c_de_shuffleRow 83 = .ok (.iload 6, 2) := by decide +kernel
theorem d_de_shuffleRow_85 : decode c_de_shuffleRow 85 = .ok (.iload 7, 2) := by decide +kernel
theorem d_de_shuffleRow_87 : decode c_de_shuffleRow 87 = .ok (.iastore, 1) := by decide +kernel
theorem d_de_shuffleRow_88 : decode c_de_shuffleRow 88 = .ok (.iinc 5 (-1), 3) := by decide +kernel
theorem d_de_shuffleRow_91 : decode c_de_shuffleRow 91 = .ok (.goto (-64), 3) := by decide +kernel
theorem d_de_shuffleRow_94 : decode c_de_shuffleRow 94 = .ok (.return_, 1) := by decide +kernel
abbrev c_de_rankOfOwners : ByteArray := prog_3_method_6_code
def y_de_rankOfOwners : MethodName := ⟨"ShortBridge$Deal", "rankOfOwners", "()J"⟩
theorem d_de_rankOfOwners_0 : decode c_de_rankOfOwners 0 = .ok (.aload_n 0, 1) := by decide +kernel
theorem d_de_rankOfOwners_1 : decode c_de_rankOfOwners 1 = .ok (.invokevirtual 27, 3) := by decide +kernel
theorem d_de_rankOfOwners_4 : decode c_de_rankOfOwners 4 = .ok (.lconst 0, 1) := by decide +kernel
theorem d_de_rankOfOwners_5 : decode c_de_rankOfOwners 5 = .ok (.lstore_n 1, 1) := by decide +kernel
theorem d_de_rankOfOwners_6 : decode c_de_rankOfOwners 6 = .ok (.ldc2_w 21, 3) := by decide +kernel
theorem d_de_rankOfOwners_9 : decode c_de_rankOfOwners 9 = .ok (.lstore_n 3, 1) := by decide +kernel
theorem d_de_rankOfOwners_10 : decode c_de_rankOfOwners 10 = .ok (.iconst 0, 1) := by decide +kernel
theorem d_de_rankOfOwners_11 : decode c_de_rankOfOwners 11 = .ok (.istore 5, 2) := by decide +kernel
theorem d_de_rankOfOwners_13 : decode c_de_rankOfOwners 13 = .ok (.iload 5, 2) := by decide +kernel
theorem d_de_rankOfOwners_15 : decode c_de_rankOfOwners 15 = .ok (.bipush 20, 2) := by decide +kernel
theorem d_de_rankOfOwners_17 : decode c_de_rankOfOwners 17 = .ok (.if_icmp .ge 67, 3) := by decide +kernel
theorem d_de_rankOfOwners_20 : decode c_de_rankOfOwners 20 = .ok (.aload_n 0, 1) := by decide +kernel
theorem d_de_rankOfOwners_21 : decode c_de_rankOfOwners 21 = .ok (.getfield 9, 3) := by decide +kernel
theorem d_de_rankOfOwners_24 : decode c_de_rankOfOwners 24 = .ok (.iload 5, 2) := by decide +kernel
theorem d_de_rankOfOwners_26 : decode c_de_rankOfOwners 26 = .ok (.iaload, 1) := by decide +kernel
theorem d_de_rankOfOwners_27 : decode c_de_rankOfOwners 27 = .ok (.istore 6, 2) := by decide +kernel
theorem d_de_rankOfOwners_29 : decode c_de_rankOfOwners 29 = .ok (.iconst 0, 1) := by decide +kernel
theorem d_de_rankOfOwners_30 : decode c_de_rankOfOwners 30 = .ok (.istore 7, 2) := by decide +kernel
theorem d_de_rankOfOwners_32 : decode c_de_rankOfOwners 32 = .ok (.iload 7, 2) := by decide +kernel
theorem d_de_rankOfOwners_34 : decode c_de_rankOfOwners 34 = .ok (.iload 6, 2) := by decide +kernel
theorem d_de_rankOfOwners_36 : decode c_de_rankOfOwners 36 = .ok (.if_icmp .ge 21, 3) := by decide +kernel
theorem d_de_rankOfOwners_39 : decode c_de_rankOfOwners 39 = .ok (.lload_n 1, 1) := by decide +kernel
theorem d_de_rankOfOwners_40 : decode c_de_rankOfOwners 40 = .ok (.aload_n 0, 1) := by decide +kernel
theorem d_de_rankOfOwners_41 : decode c_de_rankOfOwners 41 = .ok (.lload_n 3, 1) := by decide +kernel
theorem d_de_rankOfOwners_42 : decode c_de_rankOfOwners 42 = .ok (.iload 7, 2) := by decide +kernel
theorem d_de_rankOfOwners_44 : decode c_de_rankOfOwners 44 = .ok (.iload 5, 2) := by decide +kernel
theorem d_de_rankOfOwners_46 : decode c_de_rankOfOwners 46 = .ok (.invokevirtual 30, 3) := by decide +kernel
theorem d_de_rankOfOwners_49 : decode c_de_rankOfOwners 49 = .ok (.ladd, 1) := by decide +kernel
theorem d_de_rankOfOwners_50 : decode c_de_rankOfOwners 50 = .ok (.lstore_n 1, 1) := by decide +kernel
theorem d_de_rankOfOwners_51 : decode c_de_rankOfOwners 51 = .ok (.iinc 7 1, 3) := by decide +kernel
theorem d_de_rankOfOwners_54 : decode c_de_rankOfOwners 54 = .ok (.goto (-22), 3) := by decide +kernel
theorem d_de_rankOfOwners_57 : decode c_de_rankOfOwners 57 = .ok (.aload_n 0, 1) := by decide +kernel
theorem d_de_rankOfOwners_58 : decode c_de_rankOfOwners 58 = .ok (.lload_n 3, 1) := by decide +kernel
theorem d_de_rankOfOwners_59 : decode c_de_rankOfOwners 59 = .ok (.iload 6, 2) := by decide +kernel
theorem d_de_rankOfOwners_61 : decode c_de_rankOfOwners 61 = .ok (.iload 5, 2) := by decide +kernel
theorem d_de_rankOfOwners_63 : decode c_de_rankOfOwners 63 = .ok (.invokevirtual 30, 3) := by decide +kernel
theorem d_de_rankOfOwners_66 : decode c_de_rankOfOwners 66 = .ok (.lstore_n 3, 1) := by decide +kernel
theorem d_de_rankOfOwners_67 : decode c_de_rankOfOwners 67 = .ok (.aload_n 0, 1) := by decide +kernel
theorem d_de_rankOfOwners_68 : decode c_de_rankOfOwners 68 = .ok (.getfield 18, 3) := by decide +kernel
theorem d_de_rankOfOwners_71 : decode c_de_rankOfOwners 71 = .ok (.iload 6, 2) := by decide +kernel
theorem d_de_rankOfOwners_73 : decode c_de_rankOfOwners 73 = .ok (.dup2, 1) := by decide +kernel
theorem d_de_rankOfOwners_74 : decode c_de_rankOfOwners 74 = .ok (.iaload, 1) := by decide +kernel
theorem d_de_rankOfOwners_75 : decode c_de_rankOfOwners 75 = .ok (.iconst 1, 1) := by decide +kernel
theorem d_de_rankOfOwners_76 : decode c_de_rankOfOwners 76 = .ok (.isub, 1) := by decide +kernel
theorem d_de_rankOfOwners_77 : decode c_de_rankOfOwners 77 = .ok (.iastore, 1) := by decide +kernel
theorem d_de_rankOfOwners_78 : decode c_de_rankOfOwners 78 = .ok (.iinc 5 1, 3) := by decide +kernel
theorem d_de_rankOfOwners_81 : decode c_de_rankOfOwners 81 = .ok (.goto (-68), 3) := by decide +kernel
theorem d_de_rankOfOwners_84 : decode c_de_rankOfOwners 84 = .ok (.lload_n 1, 1) := by decide +kernel
theorem d_de_rankOfOwners_85 : decode c_de_rankOfOwners 85 = .ok (.lreturn, 1) := by decide +kernel
abbrev c_de_fillLeft : ByteArray := prog_3_method_7_code
def y_de_fillLeft : MethodName := ⟨"ShortBridge$Deal", "fillLeft", "()V"⟩
theorem d_de_fillLeft_0 : decode c_de_fillLeft 0 = .ok (.iconst 0, 1) := by decide +kernel
theorem d_de_fillLeft_1 : decode c_de_fillLeft 1 = .ok (.istore_n 1, 1) := by decide +kernel
theorem d_de_fillLeft_2 : decode c_de_fillLeft 2 = .ok (.iload_n 1, 1) := by decide +kernel
theorem d_de_fillLeft_3 : decode c_de_fillLeft 3 = .ok (.iconst 4, 1) := by decide +kernel
theorem d_de_fillLeft_4 : decode c_de_fillLeft 4 = .ok (.if_icmp .ge 16, 3) := by decide +kernel
theorem d_de_fillLeft_7 : decode c_de_fillLeft 7 = .ok (.aload_n 0, 1) := by decide +kernel
theorem d_de_fillLeft_8 : decode c_de_fillLeft 8 = .ok (.getfield 18, 3) := by decide +kernel
theorem d_de_fillLeft_11 : decode c_de_fillLeft 11 = .ok (.iload_n 1, 1) := by decide +kernel
theorem d_de_fillLeft_12 : decode c_de_fillLeft 12 = .ok (.iconst 5, 1) := by decide +kernel
theorem d_de_fillLeft_13 : decode c_de_fillLeft 13 = .ok (.iastore, 1) := by decide +kernel
theorem d_de_fillLeft_14 : decode c_de_fillLeft 14 = .ok (.iinc 1 1, 3) := by decide +kernel
theorem d_de_fillLeft_17 : decode c_de_fillLeft 17 = .ok (.goto (-15), 3) := by decide +kernel
theorem d_de_fillLeft_20 : decode c_de_fillLeft 20 = .ok (.return_, 1) := by decide +kernel
abbrev c_de_share : ByteArray := prog_3_method_8_code
def y_de_share : MethodName := ⟨"ShortBridge$Deal", "share", "(JII)J"⟩
theorem d_de_share_0 : decode c_de_share 0 = .ok (.lload_n 1, 1) := by decide +kernel
theorem d_de_share_1 : decode c_de_share 1 = .ok (.aload_n 0, 1) := by decide +kernel
theorem d_de_share_2 : decode c_de_share 2 = .ok (.getfield 18, 3) := by decide +kernel
theorem d_de_share_5 : decode c_de_share 5 = .ok (.iload_n 3, 1) := by decide +kernel
theorem d_de_share_6 : decode c_de_share 6 = .ok (.iaload, 1) := by decide +kernel
theorem d_de_share_7 : decode c_de_share 7 = .ok (.i2l, 1) := by decide +kernel
theorem d_de_share_8 : decode c_de_share 8 = .ok (.lmul, 1) := by decide +kernel
theorem d_de_share_9 : decode c_de_share 9 = .ok (.bipush 20, 2) := by decide +kernel
theorem d_de_share_11 : decode c_de_share 11 = .ok (.iload 4, 2) := by decide +kernel
theorem d_de_share_13 : decode c_de_share 13 = .ok (.isub, 1) := by decide +kernel
theorem d_de_share_14 : decode c_de_share 14 = .ok (.i2l, 1) := by decide +kernel
theorem d_de_share_15 : decode c_de_share 15 = .ok (.ldiv, 1) := by decide +kernel
theorem d_de_share_16 : decode c_de_share 16 = .ok (.lreturn, 1) := by decide +kernel
abbrev c_ha_init : ByteArray := prog_4_method_1_code
def y_ha_init : MethodName := ⟨"ShortBridge$Hands", "<init>", "()V"⟩
theorem d_ha_init_0 : decode c_ha_init 0 = .ok (.aload_n 0, 1) := by decide +kernel
theorem d_ha_init_1 : decode c_ha_init 1 = .ok (.invokespecial 3, 3) := by decide +kernel
theorem d_ha_init_4 : decode c_ha_init 4 = .ok (.aload_n 0, 1) := by decide +kernel
theorem d_ha_init_5 : decode c_ha_init 5 = .ok (.iconst 4, 1) := by decide +kernel
theorem d_ha_init_6 : decode c_ha_init 6 = .ok (.newarray .int, 2) := by decide +kernel
theorem d_ha_init_8 : decode c_ha_init 8 = .ok (.putfield 9, 3) := by decide +kernel
theorem d_ha_init_11 : decode c_ha_init 11 = .ok (.aload_n 0, 1) := by decide +kernel
theorem d_ha_init_12 : decode c_ha_init 12 = .ok (.bipush 20, 2) := by decide +kernel
theorem d_ha_init_14 : decode c_ha_init 14 = .ok (.newarray .int, 2) := by decide +kernel
theorem d_ha_init_16 : decode c_ha_init 16 = .ok (.putfield 15, 3) := by decide +kernel
theorem d_ha_init_19 : decode c_ha_init 19 = .ok (.aload_n 0, 1) := by decide +kernel
theorem d_ha_init_20 : decode c_ha_init 20 = .ok (.bipush 20, 2) := by decide +kernel
theorem d_ha_init_22 : decode c_ha_init 22 = .ok (.newarray .int, 2) := by decide +kernel
theorem d_ha_init_24 : decode c_ha_init 24 = .ok (.putfield 18, 3) := by decide +kernel
theorem d_ha_init_27 : decode c_ha_init 27 = .ok (.aload_n 0, 1) := by decide +kernel
theorem d_ha_init_28 : decode c_ha_init 28 = .ok (.bipush 6, 2) := by decide +kernel
theorem d_ha_init_30 : decode c_ha_init 30 = .ok (.newarray .int, 2) := by decide +kernel
theorem d_ha_init_32 : decode c_ha_init 32 = .ok (.putfield 21, 3) := by decide +kernel
theorem d_ha_init_35 : decode c_ha_init 35 = .ok (.aload_n 0, 1) := by decide +kernel
theorem d_ha_init_36 : decode c_ha_init 36 = .ok (.iconst 4, 1) := by decide +kernel
theorem d_ha_init_37 : decode c_ha_init 37 = .ok (.putfield 24, 3) := by decide +kernel
theorem d_ha_init_40 : decode c_ha_init 40 = .ok (.return_, 1) := by decide +kernel
abbrev c_ha_take : ByteArray := prog_4_method_2_code
def y_ha_take : MethodName := ⟨"ShortBridge$Hands", "take", "(LShortBridge$Deal;)V"⟩
theorem d_ha_take_0 : decode c_ha_take 0 = .ok (.iconst 0, 1) := by decide +kernel
theorem d_ha_take_1 : decode c_ha_take 1 = .ok (.istore_n 2, 1) := by decide +kernel
theorem d_ha_take_2 : decode c_ha_take 2 = .ok (.iload_n 2, 1) := by decide +kernel
theorem d_ha_take_3 : decode c_ha_take 3 = .ok (.iconst 4, 1) := by decide +kernel
theorem d_ha_take_4 : decode c_ha_take 4 = .ok (.if_icmp .ge 15, 3) := by decide +kernel
theorem d_ha_take_7 : decode c_ha_take 7 = .ok (.aload_n 0, 1) := by decide +kernel
theorem d_ha_take_8 : decode c_ha_take 8 = .ok (.aload_n 1, 1) := by decide +kernel
theorem d_ha_take_9 : decode c_ha_take 9 = .ok (.iload_n 2, 1) := by decide +kernel
theorem d_ha_take_10 : decode c_ha_take 10 = .ok (.invokevirtual 28, 3) := by decide +kernel
theorem d_ha_take_13 : decode c_ha_take 13 = .ok (.iinc 2 1, 3) := by decide +kernel
theorem d_ha_take_16 : decode c_ha_take 16 = .ok (.goto (-14), 3) := by decide +kernel
theorem d_ha_take_19 : decode c_ha_take 19 = .ok (.aload_n 0, 1) := by decide +kernel
theorem d_ha_take_20 : decode c_ha_take 20 = .ok (.iconst 0, 1) := by decide +kernel
theorem d_ha_take_21 : decode c_ha_take 21 = .ok (.putfield 32, 3) := by decide +kernel
theorem d_ha_take_24 : decode c_ha_take 24 = .ok (.return_, 1) := by decide +kernel
abbrev c_ha_beginPlay : ByteArray := prog_4_method_3_code
def y_ha_beginPlay : MethodName := ⟨"ShortBridge$Hands", "beginPlay", "(II)V"⟩
theorem d_ha_beginPlay_0 : decode c_ha_beginPlay 0 = .ok (.aload_n 0, 1) := by decide +kernel
theorem d_ha_beginPlay_1 : decode c_ha_beginPlay 1 = .ok (.getfield 21, 3) := by decide +kernel
theorem d_ha_beginPlay_4 : decode c_ha_beginPlay 4 = .ok (.iconst 0, 1) := by decide +kernel
theorem d_ha_beginPlay_5 : decode c_ha_beginPlay 5 = .ok (.iload_n 1, 1) := by decide +kernel
theorem d_ha_beginPlay_6 : decode c_ha_beginPlay 6 = .ok (.iconst 1, 1) := by decide +kernel
theorem d_ha_beginPlay_7 : decode c_ha_beginPlay 7 = .ok (.invokestatic 35, 3) := by decide +kernel
theorem d_ha_beginPlay_10 : decode c_ha_beginPlay 10 = .ok (.iastore, 1) := by decide +kernel
theorem d_ha_beginPlay_11 : decode c_ha_beginPlay 11 = .ok (.aload_n 0, 1) := by decide +kernel
theorem d_ha_beginPlay_12 : decode c_ha_beginPlay 12 = .ok (.iload_n 2, 1) := by decide +kernel
theorem d_ha_beginPlay_13 : decode c_ha_beginPlay 13 = .ok (.putfield 24, 3) := by decide +kernel
theorem d_ha_beginPlay_16 : decode c_ha_beginPlay 16 = .ok (.return_, 1) := by decide +kernel
abbrev c_ha_areEmpty : ByteArray := prog_4_method_4_code
def y_ha_areEmpty : MethodName := ⟨"ShortBridge$Hands", "areEmpty", "()Z"⟩
theorem d_ha_areEmpty_0 : decode c_ha_areEmpty 0 = .ok (.aload_n 0, 1) := by decide +kernel
theorem d_ha_areEmpty_1 : decode c_ha_areEmpty 1 = .ok (.getfield 32, 3) := by decide +kernel
theorem d_ha_areEmpty_4 : decode c_ha_areEmpty 4 = .ok (.bipush 20, 2) := by decide +kernel
theorem d_ha_areEmpty_6 : decode c_ha_areEmpty 6 = .ok (.if_icmp .ne 7, 3) := by decide +kernel
theorem d_ha_areEmpty_9 : decode c_ha_areEmpty 9 = .ok (.iconst 1, 1) := by decide +kernel
theorem d_ha_areEmpty_10 : decode c_ha_areEmpty 10 = .ok (.goto 4, 3) := by decide +kernel
theorem d_ha_areEmpty_13 : decode c_ha_areEmpty 13 = .ok (.iconst 0, 1) := by decide +kernel
theorem d_ha_areEmpty_14 : decode c_ha_areEmpty 14 = .ok (.ireturn, 1) := by decide +kernel
abbrev c_ha_player : ByteArray := prog_4_method_5_code
def y_ha_player : MethodName := ⟨"ShortBridge$Hands", "player", "()I"⟩
theorem d_ha_player_0 : decode c_ha_player 0 = .ok (.aload_n 0, 1) := by decide +kernel
theorem d_ha_player_1 : decode c_ha_player 1 = .ok (.getfield 21, 3) := by decide +kernel
theorem d_ha_player_4 : decode c_ha_player 4 = .ok (.aload_n 0, 1) := by decide +kernel
theorem d_ha_player_5 : decode c_ha_player 5 = .ok (.getfield 32, 3) := by decide +kernel
theorem d_ha_player_8 : decode c_ha_player 8 = .ok (.iconst 4, 1) := by decide +kernel
theorem d_ha_player_9 : decode c_ha_player 9 = .ok (.idiv, 1) := by decide +kernel
theorem d_ha_player_10 : decode c_ha_player 10 = .ok (.iaload, 1) := by decide +kernel
theorem d_ha_player_11 : decode c_ha_player 11 = .ok (.aload_n 0, 1) := by decide +kernel
theorem d_ha_player_12 : decode c_ha_player 12 = .ok (.getfield 32, 3) := by decide +kernel
theorem d_ha_player_15 : decode c_ha_player 15 = .ok (.iconst 4, 1) := by decide +kernel
theorem d_ha_player_16 : decode c_ha_player 16 = .ok (.irem, 1) := by decide +kernel
theorem d_ha_player_17 : decode c_ha_player 17 = .ok (.invokestatic 35, 3) := by decide +kernel
theorem d_ha_player_20 : decode c_ha_player 20 = .ok (.ireturn, 1) := by decide +kernel
abbrev c_ha_holds : ByteArray := prog_4_method_6_code
def y_ha_holds : MethodName := ⟨"ShortBridge$Hands", "holds", "(II)Z"⟩
theorem d_ha_holds_0 : decode c_ha_holds 0 = .ok (.iload_n 2, 1) := by decide +kernel
theorem d_ha_holds_1 : decode c_ha_holds 1 = .ok (.ifCond .lt 27, 3) := by decide +kernel
theorem d_ha_holds_4 : decode c_ha_holds 4 = .ok (.iload_n 2, 1) := by decide +kernel
theorem d_ha_holds_5 : decode c_ha_holds 5 = .ok (.bipush 20, 2) := by decide +kernel
theorem d_ha_holds_7 : decode c_ha_holds 7 = .ok (.if_icmp .ge 21, 3) := by decide +kernel
theorem d_ha_holds_10 : decode c_ha_holds 10 = .ok (.aload_n 0, 1) := by decide +kernel
theorem d_ha_holds_11 : decode c_ha_holds 11 = .ok (.getfield 9, 3) := by decide +kernel
theorem d_ha_holds_14 : decode c_ha_holds 14 = .ok (.iload_n 1, 1) := by decide +kernel
theorem d_ha_holds_15 : decode c_ha_holds 15 = .ok (.iaload, 1) := by decide +kernel
theorem d_ha_holds_16 : decode c_ha_holds 16 = .ok (.iload_n 2, 1) := by decide +kernel
theorem d_ha_holds_17 : decode c_ha_holds 17 = .ok (.ishr, 1) := by decide +kernel
theorem d_ha_holds_18 : decode c_ha_holds 18 = .ok (.iconst 1, 1) := by decide +kernel
theorem d_ha_holds_19 : decode c_ha_holds 19 = .ok (.iand, 1) := by decide +kernel
theorem d_ha_holds_20 : decode c_ha_holds 20 = .ok (.iconst 1, 1) := by decide +kernel
theorem d_ha_holds_21 : decode c_ha_holds 21 = .ok (.if_icmp .ne 7, 3) := by decide +kernel
theorem d_ha_holds_24 : decode c_ha_holds 24 = .ok (.iconst 1, 1) := by decide +kernel
theorem d_ha_holds_25 : decode c_ha_holds 25 = .ok (.goto 4, 3) := by decide +kernel
theorem d_ha_holds_28 : decode c_ha_holds 28 = .ok (.iconst 0, 1) := by decide +kernel
theorem d_ha_holds_29 : decode c_ha_holds 29 = .ok (.ireturn, 1) := by decide +kernel
abbrev c_ha_allowed : ByteArray := prog_4_method_7_code
def y_ha_allowed : MethodName := ⟨"ShortBridge$Hands", "allowed", "()I"⟩
theorem d_ha_allowed_0 : decode c_ha_allowed 0 = .ok (.aload_n 0, 1) := by decide +kernel
theorem d_ha_allowed_1 : decode c_ha_allowed 1 = .ok (.getfield 9, 3) := by decide +kernel
theorem d_ha_allowed_4 : decode c_ha_allowed 4 = .ok (.aload_n 0, 1) := by decide +kernel
theorem d_ha_allowed_5 : decode c_ha_allowed 5 = .ok (.invokevirtual 39, 3) := by decide +kernel
theorem d_ha_allowed_8 : decode c_ha_allowed 8 = .ok (.iaload, 1) := by decide +kernel
theorem d_ha_allowed_9 : decode c_ha_allowed 9 = .ok (.istore_n 1, 1) := by decide +kernel
theorem d_ha_allowed_10 : decode c_ha_allowed 10 = .ok (.aload_n 0, 1) := by decide +kernel
theorem d_ha_allowed_11 : decode c_ha_allowed 11 = .ok (.getfield 32, 3) := by decide +kernel
theorem d_ha_allowed_14 : decode c_ha_allowed 14 = .ok (.iconst 4, 1) := by decide +kernel
theorem d_ha_allowed_15 : decode c_ha_allowed 15 = .ok (.irem, 1) := by decide +kernel
theorem d_ha_allowed_16 : decode c_ha_allowed 16 = .ok (.istore_n 2, 1) := by decide +kernel
theorem d_ha_allowed_17 : decode c_ha_allowed 17 = .ok (.iload_n 2, 1) := by decide +kernel
theorem d_ha_allowed_18 : decode c_ha_allowed 18 = .ok (.ifCond .ne 5, 3) := by decide +kernel
theorem d_ha_allowed_21 : decode c_ha_allowed 21 = .ok (.iload_n 1, 1) := by decide +kernel
theorem d_ha_allowed_22 : decode c_ha_allowed 22 = .ok (.ireturn, 1) := by decide +kernel
theorem d_ha_allowed_23 : decode c_ha_allowed 23 = .ok (.iload_n 1, 1) := by decide +kernel
theorem d_ha_allowed_24 : decode c_ha_allowed 24 = .ok (.bipush 31, 2) := by decide +kernel
theorem d_ha_allowed_26 : decode c_ha_allowed 26 = .ok (.aload_n 0, 1) := by decide +kernel
theorem d_ha_allowed_27 : decode c_ha_allowed 27 = .ok (.getfield 18, 3) := by decide +kernel
theorem d_ha_allowed_30 : decode c_ha_allowed 30 = .ok (.aload_n 0, 1) := by decide +kernel
theorem d_ha_allowed_31 : decode c_ha_allowed 31 = .ok (.getfield 32, 3) := by decide +kernel
theorem d_ha_allowed_34 : decode c_ha_allowed 34 = .ok (.iload_n 2, 1) := by decide +kernel
theorem d_ha_allowed_35 : decode c_ha_allowed 35 = .ok (.isub, 1) := by decide +kernel
theorem d_ha_allowed_36 : decode c_ha_allowed 36 = .ok (.iaload, 1) := by decide +kernel
theorem d_ha_allowed_37 : decode c_ha_allowed 37 = .ok (.iconst 5, 1) := by decide +kernel
theorem d_ha_allowed_38 : decode c_ha_allowed 38 = .ok (.idiv, 1) := by decide +kernel
theorem d_ha_allowed_39 : decode c_ha_allowed 39 = .ok (.iconst 5, 1) := by decide +kernel
theorem d_ha_allowed_40 : decode c_ha_allowed 40 = .ok (.imul, 1) := by decide +kernel
theorem d_ha_allowed_41 : decode c_ha_allowed 41 = .ok (.ishl, 1) := by decide +kernel
theorem d_ha_allowed_42 : decode c_ha_allowed 42 = .ok (.iand, 1) := by decide +kernel
theorem d_ha_allowed_43 : decode c_ha_allowed 43 = .ok (.istore_n 3, 1) := by decide +kernel
theorem d_ha_allowed_44 : decode c_ha_allowed 44 = .ok (.iload_n 3, 1) := by decide +kernel
theorem d_ha_allowed_45 : decode c_ha_allowed 45 = .ok (.ifCond .ne 7, 3) := by decide +kernel
theorem d_ha_allowed_48 : decode c_ha_allowed 48 = .ok (.iload_n 1, 1) := by decide +kernel
theorem d_ha_allowed_49 : decode c_ha_allowed 49 = .ok (.goto 4, 3) := by decide +kernel
theorem d_ha_allowed_52 : decode c_ha_allowed 52 = .ok (.iload_n 3, 1) := by decide +kernel
theorem d_ha_allowed_53 : decode c_ha_allowed 53 = .ok (.ireturn, 1) := by decide +kernel
abbrev c_ha_allow : ByteArray := prog_4_method_8_code
def y_ha_allow : MethodName := ⟨"ShortBridge$Hands", "allow", "(I)Z"⟩
theorem d_ha_allow_0 : decode c_ha_allow 0 = .ok (.aload_n 0, 1) := by decide +kernel
theorem d_ha_allow_1 : decode c_ha_allow 1 = .ok (.invokevirtual 43, 3) := by decide +kernel
theorem d_ha_allow_4 : decode c_ha_allow 4 = .ok (.iload_n 1, 1) := by decide +kernel
theorem d_ha_allow_5 : decode c_ha_allow 5 = .ok (.ishr, 1) := by decide +kernel
theorem d_ha_allow_6 : decode c_ha_allow 6 = .ok (.iconst 1, 1) := by decide +kernel
theorem d_ha_allow_7 : decode c_ha_allow 7 = .ok (.iand, 1) := by decide +kernel
theorem d_ha_allow_8 : decode c_ha_allow 8 = .ok (.iconst 1, 1) := by decide +kernel
theorem d_ha_allow_9 : decode c_ha_allow 9 = .ok (.if_icmp .ne 7, 3) := by decide +kernel
theorem d_ha_allow_12 : decode c_ha_allow 12 = .ok (.iconst 1, 1) := by decide +kernel
theorem d_ha_allow_13 : decode c_ha_allow 13 = .ok (.goto 4, 3) := by decide +kernel
theorem d_ha_allow_16 : decode c_ha_allow 16 = .ok (.iconst 0, 1) := by decide +kernel
theorem d_ha_allow_17 : decode c_ha_allow 17 = .ok (.ireturn, 1) := by decide +kernel
abbrev c_ha_put : ByteArray := prog_4_method_9_code
def y_ha_put : MethodName := ⟨"ShortBridge$Hands", "put", "(I)V"⟩
theorem d_ha_put_0 : decode c_ha_put 0 = .ok (.aload_n 0, 1) := by decide +kernel
theorem d_ha_put_1 : decode c_ha_put 1 = .ok (.getfield 32, 3) := by decide +kernel
theorem d_ha_put_4 : decode c_ha_put 4 = .ok (.bipush 20, 2) := by decide +kernel
theorem d_ha_put_6 : decode c_ha_put 6 = .ok (.if_icmp .ge 72, 3) := by decide +kernel
theorem d_ha_put_9 : decode c_ha_put 9 = .ok (.aload_n 0, 1) := by decide +kernel
theorem d_ha_put_10 : decode c_ha_put 10 = .ok (.getfield 9, 3) := by decide +kernel
theorem d_ha_put_13 : decode c_ha_put 13 = .ok (.aload_n 0, 1) := by decide +kernel
theorem d_ha_put_14 : decode c_ha_put 14 = .ok (.invokevirtual 39, 3) := by decide +kernel
theorem d_ha_put_17 : decode c_ha_put 17 = .ok (.dup2, 1) := by decide +kernel
theorem d_ha_put_18 : decode c_ha_put 18 = .ok (.iaload, 1) := by decide +kernel
theorem d_ha_put_19 : decode c_ha_put 19 = .ok (.iconst 1, 1) := by decide +kernel
theorem d_ha_put_20 : decode c_ha_put 20 = .ok (.iload_n 1, 1) := by decide +kernel
theorem d_ha_put_21 : decode c_ha_put 21 = .ok (.ishl, 1) := by decide +kernel
theorem d_ha_put_22 : decode c_ha_put 22 = .ok (.iconst (-1), 1) := by decide +kernel
theorem d_ha_put_23 : decode c_ha_put 23 = .ok (.ixor, 1) := by decide +kernel
theorem d_ha_put_24 : decode c_ha_put 24 = .ok (.iand, 1) := by decide +kernel
theorem d_ha_put_25 : decode c_ha_put 25 = .ok (.iastore, 1) := by decide +kernel
theorem d_ha_put_26 : decode c_ha_put 26 = .ok (.aload_n 0, 1) := by decide +kernel
theorem d_ha_put_27 : decode c_ha_put 27 = .ok (.getfield 18, 3) := by decide +kernel
theorem d_ha_put_30 : decode c_ha_put 30 = .ok (.aload_n 0, 1) := by decide +kernel
theorem d_ha_put_31 : decode c_ha_put 31 = .ok (.getfield 32, 3) := by decide +kernel
theorem d_ha_put_34 : decode c_ha_put 34 = .ok (.iload_n 1, 1) := by decide +kernel
theorem d_ha_put_35 : decode c_ha_put 35 = .ok (.iastore, 1) := by decide +kernel
theorem d_ha_put_36 : decode c_ha_put 36 = .ok (.aload_n 0, 1) := by decide +kernel
theorem d_ha_put_37 : decode c_ha_put 37 = .ok (.dup, 1) := by decide +kernel
theorem d_ha_put_38 : decode c_ha_put 38 = .ok (.getfield 32, 3) := by decide +kernel
theorem d_ha_put_41 : decode c_ha_put 41 = .ok (.iconst 1, 1) := by decide +kernel
theorem d_ha_put_42 : decode c_ha_put 42 = .ok (.iadd, 1) := by decide +kernel
theorem d_ha_put_43 : decode c_ha_put 43 = .ok (.putfield 32, 3) := by decide +kernel
theorem d_ha_put_46 : decode c_ha_put 46 = .ok (.aload_n 0, 1) := by decide +kernel
theorem d_ha_put_47 : decode c_ha_put 47 = .ok (.getfield 32, 3) := by decide +kernel
theorem d_ha_put_50 : decode c_ha_put 50 = .ok (.iconst 4, 1) := by decide +kernel
theorem d_ha_put_51 : decode c_ha_put 51 = .ok (.irem, 1) := by decide +kernel
theorem d_ha_put_52 : decode c_ha_put 52 = .ok (.ifCond .ne 26, 3) := by decide +kernel
theorem d_ha_put_55 : decode c_ha_put 55 = .ok (.aload_n 0, 1) := by decide +kernel
theorem d_ha_put_56 : decode c_ha_put 56 = .ok (.getfield 21, 3) := by decide +kernel
theorem d_ha_put_59 : decode c_ha_put 59 = .ok (.aload_n 0, 1) := by decide +kernel
theorem d_ha_put_60 : decode c_ha_put 60 = .ok (.getfield 32, 3) := by decide +kernel
theorem d_ha_put_63 : decode c_ha_put 63 = .ok (.iconst 4, 1) := by decide +kernel
theorem d_ha_put_64 : decode c_ha_put 64 = .ok (.idiv, 1) := by decide +kernel
theorem d_ha_put_65 : decode c_ha_put 65 = .ok (.aload_n 0, 1) := by decide +kernel
theorem d_ha_put_66 : decode c_ha_put 66 = .ok (.aload_n 0, 1) := by decide +kernel
theorem d_ha_put_67 : decode c_ha_put 67 = .ok (.getfield 32, 3) := by decide +kernel
theorem d_ha_put_70 : decode c_ha_put 70 = .ok (.iconst 4, 1) := by decide +kernel
theorem d_ha_put_71 : decode c_ha_put 71 = .ok (.idiv, 1) := by decide +kernel
theorem d_ha_put_72 : decode c_ha_put 72 = .ok (.iconst 1, 1) := by decide +kernel
theorem d_ha_put_73 : decode c_ha_put 73 = .ok (.isub, 1) := by decide +kernel
theorem d_ha_put_74 : decode c_ha_put 74 = .ok (.invokevirtual 46, 3) := by decide +kernel
theorem d_ha_put_77 : decode c_ha_put 77 = .ok (.iastore, 1) := by decide +kernel
theorem d_ha_put_78 : decode c_ha_put 78 = .ok (.return_, 1) := by decide +kernel
abbrev c_ha_takeBack : ByteArray := prog_4_method_10_code
def y_ha_takeBack : MethodName := ⟨"ShortBridge$Hands", "takeBack", "()V"⟩
theorem d_ha_takeBack_0 : decode c_ha_takeBack 0 = .ok (.aload_n 0, 1) := by decide +kernel
theorem d_ha_takeBack_1 : decode c_ha_takeBack 1 = .ok (.getfield 32, 3) := by decide +kernel
theorem d_ha_takeBack_4 : decode c_ha_takeBack 4 = .ok (.ifCond .le 36, 3) := by decide +kernel
theorem d_ha_takeBack_7 : decode c_ha_takeBack 7 = .ok (.aload_n 0, 1) := by decide +kernel
theorem d_ha_takeBack_8 : decode c_ha_takeBack 8 = .ok (.dup, 1) := by decide +kernel
theorem d_ha_takeBack_9 : decode c_ha_takeBack 9 = .ok (.getfield 32, 3) := by decide +kernel
theorem d_ha_takeBack_12 : decode c_ha_takeBack 12 = .ok (.iconst 1, 1) := by decide +kernel
theorem d_ha_takeBack_13 : decode c_ha_takeBack 13 = .ok (.isub, 1) := by decide +kernel
theorem d_ha_takeBack_14 : decode c_ha_takeBack 14 = .ok (.putfield 32, 3) := by decide +kernel
theorem d_ha_takeBack_17 : decode c_ha_takeBack 17 = .ok (.aload_n 0, 1) := by decide +kernel
theorem d_ha_takeBack_18 : decode c_ha_takeBack 18 = .ok (.getfield 9, 3) := by decide +kernel
theorem d_ha_takeBack_21 : decode c_ha_takeBack 21 = .ok (.aload_n 0, 1) := by decide +kernel
theorem d_ha_takeBack_22 : decode c_ha_takeBack 22 = .ok (.invokevirtual 39, 3) := by decide +kernel
theorem d_ha_takeBack_25 : decode c_ha_takeBack 25 = .ok (.dup2, 1) := by decide +kernel
theorem d_ha_takeBack_26 : decode c_ha_takeBack 26 = .ok (.iaload, 1) := by decide +kernel
theorem d_ha_takeBack_27 : decode c_ha_takeBack 27 = .ok (.iconst 1, 1) := by decide +kernel
theorem d_ha_takeBack_28 : decode c_ha_takeBack 28 = .ok (.aload_n 0, 1) := by decide +kernel
theorem d_ha_takeBack_29 : decode c_ha_takeBack 29 = .ok (.getfield 18, 3) := by decide +kernel
theorem d_ha_takeBack_32 : decode c_ha_takeBack 32 = .ok (.aload_n 0, 1) := by decide +kernel
theorem d_ha_takeBack_33 : decode c_ha_takeBack 33 = .ok (.getfield 32, 3) := by decide +kernel
theorem d_ha_takeBack_36 : decode c_ha_takeBack 36 = .ok (.iaload, 1) := by decide +kernel
theorem d_ha_takeBack_37 : decode c_ha_takeBack 37 = .ok (.ishl, 1) := by decide +kernel
theorem d_ha_takeBack_38 : decode c_ha_takeBack 38 = .ok (.ior, 1) := by decide +kernel
theorem d_ha_takeBack_39 : decode c_ha_takeBack 39 = .ok (.iastore, 1) := by decide +kernel
theorem d_ha_takeBack_40 : decode c_ha_takeBack 40 = .ok (.return_, 1) := by decide +kernel
abbrev c_ha_won : ByteArray := prog_4_method_11_code
def y_ha_won : MethodName := ⟨"ShortBridge$Hands", "won", "(I)I"⟩
theorem d_ha_won_0 : decode c_ha_won 0 = .ok (.iconst 0, 1) := by decide +kernel
theorem d_ha_won_1 : decode c_ha_won 1 = .ok (.istore_n 2, 1) := by decide +kernel
theorem d_ha_won_2 : decode c_ha_won 2 = .ok (.iconst 1, 1) := by decide +kernel
theorem d_ha_won_3 : decode c_ha_won 3 = .ok (.istore_n 3, 1) := by decide +kernel
theorem d_ha_won_4 : decode c_ha_won 4 = .ok (.iload_n 3, 1) := by decide +kernel
theorem d_ha_won_5 : decode c_ha_won 5 = .ok (.aload_n 0, 1) := by decide +kernel
theorem d_ha_won_6 : decode c_ha_won 6 = .ok (.getfield 32, 3) := by decide +kernel
theorem d_ha_won_9 : decode c_ha_won 9 = .ok (.iconst 4, 1) := by decide +kernel
theorem d_ha_won_10 : decode c_ha_won 10 = .ok (.idiv, 1) := by decide +kernel
theorem d_ha_won_11 : decode c_ha_won 11 = .ok (.if_icmp .gt 25, 3) := by decide +kernel
theorem d_ha_won_14 : decode c_ha_won 14 = .ok (.aload_n 0, 1) := by decide +kernel
theorem d_ha_won_15 : decode c_ha_won 15 = .ok (.getfield 21, 3) := by decide +kernel
theorem d_ha_won_18 : decode c_ha_won 18 = .ok (.iload_n 3, 1) := by decide +kernel
theorem d_ha_won_19 : decode c_ha_won 19 = .ok (.iaload, 1) := by decide +kernel
theorem d_ha_won_20 : decode c_ha_won 20 = .ok (.invokestatic 50, 3) := by decide +kernel
theorem d_ha_won_23 : decode c_ha_won 23 = .ok (.iload_n 1, 1) := by decide +kernel
theorem d_ha_won_24 : decode c_ha_won 24 = .ok (.if_icmp .ne 6, 3) := by decide +kernel
theorem d_ha_won_27 : decode c_ha_won 27 = .ok (.iinc 2 1, 3) := by decide +kernel
theorem d_ha_won_30 : decode c_ha_won 30 = .ok (.iinc 3 1, 3) := by decide +kernel
theorem d_ha_won_33 : decode c_ha_won 33 = .ok (.goto (-29), 3) := by decide +kernel
theorem d_ha_won_36 : decode c_ha_won 36 = .ok (.iload_n 2, 1) := by decide +kernel
theorem d_ha_won_37 : decode c_ha_won 37 = .ok (.ireturn, 1) := by decide +kernel
abbrev c_ha_onTable : ByteArray := prog_4_method_12_code
def y_ha_onTable : MethodName := ⟨"ShortBridge$Hands", "onTable", "(I)I"⟩
theorem d_ha_onTable_0 : decode c_ha_onTable 0 = .ok (.aload_n 0, 1) := by decide +kernel
theorem d_ha_onTable_1 : decode c_ha_onTable 1 = .ok (.getfield 32, 3) := by decide +kernel
theorem d_ha_onTable_4 : decode c_ha_onTable 4 = .ok (.iconst 4, 1) := by decide +kernel
theorem d_ha_onTable_5 : decode c_ha_onTable 5 = .ok (.irem, 1) := by decide +kernel
theorem d_ha_onTable_6 : decode c_ha_onTable 6 = .ok (.istore_n 2, 1) := by decide +kernel
theorem d_ha_onTable_7 : decode c_ha_onTable 7 = .ok (.iload_n 1, 1) := by decide +kernel
theorem d_ha_onTable_8 : decode c_ha_onTable 8 = .ok (.ifCond .lt 24, 3) := by decide +kernel
theorem d_ha_onTable_11 : decode c_ha_onTable 11 = .ok (.iload_n 1, 1) := by decide +kernel
theorem d_ha_onTable_12 : decode c_ha_onTable 12 = .ok (.iload_n 2, 1) := by decide +kernel
theorem d_ha_onTable_13 : decode c_ha_onTable 13 = .ok (.if_icmp .ge 19, 3) := by decide +kernel
theorem d_ha_onTable_16 : decode c_ha_onTable 16 = .ok (.aload_n 0, 1) := by decide +kernel
theorem d_ha_onTable_17 : decode c_ha_onTable 17 = .ok (.getfield 18, 3) := by decide +kernel
theorem d_ha_onTable_20 : decode c_ha_onTable 20 = .ok (.aload_n 0, 1) := by decide +kernel
theorem d_ha_onTable_21 : decode c_ha_onTable 21 = .ok (.getfield 32, 3) := by decide +kernel
theorem d_ha_onTable_24 : decode c_ha_onTable 24 = .ok (.iload_n 2, 1) := by decide +kernel
theorem d_ha_onTable_25 : decode c_ha_onTable 25 = .ok (.isub, 1) := by decide +kernel
theorem d_ha_onTable_26 : decode c_ha_onTable 26 = .ok (.iload_n 1, 1) := by decide +kernel
theorem d_ha_onTable_27 : decode c_ha_onTable 27 = .ok (.iadd, 1) := by decide +kernel
theorem d_ha_onTable_28 : decode c_ha_onTable 28 = .ok (.iaload, 1) := by decide +kernel
theorem d_ha_onTable_29 : decode c_ha_onTable 29 = .ok (.goto 4, 3) := by decide +kernel
theorem d_ha_onTable_32 : decode c_ha_onTable 32 = .ok (.iconst (-1), 1) := by decide +kernel
theorem d_ha_onTable_33 : decode c_ha_onTable 33 = .ok (.ireturn, 1) := by decide +kernel
abbrev c_ha_live : ByteArray := prog_4_method_13_code
def y_ha_live : MethodName := ⟨"ShortBridge$Hands", "live", "()I"⟩
theorem d_ha_live_0 : decode c_ha_live 0 = .ok (.aload_n 0, 1) := by decide +kernel
theorem d_ha_live_1 : decode c_ha_live 1 = .ok (.getfield 9, 3) := by decide +kernel
theorem d_ha_live_4 : decode c_ha_live 4 = .ok (.iconst 0, 1) := by decide +kernel
theorem d_ha_live_5 : decode c_ha_live 5 = .ok (.iaload, 1) := by decide +kernel
theorem d_ha_live_6 : decode c_ha_live 6 = .ok (.aload_n 0, 1) := by decide +kernel
theorem d_ha_live_7 : decode c_ha_live 7 = .ok (.getfield 9, 3) := by decide +kernel
theorem d_ha_live_10 : decode c_ha_live 10 = .ok (.iconst 1, 1) := by decide +kernel
theorem d_ha_live_11 : decode c_ha_live 11 = .ok (.iaload, 1) := by decide +kernel
theorem d_ha_live_12 : decode c_ha_live 12 = .ok (.ior, 1) := by decide +kernel
theorem d_ha_live_13 : decode c_ha_live 13 = .ok (.aload_n 0, 1) := by decide +kernel
theorem d_ha_live_14 : decode c_ha_live 14 = .ok (.getfield 9, 3) := by decide +kernel
theorem d_ha_live_17 : decode c_ha_live 17 = .ok (.iconst 2, 1) := by decide +kernel
theorem d_ha_live_18 : decode c_ha_live 18 = .ok (.iaload, 1) := by decide +kernel
theorem d_ha_live_19 : decode c_ha_live 19 = .ok (.ior, 1) := by decide +kernel
theorem d_ha_live_20 : decode c_ha_live 20 = .ok (.aload_n 0, 1) := by decide +kernel
theorem d_ha_live_21 : decode c_ha_live 21 = .ok (.getfield 9, 3) := by decide +kernel
theorem d_ha_live_24 : decode c_ha_live 24 = .ok (.iconst 3, 1) := by decide +kernel
theorem d_ha_live_25 : decode c_ha_live 25 = .ok (.iaload, 1) := by decide +kernel
theorem d_ha_live_26 : decode c_ha_live 26 = .ok (.ior, 1) := by decide +kernel
theorem d_ha_live_27 : decode c_ha_live 27 = .ok (.istore_n 1, 1) := by decide +kernel
theorem d_ha_live_28 : decode c_ha_live 28 = .ok (.aload_n 0, 1) := by decide +kernel
theorem d_ha_live_29 : decode c_ha_live 29 = .ok (.getfield 32, 3) := by decide +kernel
theorem d_ha_live_32 : decode c_ha_live 32 = .ok (.aload_n 0, 1) := by decide +kernel
theorem d_ha_live_33 : decode c_ha_live 33 = .ok (.getfield 32, 3) := by decide +kernel
theorem d_ha_live_36 : decode c_ha_live 36 = .ok (.iconst 4, 1) := by decide +kernel
theorem d_ha_live_37 : decode c_ha_live 37 = .ok (.irem, 1) := by decide +kernel
theorem d_ha_live_38 : decode c_ha_live 38 = .ok (.isub, 1) := by decide +kernel
theorem d_ha_live_39 : decode c_ha_live 39 = .ok (.istore_n 2, 1) := by decide +kernel
theorem d_ha_live_40 : decode c_ha_live 40 = .ok (.iload_n 2, 1) := by decide +kernel
theorem d_ha_live_41 : decode c_ha_live 41 = .ok (.aload_n 0, 1) := by decide +kernel
theorem d_ha_live_42 : decode c_ha_live 42 = .ok (.getfield 32, 3) := by decide +kernel
theorem d_ha_live_45 : decode c_ha_live 45 = .ok (.if_icmp .ge 20, 3) := by decide +kernel
theorem d_ha_live_48 : decode c_ha_live 48 = .ok (.iload_n 1, 1) := by decide +kernel
theorem d_ha_live_49 : decode c_ha_live 49 = .ok (.iconst 1, 1) := by decide +kernel
theorem d_ha_live_50 : decode c_ha_live 50 = .ok (.aload_n 0, 1) := by decide +kernel
theorem d_ha_live_51 : decode c_ha_live 51 = .ok (.getfield 18, 3) := by decide +kernel
theorem d_ha_live_54 : decode c_ha_live 54 = .ok (.iload_n 2, 1) := by decide +kernel
theorem d_ha_live_55 : decode c_ha_live 55 = .ok (.iaload, 1) := by decide +kernel
theorem d_ha_live_56 : decode c_ha_live 56 = .ok (.ishl, 1) := by decide +kernel
theorem d_ha_live_57 : decode c_ha_live 57 = .ok (.ior, 1) := by decide +kernel
theorem d_ha_live_58 : decode c_ha_live 58 = .ok (.istore_n 1, 1) := by decide +kernel
theorem d_ha_live_59 : decode c_ha_live 59 = .ok (.iinc 2 1, 3) := by decide +kernel
theorem d_ha_live_62 : decode c_ha_live 62 = .ok (.goto (-22), 3) := by decide +kernel
theorem d_ha_live_65 : decode c_ha_live 65 = .ok (.iload_n 1, 1) := by decide +kernel
theorem d_ha_live_66 : decode c_ha_live 66 = .ok (.ireturn, 1) := by decide +kernel
abbrev c_ha_takeHand : ByteArray := prog_4_method_14_code
def y_ha_takeHand : MethodName := ⟨"ShortBridge$Hands", "takeHand", "(LShortBridge$Deal;I)V"⟩
theorem d_ha_takeHand_0 : decode c_ha_takeHand 0 = .ok (.aload_n 0, 1) := by decide +kernel
theorem d_ha_takeHand_1 : decode c_ha_takeHand 1 = .ok (.getfield 9, 3) := by decide +kernel
theorem d_ha_takeHand_4 : decode c_ha_takeHand 4 = .ok (.iload_n 2, 1) := by decide +kernel
theorem d_ha_takeHand_5 : decode c_ha_takeHand 5 = .ok (.iconst 0, 1) := by decide +kernel
theorem d_ha_takeHand_6 : decode c_ha_takeHand 6 = .ok (.iastore, 1) := by decide +kernel
theorem d_ha_takeHand_7 : decode c_ha_takeHand 7 = .ok (.iload_n 2, 1) := by decide +kernel
theorem d_ha_takeHand_8 : decode c_ha_takeHand 8 = .ok (.iconst 5, 1) := by decide +kernel
theorem d_ha_takeHand_9 : decode c_ha_takeHand 9 = .ok (.imul, 1) := by decide +kernel
theorem d_ha_takeHand_10 : decode c_ha_takeHand 10 = .ok (.istore_n 3, 1) := by decide +kernel
theorem d_ha_takeHand_11 : decode c_ha_takeHand 11 = .ok (.bipush 19, 2) := by decide +kernel
theorem d_ha_takeHand_13 : decode c_ha_takeHand 13 = .ok (.istore 4, 2) := by decide +kernel
theorem d_ha_takeHand_15 : decode c_ha_takeHand 15 = .ok (.iload 4, 2) := by decide +kernel
theorem d_ha_takeHand_17 : decode c_ha_takeHand 17 = .ok (.ifCond .lt 50, 3) := by decide +kernel
theorem d_ha_takeHand_20 : decode c_ha_takeHand 20 = .ok (.iload_n 3, 1) := by decide +kernel
theorem d_ha_takeHand_21 : decode c_ha_takeHand 21 = .ok (.bipush 20, 2) := by decide +kernel
theorem d_ha_takeHand_23 : decode c_ha_takeHand 23 = .ok (.if_icmp .ge 44, 3) := by decide +kernel
theorem d_ha_takeHand_26 : decode c_ha_takeHand 26 = .ok (.aload_n 1, 1) := by decide +kernel
theorem d_ha_takeHand_27 : decode c_ha_takeHand 27 = .ok (.getfield 53, 3) := by decide +kernel
theorem d_ha_takeHand_30 : decode c_ha_takeHand 30 = .ok (.iload 4, 2) := by decide +kernel
theorem d_ha_takeHand_32 : decode c_ha_takeHand 32 = .ok (.iaload, 1) := by decide +kernel
theorem d_ha_takeHand_33 : decode c_ha_takeHand 33 = .ok (.iload_n 2, 1) := by decide +kernel
theorem d_ha_takeHand_34 : decode c_ha_takeHand 34 = .ok (.if_icmp .ne 27, 3) := by decide +kernel
theorem d_ha_takeHand_37 : decode c_ha_takeHand 37 = .ok (.aload_n 0, 1) := by decide +kernel
theorem d_ha_takeHand_38 : decode c_ha_takeHand 38 = .ok (.getfield 9, 3) := by decide +kernel
theorem d_ha_takeHand_41 : decode c_ha_takeHand 41 = .ok (.iload_n 2, 1) := by decide +kernel
theorem d_ha_takeHand_42 : decode c_ha_takeHand 42 = .ok (.dup2, 1) := by decide +kernel
theorem d_ha_takeHand_43 : decode c_ha_takeHand 43 = .ok (.iaload, 1) := by decide +kernel
theorem d_ha_takeHand_44 : decode c_ha_takeHand 44 = .ok (.iconst 1, 1) := by decide +kernel
theorem d_ha_takeHand_45 : decode c_ha_takeHand 45 = .ok (.iload 4, 2) := by decide +kernel
theorem d_ha_takeHand_47 : decode c_ha_takeHand 47 = .ok (.ishl, 1) := by decide +kernel
theorem d_ha_takeHand_48 : decode c_ha_takeHand 48 = .ok (.ior, 1) := by decide +kernel
theorem d_ha_takeHand_49 : decode c_ha_takeHand 49 = .ok (.iastore, 1) := by decide +kernel
theorem d_ha_takeHand_50 : decode c_ha_takeHand 50 = .ok (.aload_n 0, 1) := by decide +kernel
theorem d_ha_takeHand_51 : decode c_ha_takeHand 51 = .ok (.getfield 15, 3) := by decide +kernel
theorem d_ha_takeHand_54 : decode c_ha_takeHand 54 = .ok (.iload_n 3, 1) := by decide +kernel
theorem d_ha_takeHand_55 : decode c_ha_takeHand 55 = .ok (.iload 4, 2) := by decide +kernel
theorem d_ha_takeHand_57 : decode c_ha_takeHand 57 = .ok (.iastore, 1) := by decide +kernel
theorem d_ha_takeHand_58 : decode c_ha_takeHand 58 = .ok (.iinc 3 1, 3) := by decide +kernel
theorem d_ha_takeHand_61 : decode c_ha_takeHand 61 = .ok (.iinc 4 (-1), 3) := by decide +kernel
theorem d_ha_takeHand_64 : decode c_ha_takeHand 64 = .ok (.goto (-49), 3) := by decide +kernel
theorem d_ha_takeHand_67 : decode c_ha_takeHand 67 = .ok (.return_, 1) := by decide +kernel
abbrev c_ha_winnerOf : ByteArray := prog_4_method_15_code
def y_ha_winnerOf : MethodName := ⟨"ShortBridge$Hands", "winnerOf", "(I)I"⟩
theorem d_ha_winnerOf_0 : decode c_ha_winnerOf 0 = .ok (.iload_n 1, 1) := by decide +kernel
theorem d_ha_winnerOf_1 : decode c_ha_winnerOf 1 = .ok (.iconst 4, 1) := by decide +kernel
theorem d_ha_winnerOf_2 : decode c_ha_winnerOf 2 = .ok (.imul, 1) := by decide +kernel
theorem d_ha_winnerOf_3 : decode c_ha_winnerOf 3 = .ok (.istore_n 2, 1) := by decide +kernel
theorem d_ha_winnerOf_4 : decode c_ha_winnerOf 4 = .ok (.iconst 0, 1) := by decide +kernel
theorem d_ha_winnerOf_5 : decode c_ha_winnerOf 5 = .ok (.istore_n 3, 1) := by decide +kernel
theorem d_ha_winnerOf_6 : decode c_ha_winnerOf 6 = .ok (.iconst 1, 1) := by decide +kernel
theorem d_ha_winnerOf_7 : decode c_ha_winnerOf 7 = .ok (.istore 4, 2) := by decide +kernel
theorem d_ha_winnerOf_9 : decode c_ha_winnerOf 9 = .ok (.iload 4, 2) := by decide +kernel
theorem d_ha_winnerOf_11 : decode c_ha_winnerOf 11 = .ok (.iconst 4, 1) := by decide +kernel
theorem d_ha_winnerOf_12 : decode c_ha_winnerOf 12 = .ok (.if_icmp .ge 36, 3) := by decide +kernel
theorem d_ha_winnerOf_15 : decode c_ha_winnerOf 15 = .ok (.aload_n 0, 1) := by decide +kernel
theorem d_ha_winnerOf_16 : decode c_ha_winnerOf 16 = .ok (.aload_n 0, 1) := by decide +kernel
theorem d_ha_winnerOf_17 : decode c_ha_winnerOf 17 = .ok (.getfield 18, 3) := by decide +kernel
theorem d_ha_winnerOf_20 : decode c_ha_winnerOf 20 = .ok (.iload_n 2, 1) := by decide +kernel
theorem d_ha_winnerOf_21 : decode c_ha_winnerOf 21 = .ok (.iload 4, 2) := by decide +kernel
theorem d_ha_winnerOf_23 : decode c_ha_winnerOf 23 = .ok (.iadd, 1) := by decide +kernel
theorem d_ha_winnerOf_24 : decode c_ha_winnerOf 24 = .ok (.iaload, 1) := by decide +kernel
theorem d_ha_winnerOf_25 : decode c_ha_winnerOf 25 = .ok (.aload_n 0, 1) := by decide +kernel
theorem d_ha_winnerOf_26 : decode c_ha_winnerOf 26 = .ok (.getfield 18, 3) := by decide +kernel
theorem d_ha_winnerOf_29 : decode c_ha_winnerOf 29 = .ok (.iload_n 2, 1) := by decide +kernel
theorem d_ha_winnerOf_30 : decode c_ha_winnerOf 30 = .ok (.iload_n 3, 1) := by decide +kernel
theorem d_ha_winnerOf_31 : decode c_ha_winnerOf 31 = .ok (.iadd, 1) := by decide +kernel
theorem d_ha_winnerOf_32 : decode c_ha_winnerOf 32 = .ok (.iaload, 1) := by decide +kernel
theorem d_ha_winnerOf_33 : decode c_ha_winnerOf 33 = .ok (.invokevirtual 58, 3) := by decide +kernel
theorem d_ha_winnerOf_36 : decode c_ha_winnerOf 36 = .ok (.ifCond .eq 6, 3) := by decide +kernel
theorem d_ha_winnerOf_39 : decode c_ha_winnerOf 39 = .ok (.iload 4, 2) := by decide +kernel
theorem d_ha_winnerOf_41 : decode c_ha_winnerOf 41 = .ok (.istore_n 3, 1) := by decide +kernel
theorem d_ha_winnerOf_42 : decode c_ha_winnerOf 42 = .ok (.iinc 4 1, 3) := by decide +kernel
theorem d_ha_winnerOf_45 : decode c_ha_winnerOf 45 = .ok (.goto (-36), 3) := by decide +kernel
theorem d_ha_winnerOf_48 : decode c_ha_winnerOf 48 = .ok (.aload_n 0, 1) := by decide +kernel
theorem d_ha_winnerOf_49 : decode c_ha_winnerOf 49 = .ok (.getfield 21, 3) := by decide +kernel
theorem d_ha_winnerOf_52 : decode c_ha_winnerOf 52 = .ok (.iload_n 1, 1) := by decide +kernel
theorem d_ha_winnerOf_53 : decode c_ha_winnerOf 53 = .ok (.iaload, 1) := by decide +kernel
theorem d_ha_winnerOf_54 : decode c_ha_winnerOf 54 = .ok (.iload_n 3, 1) := by decide +kernel
theorem d_ha_winnerOf_55 : decode c_ha_winnerOf 55 = .ok (.invokestatic 35, 3) := by decide +kernel
theorem d_ha_winnerOf_58 : decode c_ha_winnerOf 58 = .ok (.ireturn, 1) := by decide +kernel
abbrev c_ha_beats : ByteArray := prog_4_method_16_code
def y_ha_beats : MethodName := ⟨"ShortBridge$Hands", "beats", "(II)Z"⟩
theorem d_ha_beats_0 : decode c_ha_beats 0 = .ok (.iload_n 1, 1) := by decide +kernel
theorem d_ha_beats_1 : decode c_ha_beats 1 = .ok (.iconst 5, 1) := by decide +kernel
theorem d_ha_beats_2 : decode c_ha_beats 2 = .ok (.idiv, 1) := by decide +kernel
theorem d_ha_beats_3 : decode c_ha_beats 3 = .ok (.istore_n 3, 1) := by decide +kernel
theorem d_ha_beats_4 : decode c_ha_beats 4 = .ok (.iload_n 3, 1) := by decide +kernel
theorem d_ha_beats_5 : decode c_ha_beats 5 = .ok (.iload_n 2, 1) := by decide +kernel
theorem d_ha_beats_6 : decode c_ha_beats 6 = .ok (.iconst 5, 1) := by decide +kernel
theorem d_ha_beats_7 : decode c_ha_beats 7 = .ok (.idiv, 1) := by decide +kernel
theorem d_ha_beats_8 : decode c_ha_beats 8 = .ok (.if_icmp .ne 16, 3) := by decide +kernel
theorem d_ha_beats_11 : decode c_ha_beats 11 = .ok (.iload_n 1, 1) := by decide +kernel
theorem d_ha_beats_12 : decode c_ha_beats 12 = .ok (.iload_n 2, 1) := by decide +kernel
theorem d_ha_beats_13 : decode c_ha_beats 13 = .ok (.if_icmp .le 7, 3) := by decide +kernel
theorem d_ha_beats_16 : decode c_ha_beats 16 = .ok (.iconst 1, 1) := by decide +kernel
theorem d_ha_beats_17 : decode c_ha_beats 17 = .ok (.goto 20, 3) := by decide +kernel
theorem d_ha_beats_20 : decode c_ha_beats 20 = .ok (.iconst 0, 1) := by decide +kernel
theorem d_ha_beats_21 : decode c_ha_beats 21 = .ok (.goto 16, 3) := by decide +kernel
theorem d_ha_beats_24 : decode c_ha_beats 24 = .ok (.iload_n 3, 1) := by decide +kernel
theorem d_ha_beats_25 : decode c_ha_beats 25 = .ok (.aload_n 0, 1) := by decide +kernel
theorem d_ha_beats_26 : decode c_ha_beats 26 = .ok (.getfield 24, 3) := by decide +kernel
theorem d_ha_beats_29 : decode c_ha_beats 29 = .ok (.if_icmp .ne 7, 3) := by decide +kernel
theorem d_ha_beats_32 : decode c_ha_beats 32 = .ok (.iconst 1, 1) := by decide +kernel
theorem d_ha_beats_33 : decode c_ha_beats 33 = .ok (.goto 4, 3) := by decide +kernel
theorem d_ha_beats_36 : decode c_ha_beats 36 = .ok (.iconst 0, 1) := by decide +kernel
theorem d_ha_beats_37 : decode c_ha_beats 37 = .ok (.ireturn, 1) := by decide +kernel
abbrev c_re_init : ByteArray := prog_5_method_1_code
def y_re_init : MethodName := ⟨"ShortBridge$Results", "<init>", "()V"⟩
theorem d_re_init_0 : decode c_re_init 0 = .ok (.aload_n 0, 1) := by decide +kernel
theorem d_re_init_1 : decode c_re_init 1 = .ok (.invokespecial 1, 3) := by decide +kernel
theorem d_re_init_4 : decode c_re_init 4 = .ok (.aload_n 0, 1) := by decide +kernel
theorem d_re_init_5 : decode c_re_init 5 = .ok (.bipush 12, 2) := by decide +kernel
theorem d_re_init_7 : decode c_re_init 7 = .ok (.newarray .long, 2) := by decide +kernel
theorem d_re_init_9 : decode c_re_init 9 = .ok (.putfield 9, 3) := by decide +kernel
theorem d_re_init_12 : decode c_re_init 12 = .ok (.aload_n 0, 1) := by decide +kernel
theorem d_re_init_13 : decode c_re_init 13 = .ok (.bipush 12, 2) := by decide +kernel
theorem d_re_init_15 : decode c_re_init 15 = .ok (.newarray .int, 2) := by decide +kernel
theorem d_re_init_17 : decode c_re_init 17 = .ok (.putfield 13, 3) := by decide +kernel
theorem d_re_init_20 : decode c_re_init 20 = .ok (.return_, 1) := by decide +kernel
abbrev c_re_areFull : ByteArray := prog_5_method_2_code
def y_re_areFull : MethodName := ⟨"ShortBridge$Results", "areFull", "()Z"⟩
theorem d_re_areFull_0 : decode c_re_areFull 0 = .ok (.aload_n 0, 1) := by decide +kernel
theorem d_re_areFull_1 : decode c_re_areFull 1 = .ok (.getfield 17, 3) := by decide +kernel
theorem d_re_areFull_4 : decode c_re_areFull 4 = .ok (.bipush 12, 2) := by decide +kernel
theorem d_re_areFull_6 : decode c_re_areFull 6 = .ok (.if_icmp .ne 7, 3) := by decide +kernel
theorem d_re_areFull_9 : decode c_re_areFull 9 = .ok (.iconst 1, 1) := by decide +kernel
theorem d_re_areFull_10 : decode c_re_areFull 10 = .ok (.goto 4, 3) := by decide +kernel
theorem d_re_areFull_13 : decode c_re_areFull 13 = .ok (.iconst 0, 1) := by decide +kernel
theorem d_re_areFull_14 : decode c_re_areFull 14 = .ok (.ireturn, 1) := by decide +kernel
abbrev c_re_contain : ByteArray := prog_5_method_3_code
def y_re_contain : MethodName := ⟨"ShortBridge$Results", "contain", "(I)Z"⟩
theorem d_re_contain_0 : decode c_re_contain 0 = .ok (.iload_n 1, 1) := by decide +kernel
theorem d_re_contain_1 : decode c_re_contain 1 = .ok (.ifCond .lt 15, 3) := by decide +kernel
theorem d_re_contain_4 : decode c_re_contain 4 = .ok (.iload_n 1, 1) := by decide +kernel
theorem d_re_contain_5 : decode c_re_contain 5 = .ok (.aload_n 0, 1) := by decide +kernel
theorem d_re_contain_6 : decode c_re_contain 6 = .ok (.getfield 17, 3) := by decide +kernel
theorem d_re_contain_9 : decode c_re_contain 9 = .ok (.if_icmp .ge 7, 3) := by decide +kernel
theorem d_re_contain_12 : decode c_re_contain 12 = .ok (.iconst 1, 1) := by decide +kernel
theorem d_re_contain_13 : decode c_re_contain 13 = .ok (.goto 4, 3) := by decide +kernel
theorem d_re_contain_16 : decode c_re_contain 16 = .ok (.iconst 0, 1) := by decide +kernel
theorem d_re_contain_17 : decode c_re_contain 17 = .ok (.ireturn, 1) := by decide +kernel
abbrev c_re_add : ByteArray := prog_5_method_4_code
def y_re_add : MethodName := ⟨"ShortBridge$Results", "add", "(JI)V"⟩
theorem d_re_add_0 : decode c_re_add 0 = .ok (.aload_n 0, 1) := by decide +kernel
theorem d_re_add_1 : decode c_re_add 1 = .ok (.getfield 17, 3) := by decide +kernel
theorem d_re_add_4 : decode c_re_add 4 = .ok (.bipush 12, 2) := by decide +kernel
theorem d_re_add_6 : decode c_re_add 6 = .ok (.if_icmp .ge 33, 3) := by decide +kernel
theorem d_re_add_9 : decode c_re_add 9 = .ok (.aload_n 0, 1) := by decide +kernel
theorem d_re_add_10 : decode c_re_add 10 = .ok (.getfield 9, 3) := by decide +kernel
theorem d_re_add_13 : decode c_re_add 13 = .ok (.aload_n 0, 1) := by decide +kernel
theorem d_re_add_14 : decode c_re_add 14 = .ok (.getfield 17, 3) := by decide +kernel
theorem d_re_add_17 : decode c_re_add 17 = .ok (.lload_n 1, 1) := by decide +kernel
theorem d_re_add_18 : decode c_re_add 18 = .ok (.lastore, 1) := by decide +kernel
theorem d_re_add_19 : decode c_re_add 19 = .ok (.aload_n 0, 1) := by decide +kernel
theorem d_re_add_20 : decode c_re_add 20 = .ok (.getfield 13, 3) := by decide +kernel
theorem d_re_add_23 : decode c_re_add 23 = .ok (.aload_n 0, 1) := by decide +kernel
theorem d_re_add_24 : decode c_re_add 24 = .ok (.getfield 17, 3) := by decide +kernel
theorem d_re_add_27 : decode c_re_add 27 = .ok (.iload_n 3, 1) := by decide +kernel
theorem d_re_add_28 : decode c_re_add 28 = .ok (.iastore, 1) := by decide +kernel
theorem d_re_add_29 : decode c_re_add 29 = .ok (.aload_n 0, 1) := by decide +kernel
theorem d_re_add_30 : decode c_re_add 30 = .ok (.dup, 1) := by decide +kernel
theorem d_re_add_31 : decode c_re_add 31 = .ok (.getfield 17, 3) := by decide +kernel
theorem d_re_add_34 : decode c_re_add 34 = .ok (.iconst 1, 1) := by decide +kernel
theorem d_re_add_35 : decode c_re_add 35 = .ok (.iadd, 1) := by decide +kernel
theorem d_re_add_36 : decode c_re_add 36 = .ok (.putfield 17, 3) := by decide +kernel
theorem d_re_add_39 : decode c_re_add 39 = .ok (.return_, 1) := by decide +kernel
abbrev c_re_compare : ByteArray := prog_5_method_5_code
def y_re_compare : MethodName := ⟨"ShortBridge$Results", "compare", "(I)I"⟩
theorem d_re_compare_0 : decode c_re_compare 0 = .ok (.iconst 0, 1) := by decide +kernel
theorem d_re_compare_1 : decode c_re_compare 1 = .ok (.istore_n 2, 1) := by decide +kernel
theorem d_re_compare_2 : decode c_re_compare 2 = .ok (.iconst 0, 1) := by decide +kernel
theorem d_re_compare_3 : decode c_re_compare 3 = .ok (.istore_n 3, 1) := by decide +kernel
theorem d_re_compare_4 : decode c_re_compare 4 = .ok (.iload_n 3, 1) := by decide +kernel
theorem d_re_compare_5 : decode c_re_compare 5 = .ok (.aload_n 0, 1) := by decide +kernel
theorem d_re_compare_6 : decode c_re_compare 6 = .ok (.getfield 17, 3) := by decide +kernel
theorem d_re_compare_9 : decode c_re_compare 9 = .ok (.if_icmp .ge 48, 3) := by decide +kernel
theorem d_re_compare_12 : decode c_re_compare 12 = .ok (.iload_n 3, 1) := by decide +kernel
theorem d_re_compare_13 : decode c_re_compare 13 = .ok (.iload_n 1, 1) := by decide +kernel
theorem d_re_compare_14 : decode c_re_compare 14 = .ok (.if_icmp .eq 37, 3) := by decide +kernel
theorem d_re_compare_17 : decode c_re_compare 17 = .ok (.aload_n 0, 1) := by decide +kernel
theorem d_re_compare_18 : decode c_re_compare 18 = .ok (.getfield 9, 3) := by decide +kernel
theorem d_re_compare_21 : decode c_re_compare 21 = .ok (.iload_n 3, 1) := by decide +kernel
theorem d_re_compare_22 : decode c_re_compare 22 = .ok (.laload, 1) := by decide +kernel
theorem d_re_compare_23 : decode c_re_compare 23 = .ok (.aload_n 0, 1) := by decide +kernel
theorem d_re_compare_24 : decode c_re_compare 24 = .ok (.getfield 9, 3) := by decide +kernel
theorem d_re_compare_27 : decode c_re_compare 27 = .ok (.iload_n 1, 1) := by decide +kernel
theorem d_re_compare_28 : decode c_re_compare 28 = .ok (.laload, 1) := by decide +kernel
theorem d_re_compare_29 : decode c_re_compare 29 = .ok (.lcmp, 1) := by decide +kernel
theorem d_re_compare_30 : decode c_re_compare 30 = .ok (.ifCond .ne 21, 3) := by decide +kernel
theorem d_re_compare_33 : decode c_re_compare 33 = .ok (.iload_n 2, 1) := by decide +kernel
theorem d_re_compare_34 : decode c_re_compare 34 = .ok (.aload_n 0, 1) := by decide +kernel
theorem d_re_compare_35 : decode c_re_compare 35 = .ok (.getfield 13, 3) := by decide +kernel
theorem d_re_compare_38 : decode c_re_compare 38 = .ok (.iload_n 1, 1) := by decide +kernel
theorem d_re_compare_39 : decode c_re_compare 39 = .ok (.iaload, 1) := by decide +kernel
theorem d_re_compare_40 : decode c_re_compare 40 = .ok (.aload_n 0, 1) := by decide +kernel
theorem d_re_compare_41 : decode c_re_compare 41 = .ok (.getfield 13, 3) := by decide +kernel
theorem d_re_compare_44 : decode c_re_compare 44 = .ok (.iload_n 3, 1) := by decide +kernel
theorem d_re_compare_45 : decode c_re_compare 45 = .ok (.iaload, 1) := by decide +kernel
theorem d_re_compare_46 : decode c_re_compare 46 = .ok (.invokestatic 21, 3) := by decide +kernel
theorem d_re_compare_49 : decode c_re_compare 49 = .ok (.iadd, 1) := by decide +kernel
theorem d_re_compare_50 : decode c_re_compare 50 = .ok (.istore_n 2, 1) := by decide +kernel
theorem d_re_compare_51 : decode c_re_compare 51 = .ok (.iinc 3 1, 3) := by decide +kernel
theorem d_re_compare_54 : decode c_re_compare 54 = .ok (.goto (-50), 3) := by decide +kernel
theorem d_re_compare_57 : decode c_re_compare 57 = .ok (.iload_n 2, 1) := by decide +kernel
theorem d_re_compare_58 : decode c_re_compare 58 = .ok (.ireturn, 1) := by decide +kernel
abbrev c_re_worthAgainst : ByteArray := prog_5_method_6_code
def y_re_worthAgainst : MethodName := ⟨"ShortBridge$Results", "worthAgainst", "(II)I"⟩
theorem d_re_worthAgainst_0 : decode c_re_worthAgainst 0 = .ok (.iload_n 0, 1) := by decide +kernel
theorem d_re_worthAgainst_1 : decode c_re_worthAgainst 1 = .ok (.iload_n 1, 1) := by decide +kernel
theorem d_re_worthAgainst_2 : decode c_re_worthAgainst 2 = .ok (.if_icmp .ne 5, 3) := by decide +kernel
theorem d_re_worthAgainst_5 : decode c_re_worthAgainst 5 = .ok (.iconst 1, 1) := by decide +kernel
theorem d_re_worthAgainst_6 : decode c_re_worthAgainst 6 = .ok (.ireturn, 1) := by decide +kernel
theorem d_re_worthAgainst_7 : decode c_re_worthAgainst 7 = .ok (.iload_n 0, 1) := by decide +kernel
theorem d_re_worthAgainst_8 : decode c_re_worthAgainst 8 = .ok (.iload_n 1, 1) := by decide +kernel
theorem d_re_worthAgainst_9 : decode c_re_worthAgainst 9 = .ok (.if_icmp .le 7, 3) := by decide +kernel
theorem d_re_worthAgainst_12 : decode c_re_worthAgainst 12 = .ok (.iconst 2, 1) := by decide +kernel
theorem d_re_worthAgainst_13 : decode c_re_worthAgainst 13 = .ok (.goto 4, 3) := by decide +kernel
theorem d_re_worthAgainst_16 : decode c_re_worthAgainst 16 = .ok (.iconst 0, 1) := by decide +kernel
theorem d_re_worthAgainst_17 : decode c_re_worthAgainst 17 = .ok (.ireturn, 1) := by decide +kernel
abbrev c_sc_scoreOf : ByteArray := prog_6_method_2_code
def y_sc_scoreOf : MethodName := ⟨"ShortBridge$Scoring", "scoreOf", "(IIIZ)I"⟩
theorem d_sc_scoreOf_0 : decode c_sc_scoreOf 0 = .ok (.iload_n 2, 1) := by decide +kernel
theorem d_sc_scoreOf_1 : decode c_sc_scoreOf 1 = .ok (.iload_n 0, 1) := by decide +kernel
theorem d_sc_scoreOf_2 : decode c_sc_scoreOf 2 = .ok (.invokestatic 9, 3) := by decide +kernel
theorem d_sc_scoreOf_5 : decode c_sc_scoreOf 5 = .ok (.iconst 2, 1) := by decide +kernel
theorem d_sc_scoreOf_6 : decode c_sc_scoreOf 6 = .ok (.iadd, 1) := by decide +kernel
theorem d_sc_scoreOf_7 : decode c_sc_scoreOf 7 = .ok (.isub, 1) := by decide +kernel
theorem d_sc_scoreOf_8 : decode c_sc_scoreOf 8 = .ok (.istore 4, 2) := by decide +kernel
theorem d_sc_scoreOf_10 : decode c_sc_scoreOf 10 = .ok (.iload 4, 2) := by decide +kernel
theorem d_sc_scoreOf_12 : decode c_sc_scoreOf 12 = .ok (.ifCond .ge 13, 3) := by decide +kernel
theorem d_sc_scoreOf_15 : decode c_sc_scoreOf 15 = .ok (.iload 4, 2) := by decide +kernel
theorem d_sc_scoreOf_17 : decode c_sc_scoreOf 17 = .ok (.ineg, 1) := by decide +kernel
theorem d_sc_scoreOf_18 : decode c_sc_scoreOf 18 = .ok (.iload_n 1, 1) := by decide +kernel
theorem d_sc_scoreOf_19 : decode c_sc_scoreOf 19 = .ok (.iload_n 3, 1) := by decide +kernel
theorem d_sc_scoreOf_20 : decode c_sc_scoreOf 20 = .ok (.invokestatic 15, 3) := by decide +kernel
theorem d_sc_scoreOf_23 : decode c_sc_scoreOf 23 = .ok (.ineg, 1) := by decide +kernel
theorem d_sc_scoreOf_24 : decode c_sc_scoreOf 24 = .ok (.ireturn, 1) := by decide +kernel
theorem d_sc_scoreOf_25 : decode c_sc_scoreOf 25 = .ok (.iload_n 0, 1) := by decide +kernel
theorem d_sc_scoreOf_26 : decode c_sc_scoreOf 26 = .ok (.iload_n 1, 1) := by decide +kernel
theorem d_sc_scoreOf_27 : decode c_sc_scoreOf 27 = .ok (.iload_n 3, 1) := by decide +kernel
theorem d_sc_scoreOf_28 : decode c_sc_scoreOf 28 = .ok (.invokestatic 21, 3) := by decide +kernel
theorem d_sc_scoreOf_31 : decode c_sc_scoreOf 31 = .ok (.iload 4, 2) := by decide +kernel
theorem d_sc_scoreOf_33 : decode c_sc_scoreOf 33 = .ok (.iload_n 0, 1) := by decide +kernel
theorem d_sc_scoreOf_34 : decode c_sc_scoreOf 34 = .ok (.iload_n 1, 1) := by decide +kernel
theorem d_sc_scoreOf_35 : decode c_sc_scoreOf 35 = .ok (.iload_n 3, 1) := by decide +kernel
theorem d_sc_scoreOf_36 : decode c_sc_scoreOf 36 = .ok (.invokestatic 24, 3) := by decide +kernel
theorem d_sc_scoreOf_39 : decode c_sc_scoreOf 39 = .ok (.imul, 1) := by decide +kernel
theorem d_sc_scoreOf_40 : decode c_sc_scoreOf 40 = .ok (.iadd, 1) := by decide +kernel
theorem d_sc_scoreOf_41 : decode c_sc_scoreOf 41 = .ok (.ireturn, 1) := by decide +kernel
abbrev c_sc_pointsOf : ByteArray := prog_6_method_3_code
def y_sc_pointsOf : MethodName := ⟨"ShortBridge$Scoring", "pointsOf", "(I)I"⟩
theorem d_sc_pointsOf_0 : decode c_sc_pointsOf 0 = .ok (.iload_n 0, 1) := by decide +kernel
theorem d_sc_pointsOf_1 : decode c_sc_pointsOf 1 = .ok (.invokestatic 27, 3) := by decide +kernel
theorem d_sc_pointsOf_4 : decode c_sc_pointsOf 4 = .ok (.istore_n 1, 1) := by decide +kernel
theorem d_sc_pointsOf_5 : decode c_sc_pointsOf 5 = .ok (.iconst 0, 1) := by decide +kernel
theorem d_sc_pointsOf_6 : decode c_sc_pointsOf 6 = .ok (.istore_n 2, 1) := by decide +kernel
theorem d_sc_pointsOf_7 : decode c_sc_pointsOf 7 = .ok (.iconst 0, 1) := by decide +kernel
theorem d_sc_pointsOf_8 : decode c_sc_pointsOf 8 = .ok (.istore_n 3, 1) := by decide +kernel
theorem d_sc_pointsOf_9 : decode c_sc_pointsOf 9 = .ok (.iload_n 3, 1) := by decide +kernel
theorem d_sc_pointsOf_10 : decode c_sc_pointsOf 10 = .ok (.getstatic 32, 3) := by decide +kernel
theorem d_sc_pointsOf_13 : decode c_sc_pointsOf 13 = .ok (.arraylength, 1) := by decide +kernel
theorem d_sc_pointsOf_14 : decode c_sc_pointsOf 14 = .ok (.if_icmp .ge 21, 3) := by decide +kernel
theorem d_sc_pointsOf_17 : decode c_sc_pointsOf 17 = .ok (.getstatic 32, 3) := by decide +kernel
theorem d_sc_pointsOf_20 : decode c_sc_pointsOf 20 = .ok (.iload_n 3, 1) := by decide +kernel
theorem d_sc_pointsOf_21 : decode c_sc_pointsOf 21 = .ok (.iaload, 1) := by decide +kernel
theorem d_sc_pointsOf_22 : decode c_sc_pointsOf 22 = .ok (.iload_n 1, 1) := by decide +kernel
theorem d_sc_pointsOf_23 : decode c_sc_pointsOf 23 = .ok (.if_icmp .gt 6, 3) := by decide +kernel
theorem d_sc_pointsOf_26 : decode c_sc_pointsOf 26 = .ok (.iinc 2 1, 3) := by decide +kernel
theorem d_sc_pointsOf_29 : decode c_sc_pointsOf 29 = .ok (.iinc 3 1, 3) := by decide +kernel
theorem d_sc_pointsOf_32 : decode c_sc_pointsOf 32 = .ok (.goto (-23), 3) := by decide +kernel
theorem d_sc_pointsOf_35 : decode c_sc_pointsOf 35 = .ok (.iload_n 0, 1) := by decide +kernel
theorem d_sc_pointsOf_36 : decode c_sc_pointsOf 36 = .ok (.ifCond .ge 8, 3) := by decide +kernel
theorem d_sc_pointsOf_39 : decode c_sc_pointsOf 39 = .ok (.iload_n 2, 1) := by decide +kernel
theorem d_sc_pointsOf_40 : decode c_sc_pointsOf 40 = .ok (.ineg, 1) := by decide +kernel
theorem d_sc_pointsOf_41 : decode c_sc_pointsOf 41 = .ok (.goto 4, 3) := by decide +kernel
theorem d_sc_pointsOf_44 : decode c_sc_pointsOf 44 = .ok (.iload_n 2, 1) := by decide +kernel
theorem d_sc_pointsOf_45 : decode c_sc_pointsOf 45 = .ok (.ireturn, 1) := by decide +kernel
abbrev c_sc_worth : ByteArray := prog_6_method_4_code
def y_sc_worth : MethodName := ⟨"ShortBridge$Scoring", "worth", "(I)I"⟩
theorem d_sc_worth_0 : decode c_sc_worth 0 = .ok (.iload_n 0, 1) := by decide +kernel
theorem d_sc_worth_1 : decode c_sc_worth 1 = .ok (.invokestatic 36, 3) := by decide +kernel
theorem d_sc_worth_4 : decode c_sc_worth 4 = .ok (.iconst 2, 1) := by decide +kernel
theorem d_sc_worth_5 : decode c_sc_worth 5 = .ok (.if_icmp .ge 8, 3) := by decide +kernel
theorem d_sc_worth_8 : decode c_sc_worth 8 = .ok (.bipush 20, 2) := by decide +kernel
theorem d_sc_worth_10 : decode c_sc_worth 10 = .ok (.goto 5, 3) := by decide +kernel
theorem d_sc_worth_13 : decode c_sc_worth 13 = .ok (.bipush 30, 2) := by decide +kernel
theorem d_sc_worth_15 : decode c_sc_worth 15 = .ok (.ireturn, 1) := by decide +kernel
abbrev c_sc_made : ByteArray := prog_6_method_5_code
def y_sc_made : MethodName := ⟨"ShortBridge$Scoring", "made", "(IIZ)I"⟩
theorem d_sc_made_0 : decode c_sc_made 0 = .ok (.iload_n 0, 1) := by decide +kernel
theorem d_sc_made_1 : decode c_sc_made 1 = .ok (.invokestatic 9, 3) := by decide +kernel
theorem d_sc_made_4 : decode c_sc_made 4 = .ok (.istore_n 3, 1) := by decide +kernel
theorem d_sc_made_5 : decode c_sc_made 5 = .ok (.iload_n 0, 1) := by decide +kernel
theorem d_sc_made_6 : decode c_sc_made 6 = .ok (.invokestatic 36, 3) := by decide +kernel
theorem d_sc_made_9 : decode c_sc_made 9 = .ok (.iconst 4, 1) := by decide +kernel
theorem d_sc_made_10 : decode c_sc_made 10 = .ok (.if_icmp .ne 8, 3) := by decide +kernel
theorem d_sc_made_13 : decode c_sc_made 13 = .ok (.bipush 10, 2) := by decide +kernel
theorem d_sc_made_15 : decode c_sc_made 15 = .ok (.goto 4, 3) := by decide +kernel
theorem d_sc_made_18 : decode c_sc_made 18 = .ok (.iconst 0, 1) := by decide +kernel
theorem d_sc_made_19 : decode c_sc_made 19 = .ok (.istore 4, 2) := by decide +kernel
theorem d_sc_made_21 : decode c_sc_made 21 = .ok (.iload_n 3, 1) := by decide +kernel
theorem d_sc_made_22 : decode c_sc_made 22 = .ok (.iload_n 0, 1) := by decide +kernel
theorem d_sc_made_23 : decode c_sc_made 23 = .ok (.invokestatic 39, 3) := by decide +kernel
theorem d_sc_made_26 : decode c_sc_made 26 = .ok (.imul, 1) := by decide +kernel
theorem d_sc_made_27 : decode c_sc_made 27 = .ok (.iload 4, 2) := by decide +kernel
theorem d_sc_made_29 : decode c_sc_made 29 = .ok (.iadd, 1) := by decide +kernel
theorem d_sc_made_30 : decode c_sc_made 30 = .ok (.iload_n 1, 1) := by decide +kernel
theorem d_sc_made_31 : decode c_sc_made 31 = .ok (.ishl, 1) := by decide +kernel
theorem d_sc_made_32 : decode c_sc_made 32 = .ok (.istore 5, 2) := by decide +kernel
theorem d_sc_made_34 : decode c_sc_made 34 = .ok (.iload 5, 2) := by decide +kernel
theorem d_sc_made_36 : decode c_sc_made 36 = .ok (.bipush 100, 2) := by decide +kernel
theorem d_sc_made_38 : decode c_sc_made 38 = .ok (.if_icmp .ge 9, 3) := by decide +kernel
theorem d_sc_made_41 : decode c_sc_made 41 = .ok (.iinc 5 50, 3) := by decide +kernel
theorem d_sc_made_44 : decode c_sc_made 44 = .ok (.goto 21, 3) := by decide +kernel
theorem d_sc_made_47 : decode c_sc_made 47 = .ok (.iload 5, 2) := by decide +kernel
theorem d_sc_made_49 : decode c_sc_made 49 = .ok (.iload_n 2, 1) := by decide +kernel
theorem d_sc_made_50 : decode c_sc_made 50 = .ok (.ifCond .eq 9, 3) := by decide +kernel
theorem d_sc_made_53 : decode c_sc_made 53 = .ok (.sipush 500, 3) := by decide +kernel
theorem d_sc_made_56 : decode c_sc_made 56 = .ok (.goto 6, 3) := by decide +kernel
theorem d_sc_made_59 : decode c_sc_made 59 = .ok (.sipush 300, 3) := by decide +kernel
theorem d_sc_made_62 : decode c_sc_made 62 = .ok (.iadd, 1) := by decide +kernel
theorem d_sc_made_63 : decode c_sc_made 63 = .ok (.istore 5, 2) := by decide +kernel
theorem d_sc_made_65 : decode c_sc_made 65 = .ok (.iload_n 3, 1) := by decide +kernel
theorem d_sc_made_66 : decode c_sc_made 66 = .ok (.iconst 3, 1) := by decide +kernel
theorem d_sc_made_67 : decode c_sc_made 67 = .ok (.if_icmp .ne 21, 3) := by decide +kernel
theorem d_sc_made_70 : decode c_sc_made 70 = .ok (.iload 5, 2) := by decide +kernel
theorem d_sc_made_72 : decode c_sc_made 72 = .ok (.iload_n 2, 1) := by decide +kernel
theorem d_sc_made_73 : decode c_sc_made 73 = .ok (.ifCond .eq 9, 3) := by decide +kernel
theorem d_sc_made_76 : decode c_sc_made 76 = .ok (.sipush 600, 3) := by decide +kernel
theorem d_sc_made_79 : decode c_sc_made 79 = .ok (.goto 6, 3) := by decide +kernel
theorem d_sc_made_82 : decode c_sc_made 82 = .ok (.sipush 400, 3) := by decide +kernel
theorem d_sc_made_85 : decode c_sc_made 85 = .ok (.iadd, 1) := by decide +kernel
theorem d_sc_made_86 : decode c_sc_made 86 = .ok (.istore 5, 2) := by decide +kernel
theorem d_sc_made_88 : decode c_sc_made 88 = .ok (.iload 5, 2) := by decide +kernel
theorem d_sc_made_90 : decode c_sc_made 90 = .ok (.bipush 50, 2) := by decide +kernel
theorem d_sc_made_92 : decode c_sc_made 92 = .ok (.iload_n 1, 1) := by decide +kernel
theorem d_sc_made_93 : decode c_sc_made 93 = .ok (.imul, 1) := by decide +kernel
theorem d_sc_made_94 : decode c_sc_made 94 = .ok (.iadd, 1) := by decide +kernel
theorem d_sc_made_95 : decode c_sc_made 95 = .ok (.ireturn, 1) := by decide +kernel
abbrev c_sc_extraTrick : ByteArray := prog_6_method_6_code
def y_sc_extraTrick : MethodName := ⟨"ShortBridge$Scoring", "extraTrick", "(IIZ)I"⟩
theorem d_sc_extraTrick_0 : decode c_sc_extraTrick 0 = .ok (.iload_n 1, 1) := by decide +kernel
theorem d_sc_extraTrick_1 : decode c_sc_extraTrick 1 = .ok (.ifCond .ne 8, 3) := by decide +kernel
theorem d_sc_extraTrick_4 : decode c_sc_extraTrick 4 = .ok (.iload_n 0, 1) := by decide +kernel
theorem d_sc_extraTrick_5 : decode c_sc_extraTrick 5 = .ok (.invokestatic 39, 3) := by decide +kernel
theorem d_sc_extraTrick_8 : decode c_sc_extraTrick 8 = .ok (.ireturn, 1) := by decide +kernel
theorem d_sc_extraTrick_9 : decode c_sc_extraTrick 9 = .ok (.iload_n 2, 1) := by decide +kernel
theorem d_sc_extraTrick_10 : decode c_sc_extraTrick 10 = .ok (.ifCond .eq 9, 3) := by decide +kernel
theorem d_sc_extraTrick_13 : decode c_sc_extraTrick 13 = .ok (.sipush 200, 3) := by decide +kernel
theorem d_sc_extraTrick_16 : decode c_sc_extraTrick 16 = .ok (.goto 5, 3) := by decide +kernel
theorem d_sc_extraTrick_19 : decode c_sc_extraTrick 19 = .ok (.bipush 100, 2) := by decide +kernel
theorem d_sc_extraTrick_21 : decode c_sc_extraTrick 21 = .ok (.iload_n 1, 1) := by decide +kernel
theorem d_sc_extraTrick_22 : decode c_sc_extraTrick 22 = .ok (.imul, 1) := by decide +kernel
theorem d_sc_extraTrick_23 : decode c_sc_extraTrick 23 = .ok (.ireturn, 1) := by decide +kernel
abbrev c_sc_penalty : ByteArray := prog_6_method_7_code
def y_sc_penalty : MethodName := ⟨"ShortBridge$Scoring", "penalty", "(IIZ)I"⟩
theorem d_sc_penalty_0 : decode c_sc_penalty 0 = .ok (.iload_n 1, 1) := by decide +kernel
theorem d_sc_penalty_1 : decode c_sc_penalty 1 = .ok (.ifCond .ne 17, 3) := by decide +kernel
theorem d_sc_penalty_4 : decode c_sc_penalty 4 = .ok (.iload_n 2, 1) := by decide +kernel
theorem d_sc_penalty_5 : decode c_sc_penalty 5 = .ok (.ifCond .eq 8, 3) := by decide +kernel
theorem d_sc_penalty_8 : decode c_sc_penalty 8 = .ok (.bipush 100, 2) := by decide +kernel
theorem d_sc_penalty_10 : decode c_sc_penalty 10 = .ok (.goto 5, 3) := by decide +kernel
theorem d_sc_penalty_13 : decode c_sc_penalty 13 = .ok (.bipush 50, 2) := by decide +kernel
theorem d_sc_penalty_15 : decode c_sc_penalty 15 = .ok (.iload_n 0, 1) := by decide +kernel
theorem d_sc_penalty_16 : decode c_sc_penalty 16 = .ok (.imul, 1) := by decide +kernel
theorem d_sc_penalty_17 : decode c_sc_penalty 17 = .ok (.ireturn, 1) := by decide +kernel
theorem d_sc_penalty_18 : decode c_sc_penalty 18 = .ok (.iconst 0, 1) := by decide +kernel
theorem d_sc_penalty_19 : decode c_sc_penalty 19 = .ok (.istore_n 3, 1) := by decide +kernel
theorem d_sc_penalty_20 : decode c_sc_penalty 20 = .ok (.iconst 1, 1) := by decide +kernel
theorem d_sc_penalty_21 : decode c_sc_penalty 21 = .ok (.istore 4, 2) := by decide +kernel
theorem d_sc_penalty_23 : decode c_sc_penalty 23 = .ok (.iload 4, 2) := by decide +kernel
theorem d_sc_penalty_25 : decode c_sc_penalty 25 = .ok (.iload_n 0, 1) := by decide +kernel
theorem d_sc_penalty_26 : decode c_sc_penalty 26 = .ok (.if_icmp .gt 18, 3) := by decide +kernel
theorem d_sc_penalty_29 : decode c_sc_penalty 29 = .ok (.iload_n 3, 1) := by decide +kernel
theorem d_sc_penalty_30 : decode c_sc_penalty 30 = .ok (.iload 4, 2) := by decide +kernel
theorem d_sc_penalty_32 : decode c_sc_penalty 32 = .ok (.iload_n 2, 1) := by decide +kernel
theorem d_sc_penalty_33 : decode c_sc_penalty 33 = .ok (.invokestatic 42, 3) := by decide +kernel
theorem d_sc_penalty_36 : decode c_sc_penalty 36 = .ok (.iadd, 1) := by decide +kernel
theorem d_sc_penalty_37 : decode c_sc_penalty 37 = .ok (.istore_n 3, 1) := by decide +kernel
theorem d_sc_penalty_38 : decode c_sc_penalty 38 = .ok (.iinc 4 1, 3) := by decide +kernel
theorem d_sc_penalty_41 : decode c_sc_penalty 41 = .ok (.goto (-18), 3) := by decide +kernel
theorem d_sc_penalty_44 : decode c_sc_penalty 44 = .ok (.iload_n 3, 1) := by decide +kernel
theorem d_sc_penalty_45 : decode c_sc_penalty 45 = .ok (.iload_n 1, 1) := by decide +kernel
theorem d_sc_penalty_46 : decode c_sc_penalty 46 = .ok (.imul, 1) := by decide +kernel
theorem d_sc_penalty_47 : decode c_sc_penalty 47 = .ok (.ireturn, 1) := by decide +kernel
abbrev c_sc_missingTrick : ByteArray := prog_6_method_8_code
def y_sc_missingTrick : MethodName := ⟨"ShortBridge$Scoring", "missingTrick", "(IZ)I"⟩
theorem d_sc_missingTrick_0 : decode c_sc_missingTrick 0 = .ok (.iload_n 0, 1) := by decide +kernel
theorem d_sc_missingTrick_1 : decode c_sc_missingTrick 1 = .ok (.iconst 1, 1) := by decide +kernel
theorem d_sc_missingTrick_2 : decode c_sc_missingTrick 2 = .ok (.if_icmp .ne 16, 3) := by decide +kernel
theorem d_sc_missingTrick_5 : decode c_sc_missingTrick 5 = .ok (.iload_n 1, 1) := by decide +kernel
theorem d_sc_missingTrick_6 : decode c_sc_missingTrick 6 = .ok (.ifCond .eq 9, 3) := by decide +kernel
theorem d_sc_missingTrick_9 : decode c_sc_missingTrick 9 = .ok (.sipush 200, 3) := by decide +kernel
theorem d_sc_missingTrick_12 : decode c_sc_missingTrick 12 = .ok (.goto 5, 3) := by decide +kernel
theorem d_sc_missingTrick_15 : decode c_sc_missingTrick 15 = .ok (.bipush 100, 2) := by decide +kernel
theorem d_sc_missingTrick_17 : decode c_sc_missingTrick 17 = .ok (.ireturn, 1) := by decide +kernel
theorem d_sc_missingTrick_18 : decode c_sc_missingTrick 18 = .ok (.iload_n 1, 1) := by decide +kernel
theorem d_sc_missingTrick_19 : decode c_sc_missingTrick 19 = .ok (.ifCond .ne 8, 3) := by decide +kernel
theorem d_sc_missingTrick_22 : decode c_sc_missingTrick 22 = .ok (.iload_n 0, 1) := by decide +kernel
theorem d_sc_missingTrick_23 : decode c_sc_missingTrick 23 = .ok (.iconst 3, 1) := by decide +kernel
theorem d_sc_missingTrick_24 : decode c_sc_missingTrick 24 = .ok (.if_icmp .le 9, 3) := by decide +kernel
theorem d_sc_missingTrick_27 : decode c_sc_missingTrick 27 = .ok (.sipush 300, 3) := by decide +kernel
theorem d_sc_missingTrick_30 : decode c_sc_missingTrick 30 = .ok (.goto 6, 3) := by decide +kernel
theorem d_sc_missingTrick_33 : decode c_sc_missingTrick 33 = .ok (.sipush 200, 3) := by decide +kernel
theorem d_sc_missingTrick_36 : decode c_sc_missingTrick 36 = .ok (.ireturn, 1) := by decide +kernel
abbrev c_so_tricksOf : ByteArray := prog_7_method_2_code
def y_so_tricksOf : MethodName := ⟨"ShortBridge$Solver", "tricksOf", "(LShortBridge$Hands;I)I"⟩
theorem d_so_tricksOf_0 : decode c_so_tricksOf 0 = .ok (.bipush 20, 2) := by decide +kernel
theorem d_so_tricksOf_2 : decode c_so_tricksOf 2 = .ok (.aload_n 0, 1) := by decide +kernel
theorem d_so_tricksOf_3 : decode c_so_tricksOf 3 = .ok (.getfield 9, 3) := by decide +kernel
theorem d_so_tricksOf_6 : decode c_so_tricksOf 6 = .ok (.isub, 1) := by decide +kernel
theorem d_so_tricksOf_7 : decode c_so_tricksOf 7 = .ok (.istore_n 2, 1) := by decide +kernel
theorem d_so_tricksOf_8 : decode c_so_tricksOf 8 = .ok (.iconst 0, 1) := by decide +kernel
theorem d_so_tricksOf_9 : decode c_so_tricksOf 9 = .ok (.istore_n 3, 1) := by decide +kernel
theorem d_so_tricksOf_10 : decode c_so_tricksOf 10 = .ok (.iload_n 3, 1) := by decide +kernel
theorem d_so_tricksOf_11 : decode c_so_tricksOf 11 = .ok (.iload_n 2, 1) := by decide +kernel
theorem d_so_tricksOf_12 : decode c_so_tricksOf 12 = .ok (.invokestatic 15, 3) := by decide +kernel
theorem d_so_tricksOf_15 : decode c_so_tricksOf 15 = .ok (.if_icmp .ge 21, 3) := by decide +kernel
theorem d_so_tricksOf_18 : decode c_so_tricksOf 18 = .ok (.aload_n 0, 1) := by decide +kernel
theorem d_so_tricksOf_19 : decode c_so_tricksOf 19 = .ok (.iload_n 1, 1) := by decide +kernel
theorem d_so_tricksOf_20 : decode c_so_tricksOf 20 = .ok (.iload_n 3, 1) := by decide +kernel
theorem d_so_tricksOf_21 : decode c_so_tricksOf 21 = .ok (.iconst 1, 1) := by decide +kernel
theorem d_so_tricksOf_22 : decode c_so_tricksOf 22 = .ok (.iadd, 1) := by decide +kernel
theorem d_so_tricksOf_23 : decode c_so_tricksOf 23 = .ok (.iload_n 2, 1) := by decide +kernel
theorem d_so_tricksOf_24 : decode c_so_tricksOf 24 = .ok (.invokestatic 21, 3) := by decide +kernel
theorem d_so_tricksOf_27 : decode c_so_tricksOf 27 = .ok (.ifCond .eq 9, 3) := by decide +kernel
theorem d_so_tricksOf_30 : decode c_so_tricksOf 30 = .ok (.iinc 3 1, 3) := by decide +kernel
theorem d_so_tricksOf_33 : decode c_so_tricksOf 33 = .ok (.goto (-23), 3) := by decide +kernel
theorem d_so_tricksOf_36 : decode c_so_tricksOf 36 = .ok (.aload_n 0, 1) := by decide +kernel
theorem d_so_tricksOf_37 : decode c_so_tricksOf 37 = .ok (.iload_n 1, 1) := by decide +kernel
theorem d_so_tricksOf_38 : decode c_so_tricksOf 38 = .ok (.invokevirtual 25, 3) := by decide +kernel
theorem d_so_tricksOf_41 : decode c_so_tricksOf 41 = .ok (.iload_n 3, 1) := by decide +kernel
theorem d_so_tricksOf_42 : decode c_so_tricksOf 42 = .ok (.iadd, 1) := by decide +kernel
theorem d_so_tricksOf_43 : decode c_so_tricksOf 43 = .ok (.ireturn, 1) := by decide +kernel
abbrev c_so_tricksIn : ByteArray := prog_7_method_3_code
def y_so_tricksIn : MethodName := ⟨"ShortBridge$Solver", "tricksIn", "(I)I"⟩
theorem d_so_tricksIn_0 : decode c_so_tricksIn 0 = .ok (.iload_n 0, 1) := by decide +kernel
theorem d_so_tricksIn_1 : decode c_so_tricksIn 1 = .ok (.iconst 4, 1) := by decide +kernel
theorem d_so_tricksIn_2 : decode c_so_tricksIn 2 = .ok (.iadd, 1) := by decide +kernel
theorem d_so_tricksIn_3 : decode c_so_tricksIn 3 = .ok (.iconst 1, 1) := by decide +kernel
theorem d_so_tricksIn_4 : decode c_so_tricksIn 4 = .ok (.isub, 1) := by decide +kernel
theorem d_so_tricksIn_5 : decode c_so_tricksIn 5 = .ok (.iconst 4, 1) := by decide +kernel
theorem d_so_tricksIn_6 : decode c_so_tricksIn 6 = .ok (.idiv, 1) := by decide +kernel
theorem d_so_tricksIn_7 : decode c_so_tricksIn 7 = .ok (.ireturn, 1) := by decide +kernel
abbrev c_so_reaches : ByteArray := prog_7_method_4_code
def y_so_reaches : MethodName := ⟨"ShortBridge$Solver", "reaches", "(LShortBridge$Hands;III)Z"⟩
theorem d_so_reaches_0 : decode c_so_reaches 0 = .ok (.iload_n 2, 1) := by decide +kernel
theorem d_so_reaches_1 : decode c_so_reaches 1 = .ok (.ifCond .le 11, 3) := by decide +kernel
theorem d_so_reaches_4 : decode c_so_reaches 4 = .ok (.iload_n 2, 1) := by decide +kernel
theorem d_so_reaches_5 : decode c_so_reaches 5 = .ok (.iload_n 3, 1) := by decide +kernel
theorem d_so_reaches_6 : decode c_so_reaches 6 = .ok (.invokestatic 15, 3) := by decide +kernel
theorem d_so_reaches_9 : decode c_so_reaches 9 = .ok (.if_icmp .le 13, 3) := by decide +kernel
theorem d_so_reaches_12 : decode c_so_reaches 12 = .ok (.iload_n 2, 1) := by decide +kernel
theorem d_so_reaches_13 : decode c_so_reaches 13 = .ok (.ifCond .gt 7, 3) := by decide +kernel
theorem d_so_reaches_16 : decode c_so_reaches 16 = .ok (.iconst 1, 1) := by decide +kernel
theorem d_so_reaches_17 : decode c_so_reaches 17 = .ok (.goto 4, 3) := by decide +kernel
theorem d_so_reaches_20 : decode c_so_reaches 20 = .ok (.iconst 0, 1) := by decide +kernel
theorem d_so_reaches_21 : decode c_so_reaches 21 = .ok (.ireturn, 1) := by decide +kernel
theorem d_so_reaches_22 : decode c_so_reaches 22 = .ok (.aload_n 0, 1) := by decide +kernel
theorem d_so_reaches_23 : decode c_so_reaches 23 = .ok (.invokevirtual 28, 3) := by decide +kernel
theorem d_so_reaches_26 : decode c_so_reaches 26 = .ok (.istore 4, 2) := by decide +kernel
theorem d_so_reaches_28 : decode c_so_reaches 28 = .ok (.iload 4, 2) := by decide +kernel
theorem d_so_reaches_30 : decode c_so_reaches 30 = .ok (.invokestatic 32, 3) := by decide +kernel
theorem d_so_reaches_33 : decode c_so_reaches 33 = .ok (.iload_n 1, 1) := by decide +kernel
theorem d_so_reaches_34 : decode c_so_reaches 34 = .ok (.if_icmp .ne 7, 3) := by decide +kernel
theorem d_so_reaches_37 : decode c_so_reaches 37 = .ok (.iconst 1, 1) := by decide +kernel
theorem d_so_reaches_38 : decode c_so_reaches 38 = .ok (.goto 4, 3) := by decide +kernel
theorem d_so_reaches_41 : decode c_so_reaches 41 = .ok (.iconst 0, 1) := by decide +kernel
theorem d_so_reaches_42 : decode c_so_reaches 42 = .ok (.istore 5, 2) := by decide +kernel
theorem d_so_reaches_44 : decode c_so_reaches 44 = .ok (.aload_n 0, 1) := by decide +kernel
theorem d_so_reaches_45 : decode c_so_reaches 45 = .ok (.invokevirtual 35, 3) := by decide +kernel
theorem d_so_reaches_48 : decode c_so_reaches 48 = .ok (.istore 6, 2) := by decide +kernel
theorem d_so_reaches_50 : decode c_so_reaches 50 = .ok (.aload_n 0, 1) := by decide +kernel
theorem d_so_reaches_51 : decode c_so_reaches 51 = .ok (.invokevirtual 38, 3) := by decide +kernel
theorem d_so_reaches_54 : decode c_so_reaches 54 = .ok (.istore 7, 2) := by decide +kernel
theorem d_so_reaches_56 : decode c_so_reaches 56 = .ok (.iconst (-1), 1) := by decide +kernel
theorem d_so_reaches_57 : decode c_so_reaches 57 = .ok (.istore 8, 2) := by decide +kernel
theorem d_so_reaches_59 : decode c_so_reaches 59 = .ok (.iload 4, 2) := by decide +kernel
theorem d_so_reaches_61 : decode c_so_reaches 61 = .ok (.iconst 5, 1) := by decide +kernel
theorem d_so_reaches_62 : decode c_so_reaches 62 = .ok (.imul, 1) := by decide +kernel
theorem d_so_reaches_63 : decode c_so_reaches 63 = .ok (.istore 9, 2) := by decide +kernel
theorem d_so_reaches_65 : decode c_so_reaches 65 = .ok (.iload 9, 2) := by decide +kernel
theorem d_so_reaches_67 : decode c_so_reaches 67 = .ok (.iload 4, 2) := by decide +kernel
theorem d_so_reaches_69 : decode c_so_reaches 69 = .ok (.iconst 1, 1) := by decide +kernel
theorem d_so_reaches_70 : decode c_so_reaches 70 = .ok (.iadd, 1) := by decide +kernel
theorem d_so_reaches_71 : decode c_so_reaches 71 = .ok (.iconst 5, 1) := by decide +kernel
theorem d_so_reaches_72 : decode c_so_reaches 72 = .ok (.imul, 1) := by decide +kernel
theorem d_so_reaches_73 : decode c_so_reaches 73 = .ok (.if_icmp .ge 62, 3) := by decide +kernel
theorem d_so_reaches_76 : decode c_so_reaches 76 = .ok (.aload_n 0, 1) := by decide +kernel
theorem d_so_reaches_77 : decode c_so_reaches 77 = .ok (.getfield 41, 3) := by decide +kernel
theorem d_so_reaches_80 : decode c_so_reaches 80 = .ok (.iload 9, 2) := by decide +kernel
theorem d_so_reaches_82 : decode c_so_reaches 82 = .ok (.iaload, 1) := by decide +kernel
theorem d_so_reaches_83 : decode c_so_reaches 83 = .ok (.istore 10, 2) := by decide +kernel
theorem d_so_reaches_85 : decode c_so_reaches 85 = .ok (.iload 6, 2) := by decide +kernel
theorem d_so_reaches_87 : decode c_so_reaches 87 = .ok (.iload 10, 2) := by decide +kernel
theorem d_so_reaches_89 : decode c_so_reaches 89 = .ok (.ishr, 1) := by decide +kernel
theorem d_so_reaches_90 : decode c_so_reaches 90 = .ok (.iconst 1, 1) := by decide +kernel
theorem d_so_reaches_91 : decode c_so_reaches 91 = .ok (.iand, 1) := by decide +kernel
theorem d_so_reaches_92 : decode c_so_reaches 92 = .ok (.iconst 1, 1) := by decide +kernel
theorem d_so_reaches_93 : decode c_so_reaches 93 = .ok (.if_icmp .ne 36, 3) := by decide +kernel
theorem d_so_reaches_96 : decode c_so_reaches 96 = .ok (.iload 10, 2) := by decide +kernel
theorem d_so_reaches_98 : decode c_so_reaches 98 = .ok (.iload 8, 2) := by decide +kernel
theorem d_so_reaches_100 : decode c_so_reaches 100 = .ok (.iload 7, 2) := by decide +kernel
theorem d_so_reaches_102 : decode c_so_reaches 102 = .ok (.invokestatic 45, 3) := by decide +kernel
theorem d_so_reaches_105 : decode c_so_reaches 105 = .ok (.ifCond .ne 20, 3) := by decide +kernel
theorem d_so_reaches_108 : decode c_so_reaches 108 = .ok (.iload 10, 2) := by decide +kernel
theorem d_so_reaches_110 : decode c_so_reaches 110 = .ok (.aload_n 0, 1) := by decide +kernel
theorem d_so_reaches_111 : decode c_so_reaches 111 = .ok (.iload_n 1, 1) := by decide +kernel
theorem d_so_reaches_112 : decode c_so_reaches 112 = .ok (.iload_n 2, 1) := by decide +kernel
theorem d_so_reaches_113 : decode c_so_reaches 113 = .ok (.iload_n 3, 1) := by decide +kernel
theorem d_so_reaches_114 : decode c_so_reaches 114 = .ok (.invokestatic 49, 3) := by decide +kernel
theorem d_so_reaches_117 : decode c_so_reaches 117 = .ok (.iload 5, 2) := by decide +kernel
theorem d_so_reaches_119 : decode c_so_reaches 119 = .ok (.if_icmp .ne 6, 3) := by decide +kernel
theorem d_so_reaches_122 : decode c_so_reaches 122 = .ok (.iload 5, 2) := by decide +kernel
theorem d_so_reaches_124 : decode c_so_reaches 124 = .ok (.ireturn, 1) := by decide +kernel
theorem d_so_reaches_125 : decode c_so_reaches 125 = .ok (.iload 10, 2) := by decide +kernel
theorem d_so_reaches_127 : decode c_so_reaches 127 = .ok (.istore 8, 2) := by decide +kernel
theorem d_so_reaches_129 : decode c_so_reaches 129 = .ok (.iinc 9 1, 3) := by decide +kernel
theorem d_so_reaches_132 : decode c_so_reaches 132 = .ok (.goto (-67), 3) := by decide +kernel
theorem d_so_reaches_135 : decode c_so_reaches 135 = .ok (.iload 5, 2) := by decide +kernel
theorem d_so_reaches_137 : decode c_so_reaches 137 = .ok (.ifCond .ne 7, 3) := by decide +kernel
theorem d_so_reaches_140 : decode c_so_reaches 140 = .ok (.iconst 1, 1) := by decide +kernel
theorem d_so_reaches_141 : decode c_so_reaches 141 = .ok (.goto 4, 3) := by decide +kernel
theorem d_so_reaches_144 : decode c_so_reaches 144 = .ok (.iconst 0, 1) := by decide +kernel
theorem d_so_reaches_145 : decode c_so_reaches 145 = .ok (.ireturn, 1) := by decide +kernel
abbrev c_so_reachesWith : ByteArray := prog_7_method_5_code
def y_so_reachesWith : MethodName := ⟨"ShortBridge$Solver", "reachesWith", "(ILShortBridge$Hands;III)Z"⟩
theorem d_so_reachesWith_0 : decode c_so_reachesWith 0 = .ok (.aload_n 1, 1) := by decide +kernel
theorem d_so_reachesWith_1 : decode c_so_reachesWith 1 = .ok (.iload_n 0, 1) := by decide +kernel
theorem d_so_reachesWith_2 : decode c_so_reachesWith 2 = .ok (.invokevirtual 53, 3) := by decide +kernel
theorem d_so_reachesWith_5 : decode c_so_reachesWith 5 = .ok (.aload_n 1, 1) := by decide +kernel
theorem d_so_reachesWith_6 : decode c_so_reachesWith 6 = .ok (.getfield 9, 3) := by decide +kernel
theorem d_so_reachesWith_9 : decode c_so_reachesWith 9 = .ok (.iconst 4, 1) := by decide +kernel
theorem d_so_reachesWith_10 : decode c_so_reachesWith 10 = .ok (.irem, 1) := by decide +kernel
theorem d_so_reachesWith_11 : decode c_so_reachesWith 11 = .ok (.ifCond .ne 18, 3) := by decide +kernel
theorem d_so_reachesWith_14 : decode c_so_reachesWith 14 = .ok (.aload_n 1, 1) := by decide +kernel
theorem d_so_reachesWith_15 : decode c_so_reachesWith 15 = .ok (.invokevirtual 28, 3) := by decide +kernel
theorem d_so_reachesWith_18 : decode c_so_reachesWith 18 = .ok (.invokestatic 32, 3) := by decide +kernel
theorem d_so_reachesWith_21 : decode c_so_reachesWith 21 = .ok (.iload_n 2, 1) := by decide +kernel
theorem d_so_reachesWith_22 : decode c_so_reachesWith 22 = .ok (.if_icmp .ne 7, 3) := by decide +kernel
theorem d_so_reachesWith_25 : decode c_so_reachesWith 25 = .ok (.iconst 1, 1) := by decide +kernel
theorem d_so_reachesWith_26 : decode c_so_reachesWith 26 = .ok (.goto 4, 3) := by decide +kernel
theorem d_so_reachesWith_29 : decode c_so_reachesWith 29 = .ok (.iconst 0, 1) := by decide +kernel
theorem d_so_reachesWith_30 : decode c_so_reachesWith 30 = .ok (.istore 5, 2) := by decide +kernel
theorem d_so_reachesWith_32 : decode c_so_reachesWith 32 = .ok (.aload_n 1, 1) := by decide +kernel
theorem d_so_reachesWith_33 : decode c_so_reachesWith 33 = .ok (.iload_n 2, 1) := by decide +kernel
theorem d_so_reachesWith_34 : decode c_so_reachesWith 34 = .ok (.iload 5, 2) := by decide +kernel
theorem d_so_reachesWith_36 : decode c_so_reachesWith 36 = .ok (.ifCond .eq 9, 3) := by decide +kernel
theorem d_so_reachesWith_39 : decode c_so_reachesWith 39 = .ok (.iload_n 3, 1) := by decide +kernel
theorem d_so_reachesWith_40 : decode c_so_reachesWith 40 = .ok (.iconst 1, 1) := by decide +kernel
theorem d_so_reachesWith_41 : decode c_so_reachesWith 41 = .ok (.isub, 1) := by decide +kernel
theorem d_so_reachesWith_42 : decode c_so_reachesWith 42 = .ok (.goto 4, 3) := by decide +kernel
theorem d_so_reachesWith_45 : decode c_so_reachesWith 45 = .ok (.iload_n 3, 1) := by decide +kernel
theorem d_so_reachesWith_46 : decode c_so_reachesWith 46 = .ok (.iload 4, 2) := by decide +kernel
theorem d_so_reachesWith_48 : decode c_so_reachesWith 48 = .ok (.iconst 1, 1) := by decide +kernel
theorem d_so_reachesWith_49 : decode c_so_reachesWith 49 = .ok (.isub, 1) := by decide +kernel
theorem d_so_reachesWith_50 : decode c_so_reachesWith 50 = .ok (.invokestatic 21, 3) := by decide +kernel
theorem d_so_reachesWith_53 : decode c_so_reachesWith 53 = .ok (.istore 6, 2) := by decide +kernel
theorem d_so_reachesWith_55 : decode c_so_reachesWith 55 = .ok (.aload_n 1, 1) := by decide +kernel
theorem d_so_reachesWith_56 : decode c_so_reachesWith 56 = .ok (.invokevirtual 57, 3) := by decide +kernel
theorem d_so_reachesWith_59 : decode c_so_reachesWith 59 = .ok (.iload 6, 2) := by decide +kernel
theorem d_so_reachesWith_61 : decode c_so_reachesWith 61 = .ok (.ireturn, 1) := by decide +kernel
abbrev c_so_areAlike : ByteArray := prog_7_method_6_code
def y_so_areAlike : MethodName := ⟨"ShortBridge$Solver", "areAlike", "(III)Z"⟩
theorem d_so_areAlike_0 : decode c_so_areAlike 0 = .ok (.iload_n 1, 1) := by decide +kernel
theorem d_so_areAlike_1 : decode c_so_areAlike 1 = .ok (.iconst (-1), 1) := by decide +kernel
theorem d_so_areAlike_2 : decode c_so_areAlike 2 = .ok (.if_icmp .eq 12, 3) := by decide +kernel
theorem d_so_areAlike_5 : decode c_so_areAlike 5 = .ok (.iload_n 0, 1) := by decide +kernel
theorem d_so_areAlike_6 : decode c_so_areAlike 6 = .ok (.iconst 5, 1) := by decide +kernel
theorem d_so_areAlike_7 : decode c_so_areAlike 7 = .ok (.idiv, 1) := by decide +kernel
theorem d_so_areAlike_8 : decode c_so_areAlike 8 = .ok (.iload_n 1, 1) := by decide +kernel
theorem d_so_areAlike_9 : decode c_so_areAlike 9 = .ok (.iconst 5, 1) := by decide +kernel
theorem d_so_areAlike_10 : decode c_so_areAlike 10 = .ok (.idiv, 1) := by decide +kernel
theorem d_so_areAlike_11 : decode c_so_areAlike 11 = .ok (.if_icmp .eq 5, 3) := by decide +kernel
theorem d_so_areAlike_14 : decode c_so_areAlike 14 = .ok (.iconst 0, 1) := by decide +kernel
theorem d_so_areAlike_15 : decode c_so_areAlike 15 = .ok (.ireturn, 1) := by decide +kernel
theorem d_so_areAlike_16 : decode c_so_areAlike 16 = .ok (.iconst 1, 1) := by decide +kernel
theorem d_so_areAlike_17 : decode c_so_areAlike 17 = .ok (.iload_n 1, 1) := by decide +kernel
theorem d_so_areAlike_18 : decode c_so_areAlike 18 = .ok (.ishl, 1) := by decide +kernel
theorem d_so_areAlike_19 : decode c_so_areAlike 19 = .ok (.iconst 1, 1) := by decide +kernel
theorem d_so_areAlike_20 : decode c_so_areAlike 20 = .ok (.iload_n 0, 1) := by decide +kernel
theorem d_so_areAlike_21 : decode c_so_areAlike 21 = .ok (.iconst 1, 1) := by decide +kernel
theorem d_so_areAlike_22 : decode c_so_areAlike 22 = .ok (.iadd, 1) := by decide +kernel
theorem d_so_areAlike_23 : decode c_so_areAlike 23 = .ok (.ishl, 1) := by decide +kernel
theorem d_so_areAlike_24 : decode c_so_areAlike 24 = .ok (.isub, 1) := by decide +kernel
theorem d_so_areAlike_25 : decode c_so_areAlike 25 = .ok (.istore_n 3, 1) := by decide +kernel
theorem d_so_areAlike_26 : decode c_so_areAlike 26 = .ok (.iload_n 2, 1) := by decide +kernel
theorem d_so_areAlike_27 : decode c_so_areAlike 27 = .ok (.iload_n 3, 1) := by decide +kernel
theorem d_so_areAlike_28 : decode c_so_areAlike 28 = .ok (.iand, 1) := by decide +kernel
theorem d_so_areAlike_29 : decode c_so_areAlike 29 = .ok (.ifCond .ne 7, 3) := by decide +kernel
theorem d_so_areAlike_32 : decode c_so_areAlike 32 = .ok (.iconst 1, 1) := by decide +kernel
theorem d_so_areAlike_33 : decode c_so_areAlike 33 = .ok (.goto 4, 3) := by decide +kernel
theorem d_so_areAlike_36 : decode c_so_areAlike 36 = .ok (.iconst 0, 1) := by decide +kernel
theorem d_so_areAlike_37 : decode c_so_areAlike 37 = .ok (.ireturn, 1) := by decide +kernel
