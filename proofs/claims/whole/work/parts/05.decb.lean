abbrev c_m_init : ByteArray := prog_9_method_1_code
def y_m_init : MethodName := ⟨"ShortBridgeModel", "<init>", "()V"⟩
theorem d_m_init_0 : decode c_m_init 0 = .ok (.aload_n 0, 1) := by decide +kernel
theorem d_m_init_1 : decode c_m_init 1 = .ok (.invokespecial 1, 3) := by decide +kernel
theorem d_m_init_4 : decode c_m_init 4 = .ok (.aload_n 0, 1) := by decide +kernel
theorem d_m_init_5 : decode c_m_init 5 = .ok (.bipush 20, 2) := by decide +kernel
theorem d_m_init_7 : decode c_m_init 7 = .ok (.newarray .int, 2) := by decide +kernel
theorem d_m_init_9 : decode c_m_init 9 = .ok (.putfield 7, 3) := by decide +kernel
theorem d_m_init_12 : decode c_m_init 12 = .ok (.aload_n 0, 1) := by decide +kernel
theorem d_m_init_13 : decode c_m_init 13 = .ok (.sipush 441, 3) := by decide +kernel
theorem d_m_init_16 : decode c_m_init 16 = .ok (.newarray .long, 2) := by decide +kernel
theorem d_m_init_18 : decode c_m_init 18 = .ok (.putfield 13, 3) := by decide +kernel
theorem d_m_init_21 : decode c_m_init 21 = .ok (.aload_n 0, 1) := by decide +kernel
theorem d_m_init_22 : decode c_m_init 22 = .ok (.sipush 240, 3) := by decide +kernel
theorem d_m_init_25 : decode c_m_init 25 = .ok (.newarray .int, 2) := by decide +kernel
theorem d_m_init_27 : decode c_m_init 27 = .ok (.putfield 17, 3) := by decide +kernel
theorem d_m_init_30 : decode c_m_init 30 = .ok (.aload_n 0, 1) := by decide +kernel
theorem d_m_init_31 : decode c_m_init 31 = .ok (.bipush 20, 2) := by decide +kernel
theorem d_m_init_33 : decode c_m_init 33 = .ok (.newarray .int, 2) := by decide +kernel
theorem d_m_init_35 : decode c_m_init 35 = .ok (.putfield 20, 3) := by decide +kernel
theorem d_m_init_38 : decode c_m_init 38 = .ok (.aload_n 0, 1) := by decide +kernel
theorem d_m_init_39 : decode c_m_init 39 = .ok (.bipush 21, 2) := by decide +kernel
theorem d_m_init_41 : decode c_m_init 41 = .ok (.newarray .int, 2) := by decide +kernel
theorem d_m_init_43 : decode c_m_init 43 = .ok (.putfield 23, 3) := by decide +kernel
theorem d_m_init_46 : decode c_m_init 46 = .ok (.aload_n 0, 1) := by decide +kernel
theorem d_m_init_47 : decode c_m_init 47 = .ok (.bipush 21, 2) := by decide +kernel
theorem d_m_init_49 : decode c_m_init 49 = .ok (.newarray .int, 2) := by decide +kernel
theorem d_m_init_51 : decode c_m_init 51 = .ok (.putfield 26, 3) := by decide +kernel
theorem d_m_init_54 : decode c_m_init 54 = .ok (.aload_n 0, 1) := by decide +kernel
theorem d_m_init_55 : decode c_m_init 55 = .ok (.bipush 21, 2) := by decide +kernel
theorem d_m_init_57 : decode c_m_init 57 = .ok (.newarray .int, 2) := by decide +kernel
theorem d_m_init_59 : decode c_m_init 59 = .ok (.putfield 29, 3) := by decide +kernel
theorem d_m_init_62 : decode c_m_init 62 = .ok (.aload_n 0, 1) := by decide +kernel
theorem d_m_init_63 : decode c_m_init 63 = .ok (.bipush 21, 2) := by decide +kernel
theorem d_m_init_65 : decode c_m_init 65 = .ok (.newarray .int, 2) := by decide +kernel
theorem d_m_init_67 : decode c_m_init 67 = .ok (.putfield 32, 3) := by decide +kernel
theorem d_m_init_70 : decode c_m_init 70 = .ok (.aload_n 0, 1) := by decide +kernel
theorem d_m_init_71 : decode c_m_init 71 = .ok (.bipush 21, 2) := by decide +kernel
theorem d_m_init_73 : decode c_m_init 73 = .ok (.newarray .int, 2) := by decide +kernel
theorem d_m_init_75 : decode c_m_init 75 = .ok (.putfield 35, 3) := by decide +kernel
theorem d_m_init_78 : decode c_m_init 78 = .ok (.aload_n 0, 1) := by decide +kernel
theorem d_m_init_79 : decode c_m_init 79 = .ok (.bipush 21, 2) := by decide +kernel
theorem d_m_init_81 : decode c_m_init 81 = .ok (.newarray .int, 2) := by decide +kernel
theorem d_m_init_83 : decode c_m_init 83 = .ok (.putfield 38, 3) := by decide +kernel
theorem d_m_init_86 : decode c_m_init 86 = .ok (.aload_n 0, 1) := by decide +kernel
theorem d_m_init_87 : decode c_m_init 87 = .ok (.bipush 21, 2) := by decide +kernel
theorem d_m_init_89 : decode c_m_init 89 = .ok (.newarray .int, 2) := by decide +kernel
theorem d_m_init_91 : decode c_m_init 91 = .ok (.putfield 41, 3) := by decide +kernel
theorem d_m_init_94 : decode c_m_init 94 = .ok (.aload_n 0, 1) := by decide +kernel
theorem d_m_init_95 : decode c_m_init 95 = .ok (.bipush 12, 2) := by decide +kernel
theorem d_m_init_97 : decode c_m_init 97 = .ok (.newarray .int, 2) := by decide +kernel
theorem d_m_init_99 : decode c_m_init 99 = .ok (.putfield 44, 3) := by decide +kernel
theorem d_m_init_102 : decode c_m_init 102 = .ok (.aload_n 0, 1) := by decide +kernel
theorem d_m_init_103 : decode c_m_init 103 = .ok (.bipush 12, 2) := by decide +kernel
theorem d_m_init_105 : decode c_m_init 105 = .ok (.newarray .long, 2) := by decide +kernel
theorem d_m_init_107 : decode c_m_init 107 = .ok (.putfield 47, 3) := by decide +kernel
theorem d_m_init_110 : decode c_m_init 110 = .ok (.iconst 0, 1) := by decide +kernel
theorem d_m_init_111 : decode c_m_init 111 = .ok (.istore_n 1, 1) := by decide +kernel
theorem d_m_init_112 : decode c_m_init 112 = .ok (.iload_n 1, 1) := by decide +kernel
theorem d_m_init_113 : decode c_m_init 113 = .ok (.bipush 20, 2) := by decide +kernel
theorem d_m_init_115 : decode c_m_init 115 = .ok (.if_icmp .gt 75, 3) := by decide +kernel
theorem d_m_init_118 : decode c_m_init 118 = .ok (.iconst 0, 1) := by decide +kernel
theorem d_m_init_119 : decode c_m_init 119 = .ok (.istore_n 2, 1) := by decide +kernel
theorem d_m_init_120 : decode c_m_init 120 = .ok (.iload_n 2, 1) := by decide +kernel
theorem d_m_init_121 : decode c_m_init 121 = .ok (.iload_n 1, 1) := by decide +kernel
theorem d_m_init_122 : decode c_m_init 122 = .ok (.if_icmp .gt 62, 3) := by decide +kernel
theorem d_m_init_125 : decode c_m_init 125 = .ok (.aload_n 0, 1) := by decide +kernel
theorem d_m_init_126 : decode c_m_init 126 = .ok (.getfield 13, 3) := by decide +kernel
theorem d_m_init_129 : decode c_m_init 129 = .ok (.bipush 21, 2) := by decide +kernel
theorem d_m_init_131 : decode c_m_init 131 = .ok (.iload_n 1, 1) := by decide +kernel
theorem d_m_init_132 : decode c_m_init 132 = .ok (.imul, 1) := by decide +kernel
theorem d_m_init_133 : decode c_m_init 133 = .ok (.iload_n 2, 1) := by decide +kernel
theorem d_m_init_134 : decode c_m_init 134 = .ok (.iadd, 1) := by decide +kernel
theorem d_m_init_135 : decode c_m_init 135 = .ok (.iload_n 2, 1) := by decide +kernel
theorem d_m_init_136 : decode c_m_init 136 = .ok (.ifCond .eq 8, 3) := by decide +kernel
theorem d_m_init_139 : decode c_m_init 139 = .ok (.iload_n 2, 1) := by decide +kernel
theorem d_m_init_140 : decode c_m_init 140 = .ok (.iload_n 1, 1) := by decide +kernel
theorem d_m_init_141 : decode c_m_init 141 = .ok (.if_icmp .ne 7, 3) := by decide +kernel
theorem d_m_init_144 : decode c_m_init 144 = .ok (.lconst 1, 1) := by decide +kernel
theorem d_m_init_145 : decode c_m_init 145 = .ok (.goto 32, 3) := by decide +kernel
theorem d_m_init_148 : decode c_m_init 148 = .ok (.aload_n 0, 1) := by decide +kernel
theorem d_m_init_149 : decode c_m_init 149 = .ok (.getfield 13, 3) := by decide +kernel
theorem d_m_init_152 : decode c_m_init 152 = .ok (.bipush 21, 2) := by decide +kernel
theorem d_m_init_154 : decode c_m_init 154 = .ok (.iload_n 1, 1) := by decide +kernel
theorem d_m_init_155 : decode c_m_init 155 = .ok (.iconst 1, 1) := by decide +kernel
theorem d_m_init_156 : decode c_m_init 156 = .ok (.isub, 1) := by decide +kernel
theorem d_m_init_157 : decode c_m_init 157 = .ok (.imul, 1) := by decide +kernel
theorem d_m_init_158 : decode c_m_init 158 = .ok (.iload_n 2, 1) := by decide +kernel
theorem d_m_init_159 : decode c_m_init 159 = .ok (.iadd, 1) := by decide +kernel
theorem d_m_init_160 : decode c_m_init 160 = .ok (.iconst 1, 1) := by decide +kernel
theorem d_m_init_161 : decode c_m_init 161 = .ok (.isub, 1) := by decide +kernel
theorem d_m_init_162 : decode c_m_init 162 = .ok (.laload, 1) := by decide +kernel
theorem d_m_init_163 : decode c_m_init 163 = .ok (.aload_n 0, 1) := by decide +kernel
theorem d_m_init_164 : decode c_m_init 164 = .ok (.getfield 13, 3) := by decide +kernel
theorem d_m_init_167 : decode c_m_init 167 = .ok (.bipush 21, 2) := by decide +kernel
theorem d_m_init_169 : decode c_m_init 169 = .ok (.iload_n 1, 1) := by decide +kernel
theorem d_m_init_170 : decode c_m_init 170 = .ok (.iconst 1, 1) := by decide +kernel
theorem d_m_init_171 : decode c_m_init 171 = .ok (.isub, 1) := by decide +kernel
theorem d_m_init_172 : decode c_m_init 172 = .ok (.imul, 1) := by decide +kernel
theorem d_m_init_173 : decode c_m_init 173 = .ok (.iload_n 2, 1) := by decide +kernel
theorem d_m_init_174 : decode c_m_init 174 = .ok (.iadd, 1) := by decide +kernel
theorem d_m_init_175 : decode c_m_init 175 = .ok (.laload, 1) := by decide +kernel
theorem d_m_init_176 : decode c_m_init 176 = .ok (.ladd, 1) := by decide +kernel
theorem d_m_init_177 : decode c_m_init 177 = .ok (.lastore, 1) := by decide +kernel
theorem d_m_init_178 : decode c_m_init 178 = .ok (.iinc 2 1, 3) := by decide +kernel
theorem d_m_init_181 : decode c_m_init 181 = .ok (.goto (-61), 3) := by decide +kernel
theorem d_m_init_184 : decode c_m_init 184 = .ok (.iinc 1 1, 3) := by decide +kernel
theorem d_m_init_187 : decode c_m_init 187 = .ok (.goto (-75), 3) := by decide +kernel
theorem d_m_init_190 : decode c_m_init 190 = .ok (.return_, 1) := by decide +kernel
abbrev c_m_thrown : ByteArray := prog_9_method_2_code
def y_m_thrown : MethodName := ⟨"ShortBridgeModel", "thrown", "()I"⟩
theorem d_m_thrown_0 : decode c_m_thrown 0 = .ok (.aload_n 0, 1) := by decide +kernel
theorem d_m_thrown_1 : decode c_m_thrown 1 = .ok (.getfield 50, 3) := by decide +kernel
theorem d_m_thrown_4 : decode c_m_thrown 4 = .ok (.ireturn, 1) := by decide +kernel
abbrev c_m_rows : ByteArray := prog_9_method_3_code
def y_m_rows : MethodName := ⟨"ShortBridgeModel", "rows", "(IIII)J"⟩
theorem d_m_rows_0 : decode c_m_rows 0 = .ok (.iload_n 1, 1) := by decide +kernel
theorem d_m_rows_1 : decode c_m_rows 1 = .ok (.ifCond .lt 16, 3) := by decide +kernel
theorem d_m_rows_4 : decode c_m_rows 4 = .ok (.iload_n 2, 1) := by decide +kernel
theorem d_m_rows_5 : decode c_m_rows 5 = .ok (.ifCond .lt 12, 3) := by decide +kernel
theorem d_m_rows_8 : decode c_m_rows 8 = .ok (.iload_n 3, 1) := by decide +kernel
theorem d_m_rows_9 : decode c_m_rows 9 = .ok (.ifCond .lt 8, 3) := by decide +kernel
theorem d_m_rows_12 : decode c_m_rows 12 = .ok (.iload 4, 2) := by decide +kernel
theorem d_m_rows_14 : decode c_m_rows 14 = .ok (.ifCond .ge 5, 3) := by decide +kernel
theorem d_m_rows_17 : decode c_m_rows 17 = .ok (.lconst 0, 1) := by decide +kernel
theorem d_m_rows_18 : decode c_m_rows 18 = .ok (.lreturn, 1) := by decide +kernel
theorem d_m_rows_19 : decode c_m_rows 19 = .ok (.aload_n 0, 1) := by decide +kernel
theorem d_m_rows_20 : decode c_m_rows 20 = .ok (.getfield 13, 3) := by decide +kernel
theorem d_m_rows_23 : decode c_m_rows 23 = .ok (.bipush 21, 2) := by decide +kernel
theorem d_m_rows_25 : decode c_m_rows 25 = .ok (.iload_n 1, 1) := by decide +kernel
theorem d_m_rows_26 : decode c_m_rows 26 = .ok (.iload_n 2, 1) := by decide +kernel
theorem d_m_rows_27 : decode c_m_rows 27 = .ok (.iadd, 1) := by decide +kernel
theorem d_m_rows_28 : decode c_m_rows 28 = .ok (.iload_n 3, 1) := by decide +kernel
theorem d_m_rows_29 : decode c_m_rows 29 = .ok (.iadd, 1) := by decide +kernel
theorem d_m_rows_30 : decode c_m_rows 30 = .ok (.iload 4, 2) := by decide +kernel
theorem d_m_rows_32 : decode c_m_rows 32 = .ok (.iadd, 1) := by decide +kernel
theorem d_m_rows_33 : decode c_m_rows 33 = .ok (.imul, 1) := by decide +kernel
theorem d_m_rows_34 : decode c_m_rows 34 = .ok (.iload_n 1, 1) := by decide +kernel
theorem d_m_rows_35 : decode c_m_rows 35 = .ok (.iadd, 1) := by decide +kernel
theorem d_m_rows_36 : decode c_m_rows 36 = .ok (.laload, 1) := by decide +kernel
theorem d_m_rows_37 : decode c_m_rows 37 = .ok (.aload_n 0, 1) := by decide +kernel
theorem d_m_rows_38 : decode c_m_rows 38 = .ok (.getfield 13, 3) := by decide +kernel
theorem d_m_rows_41 : decode c_m_rows 41 = .ok (.bipush 21, 2) := by decide +kernel
theorem d_m_rows_43 : decode c_m_rows 43 = .ok (.iload_n 2, 1) := by decide +kernel
theorem d_m_rows_44 : decode c_m_rows 44 = .ok (.iload_n 3, 1) := by decide +kernel
theorem d_m_rows_45 : decode c_m_rows 45 = .ok (.iadd, 1) := by decide +kernel
theorem d_m_rows_46 : decode c_m_rows 46 = .ok (.iload 4, 2) := by decide +kernel
theorem d_m_rows_48 : decode c_m_rows 48 = .ok (.iadd, 1) := by decide +kernel
theorem d_m_rows_49 : decode c_m_rows 49 = .ok (.imul, 1) := by decide +kernel
theorem d_m_rows_50 : decode c_m_rows 50 = .ok (.iload_n 2, 1) := by decide +kernel
theorem d_m_rows_51 : decode c_m_rows 51 = .ok (.iadd, 1) := by decide +kernel
theorem d_m_rows_52 : decode c_m_rows 52 = .ok (.laload, 1) := by decide +kernel
theorem d_m_rows_53 : decode c_m_rows 53 = .ok (.lmul, 1) := by decide +kernel
theorem d_m_rows_54 : decode c_m_rows 54 = .ok (.aload_n 0, 1) := by decide +kernel
theorem d_m_rows_55 : decode c_m_rows 55 = .ok (.getfield 13, 3) := by decide +kernel
theorem d_m_rows_58 : decode c_m_rows 58 = .ok (.bipush 21, 2) := by decide +kernel
theorem d_m_rows_60 : decode c_m_rows 60 = .ok (.iload_n 3, 1) := by decide +kernel
theorem d_m_rows_61 : decode c_m_rows 61 = .ok (.iload 4, 2) := by decide +kernel
theorem d_m_rows_63 : decode c_m_rows 63 = .ok (.iadd, 1) := by decide +kernel
theorem d_m_rows_64 : decode c_m_rows 64 = .ok (.imul, 1) := by decide +kernel
theorem d_m_rows_65 : decode c_m_rows 65 = .ok (.iload_n 3, 1) := by decide +kernel
theorem d_m_rows_66 : decode c_m_rows 66 = .ok (.iadd, 1) := by decide +kernel
theorem d_m_rows_67 : decode c_m_rows 67 = .ok (.laload, 1) := by decide +kernel
theorem d_m_rows_68 : decode c_m_rows 68 = .ok (.lmul, 1) := by decide +kernel
theorem d_m_rows_69 : decode c_m_rows 69 = .ok (.lreturn, 1) := by decide +kernel
abbrev c_m_rowsWith : ByteArray := prog_9_method_4_code
def y_m_rowsWith : MethodName := ⟨"ShortBridgeModel", "rowsWith", "(II)J"⟩
theorem d_m_rowsWith_0 : decode c_m_rowsWith 0 = .ok (.iload_n 1, 1) := by decide +kernel
theorem d_m_rowsWith_1 : decode c_m_rowsWith 1 = .ok (.bipush 31, 2) := by decide +kernel
theorem d_m_rowsWith_3 : decode c_m_rowsWith 3 = .ok (.iand, 1) := by decide +kernel
theorem d_m_rowsWith_4 : decode c_m_rowsWith 4 = .ok (.iload_n 2, 1) := by decide +kernel
theorem d_m_rowsWith_5 : decode c_m_rowsWith 5 = .ok (.ifCond .ne 7, 3) := by decide +kernel
theorem d_m_rowsWith_8 : decode c_m_rowsWith 8 = .ok (.iconst 1, 1) := by decide +kernel
theorem d_m_rowsWith_9 : decode c_m_rowsWith 9 = .ok (.goto 4, 3) := by decide +kernel
theorem d_m_rowsWith_12 : decode c_m_rowsWith 12 = .ok (.iconst 0, 1) := by decide +kernel
theorem d_m_rowsWith_13 : decode c_m_rowsWith 13 = .ok (.isub, 1) := by decide +kernel
theorem d_m_rowsWith_14 : decode c_m_rowsWith 14 = .ok (.istore_n 3, 1) := by decide +kernel
theorem d_m_rowsWith_15 : decode c_m_rowsWith 15 = .ok (.iload_n 1, 1) := by decide +kernel
theorem d_m_rowsWith_16 : decode c_m_rowsWith 16 = .ok (.iconst 5, 1) := by decide +kernel
theorem d_m_rowsWith_17 : decode c_m_rowsWith 17 = .ok (.ishr, 1) := by decide +kernel
theorem d_m_rowsWith_18 : decode c_m_rowsWith 18 = .ok (.bipush 31, 2) := by decide +kernel
theorem d_m_rowsWith_20 : decode c_m_rowsWith 20 = .ok (.iand, 1) := by decide +kernel
theorem d_m_rowsWith_21 : decode c_m_rowsWith 21 = .ok (.iload_n 2, 1) := by decide +kernel
theorem d_m_rowsWith_22 : decode c_m_rowsWith 22 = .ok (.iconst 1, 1) := by decide +kernel
theorem d_m_rowsWith_23 : decode c_m_rowsWith 23 = .ok (.if_icmp .ne 7, 3) := by decide +kernel
theorem d_m_rowsWith_26 : decode c_m_rowsWith 26 = .ok (.iconst 1, 1) := by decide +kernel
theorem d_m_rowsWith_27 : decode c_m_rowsWith 27 = .ok (.goto 4, 3) := by decide +kernel
theorem d_m_rowsWith_30 : decode c_m_rowsWith 30 = .ok (.iconst 0, 1) := by decide +kernel
theorem d_m_rowsWith_31 : decode c_m_rowsWith 31 = .ok (.isub, 1) := by decide +kernel
theorem d_m_rowsWith_32 : decode c_m_rowsWith 32 = .ok (.istore 4, 2) := by decide +kernel
theorem d_m_rowsWith_34 : decode c_m_rowsWith 34 = .ok (.iload_n 1, 1) := by decide +kernel
theorem d_m_rowsWith_35 : decode c_m_rowsWith 35 = .ok (.bipush 10, 2) := by decide +kernel
theorem d_m_rowsWith_37 : decode c_m_rowsWith 37 = .ok (.ishr, 1) := by decide +kernel
theorem d_m_rowsWith_38 : decode c_m_rowsWith 38 = .ok (.bipush 31, 2) := by decide +kernel
theorem d_m_rowsWith_40 : decode c_m_rowsWith 40 = .ok (.iand, 1) := by decide +kernel
theorem d_m_rowsWith_41 : decode c_m_rowsWith 41 = .ok (.iload_n 2, 1) := by decide +kernel
theorem d_m_rowsWith_42 : decode c_m_rowsWith 42 = .ok (.iconst 2, 1) := by decide +kernel
theorem d_m_rowsWith_43 : decode c_m_rowsWith 43 = .ok (.if_icmp .ne 7, 3) := by decide +kernel
theorem d_m_rowsWith_46 : decode c_m_rowsWith 46 = .ok (.iconst 1, 1) := by decide +kernel
theorem d_m_rowsWith_47 : decode c_m_rowsWith 47 = .ok (.goto 4, 3) := by decide +kernel
theorem d_m_rowsWith_50 : decode c_m_rowsWith 50 = .ok (.iconst 0, 1) := by decide +kernel
theorem d_m_rowsWith_51 : decode c_m_rowsWith 51 = .ok (.isub, 1) := by decide +kernel
theorem d_m_rowsWith_52 : decode c_m_rowsWith 52 = .ok (.istore 5, 2) := by decide +kernel
theorem d_m_rowsWith_54 : decode c_m_rowsWith 54 = .ok (.iload_n 1, 1) := by decide +kernel
theorem d_m_rowsWith_55 : decode c_m_rowsWith 55 = .ok (.bipush 15, 2) := by decide +kernel
theorem d_m_rowsWith_57 : decode c_m_rowsWith 57 = .ok (.ishr, 1) := by decide +kernel
theorem d_m_rowsWith_58 : decode c_m_rowsWith 58 = .ok (.bipush 31, 2) := by decide +kernel
theorem d_m_rowsWith_60 : decode c_m_rowsWith 60 = .ok (.iand, 1) := by decide +kernel
theorem d_m_rowsWith_61 : decode c_m_rowsWith 61 = .ok (.iload_n 2, 1) := by decide +kernel
theorem d_m_rowsWith_62 : decode c_m_rowsWith 62 = .ok (.iconst 3, 1) := by decide +kernel
theorem d_m_rowsWith_63 : decode c_m_rowsWith 63 = .ok (.if_icmp .ne 7, 3) := by decide +kernel
theorem d_m_rowsWith_66 : decode c_m_rowsWith 66 = .ok (.iconst 1, 1) := by decide +kernel
theorem d_m_rowsWith_67 : decode c_m_rowsWith 67 = .ok (.goto 4, 3) := by decide +kernel
theorem d_m_rowsWith_70 : decode c_m_rowsWith 70 = .ok (.iconst 0, 1) := by decide +kernel
theorem d_m_rowsWith_71 : decode c_m_rowsWith 71 = .ok (.isub, 1) := by decide +kernel
theorem d_m_rowsWith_72 : decode c_m_rowsWith 72 = .ok (.istore 6, 2) := by decide +kernel
theorem d_m_rowsWith_74 : decode c_m_rowsWith 74 = .ok (.aload_n 0, 1) := by decide +kernel
theorem d_m_rowsWith_75 : decode c_m_rowsWith 75 = .ok (.iload_n 3, 1) := by decide +kernel
theorem d_m_rowsWith_76 : decode c_m_rowsWith 76 = .ok (.iload 4, 2) := by decide +kernel
theorem d_m_rowsWith_78 : decode c_m_rowsWith 78 = .ok (.iload 5, 2) := by decide +kernel
theorem d_m_rowsWith_80 : decode c_m_rowsWith 80 = .ok (.iload 6, 2) := by decide +kernel
theorem d_m_rowsWith_82 : decode c_m_rowsWith 82 = .ok (.invokevirtual 54, 3) := by decide +kernel
theorem d_m_rowsWith_85 : decode c_m_rowsWith 85 = .ok (.lreturn, 1) := by decide +kernel
abbrev c_m_unrank : ByteArray := prog_9_method_5_code
def y_m_unrank : MethodName := ⟨"ShortBridgeModel", "unrank", "(J)V"⟩
theorem d_m_unrank_0 : decode c_m_unrank 0 = .ok (.ldc 58, 2) := by decide +kernel
theorem d_m_unrank_2 : decode c_m_unrank 2 = .ok (.istore_n 3, 1) := by decide +kernel
theorem d_m_unrank_3 : decode c_m_unrank 3 = .ok (.lload_n 1, 1) := by decide +kernel
theorem d_m_unrank_4 : decode c_m_unrank 4 = .ok (.lstore 4, 2) := by decide +kernel
theorem d_m_unrank_6 : decode c_m_unrank 6 = .ok (.iconst 0, 1) := by decide +kernel
theorem d_m_unrank_7 : decode c_m_unrank 7 = .ok (.istore 6, 2) := by decide +kernel
theorem d_m_unrank_9 : decode c_m_unrank 9 = .ok (.iload 6, 2) := by decide +kernel
theorem d_m_unrank_11 : decode c_m_unrank 11 = .ok (.bipush 20, 2) := by decide +kernel
theorem d_m_unrank_13 : decode c_m_unrank 13 = .ok (.if_icmp .ge 64, 3) := by decide +kernel
theorem d_m_unrank_16 : decode c_m_unrank 16 = .ok (.iconst 0, 1) := by decide +kernel
theorem d_m_unrank_17 : decode c_m_unrank 17 = .ok (.istore 7, 2) := by decide +kernel
theorem d_m_unrank_19 : decode c_m_unrank 19 = .ok (.lload 4, 2) := by decide +kernel
theorem d_m_unrank_21 : decode c_m_unrank 21 = .ok (.aload_n 0, 1) := by decide +kernel
theorem d_m_unrank_22 : decode c_m_unrank 22 = .ok (.iload_n 3, 1) := by decide +kernel
theorem d_m_unrank_23 : decode c_m_unrank 23 = .ok (.iload 7, 2) := by decide +kernel
theorem d_m_unrank_25 : decode c_m_unrank 25 = .ok (.invokevirtual 59, 3) := by decide +kernel
theorem d_m_unrank_28 : decode c_m_unrank 28 = .ok (.lcmp, 1) := by decide +kernel
theorem d_m_unrank_29 : decode c_m_unrank 29 = .ok (.ifCond .lt 24, 3) := by decide +kernel
theorem d_m_unrank_32 : decode c_m_unrank 32 = .ok (.lload 4, 2) := by decide +kernel
theorem d_m_unrank_34 : decode c_m_unrank 34 = .ok (.aload_n 0, 1) := by decide +kernel
theorem d_m_unrank_35 : decode c_m_unrank 35 = .ok (.iload_n 3, 1) := by decide +kernel
theorem d_m_unrank_36 : decode c_m_unrank 36 = .ok (.iload 7, 2) := by decide +kernel
theorem d_m_unrank_38 : decode c_m_unrank 38 = .ok (.invokevirtual 59, 3) := by decide +kernel
theorem d_m_unrank_41 : decode c_m_unrank 41 = .ok (.lsub, 1) := by decide +kernel
theorem d_m_unrank_42 : decode c_m_unrank 42 = .ok (.lstore 4, 2) := by decide +kernel
theorem d_m_unrank_44 : decode c_m_unrank 44 = .ok (.iload 7, 2) := by decide +kernel
theorem d_m_unrank_46 : decode c_m_unrank 46 = .ok (.iconst 1, 1) := by decide +kernel
theorem d_m_unrank_47 : decode c_m_unrank 47 = .ok (.iadd, 1) := by decide +kernel
theorem d_m_unrank_48 : decode c_m_unrank 48 = .ok (.istore 7, 2) := by decide +kernel
theorem d_m_unrank_50 : decode c_m_unrank 50 = .ok (.goto (-31), 3) := by decide +kernel
theorem d_m_unrank_53 : decode c_m_unrank 53 = .ok (.aload_n 0, 1) := by decide +kernel
theorem d_m_unrank_54 : decode c_m_unrank 54 = .ok (.getfield 7, 3) := by decide +kernel
theorem d_m_unrank_57 : decode c_m_unrank 57 = .ok (.iload 6, 2) := by decide +kernel
theorem d_m_unrank_59 : decode c_m_unrank 59 = .ok (.iload 7, 2) := by decide +kernel
theorem d_m_unrank_61 : decode c_m_unrank 61 = .ok (.iastore, 1) := by decide +kernel
theorem d_m_unrank_62 : decode c_m_unrank 62 = .ok (.iload_n 3, 1) := by decide +kernel
theorem d_m_unrank_63 : decode c_m_unrank 63 = .ok (.iconst 1, 1) := by decide +kernel
theorem d_m_unrank_64 : decode c_m_unrank 64 = .ok (.iconst 5, 1) := by decide +kernel
theorem d_m_unrank_65 : decode c_m_unrank 65 = .ok (.iload 7, 2) := by decide +kernel
theorem d_m_unrank_67 : decode c_m_unrank 67 = .ok (.imul, 1) := by decide +kernel
theorem d_m_unrank_68 : decode c_m_unrank 68 = .ok (.ishl, 1) := by decide +kernel
theorem d_m_unrank_69 : decode c_m_unrank 69 = .ok (.isub, 1) := by decide +kernel
theorem d_m_unrank_70 : decode c_m_unrank 70 = .ok (.istore_n 3, 1) := by decide +kernel
theorem d_m_unrank_71 : decode c_m_unrank 71 = .ok (.iinc 6 1, 3) := by decide +kernel
theorem d_m_unrank_74 : decode c_m_unrank 74 = .ok (.goto (-65), 3) := by decide +kernel
theorem d_m_unrank_77 : decode c_m_unrank 77 = .ok (.return_, 1) := by decide +kernel
abbrev c_m_rank : ByteArray := prog_9_method_6_code
def y_m_rank : MethodName := ⟨"ShortBridgeModel", "rank", "()J"⟩
theorem d_m_rank_0 : decode c_m_rank 0 = .ok (.ldc 58, 2) := by decide +kernel
theorem d_m_rank_2 : decode c_m_rank 2 = .ok (.istore_n 1, 1) := by decide +kernel
theorem d_m_rank_3 : decode c_m_rank 3 = .ok (.lconst 0, 1) := by decide +kernel
theorem d_m_rank_4 : decode c_m_rank 4 = .ok (.lstore_n 2, 1) := by decide +kernel
theorem d_m_rank_5 : decode c_m_rank 5 = .ok (.iconst 0, 1) := by decide +kernel
theorem d_m_rank_6 : decode c_m_rank 6 = .ok (.istore 4, 2) := by decide +kernel
theorem d_m_rank_8 : decode c_m_rank 8 = .ok (.iload 4, 2) := by decide +kernel
theorem d_m_rank_10 : decode c_m_rank 10 = .ok (.bipush 20, 2) := by decide +kernel
theorem d_m_rank_12 : decode c_m_rank 12 = .ok (.if_icmp .ge 54, 3) := by decide +kernel
theorem d_m_rank_15 : decode c_m_rank 15 = .ok (.iconst 0, 1) := by decide +kernel
theorem d_m_rank_16 : decode c_m_rank 16 = .ok (.istore 5, 2) := by decide +kernel
theorem d_m_rank_18 : decode c_m_rank 18 = .ok (.iload 5, 2) := by decide +kernel
theorem d_m_rank_20 : decode c_m_rank 20 = .ok (.aload_n 0, 1) := by decide +kernel
theorem d_m_rank_21 : decode c_m_rank 21 = .ok (.getfield 7, 3) := by decide +kernel
theorem d_m_rank_24 : decode c_m_rank 24 = .ok (.iload 4, 2) := by decide +kernel
theorem d_m_rank_26 : decode c_m_rank 26 = .ok (.iaload, 1) := by decide +kernel
theorem d_m_rank_27 : decode c_m_rank 27 = .ok (.if_icmp .ge 19, 3) := by decide +kernel
theorem d_m_rank_30 : decode c_m_rank 30 = .ok (.lload_n 2, 1) := by decide +kernel
theorem d_m_rank_31 : decode c_m_rank 31 = .ok (.aload_n 0, 1) := by decide +kernel
theorem d_m_rank_32 : decode c_m_rank 32 = .ok (.iload_n 1, 1) := by decide +kernel
theorem d_m_rank_33 : decode c_m_rank 33 = .ok (.iload 5, 2) := by decide +kernel
theorem d_m_rank_35 : decode c_m_rank 35 = .ok (.invokevirtual 59, 3) := by decide +kernel
theorem d_m_rank_38 : decode c_m_rank 38 = .ok (.ladd, 1) := by decide +kernel
theorem d_m_rank_39 : decode c_m_rank 39 = .ok (.lstore_n 2, 1) := by decide +kernel
theorem d_m_rank_40 : decode c_m_rank 40 = .ok (.iinc 5 1, 3) := by decide +kernel
theorem d_m_rank_43 : decode c_m_rank 43 = .ok (.goto (-25), 3) := by decide +kernel
theorem d_m_rank_46 : decode c_m_rank 46 = .ok (.iload_n 1, 1) := by decide +kernel
theorem d_m_rank_47 : decode c_m_rank 47 = .ok (.iconst 1, 1) := by decide +kernel
theorem d_m_rank_48 : decode c_m_rank 48 = .ok (.iconst 5, 1) := by decide +kernel
theorem d_m_rank_49 : decode c_m_rank 49 = .ok (.aload_n 0, 1) := by decide +kernel
theorem d_m_rank_50 : decode c_m_rank 50 = .ok (.getfield 7, 3) := by decide +kernel
theorem d_m_rank_53 : decode c_m_rank 53 = .ok (.iload 4, 2) := by decide +kernel
theorem d_m_rank_55 : decode c_m_rank 55 = .ok (.iaload, 1) := by decide +kernel
theorem d_m_rank_56 : decode c_m_rank 56 = .ok (.imul, 1) := by decide +kernel
theorem d_m_rank_57 : decode c_m_rank 57 = .ok (.ishl, 1) := by decide +kernel
theorem d_m_rank_58 : decode c_m_rank 58 = .ok (.isub, 1) := by decide +kernel
theorem d_m_rank_59 : decode c_m_rank 59 = .ok (.istore_n 1, 1) := by decide +kernel
theorem d_m_rank_60 : decode c_m_rank 60 = .ok (.iinc 4 1, 3) := by decide +kernel
theorem d_m_rank_63 : decode c_m_rank 63 = .ok (.goto (-55), 3) := by decide +kernel
theorem d_m_rank_66 : decode c_m_rank 66 = .ok (.lload_n 2, 1) := by decide +kernel
theorem d_m_rank_67 : decode c_m_rank 67 = .ok (.lreturn, 1) := by decide +kernel
abbrev c_m_begin : ByteArray := prog_9_method_7_code
def y_m_begin : MethodName := ⟨"ShortBridgeModel", "begin", "(II)V"⟩
theorem d_m_begin_0 : decode c_m_begin 0 = .ok (.aload_n 0, 1) := by decide +kernel
theorem d_m_begin_1 : decode c_m_begin 1 = .ok (.iconst 1, 1) := by decide +kernel
theorem d_m_begin_2 : decode c_m_begin 2 = .ok (.putfield 63, 3) := by decide +kernel
theorem d_m_begin_5 : decode c_m_begin 5 = .ok (.aload_n 0, 1) := by decide +kernel
theorem d_m_begin_6 : decode c_m_begin 6 = .ok (.aload_n 0, 1) := by decide +kernel
theorem d_m_begin_7 : decode c_m_begin 7 = .ok (.invokevirtual 67, 3) := by decide +kernel
theorem d_m_begin_10 : decode c_m_begin 10 = .ok (.putfield 71, 3) := by decide +kernel
theorem d_m_begin_13 : decode c_m_begin 13 = .ok (.aload_n 0, 1) := by decide +kernel
theorem d_m_begin_14 : decode c_m_begin 14 = .ok (.iload_n 1, 1) := by decide +kernel
theorem d_m_begin_15 : decode c_m_begin 15 = .ok (.putfield 75, 3) := by decide +kernel
theorem d_m_begin_18 : decode c_m_begin 18 = .ok (.aload_n 0, 1) := by decide +kernel
theorem d_m_begin_19 : decode c_m_begin 19 = .ok (.iload_n 2, 1) := by decide +kernel
theorem d_m_begin_20 : decode c_m_begin 20 = .ok (.putfield 78, 3) := by decide +kernel
theorem d_m_begin_23 : decode c_m_begin 23 = .ok (.aload_n 0, 1) := by decide +kernel
theorem d_m_begin_24 : decode c_m_begin 24 = .ok (.iconst 0, 1) := by decide +kernel
theorem d_m_begin_25 : decode c_m_begin 25 = .ok (.putfield 81, 3) := by decide +kernel
theorem d_m_begin_28 : decode c_m_begin 28 = .ok (.aload_n 0, 1) := by decide +kernel
theorem d_m_begin_29 : decode c_m_begin 29 = .ok (.iconst 0, 1) := by decide +kernel
theorem d_m_begin_30 : decode c_m_begin 30 = .ok (.putfield 84, 3) := by decide +kernel
theorem d_m_begin_33 : decode c_m_begin 33 = .ok (.return_, 1) := by decide +kernel
abbrev c_m_isPlayer : ByteArray := prog_9_method_8_code
def y_m_isPlayer : MethodName := ⟨"ShortBridgeModel", "isPlayer", "(I)Z"⟩
theorem d_m_isPlayer_0 : decode c_m_isPlayer 0 = .ok (.iload_n 0, 1) := by decide +kernel
theorem d_m_isPlayer_1 : decode c_m_isPlayer 1 = .ok (.ifCond .lt 12, 3) := by decide +kernel
theorem d_m_isPlayer_4 : decode c_m_isPlayer 4 = .ok (.iload_n 0, 1) := by decide +kernel
theorem d_m_isPlayer_5 : decode c_m_isPlayer 5 = .ok (.iconst 4, 1) := by decide +kernel
theorem d_m_isPlayer_6 : decode c_m_isPlayer 6 = .ok (.if_icmp .ge 7, 3) := by decide +kernel
theorem d_m_isPlayer_9 : decode c_m_isPlayer 9 = .ok (.iconst 1, 1) := by decide +kernel
theorem d_m_isPlayer_10 : decode c_m_isPlayer 10 = .ok (.goto 4, 3) := by decide +kernel
theorem d_m_isPlayer_13 : decode c_m_isPlayer 13 = .ok (.iconst 0, 1) := by decide +kernel
theorem d_m_isPlayer_14 : decode c_m_isPlayer 14 = .ok (.ireturn, 1) := by decide +kernel
abbrev c_m_deal : ByteArray := prog_9_method_9_code
def y_m_deal : MethodName := ⟨"ShortBridgeModel", "deal", "(JII)Z"⟩
theorem d_m_deal_0 : decode c_m_deal 0 = .ok (.aload_n 0, 1) := by decide +kernel
theorem d_m_deal_1 : decode c_m_deal 1 = .ok (.iconst 0, 1) := by decide +kernel
theorem d_m_deal_2 : decode c_m_deal 2 = .ok (.putfield 50, 3) := by decide +kernel
theorem d_m_deal_5 : decode c_m_deal 5 = .ok (.lload_n 1, 1) := by decide +kernel
theorem d_m_deal_6 : decode c_m_deal 6 = .ok (.lconst 0, 1) := by decide +kernel
theorem d_m_deal_7 : decode c_m_deal 7 = .ok (.lcmp, 1) := by decide +kernel
theorem d_m_deal_8 : decode c_m_deal 8 = .ok (.ifCond .lt 29, 3) := by decide +kernel
theorem d_m_deal_11 : decode c_m_deal 11 = .ok (.lload_n 1, 1) := by decide +kernel
theorem d_m_deal_12 : decode c_m_deal 12 = .ok (.ldc2_w 87, 3) := by decide +kernel
theorem d_m_deal_15 : decode c_m_deal 15 = .ok (.lcmp, 1) := by decide +kernel
theorem d_m_deal_16 : decode c_m_deal 16 = .ok (.ifCond .ge 21, 3) := by decide +kernel
theorem d_m_deal_19 : decode c_m_deal 19 = .ok (.iload_n 3, 1) := by decide +kernel
theorem d_m_deal_20 : decode c_m_deal 20 = .ok (.invokestatic 89, 3) := by decide +kernel
theorem d_m_deal_23 : decode c_m_deal 23 = .ok (.ifCond .eq 14, 3) := by decide +kernel
theorem d_m_deal_26 : decode c_m_deal 26 = .ok (.iload 4, 2) := by decide +kernel
theorem d_m_deal_28 : decode c_m_deal 28 = .ok (.ifCond .lt 9, 3) := by decide +kernel
theorem d_m_deal_31 : decode c_m_deal 31 = .ok (.iload 4, 2) := by decide +kernel
theorem d_m_deal_33 : decode c_m_deal 33 = .ok (.iconst 3, 1) := by decide +kernel
theorem d_m_deal_34 : decode c_m_deal 34 = .ok (.if_icmp .le 5, 3) := by decide +kernel
theorem d_m_deal_37 : decode c_m_deal 37 = .ok (.iconst 0, 1) := by decide +kernel
theorem d_m_deal_38 : decode c_m_deal 38 = .ok (.ireturn, 1) := by decide +kernel
theorem d_m_deal_39 : decode c_m_deal 39 = .ok (.aload_n 0, 1) := by decide +kernel
theorem d_m_deal_40 : decode c_m_deal 40 = .ok (.lload_n 1, 1) := by decide +kernel
theorem d_m_deal_41 : decode c_m_deal 41 = .ok (.invokevirtual 93, 3) := by decide +kernel
theorem d_m_deal_44 : decode c_m_deal 44 = .ok (.aload_n 0, 1) := by decide +kernel
theorem d_m_deal_45 : decode c_m_deal 45 = .ok (.iload_n 3, 1) := by decide +kernel
theorem d_m_deal_46 : decode c_m_deal 46 = .ok (.iload 4, 2) := by decide +kernel
theorem d_m_deal_48 : decode c_m_deal 48 = .ok (.invokevirtual 97, 3) := by decide +kernel
theorem d_m_deal_51 : decode c_m_deal 51 = .ok (.iconst 1, 1) := by decide +kernel
theorem d_m_deal_52 : decode c_m_deal 52 = .ok (.ireturn, 1) := by decide +kernel
abbrev c_m_shuffle : ByteArray := prog_9_method_10_code
def y_m_shuffle : MethodName := ⟨"ShortBridgeModel", "shuffle", "(JII)J"⟩
theorem d_m_shuffle_0 : decode c_m_shuffle 0 = .ok (.aload_n 0, 1) := by decide +kernel
theorem d_m_shuffle_1 : decode c_m_shuffle 1 = .ok (.iconst 0, 1) := by decide +kernel
theorem d_m_shuffle_2 : decode c_m_shuffle 2 = .ok (.putfield 50, 3) := by decide +kernel
theorem d_m_shuffle_5 : decode c_m_shuffle 5 = .ok (.iload_n 3, 1) := by decide +kernel
theorem d_m_shuffle_6 : decode c_m_shuffle 6 = .ok (.invokestatic 89, 3) := by decide +kernel
theorem d_m_shuffle_9 : decode c_m_shuffle 9 = .ok (.ifCond .eq 14, 3) := by decide +kernel
theorem d_m_shuffle_12 : decode c_m_shuffle 12 = .ok (.iload 4, 2) := by decide +kernel
theorem d_m_shuffle_14 : decode c_m_shuffle 14 = .ok (.ifCond .lt 9, 3) := by decide +kernel
theorem d_m_shuffle_17 : decode c_m_shuffle 17 = .ok (.iload 4, 2) := by decide +kernel
theorem d_m_shuffle_19 : decode c_m_shuffle 19 = .ok (.iconst 3, 1) := by decide +kernel
theorem d_m_shuffle_20 : decode c_m_shuffle 20 = .ok (.if_icmp .le 7, 3) := by decide +kernel
theorem d_m_shuffle_23 : decode c_m_shuffle 23 = .ok (.ldc2_w 101, 3) := by decide +kernel
theorem d_m_shuffle_26 : decode c_m_shuffle 26 = .ok (.lreturn, 1) := by decide +kernel
theorem d_m_shuffle_27 : decode c_m_shuffle 27 = .ok (.iconst 0, 1) := by decide +kernel
theorem d_m_shuffle_28 : decode c_m_shuffle 28 = .ok (.istore 5, 2) := by decide +kernel
theorem d_m_shuffle_30 : decode c_m_shuffle 30 = .ok (.iload 5, 2) := by decide +kernel
theorem d_m_shuffle_32 : decode c_m_shuffle 32 = .ok (.bipush 20, 2) := by decide +kernel
theorem d_m_shuffle_34 : decode c_m_shuffle 34 = .ok (.if_icmp .ge 18, 3) := by decide +kernel
theorem d_m_shuffle_37 : decode c_m_shuffle 37 = .ok (.aload_n 0, 1) := by decide +kernel
theorem d_m_shuffle_38 : decode c_m_shuffle 38 = .ok (.getfield 32, 3) := by decide +kernel
theorem d_m_shuffle_41 : decode c_m_shuffle 41 = .ok (.iload 5, 2) := by decide +kernel
theorem d_m_shuffle_43 : decode c_m_shuffle 43 = .ok (.iload 5, 2) := by decide +kernel
theorem d_m_shuffle_45 : decode c_m_shuffle 45 = .ok (.iastore, 1) := by decide +kernel
theorem d_m_shuffle_46 : decode c_m_shuffle 46 = .ok (.iinc 5 1, 3) := by decide +kernel
theorem d_m_shuffle_49 : decode c_m_shuffle 49 = .ok (.goto (-19), 3) := by decide +kernel
theorem d_m_shuffle_52 : decode c_m_shuffle 52 = .ok (.lload_n 1, 1) := by decide +kernel
theorem d_m_shuffle_53 : decode c_m_shuffle 53 = .ok (.lstore 5, 2) := by decide +kernel
theorem d_m_shuffle_55 : decode c_m_shuffle 55 = .ok (.bipush 19, 2) := by decide +kernel
theorem d_m_shuffle_57 : decode c_m_shuffle 57 = .ok (.istore 7, 2) := by decide +kernel
theorem d_m_shuffle_59 : decode c_m_shuffle 59 = .ok (.iload 7, 2) := by decide +kernel
theorem d_m_shuffle_61 : decode c_m_shuffle 61 = .ok (.ifCond .le 67, 3) := by decide +kernel
theorem d_m_shuffle_64 : decode c_m_shuffle 64 = .ok (.lload 5, 2) := by decide +kernel
theorem d_m_shuffle_66 : decode c_m_shuffle 66 = .ok (.ldc2_w 103, 3) := by decide +kernel
theorem d_m_shuffle_69 : decode c_m_shuffle 69 = .ok (.lmul, 1) := by decide +kernel
theorem d_m_shuffle_70 : decode c_m_shuffle 70 = .ok (.ldc2_w 105, 3) := by decide +kernel
theorem d_m_shuffle_73 : decode c_m_shuffle 73 = .ok (.ladd, 1) := by decide +kernel
theorem d_m_shuffle_74 : decode c_m_shuffle 74 = .ok (.lstore 5, 2) := by decide +kernel
theorem d_m_shuffle_76 : decode c_m_shuffle 76 = .ok (.lload 5, 2) := by decide +kernel
theorem d_m_shuffle_78 : decode c_m_shuffle 78 = .ok (.bipush 33, 2) := by decide +kernel
theorem d_m_shuffle_80 : decode c_m_shuffle 80 = .ok (.lushr, 1) := by decide +kernel
theorem d_m_shuffle_81 : decode c_m_shuffle 81 = .ok (.iload 7, 2) := by decide +kernel
theorem d_m_shuffle_83 : decode c_m_shuffle 83 = .ok (.iconst 1, 1) := by decide +kernel
theorem d_m_shuffle_84 : decode c_m_shuffle 84 = .ok (.iadd, 1) := by decide +kernel
theorem d_m_shuffle_85 : decode c_m_shuffle 85 = .ok (.i2l, 1) := by decide +kernel
theorem d_m_shuffle_86 : decode c_m_shuffle 86 = .ok (.lrem, 1) := by decide +kernel
theorem d_m_shuffle_87 : decode c_m_shuffle 87 = .ok (.l2i, 1) := by decide +kernel
theorem d_m_shuffle_88 : decode c_m_shuffle 88 = .ok (.istore 8, 2) := by decide +kernel
theorem d_m_shuffle_90 : decode c_m_shuffle 90 = .ok (.aload_n 0, 1) := by decide +kernel
theorem d_m_shuffle_91 : decode c_m_shuffle 91 = .ok (.getfield 32, 3) := by decide +kernel
theorem d_m_shuffle_94 : decode c_m_shuffle 94 = .ok (.iload 7, 2) := by decide +kernel
theorem d_m_shuffle_96 : decode c_m_shuffle 96 = .ok (.iaload, 1) := by decide +kernel
theorem d_m_shuffle_97 : decode c_m_shuffle 97 = .ok (.istore 9, 2) := by decide +kernel
theorem d_m_shuffle_99 : decode c_m_shuffle 99 = .ok (.aload_n 0, 1) := by decide +kernel
theorem d_m_shuffle_100 : decode c_m_shuffle 100 = .ok (.getfield 32, 3) := by decide +kernel
theorem d_m_shuffle_103 : decode c_m_shuffle 103 = .ok (.iload 7, 2) := by decide +kernel
theorem d_m_shuffle_105 : decode c_m_shuffle 105 = .ok (.aload_n 0, 1) := by decide +kernel
theorem d_m_shuffle_106 : decode c_m_shuffle 106 = .ok (.getfield 32, 3) := by decide +kernel
theorem d_m_shuffle_109 : decode c_m_shuffle 109 = .ok (.iload 8, 2) := by decide +kernel
theorem d_m_shuffle_111 : decode c_m_shuffle 111 = .ok (.iaload, 1) := by decide +kernel
theorem d_m_shuffle_112 : decode c_m_shuffle 112 = .ok (.iastore, 1) := by decide +kernel
theorem d_m_shuffle_113 : decode c_m_shuffle 113 = .ok (.aload_n 0, 1) := by decide +kernel
theorem d_m_shuffle_114 : decode c_m_shuffle 114 = .ok (.getfield 32, 3) := by decide +kernel
theorem d_m_shuffle_117 : decode c_m_shuffle 117 = .ok (.iload 8, 2) := by decide +kernel
theorem d_m_shuffle_119 : decode c_m_shuffle 119 = .ok (.iload 9, 2) := by decide +kernel
theorem d_m_shuffle_121 : decode c_m_shuffle 121 = .ok (.iastore, 1) := by decide +kernel
theorem d_m_shuffle_122 : decode c_m_shuffle 122 = .ok (.iinc 7 (-1), 3) := by decide +kernel
theorem d_m_shuffle_125 : decode c_m_shuffle 125 = .ok (.goto (-66), 3) := by decide +kernel
theorem d_m_shuffle_128 : decode c_m_shuffle 128 = .ok (.iconst 0, 1) := by decide +kernel
theorem d_m_shuffle_129 : decode c_m_shuffle 129 = .ok (.istore 7, 2) := by decide +kernel
theorem d_m_shuffle_131 : decode c_m_shuffle 131 = .ok (.iload 7, 2) := by decide +kernel
theorem d_m_shuffle_133 : decode c_m_shuffle 133 = .ok (.bipush 20, 2) := by decide +kernel
theorem d_m_shuffle_135 : decode c_m_shuffle 135 = .ok (.if_icmp .ge 25, 3) := by decide +kernel
theorem d_m_shuffle_138 : decode c_m_shuffle 138 = .ok (.aload_n 0, 1) := by decide +kernel
theorem d_m_shuffle_139 : decode c_m_shuffle 139 = .ok (.getfield 7, 3) := by decide +kernel
theorem d_m_shuffle_142 : decode c_m_shuffle 142 = .ok (.aload_n 0, 1) := by decide +kernel
theorem d_m_shuffle_143 : decode c_m_shuffle 143 = .ok (.getfield 32, 3) := by decide +kernel
theorem d_m_shuffle_146 : decode c_m_shuffle 146 = .ok (.iload 7, 2) := by decide +kernel
theorem d_m_shuffle_148 : decode c_m_shuffle 148 = .ok (.iaload, 1) := by decide +kernel
theorem d_m_shuffle_149 : decode c_m_shuffle 149 = .ok (.iload 7, 2) := by decide +kernel
theorem d_m_shuffle_151 : decode c_m_shuffle 151 = .ok (.iconst 5, 1) := by decide +kernel
theorem d_m_shuffle_152 : decode c_m_shuffle 152 = .ok (.idiv, 1) := by decide +kernel
theorem d_m_shuffle_153 : decode c_m_shuffle 153 = .ok (.iastore, 1) := by decide +kernel
theorem d_m_shuffle_154 : decode c_m_shuffle 154 = .ok (.iinc 7 1, 3) := by decide +kernel
theorem d_m_shuffle_157 : decode c_m_shuffle 157 = .ok (.goto (-26), 3) := by decide +kernel
theorem d_m_shuffle_160 : decode c_m_shuffle 160 = .ok (.aload_n 0, 1) := by decide +kernel
theorem d_m_shuffle_161 : decode c_m_shuffle 161 = .ok (.iload_n 3, 1) := by decide +kernel
theorem d_m_shuffle_162 : decode c_m_shuffle 162 = .ok (.iload 4, 2) := by decide +kernel
theorem d_m_shuffle_164 : decode c_m_shuffle 164 = .ok (.invokevirtual 97, 3) := by decide +kernel
theorem d_m_shuffle_167 : decode c_m_shuffle 167 = .ok (.aload_n 0, 1) := by decide +kernel
theorem d_m_shuffle_168 : decode c_m_shuffle 168 = .ok (.getfield 71, 3) := by decide +kernel
theorem d_m_shuffle_171 : decode c_m_shuffle 171 = .ok (.lreturn, 1) := by decide +kernel
abbrev c_m_number : ByteArray := prog_9_method_11_code
def y_m_number : MethodName := ⟨"ShortBridgeModel", "number", "()J"⟩
theorem d_m_number_0 : decode c_m_number 0 = .ok (.aload_n 0, 1) := by decide +kernel
theorem d_m_number_1 : decode c_m_number 1 = .ok (.iconst 0, 1) := by decide +kernel
theorem d_m_number_2 : decode c_m_number 2 = .ok (.putfield 50, 3) := by decide +kernel
theorem d_m_number_5 : decode c_m_number 5 = .ok (.aload_n 0, 1) := by decide +kernel
theorem d_m_number_6 : decode c_m_number 6 = .ok (.getfield 63, 3) := by decide +kernel
theorem d_m_number_9 : decode c_m_number 9 = .ok (.ifCond .eq 10, 3) := by decide +kernel
theorem d_m_number_12 : decode c_m_number 12 = .ok (.aload_n 0, 1) := by decide +kernel
theorem d_m_number_13 : decode c_m_number 13 = .ok (.getfield 71, 3) := by decide +kernel
theorem d_m_number_16 : decode c_m_number 16 = .ok (.goto 6, 3) := by decide +kernel
theorem d_m_number_19 : decode c_m_number 19 = .ok (.ldc2_w 101, 3) := by decide +kernel
theorem d_m_number_22 : decode c_m_number 22 = .ok (.lreturn, 1) := by decide +kernel
abbrev c_m_callerAt : ByteArray := prog_9_method_12_code
def y_m_callerAt : MethodName := ⟨"ShortBridgeModel", "callerAt", "(I)I"⟩
theorem d_m_callerAt_0 : decode c_m_callerAt 0 = .ok (.aload_n 0, 1) := by decide +kernel
theorem d_m_callerAt_1 : decode c_m_callerAt 1 = .ok (.getfield 75, 3) := by decide +kernel
theorem d_m_callerAt_4 : decode c_m_callerAt 4 = .ok (.iload_n 1, 1) := by decide +kernel
theorem d_m_callerAt_5 : decode c_m_callerAt 5 = .ok (.iadd, 1) := by decide +kernel
theorem d_m_callerAt_6 : decode c_m_callerAt 6 = .ok (.iconst 3, 1) := by decide +kernel
theorem d_m_callerAt_7 : decode c_m_callerAt 7 = .ok (.iand, 1) := by decide +kernel
theorem d_m_callerAt_8 : decode c_m_callerAt 8 = .ok (.ireturn, 1) := by decide +kernel
abbrev c_m_latestBefore : ByteArray := prog_9_method_13_code
def y_m_latestBefore : MethodName := ⟨"ShortBridgeModel", "latestBefore", "(I)I"⟩
theorem d_m_latestBefore_0 : decode c_m_latestBefore 0 = .ok (.iload_n 1, 1) := by decide +kernel
theorem d_m_latestBefore_1 : decode c_m_latestBefore 1 = .ok (.iconst 1, 1) := by decide +kernel
theorem d_m_latestBefore_2 : decode c_m_latestBefore 2 = .ok (.isub, 1) := by decide +kernel
theorem d_m_latestBefore_3 : decode c_m_latestBefore 3 = .ok (.istore_n 2, 1) := by decide +kernel
theorem d_m_latestBefore_4 : decode c_m_latestBefore 4 = .ok (.iload_n 2, 1) := by decide +kernel
theorem d_m_latestBefore_5 : decode c_m_latestBefore 5 = .ok (.ifCond .lt 19, 3) := by decide +kernel
theorem d_m_latestBefore_8 : decode c_m_latestBefore 8 = .ok (.aload_n 0, 1) := by decide +kernel
theorem d_m_latestBefore_9 : decode c_m_latestBefore 9 = .ok (.getfield 17, 3) := by decide +kernel
theorem d_m_latestBefore_12 : decode c_m_latestBefore 12 = .ok (.iload_n 2, 1) := by decide +kernel
theorem d_m_latestBefore_13 : decode c_m_latestBefore 13 = .ok (.iaload, 1) := by decide +kernel
theorem d_m_latestBefore_14 : decode c_m_latestBefore 14 = .ok (.ifCond .ne 10, 3) := by decide +kernel
theorem d_m_latestBefore_17 : decode c_m_latestBefore 17 = .ok (.iload_n 2, 1) := by decide +kernel
theorem d_m_latestBefore_18 : decode c_m_latestBefore 18 = .ok (.iconst 1, 1) := by decide +kernel
theorem d_m_latestBefore_19 : decode c_m_latestBefore 19 = .ok (.isub, 1) := by decide +kernel
theorem d_m_latestBefore_20 : decode c_m_latestBefore 20 = .ok (.istore_n 2, 1) := by decide +kernel
theorem d_m_latestBefore_21 : decode c_m_latestBefore 21 = .ok (.goto (-17), 3) := by decide +kernel
theorem d_m_latestBefore_24 : decode c_m_latestBefore 24 = .ok (.iload_n 2, 1) := by decide +kernel
theorem d_m_latestBefore_25 : decode c_m_latestBefore 25 = .ok (.ireturn, 1) := by decide +kernel
abbrev c_m_readCalls : ByteArray := prog_9_method_14_code
def y_m_readCalls : MethodName := ⟨"ShortBridgeModel", "readCalls", "()V"⟩
theorem d_m_readCalls_0 : decode c_m_readCalls 0 = .ok (.aload_n 0, 1) := by decide +kernel
theorem d_m_readCalls_1 : decode c_m_readCalls 1 = .ok (.iconst 0, 1) := by decide +kernel
theorem d_m_readCalls_2 : decode c_m_readCalls 2 = .ok (.putfield 107, 3) := by decide +kernel
theorem d_m_readCalls_5 : decode c_m_readCalls 5 = .ok (.aload_n 0, 1) := by decide +kernel
theorem d_m_readCalls_6 : decode c_m_readCalls 6 = .ok (.iconst 0, 1) := by decide +kernel
theorem d_m_readCalls_7 : decode c_m_readCalls 7 = .ok (.putfield 110, 3) := by decide +kernel
theorem d_m_readCalls_10 : decode c_m_readCalls 10 = .ok (.iconst 0, 1) := by decide +kernel
theorem d_m_readCalls_11 : decode c_m_readCalls 11 = .ok (.istore_n 1, 1) := by decide +kernel
theorem d_m_readCalls_12 : decode c_m_readCalls 12 = .ok (.iload_n 1, 1) := by decide +kernel
theorem d_m_readCalls_13 : decode c_m_readCalls 13 = .ok (.aload_n 0, 1) := by decide +kernel
theorem d_m_readCalls_14 : decode c_m_readCalls 14 = .ok (.getfield 81, 3) := by decide +kernel
theorem d_m_readCalls_17 : decode c_m_readCalls 17 = .ok (.if_icmp .ge 65, 3) := by decide +kernel
theorem d_m_readCalls_20 : decode c_m_readCalls 20 = .ok (.aload_n 0, 1) := by decide +kernel
theorem d_m_readCalls_21 : decode c_m_readCalls 21 = .ok (.getfield 17, 3) := by decide +kernel
theorem d_m_readCalls_24 : decode c_m_readCalls 24 = .ok (.iload_n 1, 1) := by decide +kernel
theorem d_m_readCalls_25 : decode c_m_readCalls 25 = .ok (.iaload, 1) := by decide +kernel
theorem d_m_readCalls_26 : decode c_m_readCalls 26 = .ok (.iconst 2, 1) := by decide +kernel
theorem d_m_readCalls_27 : decode c_m_readCalls 27 = .ok (.if_icmp .le 30, 3) := by decide +kernel
theorem d_m_readCalls_30 : decode c_m_readCalls 30 = .ok (.aload_n 0, 1) := by decide +kernel
theorem d_m_readCalls_31 : decode c_m_readCalls 31 = .ok (.aload_n 0, 1) := by decide +kernel
theorem d_m_readCalls_32 : decode c_m_readCalls 32 = .ok (.getfield 17, 3) := by decide +kernel
theorem d_m_readCalls_35 : decode c_m_readCalls 35 = .ok (.iload_n 1, 1) := by decide +kernel
theorem d_m_readCalls_36 : decode c_m_readCalls 36 = .ok (.iaload, 1) := by decide +kernel
theorem d_m_readCalls_37 : decode c_m_readCalls 37 = .ok (.putfield 107, 3) := by decide +kernel
theorem d_m_readCalls_40 : decode c_m_readCalls 40 = .ok (.aload_n 0, 1) := by decide +kernel
theorem d_m_readCalls_41 : decode c_m_readCalls 41 = .ok (.iconst 0, 1) := by decide +kernel
theorem d_m_readCalls_42 : decode c_m_readCalls 42 = .ok (.putfield 110, 3) := by decide +kernel
theorem d_m_readCalls_45 : decode c_m_readCalls 45 = .ok (.aload_n 0, 1) := by decide +kernel
theorem d_m_readCalls_46 : decode c_m_readCalls 46 = .ok (.aload_n 0, 1) := by decide +kernel
theorem d_m_readCalls_47 : decode c_m_readCalls 47 = .ok (.iload_n 1, 1) := by decide +kernel
theorem d_m_readCalls_48 : decode c_m_readCalls 48 = .ok (.invokevirtual 113, 3) := by decide +kernel
theorem d_m_readCalls_51 : decode c_m_readCalls 51 = .ok (.putfield 117, 3) := by decide +kernel
theorem d_m_readCalls_54 : decode c_m_readCalls 54 = .ok (.goto 22, 3) := by decide +kernel
theorem d_m_readCalls_57 : decode c_m_readCalls 57 = .ok (.aload_n 0, 1) := by decide +kernel
theorem d_m_readCalls_58 : decode c_m_readCalls 58 = .ok (.getfield 17, 3) := by decide +kernel
theorem d_m_readCalls_61 : decode c_m_readCalls 61 = .ok (.iload_n 1, 1) := by decide +kernel
theorem d_m_readCalls_62 : decode c_m_readCalls 62 = .ok (.iaload, 1) := by decide +kernel
theorem d_m_readCalls_63 : decode c_m_readCalls 63 = .ok (.ifCond .le 13, 3) := by decide +kernel
theorem d_m_readCalls_66 : decode c_m_readCalls 66 = .ok (.aload_n 0, 1) := by decide +kernel
theorem d_m_readCalls_67 : decode c_m_readCalls 67 = .ok (.aload_n 0, 1) := by decide +kernel
theorem d_m_readCalls_68 : decode c_m_readCalls 68 = .ok (.getfield 17, 3) := by decide +kernel
theorem d_m_readCalls_71 : decode c_m_readCalls 71 = .ok (.iload_n 1, 1) := by decide +kernel
theorem d_m_readCalls_72 : decode c_m_readCalls 72 = .ok (.iaload, 1) := by decide +kernel
theorem d_m_readCalls_73 : decode c_m_readCalls 73 = .ok (.putfield 110, 3) := by decide +kernel
theorem d_m_readCalls_76 : decode c_m_readCalls 76 = .ok (.iinc 1 1, 3) := by decide +kernel
theorem d_m_readCalls_79 : decode c_m_readCalls 79 = .ok (.goto (-67), 3) := by decide +kernel
theorem d_m_readCalls_82 : decode c_m_readCalls 82 = .ok (.aload_n 0, 1) := by decide +kernel
theorem d_m_readCalls_83 : decode c_m_readCalls 83 = .ok (.aload_n 0, 1) := by decide +kernel
theorem d_m_readCalls_84 : decode c_m_readCalls 84 = .ok (.getfield 81, 3) := by decide +kernel
theorem d_m_readCalls_87 : decode c_m_readCalls 87 = .ok (.invokevirtual 120, 3) := by decide +kernel
theorem d_m_readCalls_90 : decode c_m_readCalls 90 = .ok (.istore_n 1, 1) := by decide +kernel
theorem d_m_readCalls_91 : decode c_m_readCalls 91 = .ok (.aload_n 0, 1) := by decide +kernel
theorem d_m_readCalls_92 : decode c_m_readCalls 92 = .ok (.iload_n 1, 1) := by decide +kernel
theorem d_m_readCalls_93 : decode c_m_readCalls 93 = .ok (.ifCond .ge 19, 3) := by decide +kernel
theorem d_m_readCalls_96 : decode c_m_readCalls 96 = .ok (.aload_n 0, 1) := by decide +kernel
theorem d_m_readCalls_97 : decode c_m_readCalls 97 = .ok (.getfield 81, 3) := by decide +kernel
theorem d_m_readCalls_100 : decode c_m_readCalls 100 = .ok (.iconst 4, 1) := by decide +kernel
theorem d_m_readCalls_101 : decode c_m_readCalls 101 = .ok (.if_icmp .ne 7, 3) := by decide +kernel
theorem d_m_readCalls_104 : decode c_m_readCalls 104 = .ok (.iconst 1, 1) := by decide +kernel
theorem d_m_readCalls_105 : decode c_m_readCalls 105 = .ok (.goto 22, 3) := by decide +kernel
theorem d_m_readCalls_108 : decode c_m_readCalls 108 = .ok (.iconst 0, 1) := by decide +kernel
theorem d_m_readCalls_109 : decode c_m_readCalls 109 = .ok (.goto 18, 3) := by decide +kernel
theorem d_m_readCalls_112 : decode c_m_readCalls 112 = .ok (.aload_n 0, 1) := by decide +kernel
theorem d_m_readCalls_113 : decode c_m_readCalls 113 = .ok (.getfield 81, 3) := by decide +kernel
theorem d_m_readCalls_116 : decode c_m_readCalls 116 = .ok (.iload_n 1, 1) := by decide +kernel
theorem d_m_readCalls_117 : decode c_m_readCalls 117 = .ok (.isub, 1) := by decide +kernel
theorem d_m_readCalls_118 : decode c_m_readCalls 118 = .ok (.iconst 4, 1) := by decide +kernel
theorem d_m_readCalls_119 : decode c_m_readCalls 119 = .ok (.if_icmp .ne 7, 3) := by decide +kernel
theorem d_m_readCalls_122 : decode c_m_readCalls 122 = .ok (.iconst 1, 1) := by decide +kernel
theorem d_m_readCalls_123 : decode c_m_readCalls 123 = .ok (.goto 4, 3) := by decide +kernel
theorem d_m_readCalls_126 : decode c_m_readCalls 126 = .ok (.iconst 0, 1) := by decide +kernel
theorem d_m_readCalls_127 : decode c_m_readCalls 127 = .ok (.putfield 123, 3) := by decide +kernel
theorem d_m_readCalls_130 : decode c_m_readCalls 130 = .ok (.return_, 1) := by decide +kernel
abbrev c_m_firstOf : ByteArray := prog_9_method_15_code
def y_m_firstOf : MethodName := ⟨"ShortBridgeModel", "firstOf", "(I)I"⟩
theorem d_m_firstOf_0 : decode c_m_firstOf 0 = .ok (.aload_n 0, 1) := by decide +kernel
theorem d_m_firstOf_1 : decode c_m_firstOf 1 = .ok (.iload_n 1, 1) := by decide +kernel
theorem d_m_firstOf_2 : decode c_m_firstOf 2 = .ok (.invokevirtual 126, 3) := by decide +kernel
theorem d_m_firstOf_5 : decode c_m_firstOf 5 = .ok (.iconst 1, 1) := by decide +kernel
theorem d_m_firstOf_6 : decode c_m_firstOf 6 = .ok (.iand, 1) := by decide +kernel
theorem d_m_firstOf_7 : decode c_m_firstOf 7 = .ok (.istore_n 2, 1) := by decide +kernel
theorem d_m_firstOf_8 : decode c_m_firstOf 8 = .ok (.iconst 0, 1) := by decide +kernel
theorem d_m_firstOf_9 : decode c_m_firstOf 9 = .ok (.istore_n 3, 1) := by decide +kernel
theorem d_m_firstOf_10 : decode c_m_firstOf 10 = .ok (.aload_n 0, 1) := by decide +kernel
theorem d_m_firstOf_11 : decode c_m_firstOf 11 = .ok (.getfield 17, 3) := by decide +kernel
theorem d_m_firstOf_14 : decode c_m_firstOf 14 = .ok (.iload_n 3, 1) := by decide +kernel
theorem d_m_firstOf_15 : decode c_m_firstOf 15 = .ok (.iaload, 1) := by decide +kernel
theorem d_m_firstOf_16 : decode c_m_firstOf 16 = .ok (.iconst 3, 1) := by decide +kernel
theorem d_m_firstOf_17 : decode c_m_firstOf 17 = .ok (.if_icmp .lt 37, 3) := by decide +kernel
theorem d_m_firstOf_20 : decode c_m_firstOf 20 = .ok (.aload_n 0, 1) := by decide +kernel
theorem d_m_firstOf_21 : decode c_m_firstOf 21 = .ok (.iload_n 3, 1) := by decide +kernel
theorem d_m_firstOf_22 : decode c_m_firstOf 22 = .ok (.invokevirtual 126, 3) := by decide +kernel
theorem d_m_firstOf_25 : decode c_m_firstOf 25 = .ok (.iconst 1, 1) := by decide +kernel
theorem d_m_firstOf_26 : decode c_m_firstOf 26 = .ok (.iand, 1) := by decide +kernel
theorem d_m_firstOf_27 : decode c_m_firstOf 27 = .ok (.iload_n 2, 1) := by decide +kernel
theorem d_m_firstOf_28 : decode c_m_firstOf 28 = .ok (.if_icmp .ne 26, 3) := by decide +kernel
theorem d_m_firstOf_31 : decode c_m_firstOf 31 = .ok (.aload_n 0, 1) := by decide +kernel
theorem d_m_firstOf_32 : decode c_m_firstOf 32 = .ok (.getfield 17, 3) := by decide +kernel
theorem d_m_firstOf_35 : decode c_m_firstOf 35 = .ok (.iload_n 3, 1) := by decide +kernel
theorem d_m_firstOf_36 : decode c_m_firstOf 36 = .ok (.iaload, 1) := by decide +kernel
theorem d_m_firstOf_37 : decode c_m_firstOf 37 = .ok (.iconst 3, 1) := by decide +kernel
theorem d_m_firstOf_38 : decode c_m_firstOf 38 = .ok (.isub, 1) := by decide +kernel
theorem d_m_firstOf_39 : decode c_m_firstOf 39 = .ok (.iconst 5, 1) := by decide +kernel
theorem d_m_firstOf_40 : decode c_m_firstOf 40 = .ok (.irem, 1) := by decide +kernel
theorem d_m_firstOf_41 : decode c_m_firstOf 41 = .ok (.aload_n 0, 1) := by decide +kernel
theorem d_m_firstOf_42 : decode c_m_firstOf 42 = .ok (.getfield 17, 3) := by decide +kernel
theorem d_m_firstOf_45 : decode c_m_firstOf 45 = .ok (.iload_n 1, 1) := by decide +kernel
theorem d_m_firstOf_46 : decode c_m_firstOf 46 = .ok (.iaload, 1) := by decide +kernel
theorem d_m_firstOf_47 : decode c_m_firstOf 47 = .ok (.iconst 3, 1) := by decide +kernel
theorem d_m_firstOf_48 : decode c_m_firstOf 48 = .ok (.isub, 1) := by decide +kernel
theorem d_m_firstOf_49 : decode c_m_firstOf 49 = .ok (.iconst 5, 1) := by decide +kernel
theorem d_m_firstOf_50 : decode c_m_firstOf 50 = .ok (.irem, 1) := by decide +kernel
theorem d_m_firstOf_51 : decode c_m_firstOf 51 = .ok (.if_icmp .eq 10, 3) := by decide +kernel
theorem d_m_firstOf_54 : decode c_m_firstOf 54 = .ok (.iload_n 3, 1) := by decide +kernel
theorem d_m_firstOf_55 : decode c_m_firstOf 55 = .ok (.iconst 1, 1) := by decide +kernel
theorem d_m_firstOf_56 : decode c_m_firstOf 56 = .ok (.iadd, 1) := by decide +kernel
theorem d_m_firstOf_57 : decode c_m_firstOf 57 = .ok (.istore_n 3, 1) := by decide +kernel
theorem d_m_firstOf_58 : decode c_m_firstOf 58 = .ok (.goto (-48), 3) := by decide +kernel
theorem d_m_firstOf_61 : decode c_m_firstOf 61 = .ok (.aload_n 0, 1) := by decide +kernel
theorem d_m_firstOf_62 : decode c_m_firstOf 62 = .ok (.iload_n 3, 1) := by decide +kernel
theorem d_m_firstOf_63 : decode c_m_firstOf 63 = .ok (.invokevirtual 126, 3) := by decide +kernel
theorem d_m_firstOf_66 : decode c_m_firstOf 66 = .ok (.ireturn, 1) := by decide +kernel
abbrev c_m_phaseNow : ByteArray := prog_9_method_16_code
def y_m_phaseNow : MethodName := ⟨"ShortBridgeModel", "phaseNow", "()I"⟩
theorem d_m_phaseNow_0 : decode c_m_phaseNow 0 = .ok (.aload_n 0, 1) := by decide +kernel
theorem d_m_phaseNow_1 : decode c_m_phaseNow 1 = .ok (.getfield 63, 3) := by decide +kernel
theorem d_m_phaseNow_4 : decode c_m_phaseNow 4 = .ok (.ifCond .ne 5, 3) := by decide +kernel
theorem d_m_phaseNow_7 : decode c_m_phaseNow 7 = .ok (.iconst 0, 1) := by decide +kernel
theorem d_m_phaseNow_8 : decode c_m_phaseNow 8 = .ok (.ireturn, 1) := by decide +kernel
theorem d_m_phaseNow_9 : decode c_m_phaseNow 9 = .ok (.aload_n 0, 1) := by decide +kernel
theorem d_m_phaseNow_10 : decode c_m_phaseNow 10 = .ok (.invokevirtual 129, 3) := by decide +kernel
theorem d_m_phaseNow_13 : decode c_m_phaseNow 13 = .ok (.aload_n 0, 1) := by decide +kernel
theorem d_m_phaseNow_14 : decode c_m_phaseNow 14 = .ok (.getfield 123, 3) := by decide +kernel
theorem d_m_phaseNow_17 : decode c_m_phaseNow 17 = .ok (.ifCond .ne 5, 3) := by decide +kernel
theorem d_m_phaseNow_20 : decode c_m_phaseNow 20 = .ok (.iconst 1, 1) := by decide +kernel
theorem d_m_phaseNow_21 : decode c_m_phaseNow 21 = .ok (.ireturn, 1) := by decide +kernel
theorem d_m_phaseNow_22 : decode c_m_phaseNow 22 = .ok (.aload_n 0, 1) := by decide +kernel
theorem d_m_phaseNow_23 : decode c_m_phaseNow 23 = .ok (.getfield 107, 3) := by decide +kernel
theorem d_m_phaseNow_26 : decode c_m_phaseNow 26 = .ok (.ifCond .le 16, 3) := by decide +kernel
theorem d_m_phaseNow_29 : decode c_m_phaseNow 29 = .ok (.aload_n 0, 1) := by decide +kernel
theorem d_m_phaseNow_30 : decode c_m_phaseNow 30 = .ok (.getfield 84, 3) := by decide +kernel
theorem d_m_phaseNow_33 : decode c_m_phaseNow 33 = .ok (.bipush 20, 2) := by decide +kernel
theorem d_m_phaseNow_35 : decode c_m_phaseNow 35 = .ok (.if_icmp .ge 7, 3) := by decide +kernel
theorem d_m_phaseNow_38 : decode c_m_phaseNow 38 = .ok (.iconst 2, 1) := by decide +kernel
theorem d_m_phaseNow_39 : decode c_m_phaseNow 39 = .ok (.goto 4, 3) := by decide +kernel
theorem d_m_phaseNow_42 : decode c_m_phaseNow 42 = .ok (.iconst 3, 1) := by decide +kernel
theorem d_m_phaseNow_43 : decode c_m_phaseNow 43 = .ok (.ireturn, 1) := by decide +kernel
abbrev c_m_phase : ByteArray := prog_9_method_17_code
def y_m_phase : MethodName := ⟨"ShortBridgeModel", "phase", "()I"⟩
theorem d_m_phase_0 : decode c_m_phase 0 = .ok (.aload_n 0, 1) := by decide +kernel
theorem d_m_phase_1 : decode c_m_phase 1 = .ok (.iconst 0, 1) := by decide +kernel
theorem d_m_phase_2 : decode c_m_phase 2 = .ok (.putfield 50, 3) := by decide +kernel
theorem d_m_phase_5 : decode c_m_phase 5 = .ok (.aload_n 0, 1) := by decide +kernel
theorem d_m_phase_6 : decode c_m_phase 6 = .ok (.invokevirtual 132, 3) := by decide +kernel
theorem d_m_phase_9 : decode c_m_phase 9 = .ok (.ireturn, 1) := by decide +kernel
abbrev c_m_allowed : ByteArray := prog_9_method_18_code
def y_m_allowed : MethodName := ⟨"ShortBridgeModel", "allowed", "(I)Z"⟩
theorem d_m_allowed_0 : decode c_m_allowed 0 = .ok (.aload_n 0, 1) := by decide +kernel
theorem d_m_allowed_1 : decode c_m_allowed 1 = .ok (.aload_n 0, 1) := by decide +kernel
theorem d_m_allowed_2 : decode c_m_allowed 2 = .ok (.getfield 81, 3) := by decide +kernel
theorem d_m_allowed_5 : decode c_m_allowed 5 = .ok (.invokevirtual 120, 3) := by decide +kernel
theorem d_m_allowed_8 : decode c_m_allowed 8 = .ok (.istore_n 2, 1) := by decide +kernel
theorem d_m_allowed_9 : decode c_m_allowed 9 = .ok (.iload_n 2, 1) := by decide +kernel
theorem d_m_allowed_10 : decode c_m_allowed 10 = .ok (.ifCond .lt 27, 3) := by decide +kernel
theorem d_m_allowed_13 : decode c_m_allowed 13 = .ok (.aload_n 0, 1) := by decide +kernel
theorem d_m_allowed_14 : decode c_m_allowed 14 = .ok (.iload_n 2, 1) := by decide +kernel
theorem d_m_allowed_15 : decode c_m_allowed 15 = .ok (.invokevirtual 126, 3) := by decide +kernel
theorem d_m_allowed_18 : decode c_m_allowed 18 = .ok (.iconst 1, 1) := by decide +kernel
theorem d_m_allowed_19 : decode c_m_allowed 19 = .ok (.iand, 1) := by decide +kernel
theorem d_m_allowed_20 : decode c_m_allowed 20 = .ok (.aload_n 0, 1) := by decide +kernel
theorem d_m_allowed_21 : decode c_m_allowed 21 = .ok (.aload_n 0, 1) := by decide +kernel
theorem d_m_allowed_22 : decode c_m_allowed 22 = .ok (.getfield 81, 3) := by decide +kernel
theorem d_m_allowed_25 : decode c_m_allowed 25 = .ok (.invokevirtual 126, 3) := by decide +kernel
theorem d_m_allowed_28 : decode c_m_allowed 28 = .ok (.iconst 1, 1) := by decide +kernel
theorem d_m_allowed_29 : decode c_m_allowed 29 = .ok (.iand, 1) := by decide +kernel
theorem d_m_allowed_30 : decode c_m_allowed 30 = .ok (.if_icmp .eq 7, 3) := by decide +kernel
theorem d_m_allowed_33 : decode c_m_allowed 33 = .ok (.iconst 1, 1) := by decide +kernel
theorem d_m_allowed_34 : decode c_m_allowed 34 = .ok (.goto 4, 3) := by decide +kernel
theorem d_m_allowed_37 : decode c_m_allowed 37 = .ok (.iconst 0, 1) := by decide +kernel
theorem d_m_allowed_38 : decode c_m_allowed 38 = .ok (.istore_n 3, 1) := by decide +kernel
theorem d_m_allowed_39 : decode c_m_allowed 39 = .ok (.iload_n 1, 1) := by decide +kernel
theorem d_m_allowed_40 : decode c_m_allowed 40 = .ok (.ifCond .eq 8, 3) := by decide +kernel
theorem d_m_allowed_43 : decode c_m_allowed 43 = .ok (.iload_n 1, 1) := by decide +kernel
theorem d_m_allowed_44 : decode c_m_allowed 44 = .ok (.iconst 2, 1) := by decide +kernel
theorem d_m_allowed_45 : decode c_m_allowed 45 = .ok (.if_icmp .le 21, 3) := by decide +kernel
theorem d_m_allowed_48 : decode c_m_allowed 48 = .ok (.iload_n 1, 1) := by decide +kernel
theorem d_m_allowed_49 : decode c_m_allowed 49 = .ok (.ifCond .eq 11, 3) := by decide +kernel
theorem d_m_allowed_52 : decode c_m_allowed 52 = .ok (.iload_n 1, 1) := by decide +kernel
theorem d_m_allowed_53 : decode c_m_allowed 53 = .ok (.aload_n 0, 1) := by decide +kernel
theorem d_m_allowed_54 : decode c_m_allowed 54 = .ok (.getfield 107, 3) := by decide +kernel
theorem d_m_allowed_57 : decode c_m_allowed 57 = .ok (.if_icmp .le 7, 3) := by decide +kernel
theorem d_m_allowed_60 : decode c_m_allowed 60 = .ok (.iconst 1, 1) := by decide +kernel
theorem d_m_allowed_61 : decode c_m_allowed 61 = .ok (.goto 4, 3) := by decide +kernel
theorem d_m_allowed_64 : decode c_m_allowed 64 = .ok (.iconst 0, 1) := by decide +kernel
theorem d_m_allowed_65 : decode c_m_allowed 65 = .ok (.ireturn, 1) := by decide +kernel
theorem d_m_allowed_66 : decode c_m_allowed 66 = .ok (.iload_n 3, 1) := by decide +kernel
theorem d_m_allowed_67 : decode c_m_allowed 67 = .ok (.ifCond .eq 35, 3) := by decide +kernel
theorem d_m_allowed_70 : decode c_m_allowed 70 = .ok (.iload_n 1, 1) := by decide +kernel
theorem d_m_allowed_71 : decode c_m_allowed 71 = .ok (.iconst 1, 1) := by decide +kernel
theorem d_m_allowed_72 : decode c_m_allowed 72 = .ok (.if_icmp .ne 16, 3) := by decide +kernel
theorem d_m_allowed_75 : decode c_m_allowed 75 = .ok (.aload_n 0, 1) := by decide +kernel
theorem d_m_allowed_76 : decode c_m_allowed 76 = .ok (.getfield 17, 3) := by decide +kernel
theorem d_m_allowed_79 : decode c_m_allowed 79 = .ok (.iload_n 2, 1) := by decide +kernel
theorem d_m_allowed_80 : decode c_m_allowed 80 = .ok (.iaload, 1) := by decide +kernel
theorem d_m_allowed_81 : decode c_m_allowed 81 = .ok (.iconst 2, 1) := by decide +kernel
theorem d_m_allowed_82 : decode c_m_allowed 82 = .ok (.if_icmp .le 20, 3) := by decide +kernel
theorem d_m_allowed_85 : decode c_m_allowed 85 = .ok (.goto 13, 3) := by decide +kernel
theorem d_m_allowed_88 : decode c_m_allowed 88 = .ok (.aload_n 0, 1) := by decide +kernel
theorem d_m_allowed_89 : decode c_m_allowed 89 = .ok (.getfield 17, 3) := by decide +kernel
theorem d_m_allowed_92 : decode c_m_allowed 92 = .ok (.iload_n 2, 1) := by decide +kernel
theorem d_m_allowed_93 : decode c_m_allowed 93 = .ok (.iaload, 1) := by decide +kernel
theorem d_m_allowed_94 : decode c_m_allowed 94 = .ok (.iconst 1, 1) := by decide +kernel
theorem d_m_allowed_95 : decode c_m_allowed 95 = .ok (.if_icmp .ne 7, 3) := by decide +kernel
theorem d_m_allowed_98 : decode c_m_allowed 98 = .ok (.iconst 1, 1) := by decide +kernel
theorem d_m_allowed_99 : decode c_m_allowed 99 = .ok (.goto 4, 3) := by decide +kernel
theorem d_m_allowed_102 : decode c_m_allowed 102 = .ok (.iconst 0, 1) := by decide +kernel
theorem d_m_allowed_103 : decode c_m_allowed 103 = .ok (.ireturn, 1) := by decide +kernel
abbrev c_m_call : ByteArray := prog_9_method_19_code
def y_m_call : MethodName := ⟨"ShortBridgeModel", "call", "(I)V"⟩
theorem d_m_call_0 : decode c_m_call 0 = .ok (.aload_n 0, 1) := by decide +kernel
theorem d_m_call_1 : decode c_m_call 1 = .ok (.aload_n 0, 1) := by decide +kernel
theorem d_m_call_2 : decode c_m_call 2 = .ok (.invokevirtual 132, 3) := by decide +kernel
theorem d_m_call_5 : decode c_m_call 5 = .ok (.iconst 1, 1) := by decide +kernel
theorem d_m_call_6 : decode c_m_call 6 = .ok (.if_icmp .eq 7, 3) := by decide +kernel
theorem d_m_call_9 : decode c_m_call 9 = .ok (.iconst 1, 1) := by decide +kernel
theorem d_m_call_10 : decode c_m_call 10 = .ok (.goto 30, 3) := by decide +kernel
theorem d_m_call_13 : decode c_m_call 13 = .ok (.iload_n 1, 1) := by decide +kernel
theorem d_m_call_14 : decode c_m_call 14 = .ok (.ifCond .lt 9, 3) := by decide +kernel
theorem d_m_call_17 : decode c_m_call 17 = .ok (.iload_n 1, 1) := by decide +kernel
theorem d_m_call_18 : decode c_m_call 18 = .ok (.bipush 17, 2) := by decide +kernel
theorem d_m_call_20 : decode c_m_call 20 = .ok (.if_icmp .le 7, 3) := by decide +kernel
theorem d_m_call_23 : decode c_m_call 23 = .ok (.iconst 2, 1) := by decide +kernel
theorem d_m_call_24 : decode c_m_call 24 = .ok (.goto 16, 3) := by decide +kernel
theorem d_m_call_27 : decode c_m_call 27 = .ok (.aload_n 0, 1) := by decide +kernel
theorem d_m_call_28 : decode c_m_call 28 = .ok (.iload_n 1, 1) := by decide +kernel
theorem d_m_call_29 : decode c_m_call 29 = .ok (.invokevirtual 136, 3) := by decide +kernel
theorem d_m_call_32 : decode c_m_call 32 = .ok (.ifCond .eq 7, 3) := by decide +kernel
theorem d_m_call_35 : decode c_m_call 35 = .ok (.iconst 0, 1) := by decide +kernel
theorem d_m_call_36 : decode c_m_call 36 = .ok (.goto 4, 3) := by decide +kernel
theorem d_m_call_39 : decode c_m_call 39 = .ok (.iconst 3, 1) := by decide +kernel
theorem d_m_call_40 : decode c_m_call 40 = .ok (.putfield 50, 3) := by decide +kernel
theorem d_m_call_43 : decode c_m_call 43 = .ok (.aload_n 0, 1) := by decide +kernel
theorem d_m_call_44 : decode c_m_call 44 = .ok (.getfield 50, 3) := by decide +kernel
theorem d_m_call_47 : decode c_m_call 47 = .ok (.ifCond .ne 23, 3) := by decide +kernel
theorem d_m_call_50 : decode c_m_call 50 = .ok (.aload_n 0, 1) := by decide +kernel
theorem d_m_call_51 : decode c_m_call 51 = .ok (.getfield 17, 3) := by decide +kernel
theorem d_m_call_54 : decode c_m_call 54 = .ok (.aload_n 0, 1) := by decide +kernel
theorem d_m_call_55 : decode c_m_call 55 = .ok (.getfield 81, 3) := by decide +kernel
theorem d_m_call_58 : decode c_m_call 58 = .ok (.iload_n 1, 1) := by decide +kernel
theorem d_m_call_59 : decode c_m_call 59 = .ok (.iastore, 1) := by decide +kernel
theorem d_m_call_60 : decode c_m_call 60 = .ok (.aload_n 0, 1) := by decide +kernel
theorem d_m_call_61 : decode c_m_call 61 = .ok (.aload_n 0, 1) := by decide +kernel
theorem d_m_call_62 : decode c_m_call 62 = .ok (.getfield 81, 3) := by decide +kernel
theorem d_m_call_65 : decode c_m_call 65 = .ok (.iconst 1, 1) := by decide +kernel
theorem d_m_call_66 : decode c_m_call 66 = .ok (.iadd, 1) := by decide +kernel
theorem d_m_call_67 : decode c_m_call 67 = .ok (.putfield 81, 3) := by decide +kernel
theorem d_m_call_70 : decode c_m_call 70 = .ok (.return_, 1) := by decide +kernel
abbrev c_m_contract : ByteArray := prog_9_method_20_code
def y_m_contract : MethodName := ⟨"ShortBridgeModel", "contract", "(I)I"⟩
theorem d_m_contract_0 : decode c_m_contract 0 = .ok (.aload_n 0, 1) := by decide +kernel
theorem d_m_contract_1 : decode c_m_contract 1 = .ok (.iconst 0, 1) := by decide +kernel
theorem d_m_contract_2 : decode c_m_contract 2 = .ok (.putfield 50, 3) := by decide +kernel
theorem d_m_contract_5 : decode c_m_contract 5 = .ok (.aload_n 0, 1) := by decide +kernel
theorem d_m_contract_6 : decode c_m_contract 6 = .ok (.getfield 63, 3) := by decide +kernel
theorem d_m_contract_9 : decode c_m_contract 9 = .ok (.ifCond .ne 5, 3) := by decide +kernel
theorem d_m_contract_12 : decode c_m_contract 12 = .ok (.iconst (-1), 1) := by decide +kernel
theorem d_m_contract_13 : decode c_m_contract 13 = .ok (.ireturn, 1) := by decide +kernel
theorem d_m_contract_14 : decode c_m_contract 14 = .ok (.aload_n 0, 1) := by decide +kernel
theorem d_m_contract_15 : decode c_m_contract 15 = .ok (.invokevirtual 129, 3) := by decide +kernel
theorem d_m_contract_18 : decode c_m_contract 18 = .ok (.aload_n 0, 1) := by decide +kernel
theorem d_m_contract_19 : decode c_m_contract 19 = .ok (.getfield 107, 3) := by decide +kernel
theorem d_m_contract_22 : decode c_m_contract 22 = .ok (.ifCond .eq 12, 3) := by decide +kernel
theorem d_m_contract_25 : decode c_m_contract 25 = .ok (.iload_n 1, 1) := by decide +kernel
theorem d_m_contract_26 : decode c_m_contract 26 = .ok (.ifCond .lt 8, 3) := by decide +kernel
theorem d_m_contract_29 : decode c_m_contract 29 = .ok (.iload_n 1, 1) := by decide +kernel
theorem d_m_contract_30 : decode c_m_contract 30 = .ok (.iconst 2, 1) := by decide +kernel
theorem d_m_contract_31 : decode c_m_contract 31 = .ok (.if_icmp .le 7, 3) := by decide +kernel
theorem d_m_contract_34 : decode c_m_contract 34 = .ok (.iconst (-1), 1) := by decide +kernel
theorem d_m_contract_35 : decode c_m_contract 35 = .ok (.goto 30, 3) := by decide +kernel
theorem d_m_contract_38 : decode c_m_contract 38 = .ok (.iload_n 1, 1) := by decide +kernel
theorem d_m_contract_39 : decode c_m_contract 39 = .ok (.ifCond .ne 10, 3) := by decide +kernel
theorem d_m_contract_42 : decode c_m_contract 42 = .ok (.aload_n 0, 1) := by decide +kernel
theorem d_m_contract_43 : decode c_m_contract 43 = .ok (.getfield 107, 3) := by decide +kernel
theorem d_m_contract_46 : decode c_m_contract 46 = .ok (.goto 19, 3) := by decide +kernel
theorem d_m_contract_49 : decode c_m_contract 49 = .ok (.iload_n 1, 1) := by decide +kernel
theorem d_m_contract_50 : decode c_m_contract 50 = .ok (.iconst 1, 1) := by decide +kernel
theorem d_m_contract_51 : decode c_m_contract 51 = .ok (.if_icmp .ne 10, 3) := by decide +kernel
theorem d_m_contract_54 : decode c_m_contract 54 = .ok (.aload_n 0, 1) := by decide +kernel
theorem d_m_contract_55 : decode c_m_contract 55 = .ok (.getfield 110, 3) := by decide +kernel
theorem d_m_contract_58 : decode c_m_contract 58 = .ok (.goto 7, 3) := by decide +kernel
theorem d_m_contract_61 : decode c_m_contract 61 = .ok (.aload_n 0, 1) := by decide +kernel
theorem d_m_contract_62 : decode c_m_contract 62 = .ok (.getfield 117, 3) := by decide +kernel
theorem d_m_contract_65 : decode c_m_contract 65 = .ok (.ireturn, 1) := by decide +kernel
abbrev c_m_trump : ByteArray := prog_9_method_21_code
def y_m_trump : MethodName := ⟨"ShortBridgeModel", "trump", "()I"⟩
theorem d_m_trump_0 : decode c_m_trump 0 = .ok (.aload_n 0, 1) := by decide +kernel
theorem d_m_trump_1 : decode c_m_trump 1 = .ok (.getfield 107, 3) := by decide +kernel
theorem d_m_trump_4 : decode c_m_trump 4 = .ok (.iconst 3, 1) := by decide +kernel
theorem d_m_trump_5 : decode c_m_trump 5 = .ok (.isub, 1) := by decide +kernel
theorem d_m_trump_6 : decode c_m_trump 6 = .ok (.iconst 5, 1) := by decide +kernel
theorem d_m_trump_7 : decode c_m_trump 7 = .ok (.irem, 1) := by decide +kernel
theorem d_m_trump_8 : decode c_m_trump 8 = .ok (.ireturn, 1) := by decide +kernel
abbrev c_m_height : ByteArray := prog_9_method_22_code
def y_m_height : MethodName := ⟨"ShortBridgeModel", "height", "(II)I"⟩
theorem d_m_height_0 : decode c_m_height 0 = .ok (.iload_n 1, 1) := by decide +kernel
theorem d_m_height_1 : decode c_m_height 1 = .ok (.iconst 5, 1) := by decide +kernel
theorem d_m_height_2 : decode c_m_height 2 = .ok (.idiv, 1) := by decide +kernel
theorem d_m_height_3 : decode c_m_height 3 = .ok (.aload_n 0, 1) := by decide +kernel
theorem d_m_height_4 : decode c_m_height 4 = .ok (.invokevirtual 139, 3) := by decide +kernel
theorem d_m_height_7 : decode c_m_height 7 = .ok (.if_icmp .ne 12, 3) := by decide +kernel
theorem d_m_height_10 : decode c_m_height 10 = .ok (.bipush 10, 2) := by decide +kernel
theorem d_m_height_12 : decode c_m_height 12 = .ok (.iload_n 1, 1) := by decide +kernel
theorem d_m_height_13 : decode c_m_height 13 = .ok (.iconst 5, 1) := by decide +kernel
theorem d_m_height_14 : decode c_m_height 14 = .ok (.irem, 1) := by decide +kernel
theorem d_m_height_15 : decode c_m_height 15 = .ok (.iadd, 1) := by decide +kernel
theorem d_m_height_16 : decode c_m_height 16 = .ok (.goto 19, 3) := by decide +kernel
theorem d_m_height_19 : decode c_m_height 19 = .ok (.iload_n 1, 1) := by decide +kernel
theorem d_m_height_20 : decode c_m_height 20 = .ok (.iconst 5, 1) := by decide +kernel
theorem d_m_height_21 : decode c_m_height 21 = .ok (.idiv, 1) := by decide +kernel
theorem d_m_height_22 : decode c_m_height 22 = .ok (.iload_n 2, 1) := by decide +kernel
theorem d_m_height_23 : decode c_m_height 23 = .ok (.if_icmp .ne 11, 3) := by decide +kernel
theorem d_m_height_26 : decode c_m_height 26 = .ok (.iconst 1, 1) := by decide +kernel
theorem d_m_height_27 : decode c_m_height 27 = .ok (.iload_n 1, 1) := by decide +kernel
theorem d_m_height_28 : decode c_m_height 28 = .ok (.iconst 5, 1) := by decide +kernel
theorem d_m_height_29 : decode c_m_height 29 = .ok (.irem, 1) := by decide +kernel
theorem d_m_height_30 : decode c_m_height 30 = .ok (.iadd, 1) := by decide +kernel
theorem d_m_height_31 : decode c_m_height 31 = .ok (.goto 4, 3) := by decide +kernel
theorem d_m_height_34 : decode c_m_height 34 = .ok (.iconst 0, 1) := by decide +kernel
theorem d_m_height_35 : decode c_m_height 35 = .ok (.ireturn, 1) := by decide +kernel
abbrev c_m_goOn : ByteArray := prog_9_method_23_code
def y_m_goOn : MethodName := ⟨"ShortBridgeModel", "goOn", "(I)V"⟩
theorem d_m_goOn_0 : decode c_m_goOn 0 = .ok (.aload_n 0, 1) := by decide +kernel
theorem d_m_goOn_1 : decode c_m_goOn 1 = .ok (.getfield 23, 3) := by decide +kernel
theorem d_m_goOn_4 : decode c_m_goOn 4 = .ok (.iload_n 1, 1) := by decide +kernel
theorem d_m_goOn_5 : decode c_m_goOn 5 = .ok (.iconst 1, 1) := by decide +kernel
theorem d_m_goOn_6 : decode c_m_goOn 6 = .ok (.iadd, 1) := by decide +kernel
theorem d_m_goOn_7 : decode c_m_goOn 7 = .ok (.aload_n 0, 1) := by decide +kernel
theorem d_m_goOn_8 : decode c_m_goOn 8 = .ok (.getfield 23, 3) := by decide +kernel
theorem d_m_goOn_11 : decode c_m_goOn 11 = .ok (.iload_n 1, 1) := by decide +kernel
theorem d_m_goOn_12 : decode c_m_goOn 12 = .ok (.iaload, 1) := by decide +kernel
theorem d_m_goOn_13 : decode c_m_goOn 13 = .ok (.iconst 1, 1) := by decide +kernel
theorem d_m_goOn_14 : decode c_m_goOn 14 = .ok (.iadd, 1) := by decide +kernel
theorem d_m_goOn_15 : decode c_m_goOn 15 = .ok (.iconst 3, 1) := by decide +kernel
theorem d_m_goOn_16 : decode c_m_goOn 16 = .ok (.iand, 1) := by decide +kernel
theorem d_m_goOn_17 : decode c_m_goOn 17 = .ok (.iastore, 1) := by decide +kernel
theorem d_m_goOn_18 : decode c_m_goOn 18 = .ok (.aload_n 0, 1) := by decide +kernel
theorem d_m_goOn_19 : decode c_m_goOn 19 = .ok (.getfield 26, 3) := by decide +kernel
theorem d_m_goOn_22 : decode c_m_goOn 22 = .ok (.iload_n 1, 1) := by decide +kernel
theorem d_m_goOn_23 : decode c_m_goOn 23 = .ok (.iconst 1, 1) := by decide +kernel
theorem d_m_goOn_24 : decode c_m_goOn 24 = .ok (.iadd, 1) := by decide +kernel
theorem d_m_goOn_25 : decode c_m_goOn 25 = .ok (.aload_n 0, 1) := by decide +kernel
theorem d_m_goOn_26 : decode c_m_goOn 26 = .ok (.getfield 26, 3) := by decide +kernel
theorem d_m_goOn_29 : decode c_m_goOn 29 = .ok (.iload_n 1, 1) := by decide +kernel
theorem d_m_goOn_30 : decode c_m_goOn 30 = .ok (.iaload, 1) := by decide +kernel
theorem d_m_goOn_31 : decode c_m_goOn 31 = .ok (.iastore, 1) := by decide +kernel
theorem d_m_goOn_32 : decode c_m_goOn 32 = .ok (.aload_n 0, 1) := by decide +kernel
theorem d_m_goOn_33 : decode c_m_goOn 33 = .ok (.getfield 29, 3) := by decide +kernel
theorem d_m_goOn_36 : decode c_m_goOn 36 = .ok (.iload_n 1, 1) := by decide +kernel
theorem d_m_goOn_37 : decode c_m_goOn 37 = .ok (.iconst 1, 1) := by decide +kernel
theorem d_m_goOn_38 : decode c_m_goOn 38 = .ok (.iadd, 1) := by decide +kernel
theorem d_m_goOn_39 : decode c_m_goOn 39 = .ok (.aload_n 0, 1) := by decide +kernel
theorem d_m_goOn_40 : decode c_m_goOn 40 = .ok (.getfield 29, 3) := by decide +kernel
theorem d_m_goOn_43 : decode c_m_goOn 43 = .ok (.iload_n 1, 1) := by decide +kernel
theorem d_m_goOn_44 : decode c_m_goOn 44 = .ok (.iaload, 1) := by decide +kernel
theorem d_m_goOn_45 : decode c_m_goOn 45 = .ok (.iconst 1, 1) := by decide +kernel
theorem d_m_goOn_46 : decode c_m_goOn 46 = .ok (.aload_n 0, 1) := by decide +kernel
theorem d_m_goOn_47 : decode c_m_goOn 47 = .ok (.getfield 20, 3) := by decide +kernel
theorem d_m_goOn_50 : decode c_m_goOn 50 = .ok (.iload_n 1, 1) := by decide +kernel
theorem d_m_goOn_51 : decode c_m_goOn 51 = .ok (.iaload, 1) := by decide +kernel
theorem d_m_goOn_52 : decode c_m_goOn 52 = .ok (.ishl, 1) := by decide +kernel
theorem d_m_goOn_53 : decode c_m_goOn 53 = .ok (.ior, 1) := by decide +kernel
theorem d_m_goOn_54 : decode c_m_goOn 54 = .ok (.iastore, 1) := by decide +kernel
theorem d_m_goOn_55 : decode c_m_goOn 55 = .ok (.iload_n 1, 1) := by decide +kernel
theorem d_m_goOn_56 : decode c_m_goOn 56 = .ok (.iconst 4, 1) := by decide +kernel
theorem d_m_goOn_57 : decode c_m_goOn 57 = .ok (.irem, 1) := by decide +kernel
theorem d_m_goOn_58 : decode c_m_goOn 58 = .ok (.iconst 3, 1) := by decide +kernel
theorem d_m_goOn_59 : decode c_m_goOn 59 = .ok (.if_icmp .ne 124, 3) := by decide +kernel
theorem d_m_goOn_62 : decode c_m_goOn 62 = .ok (.aload_n 0, 1) := by decide +kernel
theorem d_m_goOn_63 : decode c_m_goOn 63 = .ok (.getfield 20, 3) := by decide +kernel
theorem d_m_goOn_66 : decode c_m_goOn 66 = .ok (.iload_n 1, 1) := by decide +kernel
theorem d_m_goOn_67 : decode c_m_goOn 67 = .ok (.iconst 3, 1) := by decide +kernel
theorem d_m_goOn_68 : decode c_m_goOn 68 = .ok (.isub, 1) := by decide +kernel
theorem d_m_goOn_69 : decode c_m_goOn 69 = .ok (.iaload, 1) := by decide +kernel
theorem d_m_goOn_70 : decode c_m_goOn 70 = .ok (.iconst 5, 1) := by decide +kernel
theorem d_m_goOn_71 : decode c_m_goOn 71 = .ok (.idiv, 1) := by decide +kernel
theorem d_m_goOn_72 : decode c_m_goOn 72 = .ok (.istore_n 2, 1) := by decide +kernel
theorem d_m_goOn_73 : decode c_m_goOn 73 = .ok (.iload_n 1, 1) := by decide +kernel
theorem d_m_goOn_74 : decode c_m_goOn 74 = .ok (.iconst 3, 1) := by decide +kernel
theorem d_m_goOn_75 : decode c_m_goOn 75 = .ok (.isub, 1) := by decide +kernel
theorem d_m_goOn_76 : decode c_m_goOn 76 = .ok (.istore_n 3, 1) := by decide +kernel
theorem d_m_goOn_77 : decode c_m_goOn 77 = .ok (.iload_n 1, 1) := by decide +kernel
theorem d_m_goOn_78 : decode c_m_goOn 78 = .ok (.iconst 2, 1) := by decide +kernel
theorem d_m_goOn_79 : decode c_m_goOn 79 = .ok (.isub, 1) := by decide +kernel
theorem d_m_goOn_80 : decode c_m_goOn 80 = .ok (.istore 4, 2) := by decide +kernel
theorem d_m_goOn_82 : decode c_m_goOn 82 = .ok (.iload 4, 2) := by decide +kernel
theorem d_m_goOn_84 : decode c_m_goOn 84 = .ok (.iload_n 1, 1) := by decide +kernel
theorem d_m_goOn_85 : decode c_m_goOn 85 = .ok (.if_icmp .gt 42, 3) := by decide +kernel
theorem d_m_goOn_88 : decode c_m_goOn 88 = .ok (.aload_n 0, 1) := by decide +kernel
theorem d_m_goOn_89 : decode c_m_goOn 89 = .ok (.aload_n 0, 1) := by decide +kernel
theorem d_m_goOn_90 : decode c_m_goOn 90 = .ok (.getfield 20, 3) := by decide +kernel
theorem d_m_goOn_93 : decode c_m_goOn 93 = .ok (.iload 4, 2) := by decide +kernel
theorem d_m_goOn_95 : decode c_m_goOn 95 = .ok (.iaload, 1) := by decide +kernel
theorem d_m_goOn_96 : decode c_m_goOn 96 = .ok (.iload_n 2, 1) := by decide +kernel
theorem d_m_goOn_97 : decode c_m_goOn 97 = .ok (.invokevirtual 142, 3) := by decide +kernel
theorem d_m_goOn_100 : decode c_m_goOn 100 = .ok (.aload_n 0, 1) := by decide +kernel
theorem d_m_goOn_101 : decode c_m_goOn 101 = .ok (.aload_n 0, 1) := by decide +kernel
theorem d_m_goOn_102 : decode c_m_goOn 102 = .ok (.getfield 20, 3) := by decide +kernel
theorem d_m_goOn_105 : decode c_m_goOn 105 = .ok (.iload_n 3, 1) := by decide +kernel
theorem d_m_goOn_106 : decode c_m_goOn 106 = .ok (.iaload, 1) := by decide +kernel
theorem d_m_goOn_107 : decode c_m_goOn 107 = .ok (.iload_n 2, 1) := by decide +kernel
theorem d_m_goOn_108 : decode c_m_goOn 108 = .ok (.invokevirtual 142, 3) := by decide +kernel
theorem d_m_goOn_111 : decode c_m_goOn 111 = .ok (.if_icmp .le 8, 3) := by decide +kernel
theorem d_m_goOn_114 : decode c_m_goOn 114 = .ok (.iload 4, 2) := by decide +kernel
theorem d_m_goOn_116 : decode c_m_goOn 116 = .ok (.goto 4, 3) := by decide +kernel
theorem d_m_goOn_119 : decode c_m_goOn 119 = .ok (.iload_n 3, 1) := by decide +kernel
theorem d_m_goOn_120 : decode c_m_goOn 120 = .ok (.istore_n 3, 1) := by decide +kernel
theorem d_m_goOn_121 : decode c_m_goOn 121 = .ok (.iinc 4 1, 3) := by decide +kernel
theorem d_m_goOn_124 : decode c_m_goOn 124 = .ok (.goto (-42), 3) := by decide +kernel
theorem d_m_goOn_127 : decode c_m_goOn 127 = .ok (.aload_n 0, 1) := by decide +kernel
theorem d_m_goOn_128 : decode c_m_goOn 128 = .ok (.getfield 23, 3) := by decide +kernel
theorem d_m_goOn_131 : decode c_m_goOn 131 = .ok (.iload_n 1, 1) := by decide +kernel
theorem d_m_goOn_132 : decode c_m_goOn 132 = .ok (.iconst 1, 1) := by decide +kernel
theorem d_m_goOn_133 : decode c_m_goOn 133 = .ok (.iadd, 1) := by decide +kernel
theorem d_m_goOn_134 : decode c_m_goOn 134 = .ok (.aload_n 0, 1) := by decide +kernel
theorem d_m_goOn_135 : decode c_m_goOn 135 = .ok (.getfield 23, 3) := by decide +kernel
theorem d_m_goOn_138 : decode c_m_goOn 138 = .ok (.iload_n 3, 1) := by decide +kernel
theorem d_m_goOn_139 : decode c_m_goOn 139 = .ok (.iaload, 1) := by decide +kernel
theorem d_m_goOn_140 : decode c_m_goOn 140 = .ok (.iastore, 1) := by decide +kernel
theorem d_m_goOn_141 : decode c_m_goOn 141 = .ok (.aload_n 0, 1) := by decide +kernel
theorem d_m_goOn_142 : decode c_m_goOn 142 = .ok (.getfield 26, 3) := by decide +kernel
theorem d_m_goOn_145 : decode c_m_goOn 145 = .ok (.iload_n 1, 1) := by decide +kernel
theorem d_m_goOn_146 : decode c_m_goOn 146 = .ok (.iconst 1, 1) := by decide +kernel
theorem d_m_goOn_147 : decode c_m_goOn 147 = .ok (.iadd, 1) := by decide +kernel
theorem d_m_goOn_148 : decode c_m_goOn 148 = .ok (.aload_n 0, 1) := by decide +kernel
theorem d_m_goOn_149 : decode c_m_goOn 149 = .ok (.getfield 23, 3) := by decide +kernel
theorem d_m_goOn_152 : decode c_m_goOn 152 = .ok (.iload_n 3, 1) := by decide +kernel
theorem d_m_goOn_153 : decode c_m_goOn 153 = .ok (.iaload, 1) := by decide +kernel
theorem d_m_goOn_154 : decode c_m_goOn 154 = .ok (.iconst 1, 1) := by decide +kernel
theorem d_m_goOn_155 : decode c_m_goOn 155 = .ok (.iand, 1) := by decide +kernel
theorem d_m_goOn_156 : decode c_m_goOn 156 = .ok (.aload_n 0, 1) := by decide +kernel
theorem d_m_goOn_157 : decode c_m_goOn 157 = .ok (.getfield 117, 3) := by decide +kernel
theorem d_m_goOn_160 : decode c_m_goOn 160 = .ok (.iconst 1, 1) := by decide +kernel
theorem d_m_goOn_161 : decode c_m_goOn 161 = .ok (.iand, 1) := by decide +kernel
theorem d_m_goOn_162 : decode c_m_goOn 162 = .ok (.if_icmp .ne 14, 3) := by decide +kernel
theorem d_m_goOn_165 : decode c_m_goOn 165 = .ok (.aload_n 0, 1) := by decide +kernel
theorem d_m_goOn_166 : decode c_m_goOn 166 = .ok (.getfield 26, 3) := by decide +kernel
theorem d_m_goOn_169 : decode c_m_goOn 169 = .ok (.iload_n 1, 1) := by decide +kernel
theorem d_m_goOn_170 : decode c_m_goOn 170 = .ok (.iaload, 1) := by decide +kernel
theorem d_m_goOn_171 : decode c_m_goOn 171 = .ok (.iconst 1, 1) := by decide +kernel
theorem d_m_goOn_172 : decode c_m_goOn 172 = .ok (.iadd, 1) := by decide +kernel
theorem d_m_goOn_173 : decode c_m_goOn 173 = .ok (.goto 9, 3) := by decide +kernel
theorem d_m_goOn_176 : decode c_m_goOn 176 = .ok (.aload_n 0, 1) := by decide +kernel
theorem d_m_goOn_177 : decode c_m_goOn 177 = .ok (.getfield 26, 3) := by decide +kernel
theorem d_m_goOn_180 : decode c_m_goOn 180 = .ok (.iload_n 1, 1) := by decide +kernel
theorem d_m_goOn_181 : decode c_m_goOn 181 = .ok (.iaload, 1) := by decide +kernel
theorem d_m_goOn_182 : decode c_m_goOn 182 = .ok (.iastore, 1) := by decide +kernel
theorem d_m_goOn_183 : decode c_m_goOn 183 = .ok (.return_, 1) := by decide +kernel
abbrev c_m_readCards : ByteArray := prog_9_method_24_code
def y_m_readCards : MethodName := ⟨"ShortBridgeModel", "readCards", "()V"⟩
theorem d_m_readCards_0 : decode c_m_readCards 0 = .ok (.aload_n 0, 1) := by decide +kernel
theorem d_m_readCards_1 : decode c_m_readCards 1 = .ok (.getfield 23, 3) := by decide +kernel
theorem d_m_readCards_4 : decode c_m_readCards 4 = .ok (.iconst 0, 1) := by decide +kernel
theorem d_m_readCards_5 : decode c_m_readCards 5 = .ok (.aload_n 0, 1) := by decide +kernel
theorem d_m_readCards_6 : decode c_m_readCards 6 = .ok (.getfield 117, 3) := by decide +kernel
theorem d_m_readCards_9 : decode c_m_readCards 9 = .ok (.iconst 1, 1) := by decide +kernel
theorem d_m_readCards_10 : decode c_m_readCards 10 = .ok (.iadd, 1) := by decide +kernel
theorem d_m_readCards_11 : decode c_m_readCards 11 = .ok (.iconst 3, 1) := by decide +kernel
theorem d_m_readCards_12 : decode c_m_readCards 12 = .ok (.iand, 1) := by decide +kernel
theorem d_m_readCards_13 : decode c_m_readCards 13 = .ok (.iastore, 1) := by decide +kernel
theorem d_m_readCards_14 : decode c_m_readCards 14 = .ok (.aload_n 0, 1) := by decide +kernel
theorem d_m_readCards_15 : decode c_m_readCards 15 = .ok (.getfield 26, 3) := by decide +kernel
theorem d_m_readCards_18 : decode c_m_readCards 18 = .ok (.iconst 0, 1) := by decide +kernel
theorem d_m_readCards_19 : decode c_m_readCards 19 = .ok (.iconst 0, 1) := by decide +kernel
theorem d_m_readCards_20 : decode c_m_readCards 20 = .ok (.iastore, 1) := by decide +kernel
theorem d_m_readCards_21 : decode c_m_readCards 21 = .ok (.iconst 0, 1) := by decide +kernel
theorem d_m_readCards_22 : decode c_m_readCards 22 = .ok (.istore_n 1, 1) := by decide +kernel
theorem d_m_readCards_23 : decode c_m_readCards 23 = .ok (.iload_n 1, 1) := by decide +kernel
theorem d_m_readCards_24 : decode c_m_readCards 24 = .ok (.aload_n 0, 1) := by decide +kernel
theorem d_m_readCards_25 : decode c_m_readCards 25 = .ok (.getfield 84, 3) := by decide +kernel
theorem d_m_readCards_28 : decode c_m_readCards 28 = .ok (.if_icmp .ge 14, 3) := by decide +kernel
theorem d_m_readCards_31 : decode c_m_readCards 31 = .ok (.aload_n 0, 1) := by decide +kernel
theorem d_m_readCards_32 : decode c_m_readCards 32 = .ok (.iload_n 1, 1) := by decide +kernel
theorem d_m_readCards_33 : decode c_m_readCards 33 = .ok (.invokevirtual 146, 3) := by decide +kernel
theorem d_m_readCards_36 : decode c_m_readCards 36 = .ok (.iinc 1 1, 3) := by decide +kernel
theorem d_m_readCards_39 : decode c_m_readCards 39 = .ok (.goto (-16), 3) := by decide +kernel
theorem d_m_readCards_42 : decode c_m_readCards 42 = .ok (.return_, 1) := by decide +kernel
abbrev c_m_holds : ByteArray := prog_9_method_25_code
def y_m_holds : MethodName := ⟨"ShortBridgeModel", "holds", "(III)Z"⟩
theorem d_m_holds_0 : decode c_m_holds 0 = .ok (.aload_n 0, 1) := by decide +kernel
theorem d_m_holds_1 : decode c_m_holds 1 = .ok (.getfield 7, 3) := by decide +kernel
theorem d_m_holds_4 : decode c_m_holds 4 = .ok (.iload_n 2, 1) := by decide +kernel
theorem d_m_holds_5 : decode c_m_holds 5 = .ok (.iaload, 1) := by decide +kernel
theorem d_m_holds_6 : decode c_m_holds 6 = .ok (.iload_n 1, 1) := by decide +kernel
theorem d_m_holds_7 : decode c_m_holds 7 = .ok (.if_icmp .ne 20, 3) := by decide +kernel
theorem d_m_holds_10 : decode c_m_holds 10 = .ok (.aload_n 0, 1) := by decide +kernel
theorem d_m_holds_11 : decode c_m_holds 11 = .ok (.getfield 29, 3) := by decide +kernel
theorem d_m_holds_14 : decode c_m_holds 14 = .ok (.iload_n 3, 1) := by decide +kernel
theorem d_m_holds_15 : decode c_m_holds 15 = .ok (.iaload, 1) := by decide +kernel
theorem d_m_holds_16 : decode c_m_holds 16 = .ok (.iload_n 2, 1) := by decide +kernel
theorem d_m_holds_17 : decode c_m_holds 17 = .ok (.ishr, 1) := by decide +kernel
theorem d_m_holds_18 : decode c_m_holds 18 = .ok (.iconst 1, 1) := by decide +kernel
theorem d_m_holds_19 : decode c_m_holds 19 = .ok (.iand, 1) := by decide +kernel
theorem d_m_holds_20 : decode c_m_holds 20 = .ok (.ifCond .ne 7, 3) := by decide +kernel
theorem d_m_holds_23 : decode c_m_holds 23 = .ok (.iconst 1, 1) := by decide +kernel
theorem d_m_holds_24 : decode c_m_holds 24 = .ok (.goto 4, 3) := by decide +kernel
theorem d_m_holds_27 : decode c_m_holds 27 = .ok (.iconst 0, 1) := by decide +kernel
theorem d_m_holds_28 : decode c_m_holds 28 = .ok (.ireturn, 1) := by decide +kernel
abbrev c_m_follows : ByteArray := prog_9_method_26_code
def y_m_follows : MethodName := ⟨"ShortBridgeModel", "follows", "(II)Z"⟩
theorem d_m_follows_0 : decode c_m_follows 0 = .ok (.iload_n 2, 1) := by decide +kernel
theorem d_m_follows_1 : decode c_m_follows 1 = .ok (.iconst 4, 1) := by decide +kernel
theorem d_m_follows_2 : decode c_m_follows 2 = .ok (.irem, 1) := by decide +kernel
theorem d_m_follows_3 : decode c_m_follows 3 = .ok (.ifCond .ne 5, 3) := by decide +kernel
theorem d_m_follows_6 : decode c_m_follows 6 = .ok (.iconst 1, 1) := by decide +kernel
theorem d_m_follows_7 : decode c_m_follows 7 = .ok (.ireturn, 1) := by decide +kernel
theorem d_m_follows_8 : decode c_m_follows 8 = .ok (.aload_n 0, 1) := by decide +kernel
theorem d_m_follows_9 : decode c_m_follows 9 = .ok (.getfield 20, 3) := by decide +kernel
theorem d_m_follows_12 : decode c_m_follows 12 = .ok (.iload_n 2, 1) := by decide +kernel
theorem d_m_follows_13 : decode c_m_follows 13 = .ok (.iload_n 2, 1) := by decide +kernel
theorem d_m_follows_14 : decode c_m_follows 14 = .ok (.iconst 4, 1) := by decide +kernel
theorem d_m_follows_15 : decode c_m_follows 15 = .ok (.irem, 1) := by decide +kernel
theorem d_m_follows_16 : decode c_m_follows 16 = .ok (.isub, 1) := by decide +kernel
theorem d_m_follows_17 : decode c_m_follows 17 = .ok (.iaload, 1) := by decide +kernel
theorem d_m_follows_18 : decode c_m_follows 18 = .ok (.iconst 5, 1) := by decide +kernel
theorem d_m_follows_19 : decode c_m_follows 19 = .ok (.idiv, 1) := by decide +kernel
theorem d_m_follows_20 : decode c_m_follows 20 = .ok (.istore_n 3, 1) := by decide +kernel
theorem d_m_follows_21 : decode c_m_follows 21 = .ok (.iconst 0, 1) := by decide +kernel
theorem d_m_follows_22 : decode c_m_follows 22 = .ok (.istore 4, 2) := by decide +kernel
theorem d_m_follows_24 : decode c_m_follows 24 = .ok (.iconst 5, 1) := by decide +kernel
theorem d_m_follows_25 : decode c_m_follows 25 = .ok (.iload_n 3, 1) := by decide +kernel
theorem d_m_follows_26 : decode c_m_follows 26 = .ok (.imul, 1) := by decide +kernel
theorem d_m_follows_27 : decode c_m_follows 27 = .ok (.istore 5, 2) := by decide +kernel
theorem d_m_follows_29 : decode c_m_follows 29 = .ok (.iload 5, 2) := by decide +kernel
theorem d_m_follows_31 : decode c_m_follows 31 = .ok (.iconst 5, 1) := by decide +kernel
theorem d_m_follows_32 : decode c_m_follows 32 = .ok (.iload_n 3, 1) := by decide +kernel
theorem d_m_follows_33 : decode c_m_follows 33 = .ok (.imul, 1) := by decide +kernel
theorem d_m_follows_34 : decode c_m_follows 34 = .ok (.iconst 5, 1) := by decide +kernel
theorem d_m_follows_35 : decode c_m_follows 35 = .ok (.iadd, 1) := by decide +kernel
theorem d_m_follows_36 : decode c_m_follows 36 = .ok (.if_icmp .ge 37, 3) := by decide +kernel
theorem d_m_follows_39 : decode c_m_follows 39 = .ok (.iload 4, 2) := by decide +kernel
theorem d_m_follows_41 : decode c_m_follows 41 = .ok (.ifCond .ne 19, 3) := by decide +kernel
theorem d_m_follows_44 : decode c_m_follows 44 = .ok (.aload_n 0, 1) := by decide +kernel
theorem d_m_follows_45 : decode c_m_follows 45 = .ok (.aload_n 0, 1) := by decide +kernel
theorem d_m_follows_46 : decode c_m_follows 46 = .ok (.getfield 23, 3) := by decide +kernel
theorem d_m_follows_49 : decode c_m_follows 49 = .ok (.iload_n 2, 1) := by decide +kernel
theorem d_m_follows_50 : decode c_m_follows 50 = .ok (.iaload, 1) := by decide +kernel
theorem d_m_follows_51 : decode c_m_follows 51 = .ok (.iload 5, 2) := by decide +kernel
theorem d_m_follows_53 : decode c_m_follows 53 = .ok (.iload_n 2, 1) := by decide +kernel
theorem d_m_follows_54 : decode c_m_follows 54 = .ok (.invokevirtual 150, 3) := by decide +kernel
theorem d_m_follows_57 : decode c_m_follows 57 = .ok (.ifCond .eq 7, 3) := by decide +kernel
theorem d_m_follows_60 : decode c_m_follows 60 = .ok (.iconst 1, 1) := by decide +kernel
theorem d_m_follows_61 : decode c_m_follows 61 = .ok (.goto 4, 3) := by decide +kernel
theorem d_m_follows_64 : decode c_m_follows 64 = .ok (.iconst 0, 1) := by decide +kernel
theorem d_m_follows_65 : decode c_m_follows 65 = .ok (.istore 4, 2) := by decide +kernel
theorem d_m_follows_67 : decode c_m_follows 67 = .ok (.iinc 5 1, 3) := by decide +kernel
theorem d_m_follows_70 : decode c_m_follows 70 = .ok (.goto (-41), 3) := by decide +kernel
theorem d_m_follows_73 : decode c_m_follows 73 = .ok (.iload_n 1, 1) := by decide +kernel
theorem d_m_follows_74 : decode c_m_follows 74 = .ok (.iconst 5, 1) := by decide +kernel
theorem d_m_follows_75 : decode c_m_follows 75 = .ok (.idiv, 1) := by decide +kernel
theorem d_m_follows_76 : decode c_m_follows 76 = .ok (.iload_n 3, 1) := by decide +kernel
theorem d_m_follows_77 : decode c_m_follows 77 = .ok (.if_icmp .eq 8, 3) := by decide +kernel
theorem d_m_follows_80 : decode c_m_follows 80 = .ok (.iload 4, 2) := by decide +kernel
theorem d_m_follows_82 : decode c_m_follows 82 = .ok (.ifCond .ne 7, 3) := by decide +kernel
theorem d_m_follows_85 : decode c_m_follows 85 = .ok (.iconst 1, 1) := by decide +kernel
theorem d_m_follows_86 : decode c_m_follows 86 = .ok (.goto 4, 3) := by decide +kernel
theorem d_m_follows_89 : decode c_m_follows 89 = .ok (.iconst 0, 1) := by decide +kernel
theorem d_m_follows_90 : decode c_m_follows 90 = .ok (.ireturn, 1) := by decide +kernel
abbrev c_m_turn : ByteArray := prog_9_method_27_code
def y_m_turn : MethodName := ⟨"ShortBridgeModel", "turn", "()I"⟩
theorem d_m_turn_0 : decode c_m_turn 0 = .ok (.aload_n 0, 1) := by decide +kernel
theorem d_m_turn_1 : decode c_m_turn 1 = .ok (.iconst 0, 1) := by decide +kernel
theorem d_m_turn_2 : decode c_m_turn 2 = .ok (.putfield 50, 3) := by decide +kernel
theorem d_m_turn_5 : decode c_m_turn 5 = .ok (.aload_n 0, 1) := by decide +kernel
theorem d_m_turn_6 : decode c_m_turn 6 = .ok (.invokevirtual 132, 3) := by decide +kernel
theorem d_m_turn_9 : decode c_m_turn 9 = .ok (.istore_n 1, 1) := by decide +kernel
theorem d_m_turn_10 : decode c_m_turn 10 = .ok (.iload_n 1, 1) := by decide +kernel
theorem d_m_turn_11 : decode c_m_turn 11 = .ok (.iconst 1, 1) := by decide +kernel
theorem d_m_turn_12 : decode c_m_turn 12 = .ok (.if_icmp .ne 12, 3) := by decide +kernel
theorem d_m_turn_15 : decode c_m_turn 15 = .ok (.aload_n 0, 1) := by decide +kernel
theorem d_m_turn_16 : decode c_m_turn 16 = .ok (.aload_n 0, 1) := by decide +kernel
theorem d_m_turn_17 : decode c_m_turn 17 = .ok (.getfield 81, 3) := by decide +kernel
theorem d_m_turn_20 : decode c_m_turn 20 = .ok (.invokevirtual 126, 3) := by decide +kernel
theorem d_m_turn_23 : decode c_m_turn 23 = .ok (.ireturn, 1) := by decide +kernel
theorem d_m_turn_24 : decode c_m_turn 24 = .ok (.aload_n 0, 1) := by decide +kernel
theorem d_m_turn_25 : decode c_m_turn 25 = .ok (.invokevirtual 154, 3) := by decide +kernel
theorem d_m_turn_28 : decode c_m_turn 28 = .ok (.iload_n 1, 1) := by decide +kernel
theorem d_m_turn_29 : decode c_m_turn 29 = .ok (.iconst 2, 1) := by decide +kernel
theorem d_m_turn_30 : decode c_m_turn 30 = .ok (.if_icmp .ne 15, 3) := by decide +kernel
theorem d_m_turn_33 : decode c_m_turn 33 = .ok (.aload_n 0, 1) := by decide +kernel
theorem d_m_turn_34 : decode c_m_turn 34 = .ok (.getfield 23, 3) := by decide +kernel
theorem d_m_turn_37 : decode c_m_turn 37 = .ok (.aload_n 0, 1) := by decide +kernel
theorem d_m_turn_38 : decode c_m_turn 38 = .ok (.getfield 84, 3) := by decide +kernel
theorem d_m_turn_41 : decode c_m_turn 41 = .ok (.iaload, 1) := by decide +kernel
theorem d_m_turn_42 : decode c_m_turn 42 = .ok (.goto 4, 3) := by decide +kernel
theorem d_m_turn_45 : decode c_m_turn 45 = .ok (.iconst (-1), 1) := by decide +kernel
theorem d_m_turn_46 : decode c_m_turn 46 = .ok (.ireturn, 1) := by decide +kernel
abbrev c_m_has : ByteArray := prog_9_method_28_code
def y_m_has : MethodName := ⟨"ShortBridgeModel", "has", "(II)Z"⟩
theorem d_m_has_0 : decode c_m_has 0 = .ok (.aload_n 0, 1) := by decide +kernel
theorem d_m_has_1 : decode c_m_has 1 = .ok (.iconst 0, 1) := by decide +kernel
theorem d_m_has_2 : decode c_m_has 2 = .ok (.putfield 50, 3) := by decide +kernel
theorem d_m_has_5 : decode c_m_has 5 = .ok (.aload_n 0, 1) := by decide +kernel
theorem d_m_has_6 : decode c_m_has 6 = .ok (.getfield 63, 3) := by decide +kernel
theorem d_m_has_9 : decode c_m_has 9 = .ok (.ifCond .eq 20, 3) := by decide +kernel
theorem d_m_has_12 : decode c_m_has 12 = .ok (.iload_n 1, 1) := by decide +kernel
theorem d_m_has_13 : decode c_m_has 13 = .ok (.invokestatic 89, 3) := by decide +kernel
theorem d_m_has_16 : decode c_m_has 16 = .ok (.ifCond .eq 13, 3) := by decide +kernel
theorem d_m_has_19 : decode c_m_has 19 = .ok (.iload_n 2, 1) := by decide +kernel
theorem d_m_has_20 : decode c_m_has 20 = .ok (.ifCond .lt 9, 3) := by decide +kernel
theorem d_m_has_23 : decode c_m_has 23 = .ok (.iload_n 2, 1) := by decide +kernel
theorem d_m_has_24 : decode c_m_has 24 = .ok (.bipush 19, 2) := by decide +kernel
theorem d_m_has_26 : decode c_m_has 26 = .ok (.if_icmp .le 5, 3) := by decide +kernel
theorem d_m_has_29 : decode c_m_has 29 = .ok (.iconst 0, 1) := by decide +kernel
theorem d_m_has_30 : decode c_m_has 30 = .ok (.ireturn, 1) := by decide +kernel
theorem d_m_has_31 : decode c_m_has 31 = .ok (.aload_n 0, 1) := by decide +kernel
theorem d_m_has_32 : decode c_m_has 32 = .ok (.invokevirtual 154, 3) := by decide +kernel
theorem d_m_has_35 : decode c_m_has 35 = .ok (.aload_n 0, 1) := by decide +kernel
theorem d_m_has_36 : decode c_m_has 36 = .ok (.iload_n 1, 1) := by decide +kernel
theorem d_m_has_37 : decode c_m_has 37 = .ok (.iload_n 2, 1) := by decide +kernel
theorem d_m_has_38 : decode c_m_has 38 = .ok (.aload_n 0, 1) := by decide +kernel
theorem d_m_has_39 : decode c_m_has 39 = .ok (.getfield 84, 3) := by decide +kernel
theorem d_m_has_42 : decode c_m_has 42 = .ok (.invokevirtual 150, 3) := by decide +kernel
theorem d_m_has_45 : decode c_m_has 45 = .ok (.ireturn, 1) := by decide +kernel
abbrev c_m_play : ByteArray := prog_9_method_29_code
def y_m_play : MethodName := ⟨"ShortBridgeModel", "play", "(I)V"⟩
theorem d_m_play_0 : decode c_m_play 0 = .ok (.aload_n 0, 1) := by decide +kernel
theorem d_m_play_1 : decode c_m_play 1 = .ok (.aload_n 0, 1) := by decide +kernel
theorem d_m_play_2 : decode c_m_play 2 = .ok (.invokevirtual 132, 3) := by decide +kernel
theorem d_m_play_5 : decode c_m_play 5 = .ok (.iconst 2, 1) := by decide +kernel
theorem d_m_play_6 : decode c_m_play 6 = .ok (.if_icmp .ne 7, 3) := by decide +kernel
theorem d_m_play_9 : decode c_m_play 9 = .ok (.iconst 0, 1) := by decide +kernel
theorem d_m_play_10 : decode c_m_play 10 = .ok (.goto 4, 3) := by decide +kernel
theorem d_m_play_13 : decode c_m_play 13 = .ok (.iconst 1, 1) := by decide +kernel
theorem d_m_play_14 : decode c_m_play 14 = .ok (.putfield 50, 3) := by decide +kernel
theorem d_m_play_17 : decode c_m_play 17 = .ok (.aload_n 0, 1) := by decide +kernel
theorem d_m_play_18 : decode c_m_play 18 = .ok (.getfield 50, 3) := by decide +kernel
theorem d_m_play_21 : decode c_m_play 21 = .ok (.ifCond .le 4, 3) := by decide +kernel
theorem d_m_play_24 : decode c_m_play 24 = .ok (.return_, 1) := by decide +kernel
theorem d_m_play_25 : decode c_m_play 25 = .ok (.aload_n 0, 1) := by decide +kernel
theorem d_m_play_26 : decode c_m_play 26 = .ok (.invokevirtual 154, 3) := by decide +kernel
theorem d_m_play_29 : decode c_m_play 29 = .ok (.iload_n 1, 1) := by decide +kernel
theorem d_m_play_30 : decode c_m_play 30 = .ok (.ifCond .lt 34, 3) := by decide +kernel
theorem d_m_play_33 : decode c_m_play 33 = .ok (.iload_n 1, 1) := by decide +kernel
theorem d_m_play_34 : decode c_m_play 34 = .ok (.bipush 20, 2) := by decide +kernel
theorem d_m_play_36 : decode c_m_play 36 = .ok (.if_icmp .ge 28, 3) := by decide +kernel
theorem d_m_play_39 : decode c_m_play 39 = .ok (.aload_n 0, 1) := by decide +kernel
theorem d_m_play_40 : decode c_m_play 40 = .ok (.aload_n 0, 1) := by decide +kernel
theorem d_m_play_41 : decode c_m_play 41 = .ok (.getfield 23, 3) := by decide +kernel
theorem d_m_play_44 : decode c_m_play 44 = .ok (.aload_n 0, 1) := by decide +kernel
theorem d_m_play_45 : decode c_m_play 45 = .ok (.getfield 84, 3) := by decide +kernel
theorem d_m_play_48 : decode c_m_play 48 = .ok (.iaload, 1) := by decide +kernel
theorem d_m_play_49 : decode c_m_play 49 = .ok (.iload_n 1, 1) := by decide +kernel
theorem d_m_play_50 : decode c_m_play 50 = .ok (.aload_n 0, 1) := by decide +kernel
theorem d_m_play_51 : decode c_m_play 51 = .ok (.getfield 84, 3) := by decide +kernel
theorem d_m_play_54 : decode c_m_play 54 = .ok (.invokevirtual 150, 3) := by decide +kernel
theorem d_m_play_57 : decode c_m_play 57 = .ok (.ifCond .eq 7, 3) := by decide +kernel
theorem d_m_play_60 : decode c_m_play 60 = .ok (.iconst 1, 1) := by decide +kernel
theorem d_m_play_61 : decode c_m_play 61 = .ok (.goto 4, 3) := by decide +kernel
theorem d_m_play_64 : decode c_m_play 64 = .ok (.iconst 0, 1) := by decide +kernel
theorem d_m_play_65 : decode c_m_play 65 = .ok (.istore_n 2, 1) := by decide +kernel
theorem d_m_play_66 : decode c_m_play 66 = .ok (.aload_n 0, 1) := by decide +kernel
theorem d_m_play_67 : decode c_m_play 67 = .ok (.iload_n 2, 1) := by decide +kernel
theorem d_m_play_68 : decode c_m_play 68 = .ok (.ifCond .ne 7, 3) := by decide +kernel
theorem d_m_play_71 : decode c_m_play 71 = .ok (.iconst 2, 1) := by decide +kernel
theorem d_m_play_72 : decode c_m_play 72 = .ok (.goto 20, 3) := by decide +kernel
theorem d_m_play_75 : decode c_m_play 75 = .ok (.aload_n 0, 1) := by decide +kernel
theorem d_m_play_76 : decode c_m_play 76 = .ok (.iload_n 1, 1) := by decide +kernel
theorem d_m_play_77 : decode c_m_play 77 = .ok (.aload_n 0, 1) := by decide +kernel
theorem d_m_play_78 : decode c_m_play 78 = .ok (.getfield 84, 3) := by decide +kernel
theorem d_m_play_81 : decode c_m_play 81 = .ok (.invokevirtual 157, 3) := by decide +kernel
theorem d_m_play_84 : decode c_m_play 84 = .ok (.ifCond .ne 7, 3) := by decide +kernel
theorem d_m_play_87 : decode c_m_play 87 = .ok (.iconst 3, 1) := by decide +kernel
theorem d_m_play_88 : decode c_m_play 88 = .ok (.goto 4, 3) := by decide +kernel
theorem d_m_play_91 : decode c_m_play 91 = .ok (.iconst 0, 1) := by decide +kernel
theorem d_m_play_92 : decode c_m_play 92 = .ok (.putfield 50, 3) := by decide +kernel
theorem d_m_play_95 : decode c_m_play 95 = .ok (.aload_n 0, 1) := by decide +kernel
theorem d_m_play_96 : decode c_m_play 96 = .ok (.getfield 50, 3) := by decide +kernel
theorem d_m_play_99 : decode c_m_play 99 = .ok (.ifCond .ne 23, 3) := by decide +kernel
theorem d_m_play_102 : decode c_m_play 102 = .ok (.aload_n 0, 1) := by decide +kernel
theorem d_m_play_103 : decode c_m_play 103 = .ok (.getfield 20, 3) := by decide +kernel
theorem d_m_play_106 : decode c_m_play 106 = .ok (.aload_n 0, 1) := by decide +kernel
theorem d_m_play_107 : decode c_m_play 107 = .ok (.getfield 84, 3) := by decide +kernel
theorem d_m_play_110 : decode c_m_play 110 = .ok (.iload_n 1, 1) := by decide +kernel
theorem d_m_play_111 : decode c_m_play 111 = .ok (.iastore, 1) := by decide +kernel
theorem d_m_play_112 : decode c_m_play 112 = .ok (.aload_n 0, 1) := by decide +kernel
theorem d_m_play_113 : decode c_m_play 113 = .ok (.aload_n 0, 1) := by decide +kernel
theorem d_m_play_114 : decode c_m_play 114 = .ok (.getfield 84, 3) := by decide +kernel
theorem d_m_play_117 : decode c_m_play 117 = .ok (.iconst 1, 1) := by decide +kernel
theorem d_m_play_118 : decode c_m_play 118 = .ok (.iadd, 1) := by decide +kernel
theorem d_m_play_119 : decode c_m_play 119 = .ok (.putfield 84, 3) := by decide +kernel
theorem d_m_play_122 : decode c_m_play 122 = .ok (.return_, 1) := by decide +kernel
abbrev c_m_back : ByteArray := prog_9_method_30_code
def y_m_back : MethodName := ⟨"ShortBridgeModel", "back", "()Z"⟩
theorem d_m_back_0 : decode c_m_back 0 = .ok (.aload_n 0, 1) := by decide +kernel
theorem d_m_back_1 : decode c_m_back 1 = .ok (.iconst 0, 1) := by decide +kernel
theorem d_m_back_2 : decode c_m_back 2 = .ok (.putfield 50, 3) := by decide +kernel
theorem d_m_back_5 : decode c_m_back 5 = .ok (.aload_n 0, 1) := by decide +kernel
theorem d_m_back_6 : decode c_m_back 6 = .ok (.invokevirtual 132, 3) := by decide +kernel
theorem d_m_back_9 : decode c_m_back 9 = .ok (.istore_n 1, 1) := by decide +kernel
theorem d_m_back_10 : decode c_m_back 10 = .ok (.iload_n 1, 1) := by decide +kernel
theorem d_m_back_11 : decode c_m_back 11 = .ok (.ifCond .eq 27, 3) := by decide +kernel
theorem d_m_back_14 : decode c_m_back 14 = .ok (.iload_n 1, 1) := by decide +kernel
theorem d_m_back_15 : decode c_m_back 15 = .ok (.iconst 1, 1) := by decide +kernel
theorem d_m_back_16 : decode c_m_back 16 = .ok (.if_icmp .ne 10, 3) := by decide +kernel
theorem d_m_back_19 : decode c_m_back 19 = .ok (.aload_n 0, 1) := by decide +kernel
theorem d_m_back_20 : decode c_m_back 20 = .ok (.getfield 81, 3) := by decide +kernel
theorem d_m_back_23 : decode c_m_back 23 = .ok (.ifCond .eq 15, 3) := by decide +kernel
theorem d_m_back_26 : decode c_m_back 26 = .ok (.iload_n 1, 1) := by decide +kernel
theorem d_m_back_27 : decode c_m_back 27 = .ok (.iconst 2, 1) := by decide +kernel
theorem d_m_back_28 : decode c_m_back 28 = .ok (.if_icmp .ne 12, 3) := by decide +kernel
theorem d_m_back_31 : decode c_m_back 31 = .ok (.aload_n 0, 1) := by decide +kernel
theorem d_m_back_32 : decode c_m_back 32 = .ok (.getfield 84, 3) := by decide +kernel
theorem d_m_back_35 : decode c_m_back 35 = .ok (.ifCond .ne 5, 3) := by decide +kernel
theorem d_m_back_38 : decode c_m_back 38 = .ok (.iconst 0, 1) := by decide +kernel
theorem d_m_back_39 : decode c_m_back 39 = .ok (.ireturn, 1) := by decide +kernel
theorem d_m_back_40 : decode c_m_back 40 = .ok (.aload_n 0, 1) := by decide +kernel
theorem d_m_back_41 : decode c_m_back 41 = .ok (.getfield 84, 3) := by decide +kernel
theorem d_m_back_44 : decode c_m_back 44 = .ok (.ifCond .le 7, 3) := by decide +kernel
theorem d_m_back_47 : decode c_m_back 47 = .ok (.iconst 1, 1) := by decide +kernel
theorem d_m_back_48 : decode c_m_back 48 = .ok (.goto 4, 3) := by decide +kernel
theorem d_m_back_51 : decode c_m_back 51 = .ok (.iconst 0, 1) := by decide +kernel
theorem d_m_back_52 : decode c_m_back 52 = .ok (.istore_n 2, 1) := by decide +kernel
theorem d_m_back_53 : decode c_m_back 53 = .ok (.aload_n 0, 1) := by decide +kernel
theorem d_m_back_54 : decode c_m_back 54 = .ok (.iload_n 2, 1) := by decide +kernel
theorem d_m_back_55 : decode c_m_back 55 = .ok (.ifCond .eq 12, 3) := by decide +kernel
theorem d_m_back_58 : decode c_m_back 58 = .ok (.aload_n 0, 1) := by decide +kernel
theorem d_m_back_59 : decode c_m_back 59 = .ok (.getfield 84, 3) := by decide +kernel
theorem d_m_back_62 : decode c_m_back 62 = .ok (.iconst 1, 1) := by decide +kernel
theorem d_m_back_63 : decode c_m_back 63 = .ok (.isub, 1) := by decide +kernel
theorem d_m_back_64 : decode c_m_back 64 = .ok (.goto 7, 3) := by decide +kernel
theorem d_m_back_67 : decode c_m_back 67 = .ok (.aload_n 0, 1) := by decide +kernel
theorem d_m_back_68 : decode c_m_back 68 = .ok (.getfield 84, 3) := by decide +kernel
theorem d_m_back_71 : decode c_m_back 71 = .ok (.putfield 84, 3) := by decide +kernel
theorem d_m_back_74 : decode c_m_back 74 = .ok (.aload_n 0, 1) := by decide +kernel
theorem d_m_back_75 : decode c_m_back 75 = .ok (.iload_n 2, 1) := by decide +kernel
theorem d_m_back_76 : decode c_m_back 76 = .ok (.ifCond .eq 10, 3) := by decide +kernel
theorem d_m_back_79 : decode c_m_back 79 = .ok (.aload_n 0, 1) := by decide +kernel
theorem d_m_back_80 : decode c_m_back 80 = .ok (.getfield 81, 3) := by decide +kernel
theorem d_m_back_83 : decode c_m_back 83 = .ok (.goto 9, 3) := by decide +kernel
theorem d_m_back_86 : decode c_m_back 86 = .ok (.aload_n 0, 1) := by decide +kernel
theorem d_m_back_87 : decode c_m_back 87 = .ok (.getfield 81, 3) := by decide +kernel
theorem d_m_back_90 : decode c_m_back 90 = .ok (.iconst 1, 1) := by decide +kernel
theorem d_m_back_91 : decode c_m_back 91 = .ok (.isub, 1) := by decide +kernel
theorem d_m_back_92 : decode c_m_back 92 = .ok (.putfield 81, 3) := by decide +kernel
theorem d_m_back_95 : decode c_m_back 95 = .ok (.iconst 1, 1) := by decide +kernel
theorem d_m_back_96 : decode c_m_back 96 = .ok (.ireturn, 1) := by decide +kernel
abbrev c_m_tricks : ByteArray := prog_9_method_31_code
def y_m_tricks : MethodName := ⟨"ShortBridgeModel", "tricks", "(I)I"⟩
theorem d_m_tricks_0 : decode c_m_tricks 0 = .ok (.aload_n 0, 1) := by decide +kernel
theorem d_m_tricks_1 : decode c_m_tricks 1 = .ok (.iconst 0, 1) := by decide +kernel
theorem d_m_tricks_2 : decode c_m_tricks 2 = .ok (.putfield 50, 3) := by decide +kernel
theorem d_m_tricks_5 : decode c_m_tricks 5 = .ok (.iload_n 1, 1) := by decide +kernel
theorem d_m_tricks_6 : decode c_m_tricks 6 = .ok (.ifCond .lt 8, 3) := by decide +kernel
theorem d_m_tricks_9 : decode c_m_tricks 9 = .ok (.iload_n 1, 1) := by decide +kernel
theorem d_m_tricks_10 : decode c_m_tricks 10 = .ok (.iconst 1, 1) := by decide +kernel
theorem d_m_tricks_11 : decode c_m_tricks 11 = .ok (.if_icmp .le 5, 3) := by decide +kernel
theorem d_m_tricks_14 : decode c_m_tricks 14 = .ok (.iconst (-1), 1) := by decide +kernel
theorem d_m_tricks_15 : decode c_m_tricks 15 = .ok (.ireturn, 1) := by decide +kernel
theorem d_m_tricks_16 : decode c_m_tricks 16 = .ok (.aload_n 0, 1) := by decide +kernel
theorem d_m_tricks_17 : decode c_m_tricks 17 = .ok (.invokevirtual 132, 3) := by decide +kernel
theorem d_m_tricks_20 : decode c_m_tricks 20 = .ok (.iconst 2, 1) := by decide +kernel
theorem d_m_tricks_21 : decode c_m_tricks 21 = .ok (.if_icmp .lt 10, 3) := by decide +kernel
theorem d_m_tricks_24 : decode c_m_tricks 24 = .ok (.aload_n 0, 1) := by decide +kernel
theorem d_m_tricks_25 : decode c_m_tricks 25 = .ok (.getfield 107, 3) := by decide +kernel
theorem d_m_tricks_28 : decode c_m_tricks 28 = .ok (.ifCond .ne 5, 3) := by decide +kernel
theorem d_m_tricks_31 : decode c_m_tricks 31 = .ok (.iconst 0, 1) := by decide +kernel
theorem d_m_tricks_32 : decode c_m_tricks 32 = .ok (.ireturn, 1) := by decide +kernel
theorem d_m_tricks_33 : decode c_m_tricks 33 = .ok (.aload_n 0, 1) := by decide +kernel
theorem d_m_tricks_34 : decode c_m_tricks 34 = .ok (.invokevirtual 154, 3) := by decide +kernel
theorem d_m_tricks_37 : decode c_m_tricks 37 = .ok (.aload_n 0, 1) := by decide +kernel
theorem d_m_tricks_38 : decode c_m_tricks 38 = .ok (.getfield 117, 3) := by decide +kernel
theorem d_m_tricks_41 : decode c_m_tricks 41 = .ok (.iconst 1, 1) := by decide +kernel
theorem d_m_tricks_42 : decode c_m_tricks 42 = .ok (.iand, 1) := by decide +kernel
theorem d_m_tricks_43 : decode c_m_tricks 43 = .ok (.iload_n 1, 1) := by decide +kernel
theorem d_m_tricks_44 : decode c_m_tricks 44 = .ok (.if_icmp .ne 15, 3) := by decide +kernel
theorem d_m_tricks_47 : decode c_m_tricks 47 = .ok (.aload_n 0, 1) := by decide +kernel
theorem d_m_tricks_48 : decode c_m_tricks 48 = .ok (.getfield 26, 3) := by decide +kernel
theorem d_m_tricks_51 : decode c_m_tricks 51 = .ok (.aload_n 0, 1) := by decide +kernel
theorem d_m_tricks_52 : decode c_m_tricks 52 = .ok (.getfield 84, 3) := by decide +kernel
theorem d_m_tricks_55 : decode c_m_tricks 55 = .ok (.iaload, 1) := by decide +kernel
theorem d_m_tricks_56 : decode c_m_tricks 56 = .ok (.goto 19, 3) := by decide +kernel
theorem d_m_tricks_59 : decode c_m_tricks 59 = .ok (.aload_n 0, 1) := by decide +kernel
theorem d_m_tricks_60 : decode c_m_tricks 60 = .ok (.getfield 84, 3) := by decide +kernel
theorem d_m_tricks_63 : decode c_m_tricks 63 = .ok (.iconst 4, 1) := by decide +kernel
theorem d_m_tricks_64 : decode c_m_tricks 64 = .ok (.idiv, 1) := by decide +kernel
theorem d_m_tricks_65 : decode c_m_tricks 65 = .ok (.aload_n 0, 1) := by decide +kernel
theorem d_m_tricks_66 : decode c_m_tricks 66 = .ok (.getfield 26, 3) := by decide +kernel
theorem d_m_tricks_69 : decode c_m_tricks 69 = .ok (.aload_n 0, 1) := by decide +kernel
theorem d_m_tricks_70 : decode c_m_tricks 70 = .ok (.getfield 84, 3) := by decide +kernel
theorem d_m_tricks_73 : decode c_m_tricks 73 = .ok (.iaload, 1) := by decide +kernel
theorem d_m_tricks_74 : decode c_m_tricks 74 = .ok (.isub, 1) := by decide +kernel
theorem d_m_tricks_75 : decode c_m_tricks 75 = .ok (.ireturn, 1) := by decide +kernel
abbrev c_m_table : ByteArray := prog_9_method_32_code
def y_m_table : MethodName := ⟨"ShortBridgeModel", "table", "(I)I"⟩
theorem d_m_table_0 : decode c_m_table 0 = .ok (.aload_n 0, 1) := by decide +kernel
theorem d_m_table_1 : decode c_m_table 1 = .ok (.iconst 0, 1) := by decide +kernel
theorem d_m_table_2 : decode c_m_table 2 = .ok (.putfield 50, 3) := by decide +kernel
theorem d_m_table_5 : decode c_m_table 5 = .ok (.aload_n 0, 1) := by decide +kernel
theorem d_m_table_6 : decode c_m_table 6 = .ok (.getfield 63, 3) := by decide +kernel
theorem d_m_table_9 : decode c_m_table 9 = .ok (.ifCond .eq 38, 3) := by decide +kernel
theorem d_m_table_12 : decode c_m_table 12 = .ok (.iload_n 1, 1) := by decide +kernel
theorem d_m_table_13 : decode c_m_table 13 = .ok (.ifCond .lt 34, 3) := by decide +kernel
theorem d_m_table_16 : decode c_m_table 16 = .ok (.iload_n 1, 1) := by decide +kernel
theorem d_m_table_17 : decode c_m_table 17 = .ok (.aload_n 0, 1) := by decide +kernel
theorem d_m_table_18 : decode c_m_table 18 = .ok (.getfield 84, 3) := by decide +kernel
theorem d_m_table_21 : decode c_m_table 21 = .ok (.iconst 4, 1) := by decide +kernel
theorem d_m_table_22 : decode c_m_table 22 = .ok (.irem, 1) := by decide +kernel
theorem d_m_table_23 : decode c_m_table 23 = .ok (.if_icmp .ge 24, 3) := by decide +kernel
theorem d_m_table_26 : decode c_m_table 26 = .ok (.aload_n 0, 1) := by decide +kernel
theorem d_m_table_27 : decode c_m_table 27 = .ok (.getfield 20, 3) := by decide +kernel
theorem d_m_table_30 : decode c_m_table 30 = .ok (.aload_n 0, 1) := by decide +kernel
theorem d_m_table_31 : decode c_m_table 31 = .ok (.getfield 84, 3) := by decide +kernel
theorem d_m_table_34 : decode c_m_table 34 = .ok (.aload_n 0, 1) := by decide +kernel
theorem d_m_table_35 : decode c_m_table 35 = .ok (.getfield 84, 3) := by decide +kernel
theorem d_m_table_38 : decode c_m_table 38 = .ok (.iconst 4, 1) := by decide +kernel
theorem d_m_table_39 : decode c_m_table 39 = .ok (.irem, 1) := by decide +kernel
theorem d_m_table_40 : decode c_m_table 40 = .ok (.isub, 1) := by decide +kernel
theorem d_m_table_41 : decode c_m_table 41 = .ok (.iload_n 1, 1) := by decide +kernel
theorem d_m_table_42 : decode c_m_table 42 = .ok (.iadd, 1) := by decide +kernel
theorem d_m_table_43 : decode c_m_table 43 = .ok (.iaload, 1) := by decide +kernel
theorem d_m_table_44 : decode c_m_table 44 = .ok (.goto 4, 3) := by decide +kernel
theorem d_m_table_47 : decode c_m_table 47 = .ok (.iconst (-1), 1) := by decide +kernel
theorem d_m_table_48 : decode c_m_table 48 = .ok (.ireturn, 1) := by decide +kernel
abbrev c_m_lostBy : ByteArray := prog_9_method_33_code
def y_m_lostBy : MethodName := ⟨"ShortBridgeModel", "lostBy", "(IIZ)I"⟩
theorem d_m_lostBy_0 : decode c_m_lostBy 0 = .ok (.iload_n 1, 1) := by decide +kernel
theorem d_m_lostBy_1 : decode c_m_lostBy 1 = .ok (.ifCond .ne 19, 3) := by decide +kernel
theorem d_m_lostBy_4 : decode c_m_lostBy 4 = .ok (.iload_n 2, 1) := by decide +kernel
theorem d_m_lostBy_5 : decode c_m_lostBy 5 = .ok (.ifCond .eq 10, 3) := by decide +kernel
theorem d_m_lostBy_8 : decode c_m_lostBy 8 = .ok (.bipush 100, 2) := by decide +kernel
theorem d_m_lostBy_10 : decode c_m_lostBy 10 = .ok (.iload_n 0, 1) := by decide +kernel
theorem d_m_lostBy_11 : decode c_m_lostBy 11 = .ok (.imul, 1) := by decide +kernel
theorem d_m_lostBy_12 : decode c_m_lostBy 12 = .ok (.goto 7, 3) := by decide +kernel
theorem d_m_lostBy_15 : decode c_m_lostBy 15 = .ok (.bipush 50, 2) := by decide +kernel
theorem d_m_lostBy_17 : decode c_m_lostBy 17 = .ok (.iload_n 0, 1) := by decide +kernel
theorem d_m_lostBy_18 : decode c_m_lostBy 18 = .ok (.imul, 1) := by decide +kernel
theorem d_m_lostBy_19 : decode c_m_lostBy 19 = .ok (.ireturn, 1) := by decide +kernel
theorem d_m_lostBy_20 : decode c_m_lostBy 20 = .ok (.iconst 0, 1) := by decide +kernel
theorem d_m_lostBy_21 : decode c_m_lostBy 21 = .ok (.istore_n 3, 1) := by decide +kernel
theorem d_m_lostBy_22 : decode c_m_lostBy 22 = .ok (.iconst 1, 1) := by decide +kernel
theorem d_m_lostBy_23 : decode c_m_lostBy 23 = .ok (.istore 4, 2) := by decide +kernel
theorem d_m_lostBy_25 : decode c_m_lostBy 25 = .ok (.iload 4, 2) := by decide +kernel
theorem d_m_lostBy_27 : decode c_m_lostBy 27 = .ok (.iload_n 0, 1) := by decide +kernel
theorem d_m_lostBy_28 : decode c_m_lostBy 28 = .ok (.if_icmp .gt 60, 3) := by decide +kernel
theorem d_m_lostBy_31 : decode c_m_lostBy 31 = .ok (.iload_n 3, 1) := by decide +kernel
theorem d_m_lostBy_32 : decode c_m_lostBy 32 = .ok (.iload_n 2, 1) := by decide +kernel
theorem d_m_lostBy_33 : decode c_m_lostBy 33 = .ok (.ifCond .eq 21, 3) := by decide +kernel
theorem d_m_lostBy_36 : decode c_m_lostBy 36 = .ok (.iload 4, 2) := by decide +kernel
theorem d_m_lostBy_38 : decode c_m_lostBy 38 = .ok (.iconst 1, 1) := by decide +kernel
theorem d_m_lostBy_39 : decode c_m_lostBy 39 = .ok (.if_icmp .ne 9, 3) := by decide +kernel
theorem d_m_lostBy_42 : decode c_m_lostBy 42 = .ok (.sipush 200, 3) := by decide +kernel
theorem d_m_lostBy_45 : decode c_m_lostBy 45 = .ok (.goto 35, 3) := by decide +kernel
theorem d_m_lostBy_48 : decode c_m_lostBy 48 = .ok (.sipush 300, 3) := by decide +kernel
theorem d_m_lostBy_51 : decode c_m_lostBy 51 = .ok (.goto 29, 3) := by decide +kernel
theorem d_m_lostBy_54 : decode c_m_lostBy 54 = .ok (.iload 4, 2) := by decide +kernel
theorem d_m_lostBy_56 : decode c_m_lostBy 56 = .ok (.iconst 1, 1) := by decide +kernel
theorem d_m_lostBy_57 : decode c_m_lostBy 57 = .ok (.if_icmp .ne 8, 3) := by decide +kernel
theorem d_m_lostBy_60 : decode c_m_lostBy 60 = .ok (.bipush 100, 2) := by decide +kernel
theorem d_m_lostBy_62 : decode c_m_lostBy 62 = .ok (.goto 18, 3) := by decide +kernel
theorem d_m_lostBy_65 : decode c_m_lostBy 65 = .ok (.iload 4, 2) := by decide +kernel
theorem d_m_lostBy_67 : decode c_m_lostBy 67 = .ok (.iconst 4, 1) := by decide +kernel
theorem d_m_lostBy_68 : decode c_m_lostBy 68 = .ok (.if_icmp .ge 9, 3) := by decide +kernel
theorem d_m_lostBy_71 : decode c_m_lostBy 71 = .ok (.sipush 200, 3) := by decide +kernel
theorem d_m_lostBy_74 : decode c_m_lostBy 74 = .ok (.goto 6, 3) := by decide +kernel
theorem d_m_lostBy_77 : decode c_m_lostBy 77 = .ok (.sipush 300, 3) := by decide +kernel
theorem d_m_lostBy_80 : decode c_m_lostBy 80 = .ok (.iadd, 1) := by decide +kernel
theorem d_m_lostBy_81 : decode c_m_lostBy 81 = .ok (.istore_n 3, 1) := by decide +kernel
theorem d_m_lostBy_82 : decode c_m_lostBy 82 = .ok (.iinc 4 1, 3) := by decide +kernel
theorem d_m_lostBy_85 : decode c_m_lostBy 85 = .ok (.goto (-60), 3) := by decide +kernel
theorem d_m_lostBy_88 : decode c_m_lostBy 88 = .ok (.iload_n 1, 1) := by decide +kernel
theorem d_m_lostBy_89 : decode c_m_lostBy 89 = .ok (.iload_n 3, 1) := by decide +kernel
theorem d_m_lostBy_90 : decode c_m_lostBy 90 = .ok (.imul, 1) := by decide +kernel
theorem d_m_lostBy_91 : decode c_m_lostBy 91 = .ok (.ireturn, 1) := by decide +kernel
abbrev c_m_scoreNow : ByteArray := prog_9_method_34_code
def y_m_scoreNow : MethodName := ⟨"ShortBridgeModel", "scoreNow", "()I"⟩
theorem d_m_scoreNow_0 : decode c_m_scoreNow 0 = .ok (.aload_n 0, 1) := by decide +kernel
theorem d_m_scoreNow_1 : decode c_m_scoreNow 1 = .ok (.getfield 107, 3) := by decide +kernel
theorem d_m_scoreNow_4 : decode c_m_scoreNow 4 = .ok (.ifCond .ne 5, 3) := by decide +kernel
theorem d_m_scoreNow_7 : decode c_m_scoreNow 7 = .ok (.iconst 0, 1) := by decide +kernel
theorem d_m_scoreNow_8 : decode c_m_scoreNow 8 = .ok (.ireturn, 1) := by decide +kernel
theorem d_m_scoreNow_9 : decode c_m_scoreNow 9 = .ok (.aload_n 0, 1) := by decide +kernel
theorem d_m_scoreNow_10 : decode c_m_scoreNow 10 = .ok (.invokevirtual 154, 3) := by decide +kernel
theorem d_m_scoreNow_13 : decode c_m_scoreNow 13 = .ok (.iconst 1, 1) := by decide +kernel
theorem d_m_scoreNow_14 : decode c_m_scoreNow 14 = .ok (.aload_n 0, 1) := by decide +kernel
theorem d_m_scoreNow_15 : decode c_m_scoreNow 15 = .ok (.getfield 107, 3) := by decide +kernel
theorem d_m_scoreNow_18 : decode c_m_scoreNow 18 = .ok (.iconst 3, 1) := by decide +kernel
theorem d_m_scoreNow_19 : decode c_m_scoreNow 19 = .ok (.isub, 1) := by decide +kernel
theorem d_m_scoreNow_20 : decode c_m_scoreNow 20 = .ok (.iconst 5, 1) := by decide +kernel
theorem d_m_scoreNow_21 : decode c_m_scoreNow 21 = .ok (.idiv, 1) := by decide +kernel
theorem d_m_scoreNow_22 : decode c_m_scoreNow 22 = .ok (.iadd, 1) := by decide +kernel
theorem d_m_scoreNow_23 : decode c_m_scoreNow 23 = .ok (.istore_n 1, 1) := by decide +kernel
theorem d_m_scoreNow_24 : decode c_m_scoreNow 24 = .ok (.aload_n 0, 1) := by decide +kernel
theorem d_m_scoreNow_25 : decode c_m_scoreNow 25 = .ok (.invokevirtual 139, 3) := by decide +kernel
theorem d_m_scoreNow_28 : decode c_m_scoreNow 28 = .ok (.istore_n 2, 1) := by decide +kernel
theorem d_m_scoreNow_29 : decode c_m_scoreNow 29 = .ok (.aload_n 0, 1) := by decide +kernel
theorem d_m_scoreNow_30 : decode c_m_scoreNow 30 = .ok (.getfield 26, 3) := by decide +kernel
theorem d_m_scoreNow_33 : decode c_m_scoreNow 33 = .ok (.aload_n 0, 1) := by decide +kernel
theorem d_m_scoreNow_34 : decode c_m_scoreNow 34 = .ok (.getfield 84, 3) := by decide +kernel
theorem d_m_scoreNow_37 : decode c_m_scoreNow 37 = .ok (.iaload, 1) := by decide +kernel
theorem d_m_scoreNow_38 : decode c_m_scoreNow 38 = .ok (.istore_n 3, 1) := by decide +kernel
theorem d_m_scoreNow_39 : decode c_m_scoreNow 39 = .ok (.iload_n 1, 1) := by decide +kernel
theorem d_m_scoreNow_40 : decode c_m_scoreNow 40 = .ok (.iconst 2, 1) := by decide +kernel
theorem d_m_scoreNow_41 : decode c_m_scoreNow 41 = .ok (.iadd, 1) := by decide +kernel
theorem d_m_scoreNow_42 : decode c_m_scoreNow 42 = .ok (.istore 4, 2) := by decide +kernel
theorem d_m_scoreNow_44 : decode c_m_scoreNow 44 = .ok (.aload_n 0, 1) := by decide +kernel
theorem d_m_scoreNow_45 : decode c_m_scoreNow 45 = .ok (.getfield 78, 3) := by decide +kernel
theorem d_m_scoreNow_48 : decode c_m_scoreNow 48 = .ok (.aload_n 0, 1) := by decide +kernel
theorem d_m_scoreNow_49 : decode c_m_scoreNow 49 = .ok (.getfield 117, 3) := by decide +kernel
theorem d_m_scoreNow_52 : decode c_m_scoreNow 52 = .ok (.iconst 1, 1) := by decide +kernel
theorem d_m_scoreNow_53 : decode c_m_scoreNow 53 = .ok (.iand, 1) := by decide +kernel
theorem d_m_scoreNow_54 : decode c_m_scoreNow 54 = .ok (.ishr, 1) := by decide +kernel
theorem d_m_scoreNow_55 : decode c_m_scoreNow 55 = .ok (.iconst 1, 1) := by decide +kernel
theorem d_m_scoreNow_56 : decode c_m_scoreNow 56 = .ok (.iand, 1) := by decide +kernel
theorem d_m_scoreNow_57 : decode c_m_scoreNow 57 = .ok (.iconst 1, 1) := by decide +kernel
theorem d_m_scoreNow_58 : decode c_m_scoreNow 58 = .ok (.if_icmp .ne 7, 3) := by decide +kernel
theorem d_m_scoreNow_61 : decode c_m_scoreNow 61 = .ok (.iconst 1, 1) := by decide +kernel
theorem d_m_scoreNow_62 : decode c_m_scoreNow 62 = .ok (.goto 4, 3) := by decide +kernel
theorem d_m_scoreNow_65 : decode c_m_scoreNow 65 = .ok (.iconst 0, 1) := by decide +kernel
theorem d_m_scoreNow_66 : decode c_m_scoreNow 66 = .ok (.istore 5, 2) := by decide +kernel
theorem d_m_scoreNow_68 : decode c_m_scoreNow 68 = .ok (.iload_n 2, 1) := by decide +kernel
theorem d_m_scoreNow_69 : decode c_m_scoreNow 69 = .ok (.iconst 2, 1) := by decide +kernel
theorem d_m_scoreNow_70 : decode c_m_scoreNow 70 = .ok (.if_icmp .ge 8, 3) := by decide +kernel
theorem d_m_scoreNow_73 : decode c_m_scoreNow 73 = .ok (.bipush 20, 2) := by decide +kernel
theorem d_m_scoreNow_75 : decode c_m_scoreNow 75 = .ok (.goto 5, 3) := by decide +kernel
theorem d_m_scoreNow_78 : decode c_m_scoreNow 78 = .ok (.bipush 30, 2) := by decide +kernel
theorem d_m_scoreNow_80 : decode c_m_scoreNow 80 = .ok (.istore 6, 2) := by decide +kernel
theorem d_m_scoreNow_82 : decode c_m_scoreNow 82 = .ok (.iload 4, 2) := by decide +kernel
theorem d_m_scoreNow_84 : decode c_m_scoreNow 84 = .ok (.iload_n 3, 1) := by decide +kernel
theorem d_m_scoreNow_85 : decode c_m_scoreNow 85 = .ok (.isub, 1) := by decide +kernel
theorem d_m_scoreNow_86 : decode c_m_scoreNow 86 = .ok (.aload_n 0, 1) := by decide +kernel
theorem d_m_scoreNow_87 : decode c_m_scoreNow 87 = .ok (.getfield 110, 3) := by decide +kernel
theorem d_m_scoreNow_90 : decode c_m_scoreNow 90 = .ok (.iload 5, 2) := by decide +kernel
theorem d_m_scoreNow_92 : decode c_m_scoreNow 92 = .ok (.invokestatic 161, 3) := by decide +kernel
theorem d_m_scoreNow_95 : decode c_m_scoreNow 95 = .ok (.ineg, 1) := by decide +kernel
theorem d_m_scoreNow_96 : decode c_m_scoreNow 96 = .ok (.istore 7, 2) := by decide +kernel
theorem d_m_scoreNow_98 : decode c_m_scoreNow 98 = .ok (.iload_n 3, 1) := by decide +kernel
theorem d_m_scoreNow_99 : decode c_m_scoreNow 99 = .ok (.iload 4, 2) := by decide +kernel
theorem d_m_scoreNow_101 : decode c_m_scoreNow 101 = .ok (.if_icmp .lt 129, 3) := by decide +kernel
theorem d_m_scoreNow_104 : decode c_m_scoreNow 104 = .ok (.iload_n 1, 1) := by decide +kernel
theorem d_m_scoreNow_105 : decode c_m_scoreNow 105 = .ok (.iload 6, 2) := by decide +kernel
theorem d_m_scoreNow_107 : decode c_m_scoreNow 107 = .ok (.imul, 1) := by decide +kernel
theorem d_m_scoreNow_108 : decode c_m_scoreNow 108 = .ok (.iload_n 2, 1) := by decide +kernel
theorem d_m_scoreNow_109 : decode c_m_scoreNow 109 = .ok (.iconst 4, 1) := by decide +kernel
theorem d_m_scoreNow_110 : decode c_m_scoreNow 110 = .ok (.if_icmp .ne 8, 3) := by decide +kernel
theorem d_m_scoreNow_113 : decode c_m_scoreNow 113 = .ok (.bipush 10, 2) := by decide +kernel
theorem d_m_scoreNow_115 : decode c_m_scoreNow 115 = .ok (.goto 4, 3) := by decide +kernel
theorem d_m_scoreNow_118 : decode c_m_scoreNow 118 = .ok (.iconst 0, 1) := by decide +kernel
theorem d_m_scoreNow_119 : decode c_m_scoreNow 119 = .ok (.iadd, 1) := by decide +kernel
theorem d_m_scoreNow_120 : decode c_m_scoreNow 120 = .ok (.aload_n 0, 1) := by decide +kernel
theorem d_m_scoreNow_121 : decode c_m_scoreNow 121 = .ok (.getfield 110, 3) := by decide +kernel
theorem d_m_scoreNow_124 : decode c_m_scoreNow 124 = .ok (.ishl, 1) := by decide +kernel
theorem d_m_scoreNow_125 : decode c_m_scoreNow 125 = .ok (.istore 8, 2) := by decide +kernel
theorem d_m_scoreNow_127 : decode c_m_scoreNow 127 = .ok (.aload_n 0, 1) := by decide +kernel
theorem d_m_scoreNow_128 : decode c_m_scoreNow 128 = .ok (.getfield 110, 3) := by decide +kernel
theorem d_m_scoreNow_131 : decode c_m_scoreNow 131 = .ok (.ifCond .ne 8, 3) := by decide +kernel
theorem d_m_scoreNow_134 : decode c_m_scoreNow 134 = .ok (.iload 6, 2) := by decide +kernel
theorem d_m_scoreNow_136 : decode c_m_scoreNow 136 = .ok (.goto 21, 3) := by decide +kernel
theorem d_m_scoreNow_139 : decode c_m_scoreNow 139 = .ok (.iload 5, 2) := by decide +kernel
theorem d_m_scoreNow_141 : decode c_m_scoreNow 141 = .ok (.ifCond .eq 9, 3) := by decide +kernel
theorem d_m_scoreNow_144 : decode c_m_scoreNow 144 = .ok (.sipush 200, 3) := by decide +kernel
theorem d_m_scoreNow_147 : decode c_m_scoreNow 147 = .ok (.goto 5, 3) := by decide +kernel
theorem d_m_scoreNow_150 : decode c_m_scoreNow 150 = .ok (.bipush 100, 2) := by decide +kernel
theorem d_m_scoreNow_152 : decode c_m_scoreNow 152 = .ok (.aload_n 0, 1) := by decide +kernel
theorem d_m_scoreNow_153 : decode c_m_scoreNow 153 = .ok (.getfield 110, 3) := by decide +kernel
theorem d_m_scoreNow_156 : decode c_m_scoreNow 156 = .ok (.imul, 1) := by decide +kernel
theorem d_m_scoreNow_157 : decode c_m_scoreNow 157 = .ok (.istore 9, 2) := by decide +kernel
theorem d_m_scoreNow_159 : decode c_m_scoreNow 159 = .ok (.iload 8, 2) := by decide +kernel
theorem d_m_scoreNow_161 : decode c_m_scoreNow 161 = .ok (.iload 8, 2) := by decide +kernel
theorem d_m_scoreNow_163 : decode c_m_scoreNow 163 = .ok (.bipush 100, 2) := by decide +kernel
theorem d_m_scoreNow_165 : decode c_m_scoreNow 165 = .ok (.if_icmp .ge 8, 3) := by decide +kernel
theorem d_m_scoreNow_168 : decode c_m_scoreNow 168 = .ok (.bipush 50, 2) := by decide +kernel
theorem d_m_scoreNow_170 : decode c_m_scoreNow 170 = .ok (.goto 17, 3) := by decide +kernel
theorem d_m_scoreNow_173 : decode c_m_scoreNow 173 = .ok (.iload 5, 2) := by decide +kernel
theorem d_m_scoreNow_175 : decode c_m_scoreNow 175 = .ok (.ifCond .eq 9, 3) := by decide +kernel
theorem d_m_scoreNow_178 : decode c_m_scoreNow 178 = .ok (.sipush 500, 3) := by decide +kernel
theorem d_m_scoreNow_181 : decode c_m_scoreNow 181 = .ok (.goto 6, 3) := by decide +kernel
theorem d_m_scoreNow_184 : decode c_m_scoreNow 184 = .ok (.sipush 300, 3) := by decide +kernel
theorem d_m_scoreNow_187 : decode c_m_scoreNow 187 = .ok (.iadd, 1) := by decide +kernel
theorem d_m_scoreNow_188 : decode c_m_scoreNow 188 = .ok (.iload_n 1, 1) := by decide +kernel
theorem d_m_scoreNow_189 : decode c_m_scoreNow 189 = .ok (.iconst 3, 1) := by decide +kernel
theorem d_m_scoreNow_190 : decode c_m_scoreNow 190 = .ok (.if_icmp .ge 7, 3) := by decide +kernel
theorem d_m_scoreNow_193 : decode c_m_scoreNow 193 = .ok (.iconst 0, 1) := by decide +kernel
theorem d_m_scoreNow_194 : decode c_m_scoreNow 194 = .ok (.goto 17, 3) := by decide +kernel
theorem d_m_scoreNow_197 : decode c_m_scoreNow 197 = .ok (.iload 5, 2) := by decide +kernel
theorem d_m_scoreNow_199 : decode c_m_scoreNow 199 = .ok (.ifCond .eq 9, 3) := by decide +kernel
theorem d_m_scoreNow_202 : decode c_m_scoreNow 202 = .ok (.sipush 600, 3) := by decide +kernel
theorem d_m_scoreNow_205 : decode c_m_scoreNow 205 = .ok (.goto 6, 3) := by decide +kernel
theorem d_m_scoreNow_208 : decode c_m_scoreNow 208 = .ok (.sipush 400, 3) := by decide +kernel
theorem d_m_scoreNow_211 : decode c_m_scoreNow 211 = .ok (.iadd, 1) := by decide +kernel
theorem d_m_scoreNow_212 : decode c_m_scoreNow 212 = .ok (.bipush 50, 2) := by decide +kernel
theorem d_m_scoreNow_214 : decode c_m_scoreNow 214 = .ok (.aload_n 0, 1) := by decide +kernel
theorem d_m_scoreNow_215 : decode c_m_scoreNow 215 = .ok (.getfield 110, 3) := by decide +kernel
theorem d_m_scoreNow_218 : decode c_m_scoreNow 218 = .ok (.imul, 1) := by decide +kernel
theorem d_m_scoreNow_219 : decode c_m_scoreNow 219 = .ok (.iadd, 1) := by decide +kernel
theorem d_m_scoreNow_220 : decode c_m_scoreNow 220 = .ok (.iload 9, 2) := by decide +kernel
theorem d_m_scoreNow_222 : decode c_m_scoreNow 222 = .ok (.iload_n 3, 1) := by decide +kernel
theorem d_m_scoreNow_223 : decode c_m_scoreNow 223 = .ok (.iload 4, 2) := by decide +kernel
theorem d_m_scoreNow_225 : decode c_m_scoreNow 225 = .ok (.isub, 1) := by decide +kernel
theorem d_m_scoreNow_226 : decode c_m_scoreNow 226 = .ok (.imul, 1) := by decide +kernel
theorem d_m_scoreNow_227 : decode c_m_scoreNow 227 = .ok (.iadd, 1) := by decide +kernel
theorem d_m_scoreNow_228 : decode c_m_scoreNow 228 = .ok (.istore 7, 2) := by decide +kernel
theorem d_m_scoreNow_230 : decode c_m_scoreNow 230 = .ok (.aload_n 0, 1) := by decide +kernel
theorem d_m_scoreNow_231 : decode c_m_scoreNow 231 = .ok (.getfield 117, 3) := by decide +kernel
theorem d_m_scoreNow_234 : decode c_m_scoreNow 234 = .ok (.iconst 1, 1) := by decide +kernel
theorem d_m_scoreNow_235 : decode c_m_scoreNow 235 = .ok (.iand, 1) := by decide +kernel
theorem d_m_scoreNow_236 : decode c_m_scoreNow 236 = .ok (.ifCond .ne 8, 3) := by decide +kernel
theorem d_m_scoreNow_239 : decode c_m_scoreNow 239 = .ok (.iload 7, 2) := by decide +kernel
theorem d_m_scoreNow_241 : decode c_m_scoreNow 241 = .ok (.goto 6, 3) := by decide +kernel
theorem d_m_scoreNow_244 : decode c_m_scoreNow 244 = .ok (.iload 7, 2) := by decide +kernel
theorem d_m_scoreNow_246 : decode c_m_scoreNow 246 = .ok (.ineg, 1) := by decide +kernel
theorem d_m_scoreNow_247 : decode c_m_scoreNow 247 = .ok (.ireturn, 1) := by decide +kernel
abbrev c_m_score : ByteArray := prog_9_method_35_code
def y_m_score : MethodName := ⟨"ShortBridgeModel", "score", "()I"⟩
theorem d_m_score_0 : decode c_m_score 0 = .ok (.aload_n 0, 1) := by decide +kernel
theorem d_m_score_1 : decode c_m_score 1 = .ok (.aload_n 0, 1) := by decide +kernel
theorem d_m_score_2 : decode c_m_score 2 = .ok (.invokevirtual 132, 3) := by decide +kernel
theorem d_m_score_5 : decode c_m_score 5 = .ok (.iconst 3, 1) := by decide +kernel
theorem d_m_score_6 : decode c_m_score 6 = .ok (.if_icmp .ne 7, 3) := by decide +kernel
theorem d_m_score_9 : decode c_m_score 9 = .ok (.iconst 0, 1) := by decide +kernel
theorem d_m_score_10 : decode c_m_score 10 = .ok (.goto 4, 3) := by decide +kernel
theorem d_m_score_13 : decode c_m_score 13 = .ok (.iconst 1, 1) := by decide +kernel
theorem d_m_score_14 : decode c_m_score 14 = .ok (.putfield 50, 3) := by decide +kernel
theorem d_m_score_17 : decode c_m_score 17 = .ok (.aload_n 0, 1) := by decide +kernel
theorem d_m_score_18 : decode c_m_score 18 = .ok (.getfield 50, 3) := by decide +kernel
theorem d_m_score_21 : decode c_m_score 21 = .ok (.ifCond .le 7, 3) := by decide +kernel
theorem d_m_score_24 : decode c_m_score 24 = .ok (.iconst 0, 1) := by decide +kernel
theorem d_m_score_25 : decode c_m_score 25 = .ok (.goto 7, 3) := by decide +kernel
theorem d_m_score_28 : decode c_m_score 28 = .ok (.aload_n 0, 1) := by decide +kernel
theorem d_m_score_29 : decode c_m_score 29 = .ok (.invokevirtual 165, 3) := by decide +kernel
theorem d_m_score_32 : decode c_m_score 32 = .ok (.ireturn, 1) := by decide +kernel
abbrev c_m_enter : ByteArray := prog_9_method_36_code
def y_m_enter : MethodName := ⟨"ShortBridgeModel", "enter", "(III)V"⟩
theorem d_m_enter_0 : decode c_m_enter 0 = .ok (.aload_n 0, 1) := by decide +kernel
theorem d_m_enter_1 : decode c_m_enter 1 = .ok (.getfield 32, 3) := by decide +kernel
theorem d_m_enter_4 : decode c_m_enter 4 = .ok (.iload_n 1, 1) := by decide +kernel
theorem d_m_enter_5 : decode c_m_enter 5 = .ok (.iconst 0, 1) := by decide +kernel
theorem d_m_enter_6 : decode c_m_enter 6 = .ok (.iastore, 1) := by decide +kernel
theorem d_m_enter_7 : decode c_m_enter 7 = .ok (.aload_n 0, 1) := by decide +kernel
theorem d_m_enter_8 : decode c_m_enter 8 = .ok (.getfield 38, 3) := by decide +kernel
theorem d_m_enter_11 : decode c_m_enter 11 = .ok (.iload_n 1, 1) := by decide +kernel
theorem d_m_enter_12 : decode c_m_enter 12 = .ok (.iload_n 2, 1) := by decide +kernel
theorem d_m_enter_13 : decode c_m_enter 13 = .ok (.iastore, 1) := by decide +kernel
theorem d_m_enter_14 : decode c_m_enter 14 = .ok (.aload_n 0, 1) := by decide +kernel
theorem d_m_enter_15 : decode c_m_enter 15 = .ok (.getfield 41, 3) := by decide +kernel
theorem d_m_enter_18 : decode c_m_enter 18 = .ok (.iload_n 1, 1) := by decide +kernel
theorem d_m_enter_19 : decode c_m_enter 19 = .ok (.iload_n 3, 1) := by decide +kernel
theorem d_m_enter_20 : decode c_m_enter 20 = .ok (.iastore, 1) := by decide +kernel
theorem d_m_enter_21 : decode c_m_enter 21 = .ok (.aload_n 0, 1) := by decide +kernel
theorem d_m_enter_22 : decode c_m_enter 22 = .ok (.getfield 35, 3) := by decide +kernel
theorem d_m_enter_25 : decode c_m_enter 25 = .ok (.iload_n 1, 1) := by decide +kernel
theorem d_m_enter_26 : decode c_m_enter 26 = .ok (.aload_n 0, 1) := by decide +kernel
theorem d_m_enter_27 : decode c_m_enter 27 = .ok (.iload_n 1, 1) := by decide +kernel
theorem d_m_enter_28 : decode c_m_enter 28 = .ok (.invokevirtual 168, 3) := by decide +kernel
theorem d_m_enter_31 : decode c_m_enter 31 = .ok (.ifCond .eq 7, 3) := by decide +kernel
theorem d_m_enter_34 : decode c_m_enter 34 = .ok (.iconst (-1), 1) := by decide +kernel
theorem d_m_enter_35 : decode c_m_enter 35 = .ok (.goto 5, 3) := by decide +kernel
theorem d_m_enter_38 : decode c_m_enter 38 = .ok (.bipush 6, 2) := by decide +kernel
theorem d_m_enter_40 : decode c_m_enter 40 = .ok (.iastore, 1) := by decide +kernel
theorem d_m_enter_41 : decode c_m_enter 41 = .ok (.return_, 1) := by decide +kernel
abbrev c_m_ours : ByteArray := prog_9_method_37_code
def y_m_ours : MethodName := ⟨"ShortBridgeModel", "ours", "(I)Z"⟩
theorem d_m_ours_0 : decode c_m_ours 0 = .ok (.aload_n 0, 1) := by decide +kernel
theorem d_m_ours_1 : decode c_m_ours 1 = .ok (.getfield 23, 3) := by decide +kernel
theorem d_m_ours_4 : decode c_m_ours 4 = .ok (.iload_n 1, 1) := by decide +kernel
theorem d_m_ours_5 : decode c_m_ours 5 = .ok (.iaload, 1) := by decide +kernel
theorem d_m_ours_6 : decode c_m_ours 6 = .ok (.iconst 1, 1) := by decide +kernel
theorem d_m_ours_7 : decode c_m_ours 7 = .ok (.iand, 1) := by decide +kernel
theorem d_m_ours_8 : decode c_m_ours 8 = .ok (.aload_n 0, 1) := by decide +kernel
theorem d_m_ours_9 : decode c_m_ours 9 = .ok (.getfield 117, 3) := by decide +kernel
theorem d_m_ours_12 : decode c_m_ours 12 = .ok (.iconst 1, 1) := by decide +kernel
theorem d_m_ours_13 : decode c_m_ours 13 = .ok (.iand, 1) := by decide +kernel
theorem d_m_ours_14 : decode c_m_ours 14 = .ok (.if_icmp .ne 7, 3) := by decide +kernel
theorem d_m_ours_17 : decode c_m_ours 17 = .ok (.iconst 1, 1) := by decide +kernel
theorem d_m_ours_18 : decode c_m_ours 18 = .ok (.goto 4, 3) := by decide +kernel
theorem d_m_ours_21 : decode c_m_ours 21 = .ok (.iconst 0, 1) := by decide +kernel
theorem d_m_ours_22 : decode c_m_ours 22 = .ok (.ireturn, 1) := by decide +kernel
abbrev c_m_nextTry : ByteArray := prog_9_method_38_code
def y_m_nextTry : MethodName := ⟨"ShortBridgeModel", "nextTry", "(I)I"⟩
theorem d_m_nextTry_0 : decode c_m_nextTry 0 = .ok (.aload_n 0, 1) := by decide +kernel
theorem d_m_nextTry_1 : decode c_m_nextTry 1 = .ok (.getfield 32, 3) := by decide +kernel
theorem d_m_nextTry_4 : decode c_m_nextTry 4 = .ok (.iload_n 1, 1) := by decide +kernel
theorem d_m_nextTry_5 : decode c_m_nextTry 5 = .ok (.iaload, 1) := by decide +kernel
theorem d_m_nextTry_6 : decode c_m_nextTry 6 = .ok (.istore_n 2, 1) := by decide +kernel
theorem d_m_nextTry_7 : decode c_m_nextTry 7 = .ok (.iload_n 2, 1) := by decide +kernel
theorem d_m_nextTry_8 : decode c_m_nextTry 8 = .ok (.bipush 20, 2) := by decide +kernel
theorem d_m_nextTry_10 : decode c_m_nextTry 10 = .ok (.if_icmp .ge 34, 3) := by decide +kernel
theorem d_m_nextTry_13 : decode c_m_nextTry 13 = .ok (.aload_n 0, 1) := by decide +kernel
theorem d_m_nextTry_14 : decode c_m_nextTry 14 = .ok (.aload_n 0, 1) := by decide +kernel
theorem d_m_nextTry_15 : decode c_m_nextTry 15 = .ok (.getfield 23, 3) := by decide +kernel
theorem d_m_nextTry_18 : decode c_m_nextTry 18 = .ok (.iload_n 1, 1) := by decide +kernel
theorem d_m_nextTry_19 : decode c_m_nextTry 19 = .ok (.iaload, 1) := by decide +kernel
theorem d_m_nextTry_20 : decode c_m_nextTry 20 = .ok (.iload_n 2, 1) := by decide +kernel
theorem d_m_nextTry_21 : decode c_m_nextTry 21 = .ok (.iload_n 1, 1) := by decide +kernel
theorem d_m_nextTry_22 : decode c_m_nextTry 22 = .ok (.invokevirtual 150, 3) := by decide +kernel
theorem d_m_nextTry_25 : decode c_m_nextTry 25 = .ok (.ifCond .eq 12, 3) := by decide +kernel
theorem d_m_nextTry_28 : decode c_m_nextTry 28 = .ok (.aload_n 0, 1) := by decide +kernel
theorem d_m_nextTry_29 : decode c_m_nextTry 29 = .ok (.iload_n 2, 1) := by decide +kernel
theorem d_m_nextTry_30 : decode c_m_nextTry 30 = .ok (.iload_n 1, 1) := by decide +kernel
theorem d_m_nextTry_31 : decode c_m_nextTry 31 = .ok (.invokevirtual 157, 3) := by decide +kernel
theorem d_m_nextTry_34 : decode c_m_nextTry 34 = .ok (.ifCond .ne 10, 3) := by decide +kernel
theorem d_m_nextTry_37 : decode c_m_nextTry 37 = .ok (.iload_n 2, 1) := by decide +kernel
theorem d_m_nextTry_38 : decode c_m_nextTry 38 = .ok (.iconst 1, 1) := by decide +kernel
theorem d_m_nextTry_39 : decode c_m_nextTry 39 = .ok (.iadd, 1) := by decide +kernel
theorem d_m_nextTry_40 : decode c_m_nextTry 40 = .ok (.istore_n 2, 1) := by decide +kernel
theorem d_m_nextTry_41 : decode c_m_nextTry 41 = .ok (.goto (-34), 3) := by decide +kernel
theorem d_m_nextTry_44 : decode c_m_nextTry 44 = .ok (.iload_n 2, 1) := by decide +kernel
theorem d_m_nextTry_45 : decode c_m_nextTry 45 = .ok (.ireturn, 1) := by decide +kernel
abbrev c_m_take : ByteArray := prog_9_method_39_code
def y_m_take : MethodName := ⟨"ShortBridgeModel", "take", "(II)V"⟩
theorem d_m_take_0 : decode c_m_take 0 = .ok (.aload_n 0, 1) := by decide +kernel
theorem d_m_take_1 : decode c_m_take 1 = .ok (.iload_n 1, 1) := by decide +kernel
theorem d_m_take_2 : decode c_m_take 2 = .ok (.invokevirtual 168, 3) := by decide +kernel
theorem d_m_take_5 : decode c_m_take 5 = .ok (.ifCond .eq 68, 3) := by decide +kernel
theorem d_m_take_8 : decode c_m_take 8 = .ok (.aload_n 0, 1) := by decide +kernel
theorem d_m_take_9 : decode c_m_take 9 = .ok (.getfield 35, 3) := by decide +kernel
theorem d_m_take_12 : decode c_m_take 12 = .ok (.iload_n 1, 1) := by decide +kernel
theorem d_m_take_13 : decode c_m_take 13 = .ok (.iload_n 2, 1) := by decide +kernel
theorem d_m_take_14 : decode c_m_take 14 = .ok (.aload_n 0, 1) := by decide +kernel
theorem d_m_take_15 : decode c_m_take 15 = .ok (.getfield 35, 3) := by decide +kernel
theorem d_m_take_18 : decode c_m_take 18 = .ok (.iload_n 1, 1) := by decide +kernel
theorem d_m_take_19 : decode c_m_take 19 = .ok (.iaload, 1) := by decide +kernel
theorem d_m_take_20 : decode c_m_take 20 = .ok (.if_icmp .le 7, 3) := by decide +kernel
theorem d_m_take_23 : decode c_m_take 23 = .ok (.iload_n 2, 1) := by decide +kernel
theorem d_m_take_24 : decode c_m_take 24 = .ok (.goto 9, 3) := by decide +kernel
theorem d_m_take_27 : decode c_m_take 27 = .ok (.aload_n 0, 1) := by decide +kernel
theorem d_m_take_28 : decode c_m_take 28 = .ok (.getfield 35, 3) := by decide +kernel
theorem d_m_take_31 : decode c_m_take 31 = .ok (.iload_n 1, 1) := by decide +kernel
theorem d_m_take_32 : decode c_m_take 32 = .ok (.iaload, 1) := by decide +kernel
theorem d_m_take_33 : decode c_m_take 33 = .ok (.iastore, 1) := by decide +kernel
theorem d_m_take_34 : decode c_m_take 34 = .ok (.aload_n 0, 1) := by decide +kernel
theorem d_m_take_35 : decode c_m_take 35 = .ok (.getfield 38, 3) := by decide +kernel
theorem d_m_take_38 : decode c_m_take 38 = .ok (.iload_n 1, 1) := by decide +kernel
theorem d_m_take_39 : decode c_m_take 39 = .ok (.aload_n 0, 1) := by decide +kernel
theorem d_m_take_40 : decode c_m_take 40 = .ok (.getfield 35, 3) := by decide +kernel
theorem d_m_take_43 : decode c_m_take 43 = .ok (.iload_n 1, 1) := by decide +kernel
theorem d_m_take_44 : decode c_m_take 44 = .ok (.iaload, 1) := by decide +kernel
theorem d_m_take_45 : decode c_m_take 45 = .ok (.aload_n 0, 1) := by decide +kernel
theorem d_m_take_46 : decode c_m_take 46 = .ok (.getfield 38, 3) := by decide +kernel
theorem d_m_take_49 : decode c_m_take 49 = .ok (.iload_n 1, 1) := by decide +kernel
theorem d_m_take_50 : decode c_m_take 50 = .ok (.iaload, 1) := by decide +kernel
theorem d_m_take_51 : decode c_m_take 51 = .ok (.if_icmp .le 12, 3) := by decide +kernel
theorem d_m_take_54 : decode c_m_take 54 = .ok (.aload_n 0, 1) := by decide +kernel
theorem d_m_take_55 : decode c_m_take 55 = .ok (.getfield 35, 3) := by decide +kernel
theorem d_m_take_58 : decode c_m_take 58 = .ok (.iload_n 1, 1) := by decide +kernel
theorem d_m_take_59 : decode c_m_take 59 = .ok (.iaload, 1) := by decide +kernel
theorem d_m_take_60 : decode c_m_take 60 = .ok (.goto 9, 3) := by decide +kernel
theorem d_m_take_63 : decode c_m_take 63 = .ok (.aload_n 0, 1) := by decide +kernel
theorem d_m_take_64 : decode c_m_take 64 = .ok (.getfield 38, 3) := by decide +kernel
theorem d_m_take_67 : decode c_m_take 67 = .ok (.iload_n 1, 1) := by decide +kernel
theorem d_m_take_68 : decode c_m_take 68 = .ok (.iaload, 1) := by decide +kernel
theorem d_m_take_69 : decode c_m_take 69 = .ok (.iastore, 1) := by decide +kernel
theorem d_m_take_70 : decode c_m_take 70 = .ok (.goto 65, 3) := by decide +kernel
theorem d_m_take_73 : decode c_m_take 73 = .ok (.aload_n 0, 1) := by decide +kernel
theorem d_m_take_74 : decode c_m_take 74 = .ok (.getfield 35, 3) := by decide +kernel
theorem d_m_take_77 : decode c_m_take 77 = .ok (.iload_n 1, 1) := by decide +kernel
theorem d_m_take_78 : decode c_m_take 78 = .ok (.iload_n 2, 1) := by decide +kernel
theorem d_m_take_79 : decode c_m_take 79 = .ok (.aload_n 0, 1) := by decide +kernel
theorem d_m_take_80 : decode c_m_take 80 = .ok (.getfield 35, 3) := by decide +kernel
theorem d_m_take_83 : decode c_m_take 83 = .ok (.iload_n 1, 1) := by decide +kernel
theorem d_m_take_84 : decode c_m_take 84 = .ok (.iaload, 1) := by decide +kernel
theorem d_m_take_85 : decode c_m_take 85 = .ok (.if_icmp .ge 7, 3) := by decide +kernel
theorem d_m_take_88 : decode c_m_take 88 = .ok (.iload_n 2, 1) := by decide +kernel
theorem d_m_take_89 : decode c_m_take 89 = .ok (.goto 9, 3) := by decide +kernel
theorem d_m_take_92 : decode c_m_take 92 = .ok (.aload_n 0, 1) := by decide +kernel
theorem d_m_take_93 : decode c_m_take 93 = .ok (.getfield 35, 3) := by decide +kernel
theorem d_m_take_96 : decode c_m_take 96 = .ok (.iload_n 1, 1) := by decide +kernel
theorem d_m_take_97 : decode c_m_take 97 = .ok (.iaload, 1) := by decide +kernel
theorem d_m_take_98 : decode c_m_take 98 = .ok (.iastore, 1) := by decide +kernel
theorem d_m_take_99 : decode c_m_take 99 = .ok (.aload_n 0, 1) := by decide +kernel
theorem d_m_take_100 : decode c_m_take 100 = .ok (.getfield 41, 3) := by decide +kernel
theorem d_m_take_103 : decode c_m_take 103 = .ok (.iload_n 1, 1) := by decide +kernel
theorem d_m_take_104 : decode c_m_take 104 = .ok (.aload_n 0, 1) := by decide +kernel
theorem d_m_take_105 : decode c_m_take 105 = .ok (.getfield 35, 3) := by decide +kernel
theorem d_m_take_108 : decode c_m_take 108 = .ok (.iload_n 1, 1) := by decide +kernel
theorem d_m_take_109 : decode c_m_take 109 = .ok (.iaload, 1) := by decide +kernel
theorem d_m_take_110 : decode c_m_take 110 = .ok (.aload_n 0, 1) := by decide +kernel
theorem d_m_take_111 : decode c_m_take 111 = .ok (.getfield 41, 3) := by decide +kernel
theorem d_m_take_114 : decode c_m_take 114 = .ok (.iload_n 1, 1) := by decide +kernel
theorem d_m_take_115 : decode c_m_take 115 = .ok (.iaload, 1) := by decide +kernel
theorem d_m_take_116 : decode c_m_take 116 = .ok (.if_icmp .ge 12, 3) := by decide +kernel
theorem d_m_take_119 : decode c_m_take 119 = .ok (.aload_n 0, 1) := by decide +kernel
theorem d_m_take_120 : decode c_m_take 120 = .ok (.getfield 35, 3) := by decide +kernel
theorem d_m_take_123 : decode c_m_take 123 = .ok (.iload_n 1, 1) := by decide +kernel
theorem d_m_take_124 : decode c_m_take 124 = .ok (.iaload, 1) := by decide +kernel
theorem d_m_take_125 : decode c_m_take 125 = .ok (.goto 9, 3) := by decide +kernel
theorem d_m_take_128 : decode c_m_take 128 = .ok (.aload_n 0, 1) := by decide +kernel
theorem d_m_take_129 : decode c_m_take 129 = .ok (.getfield 41, 3) := by decide +kernel
theorem d_m_take_132 : decode c_m_take 132 = .ok (.iload_n 1, 1) := by decide +kernel
theorem d_m_take_133 : decode c_m_take 133 = .ok (.iaload, 1) := by decide +kernel
theorem d_m_take_134 : decode c_m_take 134 = .ok (.iastore, 1) := by decide +kernel
theorem d_m_take_135 : decode c_m_take 135 = .ok (.aload_n 0, 1) := by decide +kernel
theorem d_m_take_136 : decode c_m_take 136 = .ok (.getfield 32, 3) := by decide +kernel
theorem d_m_take_139 : decode c_m_take 139 = .ok (.iload_n 1, 1) := by decide +kernel
theorem d_m_take_140 : decode c_m_take 140 = .ok (.aload_n 0, 1) := by decide +kernel
theorem d_m_take_141 : decode c_m_take 141 = .ok (.getfield 38, 3) := by decide +kernel
theorem d_m_take_144 : decode c_m_take 144 = .ok (.iload_n 1, 1) := by decide +kernel
theorem d_m_take_145 : decode c_m_take 145 = .ok (.iaload, 1) := by decide +kernel
theorem d_m_take_146 : decode c_m_take 146 = .ok (.aload_n 0, 1) := by decide +kernel
theorem d_m_take_147 : decode c_m_take 147 = .ok (.getfield 41, 3) := by decide +kernel
theorem d_m_take_150 : decode c_m_take 150 = .ok (.iload_n 1, 1) := by decide +kernel
theorem d_m_take_151 : decode c_m_take 151 = .ok (.iaload, 1) := by decide +kernel
theorem d_m_take_152 : decode c_m_take 152 = .ok (.if_icmp .lt 8, 3) := by decide +kernel
theorem d_m_take_155 : decode c_m_take 155 = .ok (.bipush 20, 2) := by decide +kernel
theorem d_m_take_157 : decode c_m_take 157 = .ok (.goto 9, 3) := by decide +kernel
theorem d_m_take_160 : decode c_m_take 160 = .ok (.aload_n 0, 1) := by decide +kernel
theorem d_m_take_161 : decode c_m_take 161 = .ok (.getfield 32, 3) := by decide +kernel
theorem d_m_take_164 : decode c_m_take 164 = .ok (.iload_n 1, 1) := by decide +kernel
theorem d_m_take_165 : decode c_m_take 165 = .ok (.iaload, 1) := by decide +kernel
theorem d_m_take_166 : decode c_m_take 166 = .ok (.iastore, 1) := by decide +kernel
theorem d_m_take_167 : decode c_m_take 167 = .ok (.return_, 1) := by decide +kernel
abbrev c_m_solveFrom : ByteArray := prog_9_method_40_code
def y_m_solveFrom : MethodName := ⟨"ShortBridgeModel", "solveFrom", "(I)I"⟩
theorem d_m_solveFrom_0 : decode c_m_solveFrom 0 = .ok (.iload_n 1, 1) := by decide +kernel
theorem d_m_solveFrom_1 : decode c_m_solveFrom 1 = .ok (.istore_n 2, 1) := by decide +kernel
theorem d_m_solveFrom_2 : decode c_m_solveFrom 2 = .ok (.aload_n 0, 1) := by decide +kernel
theorem d_m_solveFrom_3 : decode c_m_solveFrom 3 = .ok (.iload_n 2, 1) := by decide +kernel
theorem d_m_solveFrom_4 : decode c_m_solveFrom 4 = .ok (.iconst (-1), 1) := by decide +kernel
theorem d_m_solveFrom_5 : decode c_m_solveFrom 5 = .ok (.bipush 6, 2) := by decide +kernel
theorem d_m_solveFrom_7 : decode c_m_solveFrom 7 = .ok (.invokevirtual 171, 3) := by decide +kernel
theorem d_m_solveFrom_10 : decode c_m_solveFrom 10 = .ok (.iconst 1, 1) := by decide +kernel
theorem d_m_solveFrom_11 : decode c_m_solveFrom 11 = .ok (.istore_n 3, 1) := by decide +kernel
theorem d_m_solveFrom_12 : decode c_m_solveFrom 12 = .ok (.iload_n 3, 1) := by decide +kernel
theorem d_m_solveFrom_13 : decode c_m_solveFrom 13 = .ok (.ifCond .eq 125, 3) := by decide +kernel
theorem d_m_solveFrom_16 : decode c_m_solveFrom 16 = .ok (.iload_n 2, 1) := by decide +kernel
theorem d_m_solveFrom_17 : decode c_m_solveFrom 17 = .ok (.bipush 20, 2) := by decide +kernel
theorem d_m_solveFrom_19 : decode c_m_solveFrom 19 = .ok (.if_icmp .ne 8, 3) := by decide +kernel
theorem d_m_solveFrom_22 : decode c_m_solveFrom 22 = .ok (.bipush 20, 2) := by decide +kernel
theorem d_m_solveFrom_24 : decode c_m_solveFrom 24 = .ok (.goto 8, 3) := by decide +kernel
theorem d_m_solveFrom_27 : decode c_m_solveFrom 27 = .ok (.aload_n 0, 1) := by decide +kernel
theorem d_m_solveFrom_28 : decode c_m_solveFrom 28 = .ok (.iload_n 2, 1) := by decide +kernel
theorem d_m_solveFrom_29 : decode c_m_solveFrom 29 = .ok (.invokevirtual 175, 3) := by decide +kernel
theorem d_m_solveFrom_32 : decode c_m_solveFrom 32 = .ok (.istore 4, 2) := by decide +kernel
theorem d_m_solveFrom_34 : decode c_m_solveFrom 34 = .ok (.iload 4, 2) := by decide +kernel
theorem d_m_solveFrom_36 : decode c_m_solveFrom 36 = .ok (.bipush 20, 2) := by decide +kernel
theorem d_m_solveFrom_38 : decode c_m_solveFrom 38 = .ok (.if_icmp .ge 52, 3) := by decide +kernel
theorem d_m_solveFrom_41 : decode c_m_solveFrom 41 = .ok (.aload_n 0, 1) := by decide +kernel
theorem d_m_solveFrom_42 : decode c_m_solveFrom 42 = .ok (.getfield 20, 3) := by decide +kernel
theorem d_m_solveFrom_45 : decode c_m_solveFrom 45 = .ok (.iload_n 2, 1) := by decide +kernel
theorem d_m_solveFrom_46 : decode c_m_solveFrom 46 = .ok (.iload 4, 2) := by decide +kernel
theorem d_m_solveFrom_48 : decode c_m_solveFrom 48 = .ok (.iastore, 1) := by decide +kernel
theorem d_m_solveFrom_49 : decode c_m_solveFrom 49 = .ok (.aload_n 0, 1) := by decide +kernel
theorem d_m_solveFrom_50 : decode c_m_solveFrom 50 = .ok (.getfield 32, 3) := by decide +kernel
theorem d_m_solveFrom_53 : decode c_m_solveFrom 53 = .ok (.iload_n 2, 1) := by decide +kernel
theorem d_m_solveFrom_54 : decode c_m_solveFrom 54 = .ok (.iload 4, 2) := by decide +kernel
theorem d_m_solveFrom_56 : decode c_m_solveFrom 56 = .ok (.iconst 1, 1) := by decide +kernel
theorem d_m_solveFrom_57 : decode c_m_solveFrom 57 = .ok (.iadd, 1) := by decide +kernel
theorem d_m_solveFrom_58 : decode c_m_solveFrom 58 = .ok (.iastore, 1) := by decide +kernel
theorem d_m_solveFrom_59 : decode c_m_solveFrom 59 = .ok (.aload_n 0, 1) := by decide +kernel
theorem d_m_solveFrom_60 : decode c_m_solveFrom 60 = .ok (.iload_n 2, 1) := by decide +kernel
theorem d_m_solveFrom_61 : decode c_m_solveFrom 61 = .ok (.invokevirtual 146, 3) := by decide +kernel
theorem d_m_solveFrom_64 : decode c_m_solveFrom 64 = .ok (.aload_n 0, 1) := by decide +kernel
theorem d_m_solveFrom_65 : decode c_m_solveFrom 65 = .ok (.iload_n 2, 1) := by decide +kernel
theorem d_m_solveFrom_66 : decode c_m_solveFrom 66 = .ok (.iconst 1, 1) := by decide +kernel
theorem d_m_solveFrom_67 : decode c_m_solveFrom 67 = .ok (.iadd, 1) := by decide +kernel
theorem d_m_solveFrom_68 : decode c_m_solveFrom 68 = .ok (.aload_n 0, 1) := by decide +kernel
theorem d_m_solveFrom_69 : decode c_m_solveFrom 69 = .ok (.getfield 38, 3) := by decide +kernel
theorem d_m_solveFrom_72 : decode c_m_solveFrom 72 = .ok (.iload_n 2, 1) := by decide +kernel
theorem d_m_solveFrom_73 : decode c_m_solveFrom 73 = .ok (.iaload, 1) := by decide +kernel
theorem d_m_solveFrom_74 : decode c_m_solveFrom 74 = .ok (.aload_n 0, 1) := by decide +kernel
theorem d_m_solveFrom_75 : decode c_m_solveFrom 75 = .ok (.getfield 41, 3) := by decide +kernel
theorem d_m_solveFrom_78 : decode c_m_solveFrom 78 = .ok (.iload_n 2, 1) := by decide +kernel
theorem d_m_solveFrom_79 : decode c_m_solveFrom 79 = .ok (.iaload, 1) := by decide +kernel
theorem d_m_solveFrom_80 : decode c_m_solveFrom 80 = .ok (.invokevirtual 171, 3) := by decide +kernel
theorem d_m_solveFrom_83 : decode c_m_solveFrom 83 = .ok (.iload_n 2, 1) := by decide +kernel
theorem d_m_solveFrom_84 : decode c_m_solveFrom 84 = .ok (.iconst 1, 1) := by decide +kernel
theorem d_m_solveFrom_85 : decode c_m_solveFrom 85 = .ok (.iadd, 1) := by decide +kernel
theorem d_m_solveFrom_86 : decode c_m_solveFrom 86 = .ok (.istore_n 2, 1) := by decide +kernel
theorem d_m_solveFrom_87 : decode c_m_solveFrom 87 = .ok (.goto 48, 3) := by decide +kernel
theorem d_m_solveFrom_90 : decode c_m_solveFrom 90 = .ok (.iload_n 2, 1) := by decide +kernel
theorem d_m_solveFrom_91 : decode c_m_solveFrom 91 = .ok (.iload_n 1, 1) := by decide +kernel
theorem d_m_solveFrom_92 : decode c_m_solveFrom 92 = .ok (.if_icmp .ne 8, 3) := by decide +kernel
theorem d_m_solveFrom_95 : decode c_m_solveFrom 95 = .ok (.iconst 0, 1) := by decide +kernel
theorem d_m_solveFrom_96 : decode c_m_solveFrom 96 = .ok (.istore_n 3, 1) := by decide +kernel
theorem d_m_solveFrom_97 : decode c_m_solveFrom 97 = .ok (.goto 38, 3) := by decide +kernel
theorem d_m_solveFrom_100 : decode c_m_solveFrom 100 = .ok (.iload_n 2, 1) := by decide +kernel
theorem d_m_solveFrom_101 : decode c_m_solveFrom 101 = .ok (.bipush 20, 2) := by decide +kernel
theorem d_m_solveFrom_103 : decode c_m_solveFrom 103 = .ok (.if_icmp .ne 13, 3) := by decide +kernel
theorem d_m_solveFrom_106 : decode c_m_solveFrom 106 = .ok (.aload_n 0, 1) := by decide +kernel
theorem d_m_solveFrom_107 : decode c_m_solveFrom 107 = .ok (.getfield 26, 3) := by decide +kernel
theorem d_m_solveFrom_110 : decode c_m_solveFrom 110 = .ok (.bipush 20, 2) := by decide +kernel
theorem d_m_solveFrom_112 : decode c_m_solveFrom 112 = .ok (.iaload, 1) := by decide +kernel
theorem d_m_solveFrom_113 : decode c_m_solveFrom 113 = .ok (.goto 9, 3) := by decide +kernel
theorem d_m_solveFrom_116 : decode c_m_solveFrom 116 = .ok (.aload_n 0, 1) := by decide +kernel
theorem d_m_solveFrom_117 : decode c_m_solveFrom 117 = .ok (.getfield 35, 3) := by decide +kernel
theorem d_m_solveFrom_120 : decode c_m_solveFrom 120 = .ok (.iload_n 2, 1) := by decide +kernel
theorem d_m_solveFrom_121 : decode c_m_solveFrom 121 = .ok (.iaload, 1) := by decide +kernel
theorem d_m_solveFrom_122 : decode c_m_solveFrom 122 = .ok (.istore 5, 2) := by decide +kernel
theorem d_m_solveFrom_124 : decode c_m_solveFrom 124 = .ok (.iload_n 2, 1) := by decide +kernel
theorem d_m_solveFrom_125 : decode c_m_solveFrom 125 = .ok (.iconst 1, 1) := by decide +kernel
theorem d_m_solveFrom_126 : decode c_m_solveFrom 126 = .ok (.isub, 1) := by decide +kernel
theorem d_m_solveFrom_127 : decode c_m_solveFrom 127 = .ok (.istore_n 2, 1) := by decide +kernel
theorem d_m_solveFrom_128 : decode c_m_solveFrom 128 = .ok (.aload_n 0, 1) := by decide +kernel
theorem d_m_solveFrom_129 : decode c_m_solveFrom 129 = .ok (.iload_n 2, 1) := by decide +kernel
theorem d_m_solveFrom_130 : decode c_m_solveFrom 130 = .ok (.iload 5, 2) := by decide +kernel
theorem d_m_solveFrom_132 : decode c_m_solveFrom 132 = .ok (.invokevirtual 178, 3) := by decide +kernel
theorem d_m_solveFrom_135 : decode c_m_solveFrom 135 = .ok (.goto (-123), 3) := by decide +kernel
theorem d_m_solveFrom_138 : decode c_m_solveFrom 138 = .ok (.aload_n 0, 1) := by decide +kernel
theorem d_m_solveFrom_139 : decode c_m_solveFrom 139 = .ok (.getfield 35, 3) := by decide +kernel
theorem d_m_solveFrom_142 : decode c_m_solveFrom 142 = .ok (.iload_n 1, 1) := by decide +kernel
theorem d_m_solveFrom_143 : decode c_m_solveFrom 143 = .ok (.iaload, 1) := by decide +kernel
theorem d_m_solveFrom_144 : decode c_m_solveFrom 144 = .ok (.ireturn, 1) := by decide +kernel
abbrev c_m_solve : ByteArray := prog_9_method_41_code
def y_m_solve : MethodName := ⟨"ShortBridgeModel", "solve", "()I"⟩
theorem d_m_solve_0 : decode c_m_solve 0 = .ok (.aload_n 0, 1) := by decide +kernel
theorem d_m_solve_1 : decode c_m_solve 1 = .ok (.aload_n 0, 1) := by decide +kernel
theorem d_m_solve_2 : decode c_m_solve 2 = .ok (.invokevirtual 132, 3) := by decide +kernel
theorem d_m_solve_5 : decode c_m_solve 5 = .ok (.iconst 2, 1) := by decide +kernel
theorem d_m_solve_6 : decode c_m_solve 6 = .ok (.if_icmp .ne 7, 3) := by decide +kernel
theorem d_m_solve_9 : decode c_m_solve 9 = .ok (.iconst 0, 1) := by decide +kernel
theorem d_m_solve_10 : decode c_m_solve 10 = .ok (.goto 4, 3) := by decide +kernel
theorem d_m_solve_13 : decode c_m_solve 13 = .ok (.iconst 1, 1) := by decide +kernel
theorem d_m_solve_14 : decode c_m_solve 14 = .ok (.putfield 50, 3) := by decide +kernel
theorem d_m_solve_17 : decode c_m_solve 17 = .ok (.aload_n 0, 1) := by decide +kernel
theorem d_m_solve_18 : decode c_m_solve 18 = .ok (.invokevirtual 154, 3) := by decide +kernel
theorem d_m_solve_21 : decode c_m_solve 21 = .ok (.aload_n 0, 1) := by decide +kernel
theorem d_m_solve_22 : decode c_m_solve 22 = .ok (.getfield 50, 3) := by decide +kernel
theorem d_m_solve_25 : decode c_m_solve 25 = .ok (.ifCond .ne 83, 3) := by decide +kernel
theorem d_m_solve_28 : decode c_m_solve 28 = .ok (.iconst 0, 1) := by decide +kernel
theorem d_m_solve_29 : decode c_m_solve 29 = .ok (.istore_n 1, 1) := by decide +kernel
theorem d_m_solve_30 : decode c_m_solve 30 = .ok (.iconst 0, 1) := by decide +kernel
theorem d_m_solve_31 : decode c_m_solve 31 = .ok (.istore_n 2, 1) := by decide +kernel
theorem d_m_solve_32 : decode c_m_solve 32 = .ok (.iload_n 2, 1) := by decide +kernel
theorem d_m_solve_33 : decode c_m_solve 33 = .ok (.iconst 4, 1) := by decide +kernel
theorem d_m_solve_34 : decode c_m_solve 34 = .ok (.if_icmp .ge 60, 3) := by decide +kernel
theorem d_m_solve_37 : decode c_m_solve 37 = .ok (.iconst 0, 1) := by decide +kernel
theorem d_m_solve_38 : decode c_m_solve 38 = .ok (.istore_n 3, 1) := by decide +kernel
theorem d_m_solve_39 : decode c_m_solve 39 = .ok (.iconst 0, 1) := by decide +kernel
theorem d_m_solve_40 : decode c_m_solve 40 = .ok (.istore 4, 2) := by decide +kernel
theorem d_m_solve_42 : decode c_m_solve 42 = .ok (.iload 4, 2) := by decide +kernel
theorem d_m_solve_44 : decode c_m_solve 44 = .ok (.bipush 20, 2) := by decide +kernel
theorem d_m_solve_46 : decode c_m_solve 46 = .ok (.if_icmp .ge 31, 3) := by decide +kernel
theorem d_m_solve_49 : decode c_m_solve 49 = .ok (.aload_n 0, 1) := by decide +kernel
theorem d_m_solve_50 : decode c_m_solve 50 = .ok (.iload_n 2, 1) := by decide +kernel
theorem d_m_solve_51 : decode c_m_solve 51 = .ok (.iload 4, 2) := by decide +kernel
theorem d_m_solve_53 : decode c_m_solve 53 = .ok (.aload_n 0, 1) := by decide +kernel
theorem d_m_solve_54 : decode c_m_solve 54 = .ok (.getfield 84, 3) := by decide +kernel
theorem d_m_solve_57 : decode c_m_solve 57 = .ok (.invokevirtual 150, 3) := by decide +kernel
theorem d_m_solve_60 : decode c_m_solve 60 = .ok (.ifCond .eq 9, 3) := by decide +kernel
theorem d_m_solve_63 : decode c_m_solve 63 = .ok (.iload_n 3, 1) := by decide +kernel
theorem d_m_solve_64 : decode c_m_solve 64 = .ok (.iconst 1, 1) := by decide +kernel
theorem d_m_solve_65 : decode c_m_solve 65 = .ok (.iadd, 1) := by decide +kernel
theorem d_m_solve_66 : decode c_m_solve 66 = .ok (.goto 4, 3) := by decide +kernel
theorem d_m_solve_69 : decode c_m_solve 69 = .ok (.iload_n 3, 1) := by decide +kernel
theorem d_m_solve_70 : decode c_m_solve 70 = .ok (.istore_n 3, 1) := by decide +kernel
theorem d_m_solve_71 : decode c_m_solve 71 = .ok (.iinc 4 1, 3) := by decide +kernel
theorem d_m_solve_74 : decode c_m_solve 74 = .ok (.goto (-32), 3) := by decide +kernel
theorem d_m_solve_77 : decode c_m_solve 77 = .ok (.iload_n 3, 1) := by decide +kernel
theorem d_m_solve_78 : decode c_m_solve 78 = .ok (.iload_n 1, 1) := by decide +kernel
theorem d_m_solve_79 : decode c_m_solve 79 = .ok (.if_icmp .le 7, 3) := by decide +kernel
theorem d_m_solve_82 : decode c_m_solve 82 = .ok (.iload_n 3, 1) := by decide +kernel
theorem d_m_solve_83 : decode c_m_solve 83 = .ok (.goto 4, 3) := by decide +kernel
theorem d_m_solve_86 : decode c_m_solve 86 = .ok (.iload_n 1, 1) := by decide +kernel
theorem d_m_solve_87 : decode c_m_solve 87 = .ok (.istore_n 1, 1) := by decide +kernel
theorem d_m_solve_88 : decode c_m_solve 88 = .ok (.iinc 2 1, 3) := by decide +kernel
theorem d_m_solve_91 : decode c_m_solve 91 = .ok (.goto (-59), 3) := by decide +kernel
theorem d_m_solve_94 : decode c_m_solve 94 = .ok (.aload_n 0, 1) := by decide +kernel
theorem d_m_solve_95 : decode c_m_solve 95 = .ok (.iload_n 1, 1) := by decide +kernel
theorem d_m_solve_96 : decode c_m_solve 96 = .ok (.iconst 5, 1) := by decide +kernel
theorem d_m_solve_97 : decode c_m_solve 97 = .ok (.if_icmp .ne 7, 3) := by decide +kernel
theorem d_m_solve_100 : decode c_m_solve 100 = .ok (.iconst 2, 1) := by decide +kernel
theorem d_m_solve_101 : decode c_m_solve 101 = .ok (.goto 4, 3) := by decide +kernel
theorem d_m_solve_104 : decode c_m_solve 104 = .ok (.iconst 0, 1) := by decide +kernel
theorem d_m_solve_105 : decode c_m_solve 105 = .ok (.putfield 50, 3) := by decide +kernel
theorem d_m_solve_108 : decode c_m_solve 108 = .ok (.aload_n 0, 1) := by decide +kernel
theorem d_m_solve_109 : decode c_m_solve 109 = .ok (.getfield 50, 3) := by decide +kernel
theorem d_m_solve_112 : decode c_m_solve 112 = .ok (.ifCond .le 5, 3) := by decide +kernel
theorem d_m_solve_115 : decode c_m_solve 115 = .ok (.iconst 0, 1) := by decide +kernel
theorem d_m_solve_116 : decode c_m_solve 116 = .ok (.ireturn, 1) := by decide +kernel
theorem d_m_solve_117 : decode c_m_solve 117 = .ok (.aload_n 0, 1) := by decide +kernel
theorem d_m_solve_118 : decode c_m_solve 118 = .ok (.aload_n 0, 1) := by decide +kernel
theorem d_m_solve_119 : decode c_m_solve 119 = .ok (.getfield 84, 3) := by decide +kernel
theorem d_m_solve_122 : decode c_m_solve 122 = .ok (.invokevirtual 181, 3) := by decide +kernel
theorem d_m_solve_125 : decode c_m_solve 125 = .ok (.ireturn, 1) := by decide +kernel
abbrev c_m_record : ByteArray := prog_9_method_42_code
def y_m_record : MethodName := ⟨"ShortBridgeModel", "record", "()I"⟩
theorem d_m_record_0 : decode c_m_record 0 = .ok (.aload_n 0, 1) := by decide +kernel
theorem d_m_record_1 : decode c_m_record 1 = .ok (.aload_n 0, 1) := by decide +kernel
theorem d_m_record_2 : decode c_m_record 2 = .ok (.invokevirtual 132, 3) := by decide +kernel
theorem d_m_record_5 : decode c_m_record 5 = .ok (.iconst 3, 1) := by decide +kernel
theorem d_m_record_6 : decode c_m_record 6 = .ok (.if_icmp .eq 7, 3) := by decide +kernel
theorem d_m_record_9 : decode c_m_record 9 = .ok (.iconst 1, 1) := by decide +kernel
theorem d_m_record_10 : decode c_m_record 10 = .ok (.goto 17, 3) := by decide +kernel
theorem d_m_record_13 : decode c_m_record 13 = .ok (.aload_n 0, 1) := by decide +kernel
theorem d_m_record_14 : decode c_m_record 14 = .ok (.getfield 184, 3) := by decide +kernel
theorem d_m_record_17 : decode c_m_record 17 = .ok (.bipush 12, 2) := by decide +kernel
theorem d_m_record_19 : decode c_m_record 19 = .ok (.if_icmp .ne 7, 3) := by decide +kernel
theorem d_m_record_22 : decode c_m_record 22 = .ok (.iconst 2, 1) := by decide +kernel
theorem d_m_record_23 : decode c_m_record 23 = .ok (.goto 4, 3) := by decide +kernel
theorem d_m_record_26 : decode c_m_record 26 = .ok (.iconst 0, 1) := by decide +kernel
theorem d_m_record_27 : decode c_m_record 27 = .ok (.putfield 50, 3) := by decide +kernel
theorem d_m_record_30 : decode c_m_record 30 = .ok (.aload_n 0, 1) := by decide +kernel
theorem d_m_record_31 : decode c_m_record 31 = .ok (.getfield 50, 3) := by decide +kernel
theorem d_m_record_34 : decode c_m_record 34 = .ok (.ifCond .le 5, 3) := by decide +kernel
theorem d_m_record_37 : decode c_m_record 37 = .ok (.iconst 0, 1) := by decide +kernel
theorem d_m_record_38 : decode c_m_record 38 = .ok (.ireturn, 1) := by decide +kernel
theorem d_m_record_39 : decode c_m_record 39 = .ok (.aload_n 0, 1) := by decide +kernel
theorem d_m_record_40 : decode c_m_record 40 = .ok (.getfield 44, 3) := by decide +kernel
theorem d_m_record_43 : decode c_m_record 43 = .ok (.aload_n 0, 1) := by decide +kernel
theorem d_m_record_44 : decode c_m_record 44 = .ok (.getfield 184, 3) := by decide +kernel
theorem d_m_record_47 : decode c_m_record 47 = .ok (.aload_n 0, 1) := by decide +kernel
theorem d_m_record_48 : decode c_m_record 48 = .ok (.invokevirtual 165, 3) := by decide +kernel
theorem d_m_record_51 : decode c_m_record 51 = .ok (.iastore, 1) := by decide +kernel
theorem d_m_record_52 : decode c_m_record 52 = .ok (.aload_n 0, 1) := by decide +kernel
theorem d_m_record_53 : decode c_m_record 53 = .ok (.getfield 47, 3) := by decide +kernel
theorem d_m_record_56 : decode c_m_record 56 = .ok (.aload_n 0, 1) := by decide +kernel
theorem d_m_record_57 : decode c_m_record 57 = .ok (.getfield 184, 3) := by decide +kernel
theorem d_m_record_60 : decode c_m_record 60 = .ok (.aload_n 0, 1) := by decide +kernel
theorem d_m_record_61 : decode c_m_record 61 = .ok (.getfield 71, 3) := by decide +kernel
theorem d_m_record_64 : decode c_m_record 64 = .ok (.lastore, 1) := by decide +kernel
theorem d_m_record_65 : decode c_m_record 65 = .ok (.aload_n 0, 1) := by decide +kernel
theorem d_m_record_66 : decode c_m_record 66 = .ok (.aload_n 0, 1) := by decide +kernel
theorem d_m_record_67 : decode c_m_record 67 = .ok (.getfield 184, 3) := by decide +kernel
theorem d_m_record_70 : decode c_m_record 70 = .ok (.iconst 1, 1) := by decide +kernel
theorem d_m_record_71 : decode c_m_record 71 = .ok (.iadd, 1) := by decide +kernel
theorem d_m_record_72 : decode c_m_record 72 = .ok (.putfield 184, 3) := by decide +kernel
theorem d_m_record_75 : decode c_m_record 75 = .ok (.aload_n 0, 1) := by decide +kernel
theorem d_m_record_76 : decode c_m_record 76 = .ok (.getfield 184, 3) := by decide +kernel
theorem d_m_record_79 : decode c_m_record 79 = .ok (.ireturn, 1) := by decide +kernel
abbrev c_m_isResult : ByteArray := prog_9_method_43_code
def y_m_isResult : MethodName := ⟨"ShortBridgeModel", "isResult", "(I)Z"⟩
theorem d_m_isResult_0 : decode c_m_isResult 0 = .ok (.iload_n 1, 1) := by decide +kernel
theorem d_m_isResult_1 : decode c_m_isResult 1 = .ok (.ifCond .lt 15, 3) := by decide +kernel
theorem d_m_isResult_4 : decode c_m_isResult 4 = .ok (.iload_n 1, 1) := by decide +kernel
theorem d_m_isResult_5 : decode c_m_isResult 5 = .ok (.aload_n 0, 1) := by decide +kernel
theorem d_m_isResult_6 : decode c_m_isResult 6 = .ok (.getfield 184, 3) := by decide +kernel
theorem d_m_isResult_9 : decode c_m_isResult 9 = .ok (.if_icmp .ge 7, 3) := by decide +kernel
theorem d_m_isResult_12 : decode c_m_isResult 12 = .ok (.iconst 1, 1) := by decide +kernel
theorem d_m_isResult_13 : decode c_m_isResult 13 = .ok (.goto 4, 3) := by decide +kernel
theorem d_m_isResult_16 : decode c_m_isResult 16 = .ok (.iconst 0, 1) := by decide +kernel
theorem d_m_isResult_17 : decode c_m_isResult 17 = .ok (.ireturn, 1) := by decide +kernel
abbrev c_m_step : ByteArray := prog_9_method_44_code
def y_m_step : MethodName := ⟨"ShortBridgeModel", "step", "(I)I"⟩
theorem d_m_step_0 : decode c_m_step 0 = .ok (.iload_n 0, 1) := by decide +kernel
theorem d_m_step_1 : decode c_m_step 1 = .ok (.tableswitch 156 0 17 #[87, 90, 93, 96, 100, 104, 108, 112, 116, 120, 124, 128, 132, 136, 140, 144, 148, 152], 87) := by decide +kernel
theorem d_m_step_88 : decode c_m_step 88 = .ok (.bipush 20, 2) := by decide +kernel
theorem d_m_step_90 : decode c_m_step 90 = .ok (.ireturn, 1) := by decide +kernel
theorem d_m_step_91 : decode c_m_step 91 = .ok (.bipush 50, 2) := by decide +kernel
theorem d_m_step_93 : decode c_m_step 93 = .ok (.ireturn, 1) := by decide +kernel
theorem d_m_step_94 : decode c_m_step 94 = .ok (.bipush 90, 2) := by decide +kernel
theorem d_m_step_96 : decode c_m_step 96 = .ok (.ireturn, 1) := by decide +kernel
theorem d_m_step_97 : decode c_m_step 97 = .ok (.sipush 130, 3) := by decide +kernel
theorem d_m_step_100 : decode c_m_step 100 = .ok (.ireturn, 1) := by decide +kernel
theorem d_m_step_101 : decode c_m_step 101 = .ok (.sipush 170, 3) := by decide +kernel
theorem d_m_step_104 : decode c_m_step 104 = .ok (.ireturn, 1) := by decide +kernel
theorem d_m_step_105 : decode c_m_step 105 = .ok (.sipush 220, 3) := by decide +kernel
theorem d_m_step_108 : decode c_m_step 108 = .ok (.ireturn, 1) := by decide +kernel
theorem d_m_step_109 : decode c_m_step 109 = .ok (.sipush 270, 3) := by decide +kernel
theorem d_m_step_112 : decode c_m_step 112 = .ok (.ireturn, 1) := by decide +kernel
theorem d_m_step_113 : decode c_m_step 113 = .ok (.sipush 320, 3) := by decide +kernel
theorem d_m_step_116 : decode c_m_step 116 = .ok (.ireturn, 1) := by decide +kernel
theorem d_m_step_117 : decode c_m_step 117 = .ok (.sipush 370, 3) := by decide +kernel
theorem d_m_step_120 : decode c_m_step 120 = .ok (.ireturn, 1) := by decide +kernel
theorem d_m_step_121 : decode c_m_step 121 = .ok (.sipush 430, 3) := by decide +kernel
theorem d_m_step_124 : decode c_m_step 124 = .ok (.ireturn, 1) := by decide +kernel
theorem d_m_step_125 : decode c_m_step 125 = .ok (.sipush 500, 3) := by decide +kernel
theorem d_m_step_128 : decode c_m_step 128 = .ok (.ireturn, 1) := by decide +kernel
theorem d_m_step_129 : decode c_m_step 129 = .ok (.sipush 600, 3) := by decide +kernel
theorem d_m_step_132 : decode c_m_step 132 = .ok (.ireturn, 1) := by decide +kernel
theorem d_m_step_133 : decode c_m_step 133 = .ok (.sipush 750, 3) := by decide +kernel
theorem d_m_step_136 : decode c_m_step 136 = .ok (.ireturn, 1) := by decide +kernel
theorem d_m_step_137 : decode c_m_step 137 = .ok (.sipush 900, 3) := by decide +kernel
theorem d_m_step_140 : decode c_m_step 140 = .ok (.ireturn, 1) := by decide +kernel
theorem d_m_step_141 : decode c_m_step 141 = .ok (.sipush 1100, 3) := by decide +kernel
theorem d_m_step_144 : decode c_m_step 144 = .ok (.ireturn, 1) := by decide +kernel
theorem d_m_step_145 : decode c_m_step 145 = .ok (.sipush 1300, 3) := by decide +kernel
theorem d_m_step_148 : decode c_m_step 148 = .ok (.ireturn, 1) := by decide +kernel
theorem d_m_step_149 : decode c_m_step 149 = .ok (.sipush 1500, 3) := by decide +kernel
theorem d_m_step_152 : decode c_m_step 152 = .ok (.ireturn, 1) := by decide +kernel
theorem d_m_step_153 : decode c_m_step 153 = .ok (.sipush 1750, 3) := by decide +kernel
theorem d_m_step_156 : decode c_m_step 156 = .ok (.ireturn, 1) := by decide +kernel
theorem d_m_step_157 : decode c_m_step 157 = .ok (.sipush 2000, 3) := by decide +kernel
theorem d_m_step_160 : decode c_m_step 160 = .ok (.ireturn, 1) := by decide +kernel
abbrev c_m_points : ByteArray := prog_9_method_45_code
def y_m_points : MethodName := ⟨"ShortBridgeModel", "points", "(II)I"⟩
theorem d_m_points_0 : decode c_m_points 0 = .ok (.aload_n 0, 1) := by decide +kernel
theorem d_m_points_1 : decode c_m_points 1 = .ok (.aload_n 0, 1) := by decide +kernel
theorem d_m_points_2 : decode c_m_points 2 = .ok (.iload_n 1, 1) := by decide +kernel
theorem d_m_points_3 : decode c_m_points 3 = .ok (.invokevirtual 187, 3) := by decide +kernel
theorem d_m_points_6 : decode c_m_points 6 = .ok (.ifCond .eq 15, 3) := by decide +kernel
theorem d_m_points_9 : decode c_m_points 9 = .ok (.aload_n 0, 1) := by decide +kernel
theorem d_m_points_10 : decode c_m_points 10 = .ok (.iload_n 2, 1) := by decide +kernel
theorem d_m_points_11 : decode c_m_points 11 = .ok (.invokevirtual 187, 3) := by decide +kernel
theorem d_m_points_14 : decode c_m_points 14 = .ok (.ifCond .eq 7, 3) := by decide +kernel
theorem d_m_points_17 : decode c_m_points 17 = .ok (.iconst 0, 1) := by decide +kernel
theorem d_m_points_18 : decode c_m_points 18 = .ok (.goto 4, 3) := by decide +kernel
theorem d_m_points_21 : decode c_m_points 21 = .ok (.iconst 1, 1) := by decide +kernel
theorem d_m_points_22 : decode c_m_points 22 = .ok (.putfield 50, 3) := by decide +kernel
theorem d_m_points_25 : decode c_m_points 25 = .ok (.aload_n 0, 1) := by decide +kernel
theorem d_m_points_26 : decode c_m_points 26 = .ok (.getfield 50, 3) := by decide +kernel
theorem d_m_points_29 : decode c_m_points 29 = .ok (.ifCond .le 5, 3) := by decide +kernel
theorem d_m_points_32 : decode c_m_points 32 = .ok (.iconst 0, 1) := by decide +kernel
theorem d_m_points_33 : decode c_m_points 33 = .ok (.ireturn, 1) := by decide +kernel
theorem d_m_points_34 : decode c_m_points 34 = .ok (.aload_n 0, 1) := by decide +kernel
theorem d_m_points_35 : decode c_m_points 35 = .ok (.getfield 44, 3) := by decide +kernel
theorem d_m_points_38 : decode c_m_points 38 = .ok (.iload_n 1, 1) := by decide +kernel
theorem d_m_points_39 : decode c_m_points 39 = .ok (.iaload, 1) := by decide +kernel
theorem d_m_points_40 : decode c_m_points 40 = .ok (.aload_n 0, 1) := by decide +kernel
theorem d_m_points_41 : decode c_m_points 41 = .ok (.getfield 44, 3) := by decide +kernel
theorem d_m_points_44 : decode c_m_points 44 = .ok (.iload_n 2, 1) := by decide +kernel
theorem d_m_points_45 : decode c_m_points 45 = .ok (.iaload, 1) := by decide +kernel
theorem d_m_points_46 : decode c_m_points 46 = .ok (.isub, 1) := by decide +kernel
theorem d_m_points_47 : decode c_m_points 47 = .ok (.istore_n 3, 1) := by decide +kernel
theorem d_m_points_48 : decode c_m_points 48 = .ok (.iload_n 3, 1) := by decide +kernel
theorem d_m_points_49 : decode c_m_points 49 = .ok (.ifCond .ge 8, 3) := by decide +kernel
theorem d_m_points_52 : decode c_m_points 52 = .ok (.iload_n 3, 1) := by decide +kernel
theorem d_m_points_53 : decode c_m_points 53 = .ok (.ineg, 1) := by decide +kernel
theorem d_m_points_54 : decode c_m_points 54 = .ok (.goto 4, 3) := by decide +kernel
theorem d_m_points_57 : decode c_m_points 57 = .ok (.iload_n 3, 1) := by decide +kernel
theorem d_m_points_58 : decode c_m_points 58 = .ok (.istore 4, 2) := by decide +kernel
theorem d_m_points_60 : decode c_m_points 60 = .ok (.iconst 0, 1) := by decide +kernel
theorem d_m_points_61 : decode c_m_points 61 = .ok (.istore 5, 2) := by decide +kernel
theorem d_m_points_63 : decode c_m_points 63 = .ok (.iconst 0, 1) := by decide +kernel
theorem d_m_points_64 : decode c_m_points 64 = .ok (.istore 6, 2) := by decide +kernel
theorem d_m_points_66 : decode c_m_points 66 = .ok (.iload 6, 2) := by decide +kernel
theorem d_m_points_68 : decode c_m_points 68 = .ok (.bipush 19, 2) := by decide +kernel
theorem d_m_points_70 : decode c_m_points 70 = .ok (.if_icmp .ge 30, 3) := by decide +kernel
theorem d_m_points_73 : decode c_m_points 73 = .ok (.iload 6, 2) := by decide +kernel
theorem d_m_points_75 : decode c_m_points 75 = .ok (.invokestatic 190, 3) := by decide +kernel
theorem d_m_points_78 : decode c_m_points 78 = .ok (.iload 4, 2) := by decide +kernel
theorem d_m_points_80 : decode c_m_points 80 = .ok (.if_icmp .gt 10, 3) := by decide +kernel
theorem d_m_points_83 : decode c_m_points 83 = .ok (.iload 5, 2) := by decide +kernel
theorem d_m_points_85 : decode c_m_points 85 = .ok (.iconst 1, 1) := by decide +kernel
theorem d_m_points_86 : decode c_m_points 86 = .ok (.iadd, 1) := by decide +kernel
theorem d_m_points_87 : decode c_m_points 87 = .ok (.goto 5, 3) := by decide +kernel
theorem d_m_points_90 : decode c_m_points 90 = .ok (.iload 5, 2) := by decide +kernel
theorem d_m_points_92 : decode c_m_points 92 = .ok (.istore 5, 2) := by decide +kernel
theorem d_m_points_94 : decode c_m_points 94 = .ok (.iinc 6 1, 3) := by decide +kernel
theorem d_m_points_97 : decode c_m_points 97 = .ok (.goto (-31), 3) := by decide +kernel
theorem d_m_points_100 : decode c_m_points 100 = .ok (.iload_n 3, 1) := by decide +kernel
theorem d_m_points_101 : decode c_m_points 101 = .ok (.ifCond .ge 9, 3) := by decide +kernel
theorem d_m_points_104 : decode c_m_points 104 = .ok (.iload 5, 2) := by decide +kernel
theorem d_m_points_106 : decode c_m_points 106 = .ok (.ineg, 1) := by decide +kernel
theorem d_m_points_107 : decode c_m_points 107 = .ok (.goto 5, 3) := by decide +kernel
theorem d_m_points_110 : decode c_m_points 110 = .ok (.iload 5, 2) := by decide +kernel
theorem d_m_points_112 : decode c_m_points 112 = .ok (.ireturn, 1) := by decide +kernel
abbrev c_m_places : ByteArray := prog_9_method_46_code
def y_m_places : MethodName := ⟨"ShortBridgeModel", "places", "(I)I"⟩
theorem d_m_places_0 : decode c_m_places 0 = .ok (.aload_n 0, 1) := by decide +kernel
theorem d_m_places_1 : decode c_m_places 1 = .ok (.aload_n 0, 1) := by decide +kernel
theorem d_m_places_2 : decode c_m_places 2 = .ok (.iload_n 1, 1) := by decide +kernel
theorem d_m_places_3 : decode c_m_places 3 = .ok (.invokevirtual 187, 3) := by decide +kernel
theorem d_m_places_6 : decode c_m_places 6 = .ok (.ifCond .eq 7, 3) := by decide +kernel
theorem d_m_places_9 : decode c_m_places 9 = .ok (.iconst 0, 1) := by decide +kernel
theorem d_m_places_10 : decode c_m_places 10 = .ok (.goto 4, 3) := by decide +kernel
theorem d_m_places_13 : decode c_m_places 13 = .ok (.iconst 1, 1) := by decide +kernel
theorem d_m_places_14 : decode c_m_places 14 = .ok (.putfield 50, 3) := by decide +kernel
theorem d_m_places_17 : decode c_m_places 17 = .ok (.iconst 0, 1) := by decide +kernel
theorem d_m_places_18 : decode c_m_places 18 = .ok (.istore_n 2, 1) := by decide +kernel
theorem d_m_places_19 : decode c_m_places 19 = .ok (.iconst 0, 1) := by decide +kernel
theorem d_m_places_20 : decode c_m_places 20 = .ok (.istore_n 3, 1) := by decide +kernel
theorem d_m_places_21 : decode c_m_places 21 = .ok (.iload_n 3, 1) := by decide +kernel
theorem d_m_places_22 : decode c_m_places 22 = .ok (.aload_n 0, 1) := by decide +kernel
theorem d_m_places_23 : decode c_m_places 23 = .ok (.getfield 184, 3) := by decide +kernel
theorem d_m_places_26 : decode c_m_places 26 = .ok (.if_icmp .ge 81, 3) := by decide +kernel
theorem d_m_places_29 : decode c_m_places 29 = .ok (.aload_n 0, 1) := by decide +kernel
theorem d_m_places_30 : decode c_m_places 30 = .ok (.getfield 50, 3) := by decide +kernel
theorem d_m_places_33 : decode c_m_places 33 = .ok (.ifCond .ne 74, 3) := by decide +kernel
theorem d_m_places_36 : decode c_m_places 36 = .ok (.iload_n 3, 1) := by decide +kernel
theorem d_m_places_37 : decode c_m_places 37 = .ok (.iload_n 1, 1) := by decide +kernel
theorem d_m_places_38 : decode c_m_places 38 = .ok (.if_icmp .eq 63, 3) := by decide +kernel
theorem d_m_places_41 : decode c_m_places 41 = .ok (.aload_n 0, 1) := by decide +kernel
theorem d_m_places_42 : decode c_m_places 42 = .ok (.getfield 47, 3) := by decide +kernel
theorem d_m_places_45 : decode c_m_places 45 = .ok (.iload_n 3, 1) := by decide +kernel
theorem d_m_places_46 : decode c_m_places 46 = .ok (.laload, 1) := by decide +kernel
theorem d_m_places_47 : decode c_m_places 47 = .ok (.aload_n 0, 1) := by decide +kernel
theorem d_m_places_48 : decode c_m_places 48 = .ok (.getfield 47, 3) := by decide +kernel
theorem d_m_places_51 : decode c_m_places 51 = .ok (.iload_n 1, 1) := by decide +kernel
theorem d_m_places_52 : decode c_m_places 52 = .ok (.laload, 1) := by decide +kernel
theorem d_m_places_53 : decode c_m_places 53 = .ok (.lcmp, 1) := by decide +kernel
theorem d_m_places_54 : decode c_m_places 54 = .ok (.ifCond .ne 47, 3) := by decide +kernel
theorem d_m_places_57 : decode c_m_places 57 = .ok (.aload_n 0, 1) := by decide +kernel
theorem d_m_places_58 : decode c_m_places 58 = .ok (.getfield 44, 3) := by decide +kernel
theorem d_m_places_61 : decode c_m_places 61 = .ok (.iload_n 3, 1) := by decide +kernel
theorem d_m_places_62 : decode c_m_places 62 = .ok (.iaload, 1) := by decide +kernel
theorem d_m_places_63 : decode c_m_places 63 = .ok (.aload_n 0, 1) := by decide +kernel
theorem d_m_places_64 : decode c_m_places 64 = .ok (.getfield 44, 3) := by decide +kernel
theorem d_m_places_67 : decode c_m_places 67 = .ok (.iload_n 1, 1) := by decide +kernel
theorem d_m_places_68 : decode c_m_places 68 = .ok (.iaload, 1) := by decide +kernel
theorem d_m_places_69 : decode c_m_places 69 = .ok (.if_icmp .ge 9, 3) := by decide +kernel
theorem d_m_places_72 : decode c_m_places 72 = .ok (.iload_n 2, 1) := by decide +kernel
theorem d_m_places_73 : decode c_m_places 73 = .ok (.iconst 2, 1) := by decide +kernel
theorem d_m_places_74 : decode c_m_places 74 = .ok (.iadd, 1) := by decide +kernel
theorem d_m_places_75 : decode c_m_places 75 = .ok (.goto 25, 3) := by decide +kernel
theorem d_m_places_78 : decode c_m_places 78 = .ok (.aload_n 0, 1) := by decide +kernel
theorem d_m_places_79 : decode c_m_places 79 = .ok (.getfield 44, 3) := by decide +kernel
theorem d_m_places_82 : decode c_m_places 82 = .ok (.iload_n 3, 1) := by decide +kernel
theorem d_m_places_83 : decode c_m_places 83 = .ok (.iaload, 1) := by decide +kernel
theorem d_m_places_84 : decode c_m_places 84 = .ok (.aload_n 0, 1) := by decide +kernel
theorem d_m_places_85 : decode c_m_places 85 = .ok (.getfield 44, 3) := by decide +kernel
theorem d_m_places_88 : decode c_m_places 88 = .ok (.iload_n 1, 1) := by decide +kernel
theorem d_m_places_89 : decode c_m_places 89 = .ok (.iaload, 1) := by decide +kernel
theorem d_m_places_90 : decode c_m_places 90 = .ok (.if_icmp .ne 9, 3) := by decide +kernel
theorem d_m_places_93 : decode c_m_places 93 = .ok (.iload_n 2, 1) := by decide +kernel
theorem d_m_places_94 : decode c_m_places 94 = .ok (.iconst 1, 1) := by decide +kernel
theorem d_m_places_95 : decode c_m_places 95 = .ok (.iadd, 1) := by decide +kernel
theorem d_m_places_96 : decode c_m_places 96 = .ok (.goto 4, 3) := by decide +kernel
theorem d_m_places_99 : decode c_m_places 99 = .ok (.iload_n 2, 1) := by decide +kernel
theorem d_m_places_100 : decode c_m_places 100 = .ok (.istore_n 2, 1) := by decide +kernel
theorem d_m_places_101 : decode c_m_places 101 = .ok (.iinc 3 1, 3) := by decide +kernel
theorem d_m_places_104 : decode c_m_places 104 = .ok (.goto (-83), 3) := by decide +kernel
theorem d_m_places_107 : decode c_m_places 107 = .ok (.iload_n 2, 1) := by decide +kernel
theorem d_m_places_108 : decode c_m_places 108 = .ok (.ireturn, 1) := by decide +kernel
