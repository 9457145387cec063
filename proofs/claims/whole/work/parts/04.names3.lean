abbrev b_Mo_init : ByteArray := prog_9_method_1_code
abbrev y_Mo_init : MethodName := ⟨"SegmentIndexModel", "<init>", "()V"⟩
theorem d_Mo_init_0 : decode b_Mo_init 0 = .ok (.aload_n 0, 1) := by decide +kernel
theorem d_Mo_init_1 : decode b_Mo_init 1 = .ok (.invokespecial 1, 3) := by decide +kernel
theorem d_Mo_init_4 : decode b_Mo_init 4 = .ok (.aload_n 0, 1) := by decide +kernel
theorem d_Mo_init_5 : decode b_Mo_init 5 = .ok (.sipush 520, 3) := by decide +kernel
theorem d_Mo_init_8 : decode b_Mo_init 8 = .ok (.newarray .int, 2) := by decide +kernel
theorem d_Mo_init_10 : decode b_Mo_init 10 = .ok (.putfield 7, 3) := by decide +kernel
theorem d_Mo_init_13 : decode b_Mo_init 13 = .ok (.aload_n 0, 1) := by decide +kernel
theorem d_Mo_init_14 : decode b_Mo_init 14 = .ok (.sipush 520, 3) := by decide +kernel
theorem d_Mo_init_17 : decode b_Mo_init 17 = .ok (.newarray .int, 2) := by decide +kernel
theorem d_Mo_init_19 : decode b_Mo_init 19 = .ok (.putfield 13, 3) := by decide +kernel
theorem d_Mo_init_22 : decode b_Mo_init 22 = .ok (.aload_n 0, 1) := by decide +kernel
theorem d_Mo_init_23 : decode b_Mo_init 23 = .ok (.sipush 520, 3) := by decide +kernel
theorem d_Mo_init_26 : decode b_Mo_init 26 = .ok (.newarray .int, 2) := by decide +kernel
theorem d_Mo_init_28 : decode b_Mo_init 28 = .ok (.putfield 16, 3) := by decide +kernel
theorem d_Mo_init_31 : decode b_Mo_init 31 = .ok (.aload_n 0, 1) := by decide +kernel
theorem d_Mo_init_32 : decode b_Mo_init 32 = .ok (.sipush 520, 3) := by decide +kernel
theorem d_Mo_init_35 : decode b_Mo_init 35 = .ok (.newarray .int, 2) := by decide +kernel
theorem d_Mo_init_37 : decode b_Mo_init 37 = .ok (.putfield 19, 3) := by decide +kernel
theorem d_Mo_init_40 : decode b_Mo_init 40 = .ok (.aload_n 0, 1) := by decide +kernel
theorem d_Mo_init_41 : decode b_Mo_init 41 = .ok (.sipush 600, 3) := by decide +kernel
theorem d_Mo_init_44 : decode b_Mo_init 44 = .ok (.newarray .int, 2) := by decide +kernel
theorem d_Mo_init_46 : decode b_Mo_init 46 = .ok (.putfield 22, 3) := by decide +kernel
theorem d_Mo_init_49 : decode b_Mo_init 49 = .ok (.aload_n 0, 1) := by decide +kernel
theorem d_Mo_init_50 : decode b_Mo_init 50 = .ok (.sipush 600, 3) := by decide +kernel
theorem d_Mo_init_53 : decode b_Mo_init 53 = .ok (.newarray .boolean, 2) := by decide +kernel
theorem d_Mo_init_55 : decode b_Mo_init 55 = .ok (.putfield 25, 3) := by decide +kernel
theorem d_Mo_init_58 : decode b_Mo_init 58 = .ok (.aload_n 0, 1) := by decide +kernel
theorem d_Mo_init_59 : decode b_Mo_init 59 = .ok (.bipush 64, 2) := by decide +kernel
theorem d_Mo_init_61 : decode b_Mo_init 61 = .ok (.newarray .int, 2) := by decide +kernel
theorem d_Mo_init_63 : decode b_Mo_init 63 = .ok (.putfield 29, 3) := by decide +kernel
theorem d_Mo_init_66 : decode b_Mo_init 66 = .ok (.aload_n 0, 1) := by decide +kernel
theorem d_Mo_init_67 : decode b_Mo_init 67 = .ok (.sipush 4680, 3) := by decide +kernel
theorem d_Mo_init_70 : decode b_Mo_init 70 = .ok (.newarray .int, 2) := by decide +kernel
theorem d_Mo_init_72 : decode b_Mo_init 72 = .ok (.putfield 32, 3) := by decide +kernel
theorem d_Mo_init_75 : decode b_Mo_init 75 = .ok (.aload_n 0, 1) := by decide +kernel
theorem d_Mo_init_76 : decode b_Mo_init 76 = .ok (.bipush 9, 2) := by decide +kernel
theorem d_Mo_init_78 : decode b_Mo_init 78 = .ok (.newarray .int, 2) := by decide +kernel
theorem d_Mo_init_80 : decode b_Mo_init 80 = .ok (.putfield 35, 3) := by decide +kernel
theorem d_Mo_init_83 : decode b_Mo_init 83 = .ok (.return_, 1) := by decide +kernel
abbrev b_Mo_thrown : ByteArray := prog_9_method_2_code
abbrev y_Mo_thrown : MethodName := ⟨"SegmentIndexModel", "thrown", "()I"⟩
theorem d_Mo_thrown_0 : decode b_Mo_thrown 0 = .ok (.aload_n 0, 1) := by decide +kernel
theorem d_Mo_thrown_1 : decode b_Mo_thrown 1 = .ok (.getfield 38, 3) := by decide +kernel
theorem d_Mo_thrown_4 : decode b_Mo_thrown 4 = .ok (.ireturn, 1) := by decide +kernel
abbrev b_Mo_token : ByteArray := prog_9_method_3_code
abbrev y_Mo_token : MethodName := ⟨"SegmentIndexModel", "token", "(IIII)I"⟩
theorem d_Mo_token_0 : decode b_Mo_token 0 = .ok (.aload_n 0, 1) := by decide +kernel
theorem d_Mo_token_1 : decode b_Mo_token 1 = .ok (.iconst 0, 1) := by decide +kernel
theorem d_Mo_token_2 : decode b_Mo_token 2 = .ok (.putfield 38, 3) := by decide +kernel
theorem d_Mo_token_5 : decode b_Mo_token 5 = .ok (.iload_n 1, 1) := by decide +kernel
theorem d_Mo_token_6 : decode b_Mo_token 6 = .ok (.ifCond .lt 19, 3) := by decide +kernel
theorem d_Mo_token_9 : decode b_Mo_token 9 = .ok (.iload_n 1, 1) := by decide +kernel
theorem d_Mo_token_10 : decode b_Mo_token 10 = .ok (.iconst 3, 1) := by decide +kernel
theorem d_Mo_token_11 : decode b_Mo_token 11 = .ok (.if_icmp .gt 14, 3) := by decide +kernel
theorem d_Mo_token_14 : decode b_Mo_token 14 = .ok (.iload_n 2, 1) := by decide +kernel
theorem d_Mo_token_15 : decode b_Mo_token 15 = .ok (.ifCond .lt 10, 3) := by decide +kernel
theorem d_Mo_token_18 : decode b_Mo_token 18 = .ok (.iload_n 2, 1) := by decide +kernel
theorem d_Mo_token_19 : decode b_Mo_token 19 = .ok (.sipush 4095, 3) := by decide +kernel
theorem d_Mo_token_22 : decode b_Mo_token 22 = .ok (.if_icmp .le 10, 3) := by decide +kernel
theorem d_Mo_token_25 : decode b_Mo_token 25 = .ok (.aload_n 0, 1) := by decide +kernel
theorem d_Mo_token_26 : decode b_Mo_token 26 = .ok (.iconst 1, 1) := by decide +kernel
theorem d_Mo_token_27 : decode b_Mo_token 27 = .ok (.putfield 38, 3) := by decide +kernel
theorem d_Mo_token_30 : decode b_Mo_token 30 = .ok (.iconst 0, 1) := by decide +kernel
theorem d_Mo_token_31 : decode b_Mo_token 31 = .ok (.ireturn, 1) := by decide +kernel
theorem d_Mo_token_32 : decode b_Mo_token 32 = .ok (.sipush 4096, 3) := by decide +kernel
theorem d_Mo_token_35 : decode b_Mo_token 35 = .ok (.iload_n 1, 1) := by decide +kernel
theorem d_Mo_token_36 : decode b_Mo_token 36 = .ok (.imul, 1) := by decide +kernel
theorem d_Mo_token_37 : decode b_Mo_token 37 = .ok (.iload_n 2, 1) := by decide +kernel
theorem d_Mo_token_38 : decode b_Mo_token 38 = .ok (.iadd, 1) := by decide +kernel
theorem d_Mo_token_39 : decode b_Mo_token 39 = .ok (.istore 5, 2) := by decide +kernel
theorem d_Mo_token_41 : decode b_Mo_token 41 = .ok (.aload_n 0, 1) := by decide +kernel
theorem d_Mo_token_42 : decode b_Mo_token 42 = .ok (.getfield 42, 3) := by decide +kernel
theorem d_Mo_token_45 : decode b_Mo_token 45 = .ok (.istore 6, 2) := by decide +kernel
theorem d_Mo_token_47 : decode b_Mo_token 47 = .ok (.iload 6, 2) := by decide +kernel
theorem d_Mo_token_49 : decode b_Mo_token 49 = .ok (.aload_n 0, 1) := by decide +kernel
theorem d_Mo_token_50 : decode b_Mo_token 50 = .ok (.getfield 45, 3) := by decide +kernel
theorem d_Mo_token_53 : decode b_Mo_token 53 = .ok (.if_icmp .ge 54, 3) := by decide +kernel
theorem d_Mo_token_56 : decode b_Mo_token 56 = .ok (.aload_n 0, 1) := by decide +kernel
theorem d_Mo_token_57 : decode b_Mo_token 57 = .ok (.getfield 13, 3) := by decide +kernel
theorem d_Mo_token_60 : decode b_Mo_token 60 = .ok (.iload 6, 2) := by decide +kernel
theorem d_Mo_token_62 : decode b_Mo_token 62 = .ok (.iaload, 1) := by decide +kernel
theorem d_Mo_token_63 : decode b_Mo_token 63 = .ok (.iload 5, 2) := by decide +kernel
theorem d_Mo_token_65 : decode b_Mo_token 65 = .ok (.if_icmp .ne 36, 3) := by decide +kernel
theorem d_Mo_token_68 : decode b_Mo_token 68 = .ok (.aload_n 0, 1) := by decide +kernel
theorem d_Mo_token_69 : decode b_Mo_token 69 = .ok (.getfield 16, 3) := by decide +kernel
theorem d_Mo_token_72 : decode b_Mo_token 72 = .ok (.iload 6, 2) := by decide +kernel
theorem d_Mo_token_74 : decode b_Mo_token 74 = .ok (.iaload, 1) := by decide +kernel
theorem d_Mo_token_75 : decode b_Mo_token 75 = .ok (.iload_n 3, 1) := by decide +kernel
theorem d_Mo_token_76 : decode b_Mo_token 76 = .ok (.if_icmp .ne 25, 3) := by decide +kernel
theorem d_Mo_token_79 : decode b_Mo_token 79 = .ok (.aload_n 0, 1) := by decide +kernel
theorem d_Mo_token_80 : decode b_Mo_token 80 = .ok (.getfield 19, 3) := by decide +kernel
theorem d_Mo_token_83 : decode b_Mo_token 83 = .ok (.iload 6, 2) := by decide +kernel
theorem d_Mo_token_85 : decode b_Mo_token 85 = .ok (.iaload, 1) := by decide +kernel
theorem d_Mo_token_86 : decode b_Mo_token 86 = .ok (.iload 4, 2) := by decide +kernel
theorem d_Mo_token_88 : decode b_Mo_token 88 = .ok (.if_icmp .ne 13, 3) := by decide +kernel
theorem d_Mo_token_91 : decode b_Mo_token 91 = .ok (.aload_n 0, 1) := by decide +kernel
theorem d_Mo_token_92 : decode b_Mo_token 92 = .ok (.getfield 45, 3) := by decide +kernel
theorem d_Mo_token_95 : decode b_Mo_token 95 = .ok (.aload_n 0, 1) := by decide +kernel
theorem d_Mo_token_96 : decode b_Mo_token 96 = .ok (.getfield 42, 3) := by decide +kernel
theorem d_Mo_token_99 : decode b_Mo_token 99 = .ok (.isub, 1) := by decide +kernel
theorem d_Mo_token_100 : decode b_Mo_token 100 = .ok (.ireturn, 1) := by decide +kernel
theorem d_Mo_token_101 : decode b_Mo_token 101 = .ok (.iinc 6 1, 3) := by decide +kernel
theorem d_Mo_token_104 : decode b_Mo_token 104 = .ok (.goto (-57), 3) := by decide +kernel
theorem d_Mo_token_107 : decode b_Mo_token 107 = .ok (.aload_n 0, 1) := by decide +kernel
theorem d_Mo_token_108 : decode b_Mo_token 108 = .ok (.getfield 45, 3) := by decide +kernel
theorem d_Mo_token_111 : decode b_Mo_token 111 = .ok (.aload_n 0, 1) := by decide +kernel
theorem d_Mo_token_112 : decode b_Mo_token 112 = .ok (.getfield 42, 3) := by decide +kernel
theorem d_Mo_token_115 : decode b_Mo_token 115 = .ok (.isub, 1) := by decide +kernel
theorem d_Mo_token_116 : decode b_Mo_token 116 = .ok (.bipush 120, 2) := by decide +kernel
theorem d_Mo_token_118 : decode b_Mo_token 118 = .ok (.if_icmp .lt 10, 3) := by decide +kernel
theorem d_Mo_token_121 : decode b_Mo_token 121 = .ok (.aload_n 0, 1) := by decide +kernel
theorem d_Mo_token_122 : decode b_Mo_token 122 = .ok (.iconst 2, 1) := by decide +kernel
theorem d_Mo_token_123 : decode b_Mo_token 123 = .ok (.putfield 38, 3) := by decide +kernel
theorem d_Mo_token_126 : decode b_Mo_token 126 = .ok (.iconst 0, 1) := by decide +kernel
theorem d_Mo_token_127 : decode b_Mo_token 127 = .ok (.ireturn, 1) := by decide +kernel
theorem d_Mo_token_128 : decode b_Mo_token 128 = .ok (.aload_n 0, 1) := by decide +kernel
theorem d_Mo_token_129 : decode b_Mo_token 129 = .ok (.getfield 7, 3) := by decide +kernel
theorem d_Mo_token_132 : decode b_Mo_token 132 = .ok (.aload_n 0, 1) := by decide +kernel
theorem d_Mo_token_133 : decode b_Mo_token 133 = .ok (.getfield 45, 3) := by decide +kernel
theorem d_Mo_token_136 : decode b_Mo_token 136 = .ok (.aload_n 0, 1) := by decide +kernel
theorem d_Mo_token_137 : decode b_Mo_token 137 = .ok (.getfield 48, 3) := by decide +kernel
theorem d_Mo_token_140 : decode b_Mo_token 140 = .ok (.iastore, 1) := by decide +kernel
theorem d_Mo_token_141 : decode b_Mo_token 141 = .ok (.aload_n 0, 1) := by decide +kernel
theorem d_Mo_token_142 : decode b_Mo_token 142 = .ok (.getfield 13, 3) := by decide +kernel
theorem d_Mo_token_145 : decode b_Mo_token 145 = .ok (.aload_n 0, 1) := by decide +kernel
theorem d_Mo_token_146 : decode b_Mo_token 146 = .ok (.getfield 45, 3) := by decide +kernel
theorem d_Mo_token_149 : decode b_Mo_token 149 = .ok (.iload 5, 2) := by decide +kernel
theorem d_Mo_token_151 : decode b_Mo_token 151 = .ok (.iastore, 1) := by decide +kernel
theorem d_Mo_token_152 : decode b_Mo_token 152 = .ok (.aload_n 0, 1) := by decide +kernel
theorem d_Mo_token_153 : decode b_Mo_token 153 = .ok (.getfield 16, 3) := by decide +kernel
theorem d_Mo_token_156 : decode b_Mo_token 156 = .ok (.aload_n 0, 1) := by decide +kernel
theorem d_Mo_token_157 : decode b_Mo_token 157 = .ok (.getfield 45, 3) := by decide +kernel
theorem d_Mo_token_160 : decode b_Mo_token 160 = .ok (.iload_n 3, 1) := by decide +kernel
theorem d_Mo_token_161 : decode b_Mo_token 161 = .ok (.iastore, 1) := by decide +kernel
theorem d_Mo_token_162 : decode b_Mo_token 162 = .ok (.aload_n 0, 1) := by decide +kernel
theorem d_Mo_token_163 : decode b_Mo_token 163 = .ok (.getfield 19, 3) := by decide +kernel
theorem d_Mo_token_166 : decode b_Mo_token 166 = .ok (.aload_n 0, 1) := by decide +kernel
theorem d_Mo_token_167 : decode b_Mo_token 167 = .ok (.getfield 45, 3) := by decide +kernel
theorem d_Mo_token_170 : decode b_Mo_token 170 = .ok (.iload 4, 2) := by decide +kernel
theorem d_Mo_token_172 : decode b_Mo_token 172 = .ok (.iastore, 1) := by decide +kernel
theorem d_Mo_token_173 : decode b_Mo_token 173 = .ok (.aload_n 0, 1) := by decide +kernel
theorem d_Mo_token_174 : decode b_Mo_token 174 = .ok (.dup, 1) := by decide +kernel
theorem d_Mo_token_175 : decode b_Mo_token 175 = .ok (.getfield 45, 3) := by decide +kernel
theorem d_Mo_token_178 : decode b_Mo_token 178 = .ok (.iconst 1, 1) := by decide +kernel
theorem d_Mo_token_179 : decode b_Mo_token 179 = .ok (.iadd, 1) := by decide +kernel
theorem d_Mo_token_180 : decode b_Mo_token 180 = .ok (.putfield 45, 3) := by decide +kernel
theorem d_Mo_token_183 : decode b_Mo_token 183 = .ok (.aload_n 0, 1) := by decide +kernel
theorem d_Mo_token_184 : decode b_Mo_token 184 = .ok (.getfield 45, 3) := by decide +kernel
theorem d_Mo_token_187 : decode b_Mo_token 187 = .ok (.aload_n 0, 1) := by decide +kernel
theorem d_Mo_token_188 : decode b_Mo_token 188 = .ok (.getfield 42, 3) := by decide +kernel
theorem d_Mo_token_191 : decode b_Mo_token 191 = .ok (.isub, 1) := by decide +kernel
theorem d_Mo_token_192 : decode b_Mo_token 192 = .ok (.ireturn, 1) := by decide +kernel
abbrev b_Mo_add : ByteArray := prog_9_method_4_code
abbrev y_Mo_add : MethodName := ⟨"SegmentIndexModel", "add", "()I"⟩
theorem d_Mo_add_0 : decode b_Mo_add 0 = .ok (.aload_n 0, 1) := by decide +kernel
theorem d_Mo_add_1 : decode b_Mo_add 1 = .ok (.iconst 0, 1) := by decide +kernel
theorem d_Mo_add_2 : decode b_Mo_add 2 = .ok (.putfield 38, 3) := by decide +kernel
theorem d_Mo_add_5 : decode b_Mo_add 5 = .ok (.aload_n 0, 1) := by decide +kernel
theorem d_Mo_add_6 : decode b_Mo_add 6 = .ok (.getfield 48, 3) := by decide +kernel
theorem d_Mo_add_9 : decode b_Mo_add 9 = .ok (.sipush 600, 3) := by decide +kernel
theorem d_Mo_add_12 : decode b_Mo_add 12 = .ok (.if_icmp .lt 10, 3) := by decide +kernel
theorem d_Mo_add_15 : decode b_Mo_add 15 = .ok (.aload_n 0, 1) := by decide +kernel
theorem d_Mo_add_16 : decode b_Mo_add 16 = .ok (.iconst 1, 1) := by decide +kernel
theorem d_Mo_add_17 : decode b_Mo_add 17 = .ok (.putfield 38, 3) := by decide +kernel
theorem d_Mo_add_20 : decode b_Mo_add 20 = .ok (.iconst 0, 1) := by decide +kernel
theorem d_Mo_add_21 : decode b_Mo_add 21 = .ok (.ireturn, 1) := by decide +kernel
theorem d_Mo_add_22 : decode b_Mo_add 22 = .ok (.aload_n 0, 1) := by decide +kernel
theorem d_Mo_add_23 : decode b_Mo_add 23 = .ok (.getfield 22, 3) := by decide +kernel
theorem d_Mo_add_26 : decode b_Mo_add 26 = .ok (.aload_n 0, 1) := by decide +kernel
theorem d_Mo_add_27 : decode b_Mo_add 27 = .ok (.getfield 48, 3) := by decide +kernel
theorem d_Mo_add_30 : decode b_Mo_add 30 = .ok (.iconst (-1), 1) := by decide +kernel
theorem d_Mo_add_31 : decode b_Mo_add 31 = .ok (.iastore, 1) := by decide +kernel
theorem d_Mo_add_32 : decode b_Mo_add 32 = .ok (.aload_n 0, 1) := by decide +kernel
theorem d_Mo_add_33 : decode b_Mo_add 33 = .ok (.dup, 1) := by decide +kernel
theorem d_Mo_add_34 : decode b_Mo_add 34 = .ok (.getfield 48, 3) := by decide +kernel
theorem d_Mo_add_37 : decode b_Mo_add 37 = .ok (.iconst 1, 1) := by decide +kernel
theorem d_Mo_add_38 : decode b_Mo_add 38 = .ok (.iadd, 1) := by decide +kernel
theorem d_Mo_add_39 : decode b_Mo_add 39 = .ok (.putfield 48, 3) := by decide +kernel
theorem d_Mo_add_42 : decode b_Mo_add 42 = .ok (.aload_n 0, 1) := by decide +kernel
theorem d_Mo_add_43 : decode b_Mo_add 43 = .ok (.aload_n 0, 1) := by decide +kernel
theorem d_Mo_add_44 : decode b_Mo_add 44 = .ok (.getfield 45, 3) := by decide +kernel
theorem d_Mo_add_47 : decode b_Mo_add 47 = .ok (.putfield 42, 3) := by decide +kernel
theorem d_Mo_add_50 : decode b_Mo_add 50 = .ok (.aload_n 0, 1) := by decide +kernel
theorem d_Mo_add_51 : decode b_Mo_add 51 = .ok (.iconst (-1), 1) := by decide +kernel
theorem d_Mo_add_52 : decode b_Mo_add 52 = .ok (.invokevirtual 51, 3) := by decide +kernel
theorem d_Mo_add_55 : decode b_Mo_add 55 = .ok (.bipush 12, 2) := by decide +kernel
theorem d_Mo_add_57 : decode b_Mo_add 57 = .ok (.if_icmp .lt 7, 3) := by decide +kernel
theorem d_Mo_add_60 : decode b_Mo_add 60 = .ok (.aload_n 0, 1) := by decide +kernel
theorem d_Mo_add_61 : decode b_Mo_add 61 = .ok (.invokevirtual 55, 3) := by decide +kernel
theorem d_Mo_add_64 : decode b_Mo_add 64 = .ok (.aload_n 0, 1) := by decide +kernel
theorem d_Mo_add_65 : decode b_Mo_add 65 = .ok (.getfield 48, 3) := by decide +kernel
theorem d_Mo_add_68 : decode b_Mo_add 68 = .ok (.iconst 1, 1) := by decide +kernel
theorem d_Mo_add_69 : decode b_Mo_add 69 = .ok (.isub, 1) := by decide +kernel
theorem d_Mo_add_70 : decode b_Mo_add 70 = .ok (.ireturn, 1) := by decide +kernel
abbrev b_Mo_inside : ByteArray := prog_9_method_6_code
abbrev y_Mo_inside : MethodName := ⟨"SegmentIndexModel", "inside", "(I)I"⟩
theorem d_Mo_inside_0 : decode b_Mo_inside 0 = .ok (.iconst 0, 1) := by decide +kernel
theorem d_Mo_inside_1 : decode b_Mo_inside 1 = .ok (.istore_n 2, 1) := by decide +kernel
theorem d_Mo_inside_2 : decode b_Mo_inside 2 = .ok (.iconst 0, 1) := by decide +kernel
theorem d_Mo_inside_3 : decode b_Mo_inside 3 = .ok (.istore_n 3, 1) := by decide +kernel
theorem d_Mo_inside_4 : decode b_Mo_inside 4 = .ok (.iload_n 3, 1) := by decide +kernel
theorem d_Mo_inside_5 : decode b_Mo_inside 5 = .ok (.aload_n 0, 1) := by decide +kernel
theorem d_Mo_inside_6 : decode b_Mo_inside 6 = .ok (.getfield 48, 3) := by decide +kernel
theorem d_Mo_inside_9 : decode b_Mo_inside 9 = .ok (.if_icmp .ge 22, 3) := by decide +kernel
theorem d_Mo_inside_12 : decode b_Mo_inside 12 = .ok (.aload_n 0, 1) := by decide +kernel
theorem d_Mo_inside_13 : decode b_Mo_inside 13 = .ok (.getfield 22, 3) := by decide +kernel
theorem d_Mo_inside_16 : decode b_Mo_inside 16 = .ok (.iload_n 3, 1) := by decide +kernel
theorem d_Mo_inside_17 : decode b_Mo_inside 17 = .ok (.iaload, 1) := by decide +kernel
theorem d_Mo_inside_18 : decode b_Mo_inside 18 = .ok (.iload_n 1, 1) := by decide +kernel
theorem d_Mo_inside_19 : decode b_Mo_inside 19 = .ok (.if_icmp .ne 6, 3) := by decide +kernel
theorem d_Mo_inside_22 : decode b_Mo_inside 22 = .ok (.iinc 2 1, 3) := by decide +kernel
theorem d_Mo_inside_25 : decode b_Mo_inside 25 = .ok (.iinc 3 1, 3) := by decide +kernel
theorem d_Mo_inside_28 : decode b_Mo_inside 28 = .ok (.goto (-24), 3) := by decide +kernel
theorem d_Mo_inside_31 : decode b_Mo_inside 31 = .ok (.iload_n 2, 1) := by decide +kernel
theorem d_Mo_inside_32 : decode b_Mo_inside 32 = .ok (.ireturn, 1) := by decide +kernel
abbrev b_Mo_settle : ByteArray := prog_9_method_9_code
abbrev y_Mo_settle : MethodName := ⟨"SegmentIndexModel", "settle", "()V"⟩
theorem d_Mo_settle_0 : decode b_Mo_settle 0 = .ok (.aload_n 0, 1) := by decide +kernel
theorem d_Mo_settle_1 : decode b_Mo_settle 1 = .ok (.iconst (-1), 1) := by decide +kernel
theorem d_Mo_settle_2 : decode b_Mo_settle 2 = .ok (.invokevirtual 51, 3) := by decide +kernel
theorem d_Mo_settle_5 : decode b_Mo_settle 5 = .ok (.ifCond .le 59, 3) := by decide +kernel
theorem d_Mo_settle_8 : decode b_Mo_settle 8 = .ok (.iconst 0, 1) := by decide +kernel
theorem d_Mo_settle_9 : decode b_Mo_settle 9 = .ok (.istore_n 1, 1) := by decide +kernel
theorem d_Mo_settle_10 : decode b_Mo_settle 10 = .ok (.iload_n 1, 1) := by decide +kernel
theorem d_Mo_settle_11 : decode b_Mo_settle 11 = .ok (.aload_n 0, 1) := by decide +kernel
theorem d_Mo_settle_12 : decode b_Mo_settle 12 = .ok (.getfield 48, 3) := by decide +kernel
theorem d_Mo_settle_15 : decode b_Mo_settle 15 = .ok (.if_icmp .ge 29, 3) := by decide +kernel
theorem d_Mo_settle_18 : decode b_Mo_settle 18 = .ok (.aload_n 0, 1) := by decide +kernel
theorem d_Mo_settle_19 : decode b_Mo_settle 19 = .ok (.getfield 22, 3) := by decide +kernel
theorem d_Mo_settle_22 : decode b_Mo_settle 22 = .ok (.iload_n 1, 1) := by decide +kernel
theorem d_Mo_settle_23 : decode b_Mo_settle 23 = .ok (.iaload, 1) := by decide +kernel
theorem d_Mo_settle_24 : decode b_Mo_settle 24 = .ok (.iconst (-1), 1) := by decide +kernel
theorem d_Mo_settle_25 : decode b_Mo_settle 25 = .ok (.if_icmp .ne 13, 3) := by decide +kernel
theorem d_Mo_settle_28 : decode b_Mo_settle 28 = .ok (.aload_n 0, 1) := by decide +kernel
theorem d_Mo_settle_29 : decode b_Mo_settle 29 = .ok (.getfield 22, 3) := by decide +kernel
theorem d_Mo_settle_32 : decode b_Mo_settle 32 = .ok (.iload_n 1, 1) := by decide +kernel
theorem d_Mo_settle_33 : decode b_Mo_settle 33 = .ok (.aload_n 0, 1) := by decide +kernel
theorem d_Mo_settle_34 : decode b_Mo_settle 34 = .ok (.getfield 58, 3) := by decide +kernel
theorem d_Mo_settle_37 : decode b_Mo_settle 37 = .ok (.iastore, 1) := by decide +kernel
theorem d_Mo_settle_38 : decode b_Mo_settle 38 = .ok (.iinc 1 1, 3) := by decide +kernel
theorem d_Mo_settle_41 : decode b_Mo_settle 41 = .ok (.goto (-31), 3) := by decide +kernel
theorem d_Mo_settle_44 : decode b_Mo_settle 44 = .ok (.aload_n 0, 1) := by decide +kernel
theorem d_Mo_settle_45 : decode b_Mo_settle 45 = .ok (.getfield 29, 3) := by decide +kernel
theorem d_Mo_settle_48 : decode b_Mo_settle 48 = .ok (.aload_n 0, 1) := by decide +kernel
theorem d_Mo_settle_49 : decode b_Mo_settle 49 = .ok (.getfield 58, 3) := by decide +kernel
theorem d_Mo_settle_52 : decode b_Mo_settle 52 = .ok (.iconst 0, 1) := by decide +kernel
theorem d_Mo_settle_53 : decode b_Mo_settle 53 = .ok (.iastore, 1) := by decide +kernel
theorem d_Mo_settle_54 : decode b_Mo_settle 54 = .ok (.aload_n 0, 1) := by decide +kernel
theorem d_Mo_settle_55 : decode b_Mo_settle 55 = .ok (.dup, 1) := by decide +kernel
theorem d_Mo_settle_56 : decode b_Mo_settle 56 = .ok (.getfield 58, 3) := by decide +kernel
theorem d_Mo_settle_59 : decode b_Mo_settle 59 = .ok (.iconst 1, 1) := by decide +kernel
theorem d_Mo_settle_60 : decode b_Mo_settle 60 = .ok (.iadd, 1) := by decide +kernel
theorem d_Mo_settle_61 : decode b_Mo_settle 61 = .ok (.putfield 58, 3) := by decide +kernel
theorem d_Mo_settle_64 : decode b_Mo_settle 64 = .ok (.aload_n 0, 1) := by decide +kernel
theorem d_Mo_settle_65 : decode b_Mo_settle 65 = .ok (.invokevirtual 61, 3) := by decide +kernel
theorem d_Mo_settle_68 : decode b_Mo_settle 68 = .ok (.ifCond .eq 54, 3) := by decide +kernel
theorem d_Mo_settle_71 : decode b_Mo_settle 71 = .ok (.aload_n 0, 1) := by decide +kernel
theorem d_Mo_settle_72 : decode b_Mo_settle 72 = .ok (.dup, 1) := by decide +kernel
theorem d_Mo_settle_73 : decode b_Mo_settle 73 = .ok (.getfield 58, 3) := by decide +kernel
theorem d_Mo_settle_76 : decode b_Mo_settle 76 = .ok (.iconst 4, 1) := by decide +kernel
theorem d_Mo_settle_77 : decode b_Mo_settle 77 = .ok (.isub, 1) := by decide +kernel
theorem d_Mo_settle_78 : decode b_Mo_settle 78 = .ok (.putfield 58, 3) := by decide +kernel
theorem d_Mo_settle_81 : decode b_Mo_settle 81 = .ok (.aload_n 0, 1) := by decide +kernel
theorem d_Mo_settle_82 : decode b_Mo_settle 82 = .ok (.aload_n 0, 1) := by decide +kernel
theorem d_Mo_settle_83 : decode b_Mo_settle 83 = .ok (.getfield 58, 3) := by decide +kernel
theorem d_Mo_settle_86 : decode b_Mo_settle 86 = .ok (.iconst 0, 1) := by decide +kernel
theorem d_Mo_settle_87 : decode b_Mo_settle 87 = .ok (.invokevirtual 65, 3) := by decide +kernel
theorem d_Mo_settle_90 : decode b_Mo_settle 90 = .ok (.ifCond .ne 6, 3) := by decide +kernel
theorem d_Mo_settle_93 : decode b_Mo_settle 93 = .ok (.goto (-29), 3) := by decide +kernel
theorem d_Mo_settle_96 : decode b_Mo_settle 96 = .ok (.aload_n 0, 1) := by decide +kernel
theorem d_Mo_settle_97 : decode b_Mo_settle 97 = .ok (.getfield 29, 3) := by decide +kernel
theorem d_Mo_settle_100 : decode b_Mo_settle 100 = .ok (.aload_n 0, 1) := by decide +kernel
theorem d_Mo_settle_101 : decode b_Mo_settle 101 = .ok (.getfield 58, 3) := by decide +kernel
theorem d_Mo_settle_104 : decode b_Mo_settle 104 = .ok (.dup2, 1) := by decide +kernel
theorem d_Mo_settle_105 : decode b_Mo_settle 105 = .ok (.iaload, 1) := by decide +kernel
theorem d_Mo_settle_106 : decode b_Mo_settle 106 = .ok (.iconst 1, 1) := by decide +kernel
theorem d_Mo_settle_107 : decode b_Mo_settle 107 = .ok (.iadd, 1) := by decide +kernel
theorem d_Mo_settle_108 : decode b_Mo_settle 108 = .ok (.iastore, 1) := by decide +kernel
theorem d_Mo_settle_109 : decode b_Mo_settle 109 = .ok (.aload_n 0, 1) := by decide +kernel
theorem d_Mo_settle_110 : decode b_Mo_settle 110 = .ok (.dup, 1) := by decide +kernel
theorem d_Mo_settle_111 : decode b_Mo_settle 111 = .ok (.getfield 58, 3) := by decide +kernel
theorem d_Mo_settle_114 : decode b_Mo_settle 114 = .ok (.iconst 1, 1) := by decide +kernel
theorem d_Mo_settle_115 : decode b_Mo_settle 115 = .ok (.iadd, 1) := by decide +kernel
theorem d_Mo_settle_116 : decode b_Mo_settle 116 = .ok (.putfield 58, 3) := by decide +kernel
theorem d_Mo_settle_119 : decode b_Mo_settle 119 = .ok (.goto (-55), 3) := by decide +kernel
theorem d_Mo_settle_122 : decode b_Mo_settle 122 = .ok (.return_, 1) := by decide +kernel
abbrev b_Mo_fourAlike : ByteArray := prog_9_method_8_code
abbrev y_Mo_fourAlike : MethodName := ⟨"SegmentIndexModel", "fourAlike", "()Z"⟩
theorem d_Mo_fourAlike_0 : decode b_Mo_fourAlike 0 = .ok (.aload_n 0, 1) := by decide +kernel
theorem d_Mo_fourAlike_1 : decode b_Mo_fourAlike 1 = .ok (.getfield 58, 3) := by decide +kernel
theorem d_Mo_fourAlike_4 : decode b_Mo_fourAlike 4 = .ok (.iconst 4, 1) := by decide +kernel
theorem d_Mo_fourAlike_5 : decode b_Mo_fourAlike 5 = .ok (.if_icmp .lt 82, 3) := by decide +kernel
theorem d_Mo_fourAlike_8 : decode b_Mo_fourAlike 8 = .ok (.aload_n 0, 1) := by decide +kernel
theorem d_Mo_fourAlike_9 : decode b_Mo_fourAlike 9 = .ok (.getfield 29, 3) := by decide +kernel
theorem d_Mo_fourAlike_12 : decode b_Mo_fourAlike 12 = .ok (.aload_n 0, 1) := by decide +kernel
theorem d_Mo_fourAlike_13 : decode b_Mo_fourAlike 13 = .ok (.getfield 58, 3) := by decide +kernel
theorem d_Mo_fourAlike_16 : decode b_Mo_fourAlike 16 = .ok (.iconst 1, 1) := by decide +kernel
theorem d_Mo_fourAlike_17 : decode b_Mo_fourAlike 17 = .ok (.isub, 1) := by decide +kernel
theorem d_Mo_fourAlike_18 : decode b_Mo_fourAlike 18 = .ok (.iaload, 1) := by decide +kernel
theorem d_Mo_fourAlike_19 : decode b_Mo_fourAlike 19 = .ok (.aload_n 0, 1) := by decide +kernel
theorem d_Mo_fourAlike_20 : decode b_Mo_fourAlike 20 = .ok (.getfield 29, 3) := by decide +kernel
theorem d_Mo_fourAlike_23 : decode b_Mo_fourAlike 23 = .ok (.aload_n 0, 1) := by decide +kernel
theorem d_Mo_fourAlike_24 : decode b_Mo_fourAlike 24 = .ok (.getfield 58, 3) := by decide +kernel
theorem d_Mo_fourAlike_27 : decode b_Mo_fourAlike 27 = .ok (.iconst 2, 1) := by decide +kernel
theorem d_Mo_fourAlike_28 : decode b_Mo_fourAlike 28 = .ok (.isub, 1) := by decide +kernel
theorem d_Mo_fourAlike_29 : decode b_Mo_fourAlike 29 = .ok (.iaload, 1) := by decide +kernel
theorem d_Mo_fourAlike_30 : decode b_Mo_fourAlike 30 = .ok (.if_icmp .ne 57, 3) := by decide +kernel
theorem d_Mo_fourAlike_33 : decode b_Mo_fourAlike 33 = .ok (.aload_n 0, 1) := by decide +kernel
theorem d_Mo_fourAlike_34 : decode b_Mo_fourAlike 34 = .ok (.getfield 29, 3) := by decide +kernel
theorem d_Mo_fourAlike_37 : decode b_Mo_fourAlike 37 = .ok (.aload_n 0, 1) := by decide +kernel
theorem d_Mo_fourAlike_38 : decode b_Mo_fourAlike 38 = .ok (.getfield 58, 3) := by decide +kernel
theorem d_Mo_fourAlike_41 : decode b_Mo_fourAlike 41 = .ok (.iconst 1, 1) := by decide +kernel
theorem d_Mo_fourAlike_42 : decode b_Mo_fourAlike 42 = .ok (.isub, 1) := by decide +kernel
theorem d_Mo_fourAlike_43 : decode b_Mo_fourAlike 43 = .ok (.iaload, 1) := by decide +kernel
theorem d_Mo_fourAlike_44 : decode b_Mo_fourAlike 44 = .ok (.aload_n 0, 1) := by decide +kernel
theorem d_Mo_fourAlike_45 : decode b_Mo_fourAlike 45 = .ok (.getfield 29, 3) := by decide +kernel
theorem d_Mo_fourAlike_48 : decode b_Mo_fourAlike 48 = .ok (.aload_n 0, 1) := by decide +kernel
theorem d_Mo_fourAlike_49 : decode b_Mo_fourAlike 49 = .ok (.getfield 58, 3) := by decide +kernel
theorem d_Mo_fourAlike_52 : decode b_Mo_fourAlike 52 = .ok (.iconst 3, 1) := by decide +kernel
theorem d_Mo_fourAlike_53 : decode b_Mo_fourAlike 53 = .ok (.isub, 1) := by decide +kernel
theorem d_Mo_fourAlike_54 : decode b_Mo_fourAlike 54 = .ok (.iaload, 1) := by decide +kernel
theorem d_Mo_fourAlike_55 : decode b_Mo_fourAlike 55 = .ok (.if_icmp .ne 32, 3) := by decide +kernel
theorem d_Mo_fourAlike_58 : decode b_Mo_fourAlike 58 = .ok (.aload_n 0, 1) := by decide +kernel
theorem d_Mo_fourAlike_59 : decode b_Mo_fourAlike 59 = .ok (.getfield 29, 3) := by decide +kernel
theorem d_Mo_fourAlike_62 : decode b_Mo_fourAlike 62 = .ok (.aload_n 0, 1) := by decide +kernel
theorem d_Mo_fourAlike_63 : decode b_Mo_fourAlike 63 = .ok (.getfield 58, 3) := by decide +kernel
theorem d_Mo_fourAlike_66 : decode b_Mo_fourAlike 66 = .ok (.iconst 1, 1) := by decide +kernel
theorem d_Mo_fourAlike_67 : decode b_Mo_fourAlike 67 = .ok (.isub, 1) := by decide +kernel
theorem d_Mo_fourAlike_68 : decode b_Mo_fourAlike 68 = .ok (.iaload, 1) := by decide +kernel
theorem d_Mo_fourAlike_69 : decode b_Mo_fourAlike 69 = .ok (.aload_n 0, 1) := by decide +kernel
theorem d_Mo_fourAlike_70 : decode b_Mo_fourAlike 70 = .ok (.getfield 29, 3) := by decide +kernel
theorem d_Mo_fourAlike_73 : decode b_Mo_fourAlike 73 = .ok (.aload_n 0, 1) := by decide +kernel
theorem d_Mo_fourAlike_74 : decode b_Mo_fourAlike 74 = .ok (.getfield 58, 3) := by decide +kernel
theorem d_Mo_fourAlike_77 : decode b_Mo_fourAlike 77 = .ok (.iconst 4, 1) := by decide +kernel
theorem d_Mo_fourAlike_78 : decode b_Mo_fourAlike 78 = .ok (.isub, 1) := by decide +kernel
theorem d_Mo_fourAlike_79 : decode b_Mo_fourAlike 79 = .ok (.iaload, 1) := by decide +kernel
theorem d_Mo_fourAlike_80 : decode b_Mo_fourAlike 80 = .ok (.if_icmp .ne 7, 3) := by decide +kernel
theorem d_Mo_fourAlike_83 : decode b_Mo_fourAlike 83 = .ok (.iconst 1, 1) := by decide +kernel
theorem d_Mo_fourAlike_84 : decode b_Mo_fourAlike 84 = .ok (.goto 4, 3) := by decide +kernel
theorem d_Mo_fourAlike_87 : decode b_Mo_fourAlike 87 = .ok (.iconst 0, 1) := by decide +kernel
theorem d_Mo_fourAlike_88 : decode b_Mo_fourAlike 88 = .ok (.ireturn, 1) := by decide +kernel
abbrev b_Mo_gather : ByteArray := prog_9_method_7_code
abbrev y_Mo_gather : MethodName := ⟨"SegmentIndexModel", "gather", "(IZ)I"⟩
theorem d_Mo_gather_0 : decode b_Mo_gather 0 = .ok (.iconst 0, 1) := by decide +kernel
theorem d_Mo_gather_1 : decode b_Mo_gather 1 = .ok (.istore_n 3, 1) := by decide +kernel
theorem d_Mo_gather_2 : decode b_Mo_gather 2 = .ok (.iconst 0, 1) := by decide +kernel
theorem d_Mo_gather_3 : decode b_Mo_gather 3 = .ok (.istore 4, 2) := by decide +kernel
theorem d_Mo_gather_5 : decode b_Mo_gather 5 = .ok (.iload 4, 2) := by decide +kernel
theorem d_Mo_gather_7 : decode b_Mo_gather 7 = .ok (.aload_n 0, 1) := by decide +kernel
theorem d_Mo_gather_8 : decode b_Mo_gather 8 = .ok (.getfield 48, 3) := by decide +kernel
theorem d_Mo_gather_11 : decode b_Mo_gather 11 = .ok (.if_icmp .ge 79, 3) := by decide +kernel
theorem d_Mo_gather_14 : decode b_Mo_gather 14 = .ok (.aload_n 0, 1) := by decide +kernel
theorem d_Mo_gather_15 : decode b_Mo_gather 15 = .ok (.getfield 22, 3) := by decide +kernel
theorem d_Mo_gather_18 : decode b_Mo_gather 18 = .ok (.iload 4, 2) := by decide +kernel
theorem d_Mo_gather_20 : decode b_Mo_gather 20 = .ok (.iaload, 1) := by decide +kernel
theorem d_Mo_gather_21 : decode b_Mo_gather 21 = .ok (.iload_n 1, 1) := by decide +kernel
theorem d_Mo_gather_22 : decode b_Mo_gather 22 = .ok (.if_icmp .ge 21, 3) := by decide +kernel
theorem d_Mo_gather_25 : decode b_Mo_gather 25 = .ok (.iload_n 2, 1) := by decide +kernel
theorem d_Mo_gather_26 : decode b_Mo_gather 26 = .ok (.ifCond .eq 58, 3) := by decide +kernel
theorem d_Mo_gather_29 : decode b_Mo_gather 29 = .ok (.aload_n 0, 1) := by decide +kernel
theorem d_Mo_gather_30 : decode b_Mo_gather 30 = .ok (.getfield 22, 3) := by decide +kernel
theorem d_Mo_gather_33 : decode b_Mo_gather 33 = .ok (.iload 4, 2) := by decide +kernel
theorem d_Mo_gather_35 : decode b_Mo_gather 35 = .ok (.iaload, 1) := by decide +kernel
theorem d_Mo_gather_36 : decode b_Mo_gather 36 = .ok (.iconst (-1), 1) := by decide +kernel
theorem d_Mo_gather_37 : decode b_Mo_gather 37 = .ok (.if_icmp .eq 6, 3) := by decide +kernel
theorem d_Mo_gather_40 : decode b_Mo_gather 40 = .ok (.goto 44, 3) := by decide +kernel
theorem d_Mo_gather_43 : decode b_Mo_gather 43 = .ok (.aload_n 0, 1) := by decide +kernel
theorem d_Mo_gather_44 : decode b_Mo_gather 44 = .ok (.getfield 22, 3) := by decide +kernel
theorem d_Mo_gather_47 : decode b_Mo_gather 47 = .ok (.iload 4, 2) := by decide +kernel
theorem d_Mo_gather_49 : decode b_Mo_gather 49 = .ok (.aload_n 0, 1) := by decide +kernel
theorem d_Mo_gather_50 : decode b_Mo_gather 50 = .ok (.getfield 25, 3) := by decide +kernel
theorem d_Mo_gather_53 : decode b_Mo_gather 53 = .ok (.iload 4, 2) := by decide +kernel
theorem d_Mo_gather_55 : decode b_Mo_gather 55 = .ok (.baload, 1) := by decide +kernel
theorem d_Mo_gather_56 : decode b_Mo_gather 56 = .ok (.ifCond .eq 8, 3) := by decide +kernel
theorem d_Mo_gather_59 : decode b_Mo_gather 59 = .ok (.bipush (-2), 2) := by decide +kernel
theorem d_Mo_gather_61 : decode b_Mo_gather 61 = .ok (.goto 4, 3) := by decide +kernel
theorem d_Mo_gather_64 : decode b_Mo_gather 64 = .ok (.iload_n 1, 1) := by decide +kernel
theorem d_Mo_gather_65 : decode b_Mo_gather 65 = .ok (.iastore, 1) := by decide +kernel
theorem d_Mo_gather_66 : decode b_Mo_gather 66 = .ok (.iload_n 3, 1) := by decide +kernel
theorem d_Mo_gather_67 : decode b_Mo_gather 67 = .ok (.aload_n 0, 1) := by decide +kernel
theorem d_Mo_gather_68 : decode b_Mo_gather 68 = .ok (.getfield 25, 3) := by decide +kernel
theorem d_Mo_gather_71 : decode b_Mo_gather 71 = .ok (.iload 4, 2) := by decide +kernel
theorem d_Mo_gather_73 : decode b_Mo_gather 73 = .ok (.baload, 1) := by decide +kernel
theorem d_Mo_gather_74 : decode b_Mo_gather 74 = .ok (.ifCond .eq 7, 3) := by decide +kernel
theorem d_Mo_gather_77 : decode b_Mo_gather 77 = .ok (.iconst 0, 1) := by decide +kernel
theorem d_Mo_gather_78 : decode b_Mo_gather 78 = .ok (.goto 4, 3) := by decide +kernel
theorem d_Mo_gather_81 : decode b_Mo_gather 81 = .ok (.iconst 1, 1) := by decide +kernel
theorem d_Mo_gather_82 : decode b_Mo_gather 82 = .ok (.iadd, 1) := by decide +kernel
theorem d_Mo_gather_83 : decode b_Mo_gather 83 = .ok (.istore_n 3, 1) := by decide +kernel
theorem d_Mo_gather_84 : decode b_Mo_gather 84 = .ok (.iinc 4 1, 3) := by decide +kernel
theorem d_Mo_gather_87 : decode b_Mo_gather 87 = .ok (.goto (-82), 3) := by decide +kernel
theorem d_Mo_gather_90 : decode b_Mo_gather 90 = .ok (.iload_n 3, 1) := by decide +kernel
theorem d_Mo_gather_91 : decode b_Mo_gather 91 = .ok (.ireturn, 1) := by decide +kernel
abbrev b_Mo_take : ByteArray := prog_9_method_5_code
abbrev y_Mo_take : MethodName := ⟨"SegmentIndexModel", "take", "(I)V"⟩
theorem d_Mo_take_0 : decode b_Mo_take 0 = .ok (.aload_n 0, 1) := by decide +kernel
theorem d_Mo_take_1 : decode b_Mo_take 1 = .ok (.iconst 0, 1) := by decide +kernel
theorem d_Mo_take_2 : decode b_Mo_take 2 = .ok (.putfield 38, 3) := by decide +kernel
theorem d_Mo_take_5 : decode b_Mo_take 5 = .ok (.iload_n 1, 1) := by decide +kernel
theorem d_Mo_take_6 : decode b_Mo_take 6 = .ok (.ifCond .lt 20, 3) := by decide +kernel
theorem d_Mo_take_9 : decode b_Mo_take 9 = .ok (.iload_n 1, 1) := by decide +kernel
theorem d_Mo_take_10 : decode b_Mo_take 10 = .ok (.aload_n 0, 1) := by decide +kernel
theorem d_Mo_take_11 : decode b_Mo_take 11 = .ok (.getfield 48, 3) := by decide +kernel
theorem d_Mo_take_14 : decode b_Mo_take 14 = .ok (.if_icmp .ge 12, 3) := by decide +kernel
theorem d_Mo_take_17 : decode b_Mo_take 17 = .ok (.aload_n 0, 1) := by decide +kernel
theorem d_Mo_take_18 : decode b_Mo_take 18 = .ok (.getfield 25, 3) := by decide +kernel
theorem d_Mo_take_21 : decode b_Mo_take 21 = .ok (.iload_n 1, 1) := by decide +kernel
theorem d_Mo_take_22 : decode b_Mo_take 22 = .ok (.baload, 1) := by decide +kernel
theorem d_Mo_take_23 : decode b_Mo_take 23 = .ok (.ifCond .eq 9, 3) := by decide +kernel
theorem d_Mo_take_26 : decode b_Mo_take 26 = .ok (.aload_n 0, 1) := by decide +kernel
theorem d_Mo_take_27 : decode b_Mo_take 27 = .ok (.iconst 1, 1) := by decide +kernel
theorem d_Mo_take_28 : decode b_Mo_take 28 = .ok (.putfield 38, 3) := by decide +kernel
theorem d_Mo_take_31 : decode b_Mo_take 31 = .ok (.return_, 1) := by decide +kernel
theorem d_Mo_take_32 : decode b_Mo_take 32 = .ok (.aload_n 0, 1) := by decide +kernel
theorem d_Mo_take_33 : decode b_Mo_take 33 = .ok (.getfield 25, 3) := by decide +kernel
theorem d_Mo_take_36 : decode b_Mo_take 36 = .ok (.iload_n 1, 1) := by decide +kernel
theorem d_Mo_take_37 : decode b_Mo_take 37 = .ok (.iconst 1, 1) := by decide +kernel
theorem d_Mo_take_38 : decode b_Mo_take 38 = .ok (.bastore, 1) := by decide +kernel
theorem d_Mo_take_39 : decode b_Mo_take 39 = .ok (.aload_n 0, 1) := by decide +kernel
theorem d_Mo_take_40 : decode b_Mo_take 40 = .ok (.getfield 22, 3) := by decide +kernel
theorem d_Mo_take_43 : decode b_Mo_take 43 = .ok (.iload_n 1, 1) := by decide +kernel
theorem d_Mo_take_44 : decode b_Mo_take 44 = .ok (.iaload, 1) := by decide +kernel
theorem d_Mo_take_45 : decode b_Mo_take 45 = .ok (.iconst (-1), 1) := by decide +kernel
theorem d_Mo_take_46 : decode b_Mo_take 46 = .ok (.if_icmp .ne 11, 3) := by decide +kernel
theorem d_Mo_take_49 : decode b_Mo_take 49 = .ok (.aload_n 0, 1) := by decide +kernel
theorem d_Mo_take_50 : decode b_Mo_take 50 = .ok (.getfield 22, 3) := by decide +kernel
theorem d_Mo_take_53 : decode b_Mo_take 53 = .ok (.iload_n 1, 1) := by decide +kernel
theorem d_Mo_take_54 : decode b_Mo_take 54 = .ok (.bipush (-2), 2) := by decide +kernel
theorem d_Mo_take_56 : decode b_Mo_take 56 = .ok (.iastore, 1) := by decide +kernel
theorem d_Mo_take_57 : decode b_Mo_take 57 = .ok (.return_, 1) := by decide +kernel
abbrev b_Mo_flush : ByteArray := prog_9_method_10_code
abbrev y_Mo_flush : MethodName := ⟨"SegmentIndexModel", "flush", "()I"⟩
theorem d_Mo_flush_0 : decode b_Mo_flush 0 = .ok (.aload_n 0, 1) := by decide +kernel
theorem d_Mo_flush_1 : decode b_Mo_flush 1 = .ok (.iconst 0, 1) := by decide +kernel
theorem d_Mo_flush_2 : decode b_Mo_flush 2 = .ok (.putfield 38, 3) := by decide +kernel
theorem d_Mo_flush_5 : decode b_Mo_flush 5 = .ok (.aload_n 0, 1) := by decide +kernel
theorem d_Mo_flush_6 : decode b_Mo_flush 6 = .ok (.invokevirtual 55, 3) := by decide +kernel
theorem d_Mo_flush_9 : decode b_Mo_flush 9 = .ok (.aload_n 0, 1) := by decide +kernel
theorem d_Mo_flush_10 : decode b_Mo_flush 10 = .ok (.getfield 58, 3) := by decide +kernel
theorem d_Mo_flush_13 : decode b_Mo_flush 13 = .ok (.ireturn, 1) := by decide +kernel
abbrev b_Mo_pack : ByteArray := prog_9_method_11_code
abbrev y_Mo_pack : MethodName := ⟨"SegmentIndexModel", "pack", "()I"⟩
theorem d_Mo_pack_0 : decode b_Mo_pack 0 = .ok (.aload_n 0, 1) := by decide +kernel
theorem d_Mo_pack_1 : decode b_Mo_pack 1 = .ok (.iconst 0, 1) := by decide +kernel
theorem d_Mo_pack_2 : decode b_Mo_pack 2 = .ok (.putfield 38, 3) := by decide +kernel
theorem d_Mo_pack_5 : decode b_Mo_pack 5 = .ok (.iconst 0, 1) := by decide +kernel
theorem d_Mo_pack_6 : decode b_Mo_pack 6 = .ok (.istore_n 1, 1) := by decide +kernel
theorem d_Mo_pack_7 : decode b_Mo_pack 7 = .ok (.iconst 0, 1) := by decide +kernel
theorem d_Mo_pack_8 : decode b_Mo_pack 8 = .ok (.istore_n 2, 1) := by decide +kernel
theorem d_Mo_pack_9 : decode b_Mo_pack 9 = .ok (.iload_n 2, 1) := by decide +kernel
theorem d_Mo_pack_10 : decode b_Mo_pack 10 = .ok (.aload_n 0, 1) := by decide +kernel
theorem d_Mo_pack_11 : decode b_Mo_pack 11 = .ok (.getfield 58, 3) := by decide +kernel
theorem d_Mo_pack_14 : decode b_Mo_pack 14 = .ok (.if_icmp .ge 26, 3) := by decide +kernel
theorem d_Mo_pack_17 : decode b_Mo_pack 17 = .ok (.aload_n 0, 1) := by decide +kernel
theorem d_Mo_pack_18 : decode b_Mo_pack 18 = .ok (.getfield 29, 3) := by decide +kernel
theorem d_Mo_pack_21 : decode b_Mo_pack 21 = .ok (.iload_n 2, 1) := by decide +kernel
theorem d_Mo_pack_22 : decode b_Mo_pack 22 = .ok (.iaload, 1) := by decide +kernel
theorem d_Mo_pack_23 : decode b_Mo_pack 23 = .ok (.iload_n 1, 1) := by decide +kernel
theorem d_Mo_pack_24 : decode b_Mo_pack 24 = .ok (.if_icmp .le 10, 3) := by decide +kernel
theorem d_Mo_pack_27 : decode b_Mo_pack 27 = .ok (.aload_n 0, 1) := by decide +kernel
theorem d_Mo_pack_28 : decode b_Mo_pack 28 = .ok (.getfield 29, 3) := by decide +kernel
theorem d_Mo_pack_31 : decode b_Mo_pack 31 = .ok (.iload_n 2, 1) := by decide +kernel
theorem d_Mo_pack_32 : decode b_Mo_pack 32 = .ok (.iaload, 1) := by decide +kernel
theorem d_Mo_pack_33 : decode b_Mo_pack 33 = .ok (.istore_n 1, 1) := by decide +kernel
theorem d_Mo_pack_34 : decode b_Mo_pack 34 = .ok (.iinc 2 1, 3) := by decide +kernel
theorem d_Mo_pack_37 : decode b_Mo_pack 37 = .ok (.goto (-28), 3) := by decide +kernel
theorem d_Mo_pack_40 : decode b_Mo_pack 40 = .ok (.aload_n 0, 1) := by decide +kernel
theorem d_Mo_pack_41 : decode b_Mo_pack 41 = .ok (.iconst 0, 1) := by decide +kernel
theorem d_Mo_pack_42 : decode b_Mo_pack 42 = .ok (.iconst 1, 1) := by decide +kernel
theorem d_Mo_pack_43 : decode b_Mo_pack 43 = .ok (.invokevirtual 65, 3) := by decide +kernel
theorem d_Mo_pack_46 : decode b_Mo_pack 46 = .ok (.istore_n 2, 1) := by decide +kernel
theorem d_Mo_pack_47 : decode b_Mo_pack 47 = .ok (.aload_n 0, 1) := by decide +kernel
theorem d_Mo_pack_48 : decode b_Mo_pack 48 = .ok (.getfield 29, 3) := by decide +kernel
theorem d_Mo_pack_51 : decode b_Mo_pack 51 = .ok (.iconst 0, 1) := by decide +kernel
theorem d_Mo_pack_52 : decode b_Mo_pack 52 = .ok (.iload_n 1, 1) := by decide +kernel
theorem d_Mo_pack_53 : decode b_Mo_pack 53 = .ok (.iastore, 1) := by decide +kernel
theorem d_Mo_pack_54 : decode b_Mo_pack 54 = .ok (.aload_n 0, 1) := by decide +kernel
theorem d_Mo_pack_55 : decode b_Mo_pack 55 = .ok (.iload_n 2, 1) := by decide +kernel
theorem d_Mo_pack_56 : decode b_Mo_pack 56 = .ok (.ifCond .le 7, 3) := by decide +kernel
theorem d_Mo_pack_59 : decode b_Mo_pack 59 = .ok (.iconst 1, 1) := by decide +kernel
theorem d_Mo_pack_60 : decode b_Mo_pack 60 = .ok (.goto 4, 3) := by decide +kernel
theorem d_Mo_pack_63 : decode b_Mo_pack 63 = .ok (.iconst 0, 1) := by decide +kernel
theorem d_Mo_pack_64 : decode b_Mo_pack 64 = .ok (.putfield 58, 3) := by decide +kernel
theorem d_Mo_pack_67 : decode b_Mo_pack 67 = .ok (.iload_n 2, 1) := by decide +kernel
theorem d_Mo_pack_68 : decode b_Mo_pack 68 = .ok (.ireturn, 1) := by decide +kernel
abbrev b_Mo_term : ByteArray := prog_9_method_20_code
abbrev y_Mo_term : MethodName := ⟨"SegmentIndexModel", "term", "(III)I"⟩
theorem d_Mo_term_0 : decode b_Mo_term 0 = .ok (.aload_n 0, 1) := by decide +kernel
theorem d_Mo_term_1 : decode b_Mo_term 1 = .ok (.aload_n 0, 1) := by decide +kernel
theorem d_Mo_term_2 : decode b_Mo_term 2 = .ok (.getfield 73, 3) := by decide +kernel
theorem d_Mo_term_5 : decode b_Mo_term 5 = .ok (.bipush 8, 2) := by decide +kernel
theorem d_Mo_term_7 : decode b_Mo_term 7 = .ok (.if_icmp .lt 7, 3) := by decide +kernel
theorem d_Mo_term_10 : decode b_Mo_term 10 = .ok (.iconst 1, 1) := by decide +kernel
theorem d_Mo_term_11 : decode b_Mo_term 11 = .ok (.goto 4, 3) := by decide +kernel
theorem d_Mo_term_14 : decode b_Mo_term 14 = .ok (.iconst 0, 1) := by decide +kernel
theorem d_Mo_term_15 : decode b_Mo_term 15 = .ok (.putfield 38, 3) := by decide +kernel
theorem d_Mo_term_18 : decode b_Mo_term 18 = .ok (.aload_n 0, 1) := by decide +kernel
theorem d_Mo_term_19 : decode b_Mo_term 19 = .ok (.getfield 38, 3) := by decide +kernel
theorem d_Mo_term_22 : decode b_Mo_term 22 = .ok (.ifCond .le 7, 3) := by decide +kernel
theorem d_Mo_term_25 : decode b_Mo_term 25 = .ok (.iconst 0, 1) := by decide +kernel
theorem d_Mo_term_26 : decode b_Mo_term 26 = .ok (.goto 12, 3) := by decide +kernel
theorem d_Mo_term_29 : decode b_Mo_term 29 = .ok (.aload_n 0, 1) := by decide +kernel
theorem d_Mo_term_30 : decode b_Mo_term 30 = .ok (.iload_n 1, 1) := by decide +kernel
theorem d_Mo_term_31 : decode b_Mo_term 31 = .ok (.iload_n 2, 1) := by decide +kernel
theorem d_Mo_term_32 : decode b_Mo_term 32 = .ok (.iload_n 3, 1) := by decide +kernel
theorem d_Mo_term_33 : decode b_Mo_term 33 = .ok (.bipush 8, 2) := by decide +kernel
theorem d_Mo_term_35 : decode b_Mo_term 35 = .ok (.invokevirtual 91, 3) := by decide +kernel
theorem d_Mo_term_38 : decode b_Mo_term 38 = .ok (.ireturn, 1) := by decide +kernel
abbrev b_Mo_push : ByteArray := prog_9_method_19_code
abbrev y_Mo_push : MethodName := ⟨"SegmentIndexModel", "push", "(IIII)I"⟩
theorem d_Mo_push_0 : decode b_Mo_push 0 = .ok (.aload_n 0, 1) := by decide +kernel
theorem d_Mo_push_1 : decode b_Mo_push 1 = .ok (.getfield 35, 3) := by decide +kernel
theorem d_Mo_push_4 : decode b_Mo_push 4 = .ok (.aload_n 0, 1) := by decide +kernel
theorem d_Mo_push_5 : decode b_Mo_push 5 = .ok (.getfield 73, 3) := by decide +kernel
theorem d_Mo_push_8 : decode b_Mo_push 8 = .ok (.iconst 0, 1) := by decide +kernel
theorem d_Mo_push_9 : decode b_Mo_push 9 = .ok (.iastore, 1) := by decide +kernel
theorem d_Mo_push_10 : decode b_Mo_push 10 = .ok (.iconst 0, 1) := by decide +kernel
theorem d_Mo_push_11 : decode b_Mo_push 11 = .ok (.istore 5, 2) := by decide +kernel
theorem d_Mo_push_13 : decode b_Mo_push 13 = .ok (.iload 5, 2) := by decide +kernel
theorem d_Mo_push_15 : decode b_Mo_push 15 = .ok (.aload_n 0, 1) := by decide +kernel
theorem d_Mo_push_16 : decode b_Mo_push 16 = .ok (.getfield 42, 3) := by decide +kernel
theorem d_Mo_push_19 : decode b_Mo_push 19 = .ok (.if_icmp .ge 64, 3) := by decide +kernel
theorem d_Mo_push_22 : decode b_Mo_push 22 = .ok (.aload_n 0, 1) := by decide +kernel
theorem d_Mo_push_23 : decode b_Mo_push 23 = .ok (.iload 5, 2) := by decide +kernel
theorem d_Mo_push_25 : decode b_Mo_push 25 = .ok (.invokevirtual 76, 3) := by decide +kernel
theorem d_Mo_push_28 : decode b_Mo_push 28 = .ok (.ifCond .eq 49, 3) := by decide +kernel
theorem d_Mo_push_31 : decode b_Mo_push 31 = .ok (.iload_n 1, 1) := by decide +kernel
theorem d_Mo_push_32 : decode b_Mo_push 32 = .ok (.aload_n 0, 1) := by decide +kernel
theorem d_Mo_push_33 : decode b_Mo_push 33 = .ok (.getfield 13, 3) := by decide +kernel
theorem d_Mo_push_36 : decode b_Mo_push 36 = .ok (.iload 5, 2) := by decide +kernel
theorem d_Mo_push_38 : decode b_Mo_push 38 = .ok (.iaload, 1) := by decide +kernel
theorem d_Mo_push_39 : decode b_Mo_push 39 = .ok (.sipush 4096, 3) := by decide +kernel
theorem d_Mo_push_42 : decode b_Mo_push 42 = .ok (.idiv, 1) := by decide +kernel
theorem d_Mo_push_43 : decode b_Mo_push 43 = .ok (.ishr, 1) := by decide +kernel
theorem d_Mo_push_44 : decode b_Mo_push 44 = .ok (.iconst 1, 1) := by decide +kernel
theorem d_Mo_push_45 : decode b_Mo_push 45 = .ok (.iand, 1) := by decide +kernel
theorem d_Mo_push_46 : decode b_Mo_push 46 = .ok (.iconst 1, 1) := by decide +kernel
theorem d_Mo_push_47 : decode b_Mo_push 47 = .ok (.if_icmp .ne 30, 3) := by decide +kernel
theorem d_Mo_push_50 : decode b_Mo_push 50 = .ok (.aload_n 0, 1) := by decide +kernel
theorem d_Mo_push_51 : decode b_Mo_push 51 = .ok (.iload 5, 2) := by decide +kernel
theorem d_Mo_push_53 : decode b_Mo_push 53 = .ok (.iload_n 2, 1) := by decide +kernel
theorem d_Mo_push_54 : decode b_Mo_push 54 = .ok (.iload_n 3, 1) := by decide +kernel
theorem d_Mo_push_55 : decode b_Mo_push 55 = .ok (.iload 4, 2) := by decide +kernel
theorem d_Mo_push_57 : decode b_Mo_push 57 = .ok (.invokevirtual 80, 3) := by decide +kernel
theorem d_Mo_push_60 : decode b_Mo_push 60 = .ok (.ifCond .eq 17, 3) := by decide +kernel
theorem d_Mo_push_63 : decode b_Mo_push 63 = .ok (.aload_n 0, 1) := by decide +kernel
theorem d_Mo_push_64 : decode b_Mo_push 64 = .ok (.aload_n 0, 1) := by decide +kernel
theorem d_Mo_push_65 : decode b_Mo_push 65 = .ok (.getfield 73, 3) := by decide +kernel
theorem d_Mo_push_68 : decode b_Mo_push 68 = .ok (.aload_n 0, 1) := by decide +kernel
theorem d_Mo_push_69 : decode b_Mo_push 69 = .ok (.iload 5, 2) := by decide +kernel
theorem d_Mo_push_71 : decode b_Mo_push 71 = .ok (.invokevirtual 84, 3) := by decide +kernel
theorem d_Mo_push_74 : decode b_Mo_push 74 = .ok (.invokevirtual 87, 3) := by decide +kernel
theorem d_Mo_push_77 : decode b_Mo_push 77 = .ok (.iinc 5 1, 3) := by decide +kernel
theorem d_Mo_push_80 : decode b_Mo_push 80 = .ok (.goto (-67), 3) := by decide +kernel
theorem d_Mo_push_83 : decode b_Mo_push 83 = .ok (.aload_n 0, 1) := by decide +kernel
theorem d_Mo_push_84 : decode b_Mo_push 84 = .ok (.dup, 1) := by decide +kernel
theorem d_Mo_push_85 : decode b_Mo_push 85 = .ok (.getfield 73, 3) := by decide +kernel
theorem d_Mo_push_88 : decode b_Mo_push 88 = .ok (.iconst 1, 1) := by decide +kernel
theorem d_Mo_push_89 : decode b_Mo_push 89 = .ok (.iadd, 1) := by decide +kernel
theorem d_Mo_push_90 : decode b_Mo_push 90 = .ok (.putfield 73, 3) := by decide +kernel
theorem d_Mo_push_93 : decode b_Mo_push 93 = .ok (.aload_n 0, 1) := by decide +kernel
theorem d_Mo_push_94 : decode b_Mo_push 94 = .ok (.getfield 35, 3) := by decide +kernel
theorem d_Mo_push_97 : decode b_Mo_push 97 = .ok (.aload_n 0, 1) := by decide +kernel
theorem d_Mo_push_98 : decode b_Mo_push 98 = .ok (.getfield 73, 3) := by decide +kernel
theorem d_Mo_push_101 : decode b_Mo_push 101 = .ok (.iconst 1, 1) := by decide +kernel
theorem d_Mo_push_102 : decode b_Mo_push 102 = .ok (.isub, 1) := by decide +kernel
theorem d_Mo_push_103 : decode b_Mo_push 103 = .ok (.iaload, 1) := by decide +kernel
theorem d_Mo_push_104 : decode b_Mo_push 104 = .ok (.ireturn, 1) := by decide +kernel
abbrev b_Mo_found : ByteArray := prog_9_method_17_code
abbrev y_Mo_found : MethodName := ⟨"SegmentIndexModel", "found", "(I)Z"⟩
theorem d_Mo_found_0 : decode b_Mo_found 0 = .ok (.iload_n 1, 1) := by decide +kernel
theorem d_Mo_found_1 : decode b_Mo_found 1 = .ok (.aload_n 0, 1) := by decide +kernel
theorem d_Mo_found_2 : decode b_Mo_found 2 = .ok (.getfield 42, 3) := by decide +kernel
theorem d_Mo_found_5 : decode b_Mo_found 5 = .ok (.if_icmp .ge 21, 3) := by decide +kernel
theorem d_Mo_found_8 : decode b_Mo_found 8 = .ok (.aload_n 0, 1) := by decide +kernel
theorem d_Mo_found_9 : decode b_Mo_found 9 = .ok (.getfield 25, 3) := by decide +kernel
theorem d_Mo_found_12 : decode b_Mo_found 12 = .ok (.aload_n 0, 1) := by decide +kernel
theorem d_Mo_found_13 : decode b_Mo_found 13 = .ok (.getfield 7, 3) := by decide +kernel
theorem d_Mo_found_16 : decode b_Mo_found 16 = .ok (.iload_n 1, 1) := by decide +kernel
theorem d_Mo_found_17 : decode b_Mo_found 17 = .ok (.iaload, 1) := by decide +kernel
theorem d_Mo_found_18 : decode b_Mo_found 18 = .ok (.baload, 1) := by decide +kernel
theorem d_Mo_found_19 : decode b_Mo_found 19 = .ok (.ifCond .ne 7, 3) := by decide +kernel
theorem d_Mo_found_22 : decode b_Mo_found 22 = .ok (.iconst 1, 1) := by decide +kernel
theorem d_Mo_found_23 : decode b_Mo_found 23 = .ok (.goto 4, 3) := by decide +kernel
theorem d_Mo_found_26 : decode b_Mo_found 26 = .ok (.iconst 0, 1) := by decide +kernel
theorem d_Mo_found_27 : decode b_Mo_found 27 = .ok (.ireturn, 1) := by decide +kernel
abbrev b_Mo_alike : ByteArray := prog_9_method_16_code
abbrev y_Mo_alike : MethodName := ⟨"SegmentIndexModel", "alike", "(IIII)Z"⟩
theorem d_Mo_alike_0 : decode b_Mo_alike 0 = .ok (.iconst 0, 1) := by decide +kernel
theorem d_Mo_alike_1 : decode b_Mo_alike 1 = .ok (.istore 5, 2) := by decide +kernel
theorem d_Mo_alike_3 : decode b_Mo_alike 3 = .ok (.iload 5, 2) := by decide +kernel
theorem d_Mo_alike_5 : decode b_Mo_alike 5 = .ok (.iload 4, 2) := by decide +kernel
theorem d_Mo_alike_7 : decode b_Mo_alike 7 = .ok (.if_icmp .ge 38, 3) := by decide +kernel
theorem d_Mo_alike_10 : decode b_Mo_alike 10 = .ok (.aload_n 0, 1) := by decide +kernel
theorem d_Mo_alike_11 : decode b_Mo_alike 11 = .ok (.getfield 16, 3) := by decide +kernel
theorem d_Mo_alike_14 : decode b_Mo_alike 14 = .ok (.iload_n 1, 1) := by decide +kernel
theorem d_Mo_alike_15 : decode b_Mo_alike 15 = .ok (.iaload, 1) := by decide +kernel
theorem d_Mo_alike_16 : decode b_Mo_alike 16 = .ok (.aload_n 0, 1) := by decide +kernel
theorem d_Mo_alike_17 : decode b_Mo_alike 17 = .ok (.getfield 19, 3) := by decide +kernel
theorem d_Mo_alike_20 : decode b_Mo_alike 20 = .ok (.iload_n 1, 1) := by decide +kernel
theorem d_Mo_alike_21 : decode b_Mo_alike 21 = .ok (.iaload, 1) := by decide +kernel
theorem d_Mo_alike_22 : decode b_Mo_alike 22 = .ok (.iload 5, 2) := by decide +kernel
theorem d_Mo_alike_24 : decode b_Mo_alike 24 = .ok (.invokestatic 69, 3) := by decide +kernel
theorem d_Mo_alike_27 : decode b_Mo_alike 27 = .ok (.iload_n 2, 1) := by decide +kernel
theorem d_Mo_alike_28 : decode b_Mo_alike 28 = .ok (.iload_n 3, 1) := by decide +kernel
theorem d_Mo_alike_29 : decode b_Mo_alike 29 = .ok (.iload 5, 2) := by decide +kernel
theorem d_Mo_alike_31 : decode b_Mo_alike 31 = .ok (.invokestatic 69, 3) := by decide +kernel
theorem d_Mo_alike_34 : decode b_Mo_alike 34 = .ok (.if_icmp .eq 5, 3) := by decide +kernel
theorem d_Mo_alike_37 : decode b_Mo_alike 37 = .ok (.iconst 0, 1) := by decide +kernel
theorem d_Mo_alike_38 : decode b_Mo_alike 38 = .ok (.ireturn, 1) := by decide +kernel
theorem d_Mo_alike_39 : decode b_Mo_alike 39 = .ok (.iinc 5 1, 3) := by decide +kernel
theorem d_Mo_alike_42 : decode b_Mo_alike 42 = .ok (.goto (-39), 3) := by decide +kernel
theorem d_Mo_alike_45 : decode b_Mo_alike 45 = .ok (.iconst 1, 1) := by decide +kernel
theorem d_Mo_alike_46 : decode b_Mo_alike 46 = .ok (.ireturn, 1) := by decide +kernel
abbrev b_Mo_byteAt : ByteArray := prog_9_method_15_code
abbrev y_Mo_byteAt : MethodName := ⟨"SegmentIndexModel", "byteAt", "(III)I"⟩
theorem d_Mo_byteAt_0 : decode b_Mo_byteAt 0 = .ok (.iload_n 2, 1) := by decide +kernel
theorem d_Mo_byteAt_1 : decode b_Mo_byteAt 1 = .ok (.iconst 4, 1) := by decide +kernel
theorem d_Mo_byteAt_2 : decode b_Mo_byteAt 2 = .ok (.if_icmp .ge 15, 3) := by decide +kernel
theorem d_Mo_byteAt_5 : decode b_Mo_byteAt 5 = .ok (.iload_n 0, 1) := by decide +kernel
theorem d_Mo_byteAt_6 : decode b_Mo_byteAt 6 = .ok (.bipush 24, 2) := by decide +kernel
theorem d_Mo_byteAt_8 : decode b_Mo_byteAt 8 = .ok (.bipush 8, 2) := by decide +kernel
theorem d_Mo_byteAt_10 : decode b_Mo_byteAt 10 = .ok (.iload_n 2, 1) := by decide +kernel
theorem d_Mo_byteAt_11 : decode b_Mo_byteAt 11 = .ok (.imul, 1) := by decide +kernel
theorem d_Mo_byteAt_12 : decode b_Mo_byteAt 12 = .ok (.isub, 1) := by decide +kernel
theorem d_Mo_byteAt_13 : decode b_Mo_byteAt 13 = .ok (.iushr, 1) := by decide +kernel
theorem d_Mo_byteAt_14 : decode b_Mo_byteAt 14 = .ok (.goto 12, 3) := by decide +kernel
theorem d_Mo_byteAt_17 : decode b_Mo_byteAt 17 = .ok (.iload_n 1, 1) := by decide +kernel
theorem d_Mo_byteAt_18 : decode b_Mo_byteAt 18 = .ok (.bipush 56, 2) := by decide +kernel
theorem d_Mo_byteAt_20 : decode b_Mo_byteAt 20 = .ok (.bipush 8, 2) := by decide +kernel
theorem d_Mo_byteAt_22 : decode b_Mo_byteAt 22 = .ok (.iload_n 2, 1) := by decide +kernel
theorem d_Mo_byteAt_23 : decode b_Mo_byteAt 23 = .ok (.imul, 1) := by decide +kernel
theorem d_Mo_byteAt_24 : decode b_Mo_byteAt 24 = .ok (.isub, 1) := by decide +kernel
theorem d_Mo_byteAt_25 : decode b_Mo_byteAt 25 = .ok (.iushr, 1) := by decide +kernel
theorem d_Mo_byteAt_26 : decode b_Mo_byteAt 26 = .ok (.sipush 255, 3) := by decide +kernel
theorem d_Mo_byteAt_29 : decode b_Mo_byteAt 29 = .ok (.iand, 1) := by decide +kernel
theorem d_Mo_byteAt_30 : decode b_Mo_byteAt 30 = .ok (.ireturn, 1) := by decide +kernel
abbrev b_Mo_hitOf : ByteArray := prog_9_method_18_code
abbrev y_Mo_hitOf : MethodName := ⟨"SegmentIndexModel", "hitOf", "(I)I"⟩
theorem d_Mo_hitOf_0 : decode b_Mo_hitOf 0 = .ok (.sipush 16384, 3) := by decide +kernel
theorem d_Mo_hitOf_3 : decode b_Mo_hitOf 3 = .ok (.aload_n 0, 1) := by decide +kernel
theorem d_Mo_hitOf_4 : decode b_Mo_hitOf 4 = .ok (.getfield 7, 3) := by decide +kernel
theorem d_Mo_hitOf_7 : decode b_Mo_hitOf 7 = .ok (.iload_n 1, 1) := by decide +kernel
theorem d_Mo_hitOf_8 : decode b_Mo_hitOf 8 = .ok (.iaload, 1) := by decide +kernel
theorem d_Mo_hitOf_9 : decode b_Mo_hitOf 9 = .ok (.imul, 1) := by decide +kernel
theorem d_Mo_hitOf_10 : decode b_Mo_hitOf 10 = .ok (.aload_n 0, 1) := by decide +kernel
theorem d_Mo_hitOf_11 : decode b_Mo_hitOf 11 = .ok (.getfield 13, 3) := by decide +kernel
theorem d_Mo_hitOf_14 : decode b_Mo_hitOf 14 = .ok (.iload_n 1, 1) := by decide +kernel
theorem d_Mo_hitOf_15 : decode b_Mo_hitOf 15 = .ok (.iaload, 1) := by decide +kernel
theorem d_Mo_hitOf_16 : decode b_Mo_hitOf 16 = .ok (.iadd, 1) := by decide +kernel
theorem d_Mo_hitOf_17 : decode b_Mo_hitOf 17 = .ok (.ireturn, 1) := by decide +kernel
abbrev b_Mo_insert : ByteArray := prog_9_method_12_code
abbrev y_Mo_insert : MethodName := ⟨"SegmentIndexModel", "insert", "(II)V"⟩
theorem d_Mo_insert_0 : decode b_Mo_insert 0 = .ok (.sipush 520, 3) := by decide +kernel
theorem d_Mo_insert_3 : decode b_Mo_insert 3 = .ok (.iload_n 1, 1) := by decide +kernel
theorem d_Mo_insert_4 : decode b_Mo_insert 4 = .ok (.imul, 1) := by decide +kernel
theorem d_Mo_insert_5 : decode b_Mo_insert 5 = .ok (.aload_n 0, 1) := by decide +kernel
theorem d_Mo_insert_6 : decode b_Mo_insert 6 = .ok (.getfield 35, 3) := by decide +kernel
theorem d_Mo_insert_9 : decode b_Mo_insert 9 = .ok (.iload_n 1, 1) := by decide +kernel
theorem d_Mo_insert_10 : decode b_Mo_insert 10 = .ok (.iaload, 1) := by decide +kernel
theorem d_Mo_insert_11 : decode b_Mo_insert 11 = .ok (.iadd, 1) := by decide +kernel
theorem d_Mo_insert_12 : decode b_Mo_insert 12 = .ok (.istore_n 3, 1) := by decide +kernel
theorem d_Mo_insert_13 : decode b_Mo_insert 13 = .ok (.iload_n 3, 1) := by decide +kernel
theorem d_Mo_insert_14 : decode b_Mo_insert 14 = .ok (.sipush 520, 3) := by decide +kernel
theorem d_Mo_insert_17 : decode b_Mo_insert 17 = .ok (.iload_n 1, 1) := by decide +kernel
theorem d_Mo_insert_18 : decode b_Mo_insert 18 = .ok (.imul, 1) := by decide +kernel
theorem d_Mo_insert_19 : decode b_Mo_insert 19 = .ok (.if_icmp .le 21, 3) := by decide +kernel
theorem d_Mo_insert_22 : decode b_Mo_insert 22 = .ok (.aload_n 0, 1) := by decide +kernel
theorem d_Mo_insert_23 : decode b_Mo_insert 23 = .ok (.getfield 32, 3) := by decide +kernel
theorem d_Mo_insert_26 : decode b_Mo_insert 26 = .ok (.iload_n 3, 1) := by decide +kernel
theorem d_Mo_insert_27 : decode b_Mo_insert 27 = .ok (.iconst 1, 1) := by decide +kernel
theorem d_Mo_insert_28 : decode b_Mo_insert 28 = .ok (.isub, 1) := by decide +kernel
theorem d_Mo_insert_29 : decode b_Mo_insert 29 = .ok (.iaload, 1) := by decide +kernel
theorem d_Mo_insert_30 : decode b_Mo_insert 30 = .ok (.iload_n 2, 1) := by decide +kernel
theorem d_Mo_insert_31 : decode b_Mo_insert 31 = .ok (.if_icmp .le 9, 3) := by decide +kernel
theorem d_Mo_insert_34 : decode b_Mo_insert 34 = .ok (.iinc 3 (-1), 3) := by decide +kernel
theorem d_Mo_insert_37 : decode b_Mo_insert 37 = .ok (.goto (-24), 3) := by decide +kernel
theorem d_Mo_insert_40 : decode b_Mo_insert 40 = .ok (.iload_n 3, 1) := by decide +kernel
theorem d_Mo_insert_41 : decode b_Mo_insert 41 = .ok (.sipush 520, 3) := by decide +kernel
theorem d_Mo_insert_44 : decode b_Mo_insert 44 = .ok (.iload_n 1, 1) := by decide +kernel
theorem d_Mo_insert_45 : decode b_Mo_insert 45 = .ok (.imul, 1) := by decide +kernel
theorem d_Mo_insert_46 : decode b_Mo_insert 46 = .ok (.if_icmp .le 16, 3) := by decide +kernel
theorem d_Mo_insert_49 : decode b_Mo_insert 49 = .ok (.aload_n 0, 1) := by decide +kernel
theorem d_Mo_insert_50 : decode b_Mo_insert 50 = .ok (.getfield 32, 3) := by decide +kernel
theorem d_Mo_insert_53 : decode b_Mo_insert 53 = .ok (.iload_n 3, 1) := by decide +kernel
theorem d_Mo_insert_54 : decode b_Mo_insert 54 = .ok (.iconst 1, 1) := by decide +kernel
theorem d_Mo_insert_55 : decode b_Mo_insert 55 = .ok (.isub, 1) := by decide +kernel
theorem d_Mo_insert_56 : decode b_Mo_insert 56 = .ok (.iaload, 1) := by decide +kernel
theorem d_Mo_insert_57 : decode b_Mo_insert 57 = .ok (.iload_n 2, 1) := by decide +kernel
theorem d_Mo_insert_58 : decode b_Mo_insert 58 = .ok (.if_icmp .ne 4, 3) := by decide +kernel
theorem d_Mo_insert_61 : decode b_Mo_insert 61 = .ok (.return_, 1) := by decide +kernel
theorem d_Mo_insert_62 : decode b_Mo_insert 62 = .ok (.sipush 520, 3) := by decide +kernel
theorem d_Mo_insert_65 : decode b_Mo_insert 65 = .ok (.iload_n 1, 1) := by decide +kernel
theorem d_Mo_insert_66 : decode b_Mo_insert 66 = .ok (.imul, 1) := by decide +kernel
theorem d_Mo_insert_67 : decode b_Mo_insert 67 = .ok (.aload_n 0, 1) := by decide +kernel
theorem d_Mo_insert_68 : decode b_Mo_insert 68 = .ok (.getfield 35, 3) := by decide +kernel
theorem d_Mo_insert_71 : decode b_Mo_insert 71 = .ok (.iload_n 1, 1) := by decide +kernel
theorem d_Mo_insert_72 : decode b_Mo_insert 72 = .ok (.iaload, 1) := by decide +kernel
theorem d_Mo_insert_73 : decode b_Mo_insert 73 = .ok (.iadd, 1) := by decide +kernel
theorem d_Mo_insert_74 : decode b_Mo_insert 74 = .ok (.istore 4, 2) := by decide +kernel
theorem d_Mo_insert_76 : decode b_Mo_insert 76 = .ok (.iload 4, 2) := by decide +kernel
theorem d_Mo_insert_78 : decode b_Mo_insert 78 = .ok (.iload_n 3, 1) := by decide +kernel
theorem d_Mo_insert_79 : decode b_Mo_insert 79 = .ok (.if_icmp .le 25, 3) := by decide +kernel
theorem d_Mo_insert_82 : decode b_Mo_insert 82 = .ok (.aload_n 0, 1) := by decide +kernel
theorem d_Mo_insert_83 : decode b_Mo_insert 83 = .ok (.getfield 32, 3) := by decide +kernel
theorem d_Mo_insert_86 : decode b_Mo_insert 86 = .ok (.iload 4, 2) := by decide +kernel
theorem d_Mo_insert_88 : decode b_Mo_insert 88 = .ok (.aload_n 0, 1) := by decide +kernel
theorem d_Mo_insert_89 : decode b_Mo_insert 89 = .ok (.getfield 32, 3) := by decide +kernel
theorem d_Mo_insert_92 : decode b_Mo_insert 92 = .ok (.iload 4, 2) := by decide +kernel
theorem d_Mo_insert_94 : decode b_Mo_insert 94 = .ok (.iconst 1, 1) := by decide +kernel
theorem d_Mo_insert_95 : decode b_Mo_insert 95 = .ok (.isub, 1) := by decide +kernel
theorem d_Mo_insert_96 : decode b_Mo_insert 96 = .ok (.iaload, 1) := by decide +kernel
theorem d_Mo_insert_97 : decode b_Mo_insert 97 = .ok (.iastore, 1) := by decide +kernel
theorem d_Mo_insert_98 : decode b_Mo_insert 98 = .ok (.iinc 4 (-1), 3) := by decide +kernel
theorem d_Mo_insert_101 : decode b_Mo_insert 101 = .ok (.goto (-25), 3) := by decide +kernel
theorem d_Mo_insert_104 : decode b_Mo_insert 104 = .ok (.aload_n 0, 1) := by decide +kernel
theorem d_Mo_insert_105 : decode b_Mo_insert 105 = .ok (.getfield 32, 3) := by decide +kernel
theorem d_Mo_insert_108 : decode b_Mo_insert 108 = .ok (.iload_n 3, 1) := by decide +kernel
theorem d_Mo_insert_109 : decode b_Mo_insert 109 = .ok (.iload_n 2, 1) := by decide +kernel
theorem d_Mo_insert_110 : decode b_Mo_insert 110 = .ok (.iastore, 1) := by decide +kernel
theorem d_Mo_insert_111 : decode b_Mo_insert 111 = .ok (.aload_n 0, 1) := by decide +kernel
theorem d_Mo_insert_112 : decode b_Mo_insert 112 = .ok (.getfield 35, 3) := by decide +kernel
theorem d_Mo_insert_115 : decode b_Mo_insert 115 = .ok (.iload_n 1, 1) := by decide +kernel
theorem d_Mo_insert_116 : decode b_Mo_insert 116 = .ok (.dup2, 1) := by decide +kernel
theorem d_Mo_insert_117 : decode b_Mo_insert 117 = .ok (.iaload, 1) := by decide +kernel
theorem d_Mo_insert_118 : decode b_Mo_insert 118 = .ok (.iconst 1, 1) := by decide +kernel
theorem d_Mo_insert_119 : decode b_Mo_insert 119 = .ok (.iadd, 1) := by decide +kernel
theorem d_Mo_insert_120 : decode b_Mo_insert 120 = .ok (.iastore, 1) := by decide +kernel
theorem d_Mo_insert_121 : decode b_Mo_insert 121 = .ok (.return_, 1) := by decide +kernel
abbrev b_Mo_begins : ByteArray := prog_9_method_21_code
abbrev y_Mo_begins : MethodName := ⟨"SegmentIndexModel", "begins", "(IIII)I"⟩
theorem d_Mo_begins_0 : decode b_Mo_begins 0 = .ok (.aload_n 0, 1) := by decide +kernel
theorem d_Mo_begins_1 : decode b_Mo_begins 1 = .ok (.aload_n 0, 1) := by decide +kernel
theorem d_Mo_begins_2 : decode b_Mo_begins 2 = .ok (.getfield 73, 3) := by decide +kernel
theorem d_Mo_begins_5 : decode b_Mo_begins 5 = .ok (.bipush 8, 2) := by decide +kernel
theorem d_Mo_begins_7 : decode b_Mo_begins 7 = .ok (.if_icmp .lt 7, 3) := by decide +kernel
theorem d_Mo_begins_10 : decode b_Mo_begins 10 = .ok (.iconst 2, 1) := by decide +kernel
theorem d_Mo_begins_11 : decode b_Mo_begins 11 = .ok (.goto 20, 3) := by decide +kernel
theorem d_Mo_begins_14 : decode b_Mo_begins 14 = .ok (.iload 4, 2) := by decide +kernel
theorem d_Mo_begins_16 : decode b_Mo_begins 16 = .ok (.ifCond .lt 10, 3) := by decide +kernel
theorem d_Mo_begins_19 : decode b_Mo_begins 19 = .ok (.iload 4, 2) := by decide +kernel
theorem d_Mo_begins_21 : decode b_Mo_begins 21 = .ok (.bipush 8, 2) := by decide +kernel
theorem d_Mo_begins_23 : decode b_Mo_begins 23 = .ok (.if_icmp .le 7, 3) := by decide +kernel
theorem d_Mo_begins_26 : decode b_Mo_begins 26 = .ok (.iconst 1, 1) := by decide +kernel
theorem d_Mo_begins_27 : decode b_Mo_begins 27 = .ok (.goto 4, 3) := by decide +kernel
theorem d_Mo_begins_30 : decode b_Mo_begins 30 = .ok (.iconst 0, 1) := by decide +kernel
theorem d_Mo_begins_31 : decode b_Mo_begins 31 = .ok (.putfield 38, 3) := by decide +kernel
theorem d_Mo_begins_34 : decode b_Mo_begins 34 = .ok (.aload_n 0, 1) := by decide +kernel
theorem d_Mo_begins_35 : decode b_Mo_begins 35 = .ok (.getfield 38, 3) := by decide +kernel
theorem d_Mo_begins_38 : decode b_Mo_begins 38 = .ok (.ifCond .le 7, 3) := by decide +kernel
theorem d_Mo_begins_41 : decode b_Mo_begins 41 = .ok (.iconst 0, 1) := by decide +kernel
theorem d_Mo_begins_42 : decode b_Mo_begins 42 = .ok (.goto 12, 3) := by decide +kernel
theorem d_Mo_begins_45 : decode b_Mo_begins 45 = .ok (.aload_n 0, 1) := by decide +kernel
theorem d_Mo_begins_46 : decode b_Mo_begins 46 = .ok (.iload_n 1, 1) := by decide +kernel
theorem d_Mo_begins_47 : decode b_Mo_begins 47 = .ok (.iload_n 2, 1) := by decide +kernel
theorem d_Mo_begins_48 : decode b_Mo_begins 48 = .ok (.iload_n 3, 1) := by decide +kernel
theorem d_Mo_begins_49 : decode b_Mo_begins 49 = .ok (.iload 4, 2) := by decide +kernel
theorem d_Mo_begins_51 : decode b_Mo_begins 51 = .ok (.invokevirtual 91, 3) := by decide +kernel
theorem d_Mo_begins_54 : decode b_Mo_begins 54 = .ok (.ireturn, 1) := by decide +kernel
abbrev b_Mo_follow : ByteArray := prog_9_method_23_code
abbrev y_Mo_follow : MethodName := ⟨"SegmentIndexModel", "follow", "(III)I"⟩
theorem d_Mo_follow_0 : decode b_Mo_follow 0 = .ok (.aload_n 0, 1) := by decide +kernel
theorem d_Mo_follow_1 : decode b_Mo_follow 1 = .ok (.aload_n 0, 1) := by decide +kernel
theorem d_Mo_follow_2 : decode b_Mo_follow 2 = .ok (.getfield 73, 3) := by decide +kernel
theorem d_Mo_follow_5 : decode b_Mo_follow 5 = .ok (.ifCond .ne 7, 3) := by decide +kernel
theorem d_Mo_follow_8 : decode b_Mo_follow 8 = .ok (.iconst 2, 1) := by decide +kernel
theorem d_Mo_follow_9 : decode b_Mo_follow 9 = .ok (.goto 19, 3) := by decide +kernel
theorem d_Mo_follow_12 : decode b_Mo_follow 12 = .ok (.iload_n 3, 1) := by decide +kernel
theorem d_Mo_follow_13 : decode b_Mo_follow 13 = .ok (.iconst 1, 1) := by decide +kernel
theorem d_Mo_follow_14 : decode b_Mo_follow 14 = .ok (.if_icmp .lt 9, 3) := by decide +kernel
theorem d_Mo_follow_17 : decode b_Mo_follow 17 = .ok (.iload_n 3, 1) := by decide +kernel
theorem d_Mo_follow_18 : decode b_Mo_follow 18 = .ok (.bipush 100, 2) := by decide +kernel
theorem d_Mo_follow_20 : decode b_Mo_follow 20 = .ok (.if_icmp .le 7, 3) := by decide +kernel
theorem d_Mo_follow_23 : decode b_Mo_follow 23 = .ok (.iconst 1, 1) := by decide +kernel
theorem d_Mo_follow_24 : decode b_Mo_follow 24 = .ok (.goto 4, 3) := by decide +kernel
theorem d_Mo_follow_27 : decode b_Mo_follow 27 = .ok (.iconst 0, 1) := by decide +kernel
theorem d_Mo_follow_28 : decode b_Mo_follow 28 = .ok (.putfield 38, 3) := by decide +kernel
theorem d_Mo_follow_31 : decode b_Mo_follow 31 = .ok (.aload_n 0, 1) := by decide +kernel
theorem d_Mo_follow_32 : decode b_Mo_follow 32 = .ok (.getfield 38, 3) := by decide +kernel
theorem d_Mo_follow_35 : decode b_Mo_follow 35 = .ok (.ifCond .le 5, 3) := by decide +kernel
theorem d_Mo_follow_38 : decode b_Mo_follow 38 = .ok (.iconst 0, 1) := by decide +kernel
theorem d_Mo_follow_39 : decode b_Mo_follow 39 = .ok (.ireturn, 1) := by decide +kernel
theorem d_Mo_follow_40 : decode b_Mo_follow 40 = .ok (.aload_n 0, 1) := by decide +kernel
theorem d_Mo_follow_41 : decode b_Mo_follow 41 = .ok (.getfield 35, 3) := by decide +kernel
theorem d_Mo_follow_44 : decode b_Mo_follow 44 = .ok (.bipush 8, 2) := by decide +kernel
theorem d_Mo_follow_46 : decode b_Mo_follow 46 = .ok (.iconst 0, 1) := by decide +kernel
theorem d_Mo_follow_47 : decode b_Mo_follow 47 = .ok (.iastore, 1) := by decide +kernel
theorem d_Mo_follow_48 : decode b_Mo_follow 48 = .ok (.iconst 0, 1) := by decide +kernel
theorem d_Mo_follow_49 : decode b_Mo_follow 49 = .ok (.istore 4, 2) := by decide +kernel
theorem d_Mo_follow_51 : decode b_Mo_follow 51 = .ok (.iload 4, 2) := by decide +kernel
theorem d_Mo_follow_53 : decode b_Mo_follow 53 = .ok (.aload_n 0, 1) := by decide +kernel
theorem d_Mo_follow_54 : decode b_Mo_follow 54 = .ok (.getfield 42, 3) := by decide +kernel
theorem d_Mo_follow_57 : decode b_Mo_follow 57 = .ok (.if_icmp .ge 79, 3) := by decide +kernel
theorem d_Mo_follow_60 : decode b_Mo_follow 60 = .ok (.aload_n 0, 1) := by decide +kernel
theorem d_Mo_follow_61 : decode b_Mo_follow 61 = .ok (.iload 4, 2) := by decide +kernel
theorem d_Mo_follow_63 : decode b_Mo_follow 63 = .ok (.invokevirtual 76, 3) := by decide +kernel
theorem d_Mo_follow_66 : decode b_Mo_follow 66 = .ok (.ifCond .eq 64, 3) := by decide +kernel
theorem d_Mo_follow_69 : decode b_Mo_follow 69 = .ok (.aload_n 0, 1) := by decide +kernel
theorem d_Mo_follow_70 : decode b_Mo_follow 70 = .ok (.iload 4, 2) := by decide +kernel
theorem d_Mo_follow_72 : decode b_Mo_follow 72 = .ok (.iload_n 1, 1) := by decide +kernel
theorem d_Mo_follow_73 : decode b_Mo_follow 73 = .ok (.iload_n 2, 1) := by decide +kernel
theorem d_Mo_follow_74 : decode b_Mo_follow 74 = .ok (.bipush 8, 2) := by decide +kernel
theorem d_Mo_follow_76 : decode b_Mo_follow 76 = .ok (.invokevirtual 80, 3) := by decide +kernel
theorem d_Mo_follow_79 : decode b_Mo_follow 79 = .ok (.ifCond .eq 51, 3) := by decide +kernel
theorem d_Mo_follow_82 : decode b_Mo_follow 82 = .ok (.aload_n 0, 1) := by decide +kernel
theorem d_Mo_follow_83 : decode b_Mo_follow 83 = .ok (.getfield 13, 3) := by decide +kernel
theorem d_Mo_follow_86 : decode b_Mo_follow 86 = .ok (.iload 4, 2) := by decide +kernel
theorem d_Mo_follow_88 : decode b_Mo_follow 88 = .ok (.iaload, 1) := by decide +kernel
theorem d_Mo_follow_89 : decode b_Mo_follow 89 = .ok (.sipush 4096, 3) := by decide +kernel
theorem d_Mo_follow_92 : decode b_Mo_follow 92 = .ok (.irem, 1) := by decide +kernel
theorem d_Mo_follow_93 : decode b_Mo_follow 93 = .ok (.iload_n 3, 1) := by decide +kernel
theorem d_Mo_follow_94 : decode b_Mo_follow 94 = .ok (.if_icmp .lt 36, 3) := by decide +kernel
theorem d_Mo_follow_97 : decode b_Mo_follow 97 = .ok (.aload_n 0, 1) := by decide +kernel
theorem d_Mo_follow_98 : decode b_Mo_follow 98 = .ok (.aload_n 0, 1) := by decide +kernel
theorem d_Mo_follow_99 : decode b_Mo_follow 99 = .ok (.getfield 73, 3) := by decide +kernel
theorem d_Mo_follow_102 : decode b_Mo_follow 102 = .ok (.iconst 1, 1) := by decide +kernel
theorem d_Mo_follow_103 : decode b_Mo_follow 103 = .ok (.isub, 1) := by decide +kernel
theorem d_Mo_follow_104 : decode b_Mo_follow 104 = .ok (.aload_n 0, 1) := by decide +kernel
theorem d_Mo_follow_105 : decode b_Mo_follow 105 = .ok (.iload 4, 2) := by decide +kernel
theorem d_Mo_follow_107 : decode b_Mo_follow 107 = .ok (.invokevirtual 84, 3) := by decide +kernel
theorem d_Mo_follow_110 : decode b_Mo_follow 110 = .ok (.iload_n 3, 1) := by decide +kernel
theorem d_Mo_follow_111 : decode b_Mo_follow 111 = .ok (.isub, 1) := by decide +kernel
theorem d_Mo_follow_112 : decode b_Mo_follow 112 = .ok (.invokevirtual 95, 3) := by decide +kernel
theorem d_Mo_follow_115 : decode b_Mo_follow 115 = .ok (.ifCond .eq 15, 3) := by decide +kernel
theorem d_Mo_follow_118 : decode b_Mo_follow 118 = .ok (.aload_n 0, 1) := by decide +kernel
theorem d_Mo_follow_119 : decode b_Mo_follow 119 = .ok (.bipush 8, 2) := by decide +kernel
theorem d_Mo_follow_121 : decode b_Mo_follow 121 = .ok (.aload_n 0, 1) := by decide +kernel
theorem d_Mo_follow_122 : decode b_Mo_follow 122 = .ok (.iload 4, 2) := by decide +kernel
theorem d_Mo_follow_124 : decode b_Mo_follow 124 = .ok (.invokevirtual 84, 3) := by decide +kernel
theorem d_Mo_follow_127 : decode b_Mo_follow 127 = .ok (.invokevirtual 87, 3) := by decide +kernel
theorem d_Mo_follow_130 : decode b_Mo_follow 130 = .ok (.iinc 4 1, 3) := by decide +kernel
theorem d_Mo_follow_133 : decode b_Mo_follow 133 = .ok (.goto (-82), 3) := by decide +kernel
theorem d_Mo_follow_136 : decode b_Mo_follow 136 = .ok (.aload_n 0, 1) := by decide +kernel
theorem d_Mo_follow_137 : decode b_Mo_follow 137 = .ok (.aload_n 0, 1) := by decide +kernel
theorem d_Mo_follow_138 : decode b_Mo_follow 138 = .ok (.getfield 73, 3) := by decide +kernel
theorem d_Mo_follow_141 : decode b_Mo_follow 141 = .ok (.iconst 1, 1) := by decide +kernel
theorem d_Mo_follow_142 : decode b_Mo_follow 142 = .ok (.isub, 1) := by decide +kernel
theorem d_Mo_follow_143 : decode b_Mo_follow 143 = .ok (.invokevirtual 99, 3) := by decide +kernel
theorem d_Mo_follow_146 : decode b_Mo_follow 146 = .ok (.ireturn, 1) := by decide +kernel
abbrev b_Mo_has : ByteArray := prog_9_method_13_code
abbrev y_Mo_has : MethodName := ⟨"SegmentIndexModel", "has", "(II)Z"⟩
theorem d_Mo_has_0 : decode b_Mo_has 0 = .ok (.iconst 0, 1) := by decide +kernel
theorem d_Mo_has_1 : decode b_Mo_has 1 = .ok (.istore_n 3, 1) := by decide +kernel
theorem d_Mo_has_2 : decode b_Mo_has 2 = .ok (.iload_n 3, 1) := by decide +kernel
theorem d_Mo_has_3 : decode b_Mo_has 3 = .ok (.aload_n 0, 1) := by decide +kernel
theorem d_Mo_has_4 : decode b_Mo_has 4 = .ok (.getfield 35, 3) := by decide +kernel
theorem d_Mo_has_7 : decode b_Mo_has 7 = .ok (.iload_n 1, 1) := by decide +kernel
theorem d_Mo_has_8 : decode b_Mo_has 8 = .ok (.iaload, 1) := by decide +kernel
theorem d_Mo_has_9 : decode b_Mo_has 9 = .ok (.if_icmp .ge 27, 3) := by decide +kernel
theorem d_Mo_has_12 : decode b_Mo_has 12 = .ok (.aload_n 0, 1) := by decide +kernel
theorem d_Mo_has_13 : decode b_Mo_has 13 = .ok (.getfield 32, 3) := by decide +kernel
theorem d_Mo_has_16 : decode b_Mo_has 16 = .ok (.sipush 520, 3) := by decide +kernel
theorem d_Mo_has_19 : decode b_Mo_has 19 = .ok (.iload_n 1, 1) := by decide +kernel
theorem d_Mo_has_20 : decode b_Mo_has 20 = .ok (.imul, 1) := by decide +kernel
theorem d_Mo_has_21 : decode b_Mo_has 21 = .ok (.iload_n 3, 1) := by decide +kernel
theorem d_Mo_has_22 : decode b_Mo_has 22 = .ok (.iadd, 1) := by decide +kernel
theorem d_Mo_has_23 : decode b_Mo_has 23 = .ok (.iaload, 1) := by decide +kernel
theorem d_Mo_has_24 : decode b_Mo_has 24 = .ok (.iload_n 2, 1) := by decide +kernel
theorem d_Mo_has_25 : decode b_Mo_has 25 = .ok (.if_icmp .ne 5, 3) := by decide +kernel
theorem d_Mo_has_28 : decode b_Mo_has 28 = .ok (.iconst 1, 1) := by decide +kernel
theorem d_Mo_has_29 : decode b_Mo_has 29 = .ok (.ireturn, 1) := by decide +kernel
theorem d_Mo_has_30 : decode b_Mo_has 30 = .ok (.iinc 3 1, 3) := by decide +kernel
theorem d_Mo_has_33 : decode b_Mo_has 33 = .ok (.goto (-31), 3) := by decide +kernel
theorem d_Mo_has_36 : decode b_Mo_has 36 = .ok (.iconst 0, 1) := by decide +kernel
theorem d_Mo_has_37 : decode b_Mo_has 37 = .ok (.ireturn, 1) := by decide +kernel
abbrev b_Mo_place : ByteArray := prog_9_method_22_code
abbrev y_Mo_place : MethodName := ⟨"SegmentIndexModel", "place", "(I)I"⟩
theorem d_Mo_place_0 : decode b_Mo_place 0 = .ok (.aload_n 0, 1) := by decide +kernel
theorem d_Mo_place_1 : decode b_Mo_place 1 = .ok (.getfield 35, 3) := by decide +kernel
theorem d_Mo_place_4 : decode b_Mo_place 4 = .ok (.iload_n 1, 1) := by decide +kernel
theorem d_Mo_place_5 : decode b_Mo_place 5 = .ok (.aload_n 0, 1) := by decide +kernel
theorem d_Mo_place_6 : decode b_Mo_place 6 = .ok (.getfield 35, 3) := by decide +kernel
theorem d_Mo_place_9 : decode b_Mo_place 9 = .ok (.bipush 8, 2) := by decide +kernel
theorem d_Mo_place_11 : decode b_Mo_place 11 = .ok (.iaload, 1) := by decide +kernel
theorem d_Mo_place_12 : decode b_Mo_place 12 = .ok (.iastore, 1) := by decide +kernel
theorem d_Mo_place_13 : decode b_Mo_place 13 = .ok (.iconst 0, 1) := by decide +kernel
theorem d_Mo_place_14 : decode b_Mo_place 14 = .ok (.istore_n 2, 1) := by decide +kernel
theorem d_Mo_place_15 : decode b_Mo_place 15 = .ok (.iload_n 2, 1) := by decide +kernel
theorem d_Mo_place_16 : decode b_Mo_place 16 = .ok (.aload_n 0, 1) := by decide +kernel
theorem d_Mo_place_17 : decode b_Mo_place 17 = .ok (.getfield 35, 3) := by decide +kernel
theorem d_Mo_place_20 : decode b_Mo_place 20 = .ok (.bipush 8, 2) := by decide +kernel
theorem d_Mo_place_22 : decode b_Mo_place 22 = .ok (.iaload, 1) := by decide +kernel
theorem d_Mo_place_23 : decode b_Mo_place 23 = .ok (.if_icmp .ge 31, 3) := by decide +kernel
theorem d_Mo_place_26 : decode b_Mo_place 26 = .ok (.aload_n 0, 1) := by decide +kernel
theorem d_Mo_place_27 : decode b_Mo_place 27 = .ok (.getfield 32, 3) := by decide +kernel
theorem d_Mo_place_30 : decode b_Mo_place 30 = .ok (.sipush 520, 3) := by decide +kernel
theorem d_Mo_place_33 : decode b_Mo_place 33 = .ok (.iload_n 1, 1) := by decide +kernel
theorem d_Mo_place_34 : decode b_Mo_place 34 = .ok (.imul, 1) := by decide +kernel
theorem d_Mo_place_35 : decode b_Mo_place 35 = .ok (.iload_n 2, 1) := by decide +kernel
theorem d_Mo_place_36 : decode b_Mo_place 36 = .ok (.iadd, 1) := by decide +kernel
theorem d_Mo_place_37 : decode b_Mo_place 37 = .ok (.aload_n 0, 1) := by decide +kernel
theorem d_Mo_place_38 : decode b_Mo_place 38 = .ok (.getfield 32, 3) := by decide +kernel
theorem d_Mo_place_41 : decode b_Mo_place 41 = .ok (.sipush 4160, 3) := by decide +kernel
theorem d_Mo_place_44 : decode b_Mo_place 44 = .ok (.iload_n 2, 1) := by decide +kernel
theorem d_Mo_place_45 : decode b_Mo_place 45 = .ok (.iadd, 1) := by decide +kernel
theorem d_Mo_place_46 : decode b_Mo_place 46 = .ok (.iaload, 1) := by decide +kernel
theorem d_Mo_place_47 : decode b_Mo_place 47 = .ok (.iastore, 1) := by decide +kernel
theorem d_Mo_place_48 : decode b_Mo_place 48 = .ok (.iinc 2 1, 3) := by decide +kernel
theorem d_Mo_place_51 : decode b_Mo_place 51 = .ok (.goto (-36), 3) := by decide +kernel
theorem d_Mo_place_54 : decode b_Mo_place 54 = .ok (.aload_n 0, 1) := by decide +kernel
theorem d_Mo_place_55 : decode b_Mo_place 55 = .ok (.getfield 35, 3) := by decide +kernel
theorem d_Mo_place_58 : decode b_Mo_place 58 = .ok (.iload_n 1, 1) := by decide +kernel
theorem d_Mo_place_59 : decode b_Mo_place 59 = .ok (.iaload, 1) := by decide +kernel
theorem d_Mo_place_60 : decode b_Mo_place 60 = .ok (.ireturn, 1) := by decide +kernel
abbrev b_Mo_join : ByteArray := prog_9_method_25_code
abbrev y_Mo_join : MethodName := ⟨"SegmentIndexModel", "join", "(I)I"⟩
theorem d_Mo_join_0 : decode b_Mo_join 0 = .ok (.aload_n 0, 1) := by decide +kernel
theorem d_Mo_join_1 : decode b_Mo_join 1 = .ok (.aload_n 0, 1) := by decide +kernel
theorem d_Mo_join_2 : decode b_Mo_join 2 = .ok (.getfield 73, 3) := by decide +kernel
theorem d_Mo_join_5 : decode b_Mo_join 5 = .ok (.iconst 2, 1) := by decide +kernel
theorem d_Mo_join_6 : decode b_Mo_join 6 = .ok (.if_icmp .ge 7, 3) := by decide +kernel
theorem d_Mo_join_9 : decode b_Mo_join 9 = .ok (.iconst 2, 1) := by decide +kernel
theorem d_Mo_join_10 : decode b_Mo_join 10 = .ok (.goto 17, 3) := by decide +kernel
theorem d_Mo_join_13 : decode b_Mo_join 13 = .ok (.iload_n 1, 1) := by decide +kernel
theorem d_Mo_join_14 : decode b_Mo_join 14 = .ok (.ifCond .lt 8, 3) := by decide +kernel
theorem d_Mo_join_17 : decode b_Mo_join 17 = .ok (.iload_n 1, 1) := by decide +kernel
theorem d_Mo_join_18 : decode b_Mo_join 18 = .ok (.iconst 3, 1) := by decide +kernel
theorem d_Mo_join_19 : decode b_Mo_join 19 = .ok (.if_icmp .le 7, 3) := by decide +kernel
theorem d_Mo_join_22 : decode b_Mo_join 22 = .ok (.iconst 1, 1) := by decide +kernel
theorem d_Mo_join_23 : decode b_Mo_join 23 = .ok (.goto 4, 3) := by decide +kernel
theorem d_Mo_join_26 : decode b_Mo_join 26 = .ok (.iconst 0, 1) := by decide +kernel
theorem d_Mo_join_27 : decode b_Mo_join 27 = .ok (.putfield 38, 3) := by decide +kernel
theorem d_Mo_join_30 : decode b_Mo_join 30 = .ok (.aload_n 0, 1) := by decide +kernel
theorem d_Mo_join_31 : decode b_Mo_join 31 = .ok (.getfield 38, 3) := by decide +kernel
theorem d_Mo_join_34 : decode b_Mo_join 34 = .ok (.ifCond .le 5, 3) := by decide +kernel
theorem d_Mo_join_37 : decode b_Mo_join 37 = .ok (.iconst 0, 1) := by decide +kernel
theorem d_Mo_join_38 : decode b_Mo_join 38 = .ok (.ireturn, 1) := by decide +kernel
theorem d_Mo_join_39 : decode b_Mo_join 39 = .ok (.aload_n 0, 1) := by decide +kernel
theorem d_Mo_join_40 : decode b_Mo_join 40 = .ok (.getfield 73, 3) := by decide +kernel
theorem d_Mo_join_43 : decode b_Mo_join 43 = .ok (.iconst 2, 1) := by decide +kernel
theorem d_Mo_join_44 : decode b_Mo_join 44 = .ok (.isub, 1) := by decide +kernel
theorem d_Mo_join_45 : decode b_Mo_join 45 = .ok (.istore_n 2, 1) := by decide +kernel
theorem d_Mo_join_46 : decode b_Mo_join 46 = .ok (.aload_n 0, 1) := by decide +kernel
theorem d_Mo_join_47 : decode b_Mo_join 47 = .ok (.getfield 73, 3) := by decide +kernel
theorem d_Mo_join_50 : decode b_Mo_join 50 = .ok (.iconst 1, 1) := by decide +kernel
theorem d_Mo_join_51 : decode b_Mo_join 51 = .ok (.isub, 1) := by decide +kernel
theorem d_Mo_join_52 : decode b_Mo_join 52 = .ok (.istore_n 3, 1) := by decide +kernel
theorem d_Mo_join_53 : decode b_Mo_join 53 = .ok (.aload_n 0, 1) := by decide +kernel
theorem d_Mo_join_54 : decode b_Mo_join 54 = .ok (.getfield 35, 3) := by decide +kernel
theorem d_Mo_join_57 : decode b_Mo_join 57 = .ok (.bipush 8, 2) := by decide +kernel
theorem d_Mo_join_59 : decode b_Mo_join 59 = .ok (.iconst 0, 1) := by decide +kernel
theorem d_Mo_join_60 : decode b_Mo_join 60 = .ok (.iastore, 1) := by decide +kernel
theorem d_Mo_join_61 : decode b_Mo_join 61 = .ok (.iconst 0, 1) := by decide +kernel
theorem d_Mo_join_62 : decode b_Mo_join 62 = .ok (.istore 4, 2) := by decide +kernel
theorem d_Mo_join_64 : decode b_Mo_join 64 = .ok (.iload 4, 2) := by decide +kernel
theorem d_Mo_join_66 : decode b_Mo_join 66 = .ok (.aload_n 0, 1) := by decide +kernel
theorem d_Mo_join_67 : decode b_Mo_join 67 = .ok (.getfield 35, 3) := by decide +kernel
theorem d_Mo_join_70 : decode b_Mo_join 70 = .ok (.iload_n 2, 1) := by decide +kernel
theorem d_Mo_join_71 : decode b_Mo_join 71 = .ok (.iaload, 1) := by decide +kernel
theorem d_Mo_join_72 : decode b_Mo_join 72 = .ok (.if_icmp .ge 68, 3) := by decide +kernel
theorem d_Mo_join_75 : decode b_Mo_join 75 = .ok (.aload_n 0, 1) := by decide +kernel
theorem d_Mo_join_76 : decode b_Mo_join 76 = .ok (.getfield 32, 3) := by decide +kernel
theorem d_Mo_join_79 : decode b_Mo_join 79 = .ok (.sipush 520, 3) := by decide +kernel
theorem d_Mo_join_82 : decode b_Mo_join 82 = .ok (.iload_n 2, 1) := by decide +kernel
theorem d_Mo_join_83 : decode b_Mo_join 83 = .ok (.imul, 1) := by decide +kernel
theorem d_Mo_join_84 : decode b_Mo_join 84 = .ok (.iload 4, 2) := by decide +kernel
theorem d_Mo_join_86 : decode b_Mo_join 86 = .ok (.iadd, 1) := by decide +kernel
theorem d_Mo_join_87 : decode b_Mo_join 87 = .ok (.iaload, 1) := by decide +kernel
theorem d_Mo_join_88 : decode b_Mo_join 88 = .ok (.istore 5, 2) := by decide +kernel
theorem d_Mo_join_90 : decode b_Mo_join 90 = .ok (.aload_n 0, 1) := by decide +kernel
theorem d_Mo_join_91 : decode b_Mo_join 91 = .ok (.iload_n 3, 1) := by decide +kernel
theorem d_Mo_join_92 : decode b_Mo_join 92 = .ok (.iload 5, 2) := by decide +kernel
theorem d_Mo_join_94 : decode b_Mo_join 94 = .ok (.bipush 14, 2) := by decide +kernel
theorem d_Mo_join_96 : decode b_Mo_join 96 = .ok (.ishr, 1) := by decide +kernel
theorem d_Mo_join_97 : decode b_Mo_join 97 = .ok (.invokevirtual 102, 3) := by decide +kernel
theorem d_Mo_join_100 : decode b_Mo_join 100 = .ok (.istore 6, 2) := by decide +kernel
theorem d_Mo_join_102 : decode b_Mo_join 102 = .ok (.iload_n 1, 1) := by decide +kernel
theorem d_Mo_join_103 : decode b_Mo_join 103 = .ok (.iconst 1, 1) := by decide +kernel
theorem d_Mo_join_104 : decode b_Mo_join 104 = .ok (.if_icmp .eq 22, 3) := by decide +kernel
theorem d_Mo_join_107 : decode b_Mo_join 107 = .ok (.iload_n 1, 1) := by decide +kernel
theorem d_Mo_join_108 : decode b_Mo_join 108 = .ok (.ifCond .ne 8, 3) := by decide +kernel
theorem d_Mo_join_111 : decode b_Mo_join 111 = .ok (.iload 6, 2) := by decide +kernel
theorem d_Mo_join_113 : decode b_Mo_join 113 = .ok (.ifCond .gt 13, 3) := by decide +kernel
theorem d_Mo_join_116 : decode b_Mo_join 116 = .ok (.iload_n 1, 1) := by decide +kernel
theorem d_Mo_join_117 : decode b_Mo_join 117 = .ok (.iconst 2, 1) := by decide +kernel
theorem d_Mo_join_118 : decode b_Mo_join 118 = .ok (.if_icmp .ne 16, 3) := by decide +kernel
theorem d_Mo_join_121 : decode b_Mo_join 121 = .ok (.iload 6, 2) := by decide +kernel
theorem d_Mo_join_123 : decode b_Mo_join 123 = .ok (.ifCond .ne 11, 3) := by decide +kernel
theorem d_Mo_join_126 : decode b_Mo_join 126 = .ok (.aload_n 0, 1) := by decide +kernel
theorem d_Mo_join_127 : decode b_Mo_join 127 = .ok (.bipush 8, 2) := by decide +kernel
theorem d_Mo_join_129 : decode b_Mo_join 129 = .ok (.iload 5, 2) := by decide +kernel
theorem d_Mo_join_131 : decode b_Mo_join 131 = .ok (.invokevirtual 87, 3) := by decide +kernel
theorem d_Mo_join_134 : decode b_Mo_join 134 = .ok (.iinc 4 1, 3) := by decide +kernel
theorem d_Mo_join_137 : decode b_Mo_join 137 = .ok (.goto (-73), 3) := by decide +kernel
theorem d_Mo_join_140 : decode b_Mo_join 140 = .ok (.iconst 0, 1) := by decide +kernel
theorem d_Mo_join_141 : decode b_Mo_join 141 = .ok (.istore 4, 2) := by decide +kernel
theorem d_Mo_join_143 : decode b_Mo_join 143 = .ok (.iload 4, 2) := by decide +kernel
theorem d_Mo_join_145 : decode b_Mo_join 145 = .ok (.aload_n 0, 1) := by decide +kernel
theorem d_Mo_join_146 : decode b_Mo_join 146 = .ok (.getfield 35, 3) := by decide +kernel
theorem d_Mo_join_149 : decode b_Mo_join 149 = .ok (.iload_n 3, 1) := by decide +kernel
theorem d_Mo_join_150 : decode b_Mo_join 150 = .ok (.iaload, 1) := by decide +kernel
theorem d_Mo_join_151 : decode b_Mo_join 151 = .ok (.if_icmp .ge 69, 3) := by decide +kernel
theorem d_Mo_join_154 : decode b_Mo_join 154 = .ok (.aload_n 0, 1) := by decide +kernel
theorem d_Mo_join_155 : decode b_Mo_join 155 = .ok (.getfield 32, 3) := by decide +kernel
theorem d_Mo_join_158 : decode b_Mo_join 158 = .ok (.sipush 520, 3) := by decide +kernel
theorem d_Mo_join_161 : decode b_Mo_join 161 = .ok (.iload_n 3, 1) := by decide +kernel
theorem d_Mo_join_162 : decode b_Mo_join 162 = .ok (.imul, 1) := by decide +kernel
theorem d_Mo_join_163 : decode b_Mo_join 163 = .ok (.iload 4, 2) := by decide +kernel
theorem d_Mo_join_165 : decode b_Mo_join 165 = .ok (.iadd, 1) := by decide +kernel
theorem d_Mo_join_166 : decode b_Mo_join 166 = .ok (.iaload, 1) := by decide +kernel
theorem d_Mo_join_167 : decode b_Mo_join 167 = .ok (.istore 5, 2) := by decide +kernel
theorem d_Mo_join_169 : decode b_Mo_join 169 = .ok (.iload_n 1, 1) := by decide +kernel
theorem d_Mo_join_170 : decode b_Mo_join 170 = .ok (.iconst 1, 1) := by decide +kernel
theorem d_Mo_join_171 : decode b_Mo_join 171 = .ok (.if_icmp .eq 35, 3) := by decide +kernel
theorem d_Mo_join_174 : decode b_Mo_join 174 = .ok (.iload_n 1, 1) := by decide +kernel
theorem d_Mo_join_175 : decode b_Mo_join 175 = .ok (.ifCond .ne 16, 3) := by decide +kernel
theorem d_Mo_join_178 : decode b_Mo_join 178 = .ok (.aload_n 0, 1) := by decide +kernel
theorem d_Mo_join_179 : decode b_Mo_join 179 = .ok (.iload_n 2, 1) := by decide +kernel
theorem d_Mo_join_180 : decode b_Mo_join 180 = .ok (.iload 5, 2) := by decide +kernel
theorem d_Mo_join_182 : decode b_Mo_join 182 = .ok (.bipush 14, 2) := by decide +kernel
theorem d_Mo_join_184 : decode b_Mo_join 184 = .ok (.ishr, 1) := by decide +kernel
theorem d_Mo_join_185 : decode b_Mo_join 185 = .ok (.invokevirtual 102, 3) := by decide +kernel
theorem d_Mo_join_188 : decode b_Mo_join 188 = .ok (.ifCond .gt 18, 3) := by decide +kernel
theorem d_Mo_join_191 : decode b_Mo_join 191 = .ok (.iload_n 1, 1) := by decide +kernel
theorem d_Mo_join_192 : decode b_Mo_join 192 = .ok (.iconst 3, 1) := by decide +kernel
theorem d_Mo_join_193 : decode b_Mo_join 193 = .ok (.if_icmp .ne 21, 3) := by decide +kernel
theorem d_Mo_join_196 : decode b_Mo_join 196 = .ok (.aload_n 0, 1) := by decide +kernel
theorem d_Mo_join_197 : decode b_Mo_join 197 = .ok (.iload_n 2, 1) := by decide +kernel
theorem d_Mo_join_198 : decode b_Mo_join 198 = .ok (.iload 5, 2) := by decide +kernel
theorem d_Mo_join_200 : decode b_Mo_join 200 = .ok (.invokevirtual 106, 3) := by decide +kernel
theorem d_Mo_join_203 : decode b_Mo_join 203 = .ok (.ifCond .eq 11, 3) := by decide +kernel
theorem d_Mo_join_206 : decode b_Mo_join 206 = .ok (.aload_n 0, 1) := by decide +kernel
theorem d_Mo_join_207 : decode b_Mo_join 207 = .ok (.bipush 8, 2) := by decide +kernel
theorem d_Mo_join_209 : decode b_Mo_join 209 = .ok (.iload 5, 2) := by decide +kernel
theorem d_Mo_join_211 : decode b_Mo_join 211 = .ok (.invokevirtual 87, 3) := by decide +kernel
theorem d_Mo_join_214 : decode b_Mo_join 214 = .ok (.iinc 4 1, 3) := by decide +kernel
theorem d_Mo_join_217 : decode b_Mo_join 217 = .ok (.goto (-74), 3) := by decide +kernel
theorem d_Mo_join_220 : decode b_Mo_join 220 = .ok (.aload_n 0, 1) := by decide +kernel
theorem d_Mo_join_221 : decode b_Mo_join 221 = .ok (.dup, 1) := by decide +kernel
theorem d_Mo_join_222 : decode b_Mo_join 222 = .ok (.getfield 73, 3) := by decide +kernel
theorem d_Mo_join_225 : decode b_Mo_join 225 = .ok (.iconst 1, 1) := by decide +kernel
theorem d_Mo_join_226 : decode b_Mo_join 226 = .ok (.isub, 1) := by decide +kernel
theorem d_Mo_join_227 : decode b_Mo_join 227 = .ok (.putfield 73, 3) := by decide +kernel
theorem d_Mo_join_230 : decode b_Mo_join 230 = .ok (.aload_n 0, 1) := by decide +kernel
theorem d_Mo_join_231 : decode b_Mo_join 231 = .ok (.iload_n 2, 1) := by decide +kernel
theorem d_Mo_join_232 : decode b_Mo_join 232 = .ok (.invokevirtual 99, 3) := by decide +kernel
theorem d_Mo_join_235 : decode b_Mo_join 235 = .ok (.ireturn, 1) := by decide +kernel
abbrev b_Mo_many : ByteArray := prog_9_method_14_code
abbrev y_Mo_many : MethodName := ⟨"SegmentIndexModel", "many", "(II)I"⟩
theorem d_Mo_many_0 : decode b_Mo_many 0 = .ok (.iconst 0, 1) := by decide +kernel
theorem d_Mo_many_1 : decode b_Mo_many 1 = .ok (.istore_n 3, 1) := by decide +kernel
theorem d_Mo_many_2 : decode b_Mo_many 2 = .ok (.iconst 0, 1) := by decide +kernel
theorem d_Mo_many_3 : decode b_Mo_many 3 = .ok (.istore 4, 2) := by decide +kernel
theorem d_Mo_many_5 : decode b_Mo_many 5 = .ok (.iload 4, 2) := by decide +kernel
theorem d_Mo_many_7 : decode b_Mo_many 7 = .ok (.aload_n 0, 1) := by decide +kernel
theorem d_Mo_many_8 : decode b_Mo_many 8 = .ok (.getfield 35, 3) := by decide +kernel
theorem d_Mo_many_11 : decode b_Mo_many 11 = .ok (.iload_n 1, 1) := by decide +kernel
theorem d_Mo_many_12 : decode b_Mo_many 12 = .ok (.iaload, 1) := by decide +kernel
theorem d_Mo_many_13 : decode b_Mo_many 13 = .ok (.if_icmp .ge 32, 3) := by decide +kernel
theorem d_Mo_many_16 : decode b_Mo_many 16 = .ok (.aload_n 0, 1) := by decide +kernel
theorem d_Mo_many_17 : decode b_Mo_many 17 = .ok (.getfield 32, 3) := by decide +kernel
theorem d_Mo_many_20 : decode b_Mo_many 20 = .ok (.sipush 520, 3) := by decide +kernel
theorem d_Mo_many_23 : decode b_Mo_many 23 = .ok (.iload_n 1, 1) := by decide +kernel
theorem d_Mo_many_24 : decode b_Mo_many 24 = .ok (.imul, 1) := by decide +kernel
theorem d_Mo_many_25 : decode b_Mo_many 25 = .ok (.iload 4, 2) := by decide +kernel
theorem d_Mo_many_27 : decode b_Mo_many 27 = .ok (.iadd, 1) := by decide +kernel
theorem d_Mo_many_28 : decode b_Mo_many 28 = .ok (.iaload, 1) := by decide +kernel
theorem d_Mo_many_29 : decode b_Mo_many 29 = .ok (.bipush 14, 2) := by decide +kernel
theorem d_Mo_many_31 : decode b_Mo_many 31 = .ok (.ishr, 1) := by decide +kernel
theorem d_Mo_many_32 : decode b_Mo_many 32 = .ok (.iload_n 2, 1) := by decide +kernel
theorem d_Mo_many_33 : decode b_Mo_many 33 = .ok (.if_icmp .ne 6, 3) := by decide +kernel
theorem d_Mo_many_36 : decode b_Mo_many 36 = .ok (.iinc 3 1, 3) := by decide +kernel
theorem d_Mo_many_39 : decode b_Mo_many 39 = .ok (.iinc 4 1, 3) := by decide +kernel
theorem d_Mo_many_42 : decode b_Mo_many 42 = .ok (.goto (-37), 3) := by decide +kernel
theorem d_Mo_many_45 : decode b_Mo_many 45 = .ok (.iload_n 3, 1) := by decide +kernel
theorem d_Mo_many_46 : decode b_Mo_many 46 = .ok (.ireturn, 1) := by decide +kernel
abbrev b_Mo_near : ByteArray := prog_9_method_24_code
abbrev y_Mo_near : MethodName := ⟨"SegmentIndexModel", "near", "(II)Z"⟩
theorem d_Mo_near_0 : decode b_Mo_near 0 = .ok (.bipush (-10), 2) := by decide +kernel
theorem d_Mo_near_2 : decode b_Mo_near 2 = .ok (.istore_n 3, 1) := by decide +kernel
theorem d_Mo_near_3 : decode b_Mo_near 3 = .ok (.iload_n 3, 1) := by decide +kernel
theorem d_Mo_near_4 : decode b_Mo_near 4 = .ok (.bipush 10, 2) := by decide +kernel
theorem d_Mo_near_6 : decode b_Mo_near 6 = .ok (.if_icmp .gt 45, 3) := by decide +kernel
theorem d_Mo_near_9 : decode b_Mo_near 9 = .ok (.iload_n 2, 1) := by decide +kernel
theorem d_Mo_near_10 : decode b_Mo_near 10 = .ok (.sipush 4095, 3) := by decide +kernel
theorem d_Mo_near_13 : decode b_Mo_near 13 = .ok (.iand, 1) := by decide +kernel
theorem d_Mo_near_14 : decode b_Mo_near 14 = .ok (.iload_n 3, 1) := by decide +kernel
theorem d_Mo_near_15 : decode b_Mo_near 15 = .ok (.iadd, 1) := by decide +kernel
theorem d_Mo_near_16 : decode b_Mo_near 16 = .ok (.ifCond .lt 29, 3) := by decide +kernel
theorem d_Mo_near_19 : decode b_Mo_near 19 = .ok (.iload_n 2, 1) := by decide +kernel
theorem d_Mo_near_20 : decode b_Mo_near 20 = .ok (.sipush 4095, 3) := by decide +kernel
theorem d_Mo_near_23 : decode b_Mo_near 23 = .ok (.iand, 1) := by decide +kernel
theorem d_Mo_near_24 : decode b_Mo_near 24 = .ok (.iload_n 3, 1) := by decide +kernel
theorem d_Mo_near_25 : decode b_Mo_near 25 = .ok (.iadd, 1) := by decide +kernel
theorem d_Mo_near_26 : decode b_Mo_near 26 = .ok (.sipush 4095, 3) := by decide +kernel
theorem d_Mo_near_29 : decode b_Mo_near 29 = .ok (.if_icmp .gt 16, 3) := by decide +kernel
theorem d_Mo_near_32 : decode b_Mo_near 32 = .ok (.aload_n 0, 1) := by decide +kernel
theorem d_Mo_near_33 : decode b_Mo_near 33 = .ok (.iload_n 1, 1) := by decide +kernel
theorem d_Mo_near_34 : decode b_Mo_near 34 = .ok (.iload_n 2, 1) := by decide +kernel
theorem d_Mo_near_35 : decode b_Mo_near 35 = .ok (.iload_n 3, 1) := by decide +kernel
theorem d_Mo_near_36 : decode b_Mo_near 36 = .ok (.iadd, 1) := by decide +kernel
theorem d_Mo_near_37 : decode b_Mo_near 37 = .ok (.invokevirtual 95, 3) := by decide +kernel
theorem d_Mo_near_40 : decode b_Mo_near 40 = .ok (.ifCond .eq 5, 3) := by decide +kernel
theorem d_Mo_near_43 : decode b_Mo_near 43 = .ok (.iconst 1, 1) := by decide +kernel
theorem d_Mo_near_44 : decode b_Mo_near 44 = .ok (.ireturn, 1) := by decide +kernel
theorem d_Mo_near_45 : decode b_Mo_near 45 = .ok (.iinc 3 1, 3) := by decide +kernel
theorem d_Mo_near_48 : decode b_Mo_near 48 = .ok (.goto (-45), 3) := by decide +kernel
theorem d_Mo_near_51 : decode b_Mo_near 51 = .ok (.iconst 0, 1) := by decide +kernel
theorem d_Mo_near_52 : decode b_Mo_near 52 = .ok (.ireturn, 1) := by decide +kernel
abbrev b_Mo_drop : ByteArray := prog_9_method_26_code
abbrev y_Mo_drop : MethodName := ⟨"SegmentIndexModel", "drop", "()I"⟩
theorem d_Mo_drop_0 : decode b_Mo_drop 0 = .ok (.aload_n 0, 1) := by decide +kernel
theorem d_Mo_drop_1 : decode b_Mo_drop 1 = .ok (.aload_n 0, 1) := by decide +kernel
theorem d_Mo_drop_2 : decode b_Mo_drop 2 = .ok (.getfield 73, 3) := by decide +kernel
theorem d_Mo_drop_5 : decode b_Mo_drop 5 = .ok (.ifCond .ne 7, 3) := by decide +kernel
theorem d_Mo_drop_8 : decode b_Mo_drop 8 = .ok (.iconst 1, 1) := by decide +kernel
theorem d_Mo_drop_9 : decode b_Mo_drop 9 = .ok (.goto 4, 3) := by decide +kernel
theorem d_Mo_drop_12 : decode b_Mo_drop 12 = .ok (.iconst 0, 1) := by decide +kernel
theorem d_Mo_drop_13 : decode b_Mo_drop 13 = .ok (.putfield 38, 3) := by decide +kernel
theorem d_Mo_drop_16 : decode b_Mo_drop 16 = .ok (.aload_n 0, 1) := by decide +kernel
theorem d_Mo_drop_17 : decode b_Mo_drop 17 = .ok (.getfield 38, 3) := by decide +kernel
theorem d_Mo_drop_20 : decode b_Mo_drop 20 = .ok (.ifCond .le 5, 3) := by decide +kernel
theorem d_Mo_drop_23 : decode b_Mo_drop 23 = .ok (.iconst 0, 1) := by decide +kernel
theorem d_Mo_drop_24 : decode b_Mo_drop 24 = .ok (.ireturn, 1) := by decide +kernel
theorem d_Mo_drop_25 : decode b_Mo_drop 25 = .ok (.aload_n 0, 1) := by decide +kernel
theorem d_Mo_drop_26 : decode b_Mo_drop 26 = .ok (.dup, 1) := by decide +kernel
theorem d_Mo_drop_27 : decode b_Mo_drop 27 = .ok (.getfield 73, 3) := by decide +kernel
theorem d_Mo_drop_30 : decode b_Mo_drop 30 = .ok (.iconst 1, 1) := by decide +kernel
theorem d_Mo_drop_31 : decode b_Mo_drop 31 = .ok (.isub, 1) := by decide +kernel
theorem d_Mo_drop_32 : decode b_Mo_drop 32 = .ok (.putfield 73, 3) := by decide +kernel
theorem d_Mo_drop_35 : decode b_Mo_drop 35 = .ok (.aload_n 0, 1) := by decide +kernel
theorem d_Mo_drop_36 : decode b_Mo_drop 36 = .ok (.getfield 73, 3) := by decide +kernel
theorem d_Mo_drop_39 : decode b_Mo_drop 39 = .ok (.ireturn, 1) := by decide +kernel
abbrev b_Mo_hit : ByteArray := prog_9_method_27_code
abbrev y_Mo_hit : MethodName := ⟨"SegmentIndexModel", "hit", "(II)I"⟩
theorem d_Mo_hit_0 : decode b_Mo_hit 0 = .ok (.aload_n 0, 1) := by decide +kernel
theorem d_Mo_hit_1 : decode b_Mo_hit 1 = .ok (.iconst 0, 1) := by decide +kernel
theorem d_Mo_hit_2 : decode b_Mo_hit 2 = .ok (.putfield 38, 3) := by decide +kernel
theorem d_Mo_hit_5 : decode b_Mo_hit 5 = .ok (.aload_n 0, 1) := by decide +kernel
theorem d_Mo_hit_6 : decode b_Mo_hit 6 = .ok (.getfield 73, 3) := by decide +kernel
theorem d_Mo_hit_9 : decode b_Mo_hit 9 = .ok (.ifCond .eq 22, 3) := by decide +kernel
theorem d_Mo_hit_12 : decode b_Mo_hit 12 = .ok (.iload_n 1, 1) := by decide +kernel
theorem d_Mo_hit_13 : decode b_Mo_hit 13 = .ok (.ifCond .lt 18, 3) := by decide +kernel
theorem d_Mo_hit_16 : decode b_Mo_hit 16 = .ok (.iload_n 1, 1) := by decide +kernel
theorem d_Mo_hit_17 : decode b_Mo_hit 17 = .ok (.aload_n 0, 1) := by decide +kernel
theorem d_Mo_hit_18 : decode b_Mo_hit 18 = .ok (.getfield 35, 3) := by decide +kernel
theorem d_Mo_hit_21 : decode b_Mo_hit 21 = .ok (.aload_n 0, 1) := by decide +kernel
theorem d_Mo_hit_22 : decode b_Mo_hit 22 = .ok (.getfield 73, 3) := by decide +kernel
theorem d_Mo_hit_25 : decode b_Mo_hit 25 = .ok (.iconst 1, 1) := by decide +kernel
theorem d_Mo_hit_26 : decode b_Mo_hit 26 = .ok (.isub, 1) := by decide +kernel
theorem d_Mo_hit_27 : decode b_Mo_hit 27 = .ok (.iaload, 1) := by decide +kernel
theorem d_Mo_hit_28 : decode b_Mo_hit 28 = .ok (.if_icmp .lt 5, 3) := by decide +kernel
theorem d_Mo_hit_31 : decode b_Mo_hit 31 = .ok (.iconst (-1), 1) := by decide +kernel
theorem d_Mo_hit_32 : decode b_Mo_hit 32 = .ok (.ireturn, 1) := by decide +kernel
theorem d_Mo_hit_33 : decode b_Mo_hit 33 = .ok (.aload_n 0, 1) := by decide +kernel
theorem d_Mo_hit_34 : decode b_Mo_hit 34 = .ok (.getfield 32, 3) := by decide +kernel
theorem d_Mo_hit_37 : decode b_Mo_hit 37 = .ok (.sipush 520, 3) := by decide +kernel
theorem d_Mo_hit_40 : decode b_Mo_hit 40 = .ok (.aload_n 0, 1) := by decide +kernel
theorem d_Mo_hit_41 : decode b_Mo_hit 41 = .ok (.getfield 73, 3) := by decide +kernel
theorem d_Mo_hit_44 : decode b_Mo_hit 44 = .ok (.iconst 1, 1) := by decide +kernel
theorem d_Mo_hit_45 : decode b_Mo_hit 45 = .ok (.isub, 1) := by decide +kernel
theorem d_Mo_hit_46 : decode b_Mo_hit 46 = .ok (.imul, 1) := by decide +kernel
theorem d_Mo_hit_47 : decode b_Mo_hit 47 = .ok (.iload_n 1, 1) := by decide +kernel
theorem d_Mo_hit_48 : decode b_Mo_hit 48 = .ok (.iadd, 1) := by decide +kernel
theorem d_Mo_hit_49 : decode b_Mo_hit 49 = .ok (.iaload, 1) := by decide +kernel
theorem d_Mo_hit_50 : decode b_Mo_hit 50 = .ok (.istore_n 3, 1) := by decide +kernel
theorem d_Mo_hit_51 : decode b_Mo_hit 51 = .ok (.iload_n 2, 1) := by decide +kernel
theorem d_Mo_hit_52 : decode b_Mo_hit 52 = .ok (.ifCond .ne 10, 3) := by decide +kernel
theorem d_Mo_hit_55 : decode b_Mo_hit 55 = .ok (.iload_n 3, 1) := by decide +kernel
theorem d_Mo_hit_56 : decode b_Mo_hit 56 = .ok (.bipush 14, 2) := by decide +kernel
theorem d_Mo_hit_58 : decode b_Mo_hit 58 = .ok (.ishr, 1) := by decide +kernel
theorem d_Mo_hit_59 : decode b_Mo_hit 59 = .ok (.goto 31, 3) := by decide +kernel
theorem d_Mo_hit_62 : decode b_Mo_hit 62 = .ok (.iload_n 2, 1) := by decide +kernel
theorem d_Mo_hit_63 : decode b_Mo_hit 63 = .ok (.iconst 1, 1) := by decide +kernel
theorem d_Mo_hit_64 : decode b_Mo_hit 64 = .ok (.if_icmp .ne 12, 3) := by decide +kernel
theorem d_Mo_hit_67 : decode b_Mo_hit 67 = .ok (.iload_n 3, 1) := by decide +kernel
theorem d_Mo_hit_68 : decode b_Mo_hit 68 = .ok (.bipush 12, 2) := by decide +kernel
theorem d_Mo_hit_70 : decode b_Mo_hit 70 = .ok (.ishr, 1) := by decide +kernel
theorem d_Mo_hit_71 : decode b_Mo_hit 71 = .ok (.iconst 3, 1) := by decide +kernel
theorem d_Mo_hit_72 : decode b_Mo_hit 72 = .ok (.iand, 1) := by decide +kernel
theorem d_Mo_hit_73 : decode b_Mo_hit 73 = .ok (.goto 17, 3) := by decide +kernel
theorem d_Mo_hit_76 : decode b_Mo_hit 76 = .ok (.iload_n 2, 1) := by decide +kernel
theorem d_Mo_hit_77 : decode b_Mo_hit 77 = .ok (.iconst 2, 1) := by decide +kernel
theorem d_Mo_hit_78 : decode b_Mo_hit 78 = .ok (.if_icmp .ne 11, 3) := by decide +kernel
theorem d_Mo_hit_81 : decode b_Mo_hit 81 = .ok (.iload_n 3, 1) := by decide +kernel
theorem d_Mo_hit_82 : decode b_Mo_hit 82 = .ok (.sipush 4095, 3) := by decide +kernel
theorem d_Mo_hit_85 : decode b_Mo_hit 85 = .ok (.iand, 1) := by decide +kernel
theorem d_Mo_hit_86 : decode b_Mo_hit 86 = .ok (.goto 4, 3) := by decide +kernel
theorem d_Mo_hit_89 : decode b_Mo_hit 89 = .ok (.iconst (-1), 1) := by decide +kernel
theorem d_Mo_hit_90 : decode b_Mo_hit 90 = .ok (.ireturn, 1) := by decide +kernel
abbrev b_Mo_documents : ByteArray := prog_9_method_28_code
abbrev y_Mo_documents : MethodName := ⟨"SegmentIndexModel", "documents", "()I"⟩
theorem d_Mo_documents_0 : decode b_Mo_documents 0 = .ok (.aload_n 0, 1) := by decide +kernel
theorem d_Mo_documents_1 : decode b_Mo_documents 1 = .ok (.iconst 0, 1) := by decide +kernel
theorem d_Mo_documents_2 : decode b_Mo_documents 2 = .ok (.putfield 38, 3) := by decide +kernel
theorem d_Mo_documents_5 : decode b_Mo_documents 5 = .ok (.iconst 0, 1) := by decide +kernel
theorem d_Mo_documents_6 : decode b_Mo_documents 6 = .ok (.istore_n 1, 1) := by decide +kernel
theorem d_Mo_documents_7 : decode b_Mo_documents 7 = .ok (.iconst 0, 1) := by decide +kernel
theorem d_Mo_documents_8 : decode b_Mo_documents 8 = .ok (.istore_n 2, 1) := by decide +kernel
theorem d_Mo_documents_9 : decode b_Mo_documents 9 = .ok (.iload_n 2, 1) := by decide +kernel
theorem d_Mo_documents_10 : decode b_Mo_documents 10 = .ok (.aload_n 0, 1) := by decide +kernel
theorem d_Mo_documents_11 : decode b_Mo_documents 11 = .ok (.getfield 48, 3) := by decide +kernel
theorem d_Mo_documents_14 : decode b_Mo_documents 14 = .ok (.if_icmp .ge 33, 3) := by decide +kernel
theorem d_Mo_documents_17 : decode b_Mo_documents 17 = .ok (.aload_n 0, 1) := by decide +kernel
theorem d_Mo_documents_18 : decode b_Mo_documents 18 = .ok (.getfield 73, 3) := by decide +kernel
theorem d_Mo_documents_21 : decode b_Mo_documents 21 = .ok (.ifCond .le 26, 3) := by decide +kernel
theorem d_Mo_documents_24 : decode b_Mo_documents 24 = .ok (.aload_n 0, 1) := by decide +kernel
theorem d_Mo_documents_25 : decode b_Mo_documents 25 = .ok (.aload_n 0, 1) := by decide +kernel
theorem d_Mo_documents_26 : decode b_Mo_documents 26 = .ok (.getfield 73, 3) := by decide +kernel
theorem d_Mo_documents_29 : decode b_Mo_documents 29 = .ok (.iconst 1, 1) := by decide +kernel
theorem d_Mo_documents_30 : decode b_Mo_documents 30 = .ok (.isub, 1) := by decide +kernel
theorem d_Mo_documents_31 : decode b_Mo_documents 31 = .ok (.iload_n 2, 1) := by decide +kernel
theorem d_Mo_documents_32 : decode b_Mo_documents 32 = .ok (.invokevirtual 102, 3) := by decide +kernel
theorem d_Mo_documents_35 : decode b_Mo_documents 35 = .ok (.ifCond .le 6, 3) := by decide +kernel
theorem d_Mo_documents_38 : decode b_Mo_documents 38 = .ok (.iinc 1 1, 3) := by decide +kernel
theorem d_Mo_documents_41 : decode b_Mo_documents 41 = .ok (.iinc 2 1, 3) := by decide +kernel
theorem d_Mo_documents_44 : decode b_Mo_documents 44 = .ok (.goto (-35), 3) := by decide +kernel
theorem d_Mo_documents_47 : decode b_Mo_documents 47 = .ok (.iload_n 1, 1) := by decide +kernel
theorem d_Mo_documents_48 : decode b_Mo_documents 48 = .ok (.ireturn, 1) := by decide +kernel
abbrev b_Mo_best : ByteArray := prog_9_method_30_code
abbrev y_Mo_best : MethodName := ⟨"SegmentIndexModel", "best", "(I)I"⟩
theorem d_Mo_best_0 : decode b_Mo_best 0 = .ok (.aload_n 0, 1) := by decide +kernel
theorem d_Mo_best_1 : decode b_Mo_best 1 = .ok (.iconst 0, 1) := by decide +kernel
theorem d_Mo_best_2 : decode b_Mo_best 2 = .ok (.putfield 38, 3) := by decide +kernel
theorem d_Mo_best_5 : decode b_Mo_best 5 = .ok (.iconst 0, 1) := by decide +kernel
theorem d_Mo_best_6 : decode b_Mo_best 6 = .ok (.istore_n 2, 1) := by decide +kernel
theorem d_Mo_best_7 : decode b_Mo_best 7 = .ok (.iload_n 2, 1) := by decide +kernel
theorem d_Mo_best_8 : decode b_Mo_best 8 = .ok (.aload_n 0, 1) := by decide +kernel
theorem d_Mo_best_9 : decode b_Mo_best 9 = .ok (.getfield 48, 3) := by decide +kernel
theorem d_Mo_best_12 : decode b_Mo_best 12 = .ok (.if_icmp .ge 47, 3) := by decide +kernel
theorem d_Mo_best_15 : decode b_Mo_best 15 = .ok (.aload_n 0, 1) := by decide +kernel
theorem d_Mo_best_16 : decode b_Mo_best 16 = .ok (.getfield 73, 3) := by decide +kernel
theorem d_Mo_best_19 : decode b_Mo_best 19 = .ok (.ifCond .le 40, 3) := by decide +kernel
theorem d_Mo_best_22 : decode b_Mo_best 22 = .ok (.aload_n 0, 1) := by decide +kernel
theorem d_Mo_best_23 : decode b_Mo_best 23 = .ok (.aload_n 0, 1) := by decide +kernel
theorem d_Mo_best_24 : decode b_Mo_best 24 = .ok (.getfield 73, 3) := by decide +kernel
theorem d_Mo_best_27 : decode b_Mo_best 27 = .ok (.iconst 1, 1) := by decide +kernel
theorem d_Mo_best_28 : decode b_Mo_best 28 = .ok (.isub, 1) := by decide +kernel
theorem d_Mo_best_29 : decode b_Mo_best 29 = .ok (.iload_n 2, 1) := by decide +kernel
theorem d_Mo_best_30 : decode b_Mo_best 30 = .ok (.invokevirtual 102, 3) := by decide +kernel
theorem d_Mo_best_33 : decode b_Mo_best 33 = .ok (.ifCond .le 20, 3) := by decide +kernel
theorem d_Mo_best_36 : decode b_Mo_best 36 = .ok (.aload_n 0, 1) := by decide +kernel
theorem d_Mo_best_37 : decode b_Mo_best 37 = .ok (.aload_n 0, 1) := by decide +kernel
theorem d_Mo_best_38 : decode b_Mo_best 38 = .ok (.getfield 73, 3) := by decide +kernel
theorem d_Mo_best_41 : decode b_Mo_best 41 = .ok (.iconst 1, 1) := by decide +kernel
theorem d_Mo_best_42 : decode b_Mo_best 42 = .ok (.isub, 1) := by decide +kernel
theorem d_Mo_best_43 : decode b_Mo_best 43 = .ok (.iload_n 2, 1) := by decide +kernel
theorem d_Mo_best_44 : decode b_Mo_best 44 = .ok (.invokevirtual 109, 3) := by decide +kernel
theorem d_Mo_best_47 : decode b_Mo_best 47 = .ok (.iload_n 1, 1) := by decide +kernel
theorem d_Mo_best_48 : decode b_Mo_best 48 = .ok (.if_icmp .ne 5, 3) := by decide +kernel
theorem d_Mo_best_51 : decode b_Mo_best 51 = .ok (.iload_n 2, 1) := by decide +kernel
theorem d_Mo_best_52 : decode b_Mo_best 52 = .ok (.ireturn, 1) := by decide +kernel
theorem d_Mo_best_53 : decode b_Mo_best 53 = .ok (.iinc 2 1, 3) := by decide +kernel
theorem d_Mo_best_56 : decode b_Mo_best 56 = .ok (.goto (-49), 3) := by decide +kernel
theorem d_Mo_best_59 : decode b_Mo_best 59 = .ok (.iconst (-1), 1) := by decide +kernel
theorem d_Mo_best_60 : decode b_Mo_best 60 = .ok (.ireturn, 1) := by decide +kernel
abbrev b_Mo_ahead : ByteArray := prog_9_method_29_code
abbrev y_Mo_ahead : MethodName := ⟨"SegmentIndexModel", "ahead", "(II)I"⟩
theorem d_Mo_ahead_0 : decode b_Mo_ahead 0 = .ok (.aload_n 0, 1) := by decide +kernel
theorem d_Mo_ahead_1 : decode b_Mo_ahead 1 = .ok (.iload_n 1, 1) := by decide +kernel
theorem d_Mo_ahead_2 : decode b_Mo_ahead 2 = .ok (.iload_n 2, 1) := by decide +kernel
theorem d_Mo_ahead_3 : decode b_Mo_ahead 3 = .ok (.invokevirtual 102, 3) := by decide +kernel
theorem d_Mo_ahead_6 : decode b_Mo_ahead 6 = .ok (.istore_n 3, 1) := by decide +kernel
theorem d_Mo_ahead_7 : decode b_Mo_ahead 7 = .ok (.iconst 0, 1) := by decide +kernel
theorem d_Mo_ahead_8 : decode b_Mo_ahead 8 = .ok (.istore 4, 2) := by decide +kernel
theorem d_Mo_ahead_10 : decode b_Mo_ahead 10 = .ok (.iconst 0, 1) := by decide +kernel
theorem d_Mo_ahead_11 : decode b_Mo_ahead 11 = .ok (.istore 5, 2) := by decide +kernel
theorem d_Mo_ahead_13 : decode b_Mo_ahead 13 = .ok (.iload 5, 2) := by decide +kernel
theorem d_Mo_ahead_15 : decode b_Mo_ahead 15 = .ok (.aload_n 0, 1) := by decide +kernel
theorem d_Mo_ahead_16 : decode b_Mo_ahead 16 = .ok (.getfield 48, 3) := by decide +kernel
theorem d_Mo_ahead_19 : decode b_Mo_ahead 19 = .ok (.if_icmp .ge 39, 3) := by decide +kernel
theorem d_Mo_ahead_22 : decode b_Mo_ahead 22 = .ok (.aload_n 0, 1) := by decide +kernel
theorem d_Mo_ahead_23 : decode b_Mo_ahead 23 = .ok (.iload_n 1, 1) := by decide +kernel
theorem d_Mo_ahead_24 : decode b_Mo_ahead 24 = .ok (.iload 5, 2) := by decide +kernel
theorem d_Mo_ahead_26 : decode b_Mo_ahead 26 = .ok (.invokevirtual 102, 3) := by decide +kernel
theorem d_Mo_ahead_29 : decode b_Mo_ahead 29 = .ok (.istore 6, 2) := by decide +kernel
theorem d_Mo_ahead_31 : decode b_Mo_ahead 31 = .ok (.iload 6, 2) := by decide +kernel
theorem d_Mo_ahead_33 : decode b_Mo_ahead 33 = .ok (.iload_n 3, 1) := by decide +kernel
theorem d_Mo_ahead_34 : decode b_Mo_ahead 34 = .ok (.if_icmp .gt 15, 3) := by decide +kernel
theorem d_Mo_ahead_37 : decode b_Mo_ahead 37 = .ok (.iload 6, 2) := by decide +kernel
theorem d_Mo_ahead_39 : decode b_Mo_ahead 39 = .ok (.iload_n 3, 1) := by decide +kernel
theorem d_Mo_ahead_40 : decode b_Mo_ahead 40 = .ok (.if_icmp .ne 12, 3) := by decide +kernel
theorem d_Mo_ahead_43 : decode b_Mo_ahead 43 = .ok (.iload 5, 2) := by decide +kernel
theorem d_Mo_ahead_45 : decode b_Mo_ahead 45 = .ok (.iload_n 2, 1) := by decide +kernel
theorem d_Mo_ahead_46 : decode b_Mo_ahead 46 = .ok (.if_icmp .ge 6, 3) := by decide +kernel
theorem d_Mo_ahead_49 : decode b_Mo_ahead 49 = .ok (.iinc 4 1, 3) := by decide +kernel
theorem d_Mo_ahead_52 : decode b_Mo_ahead 52 = .ok (.iinc 5 1, 3) := by decide +kernel
theorem d_Mo_ahead_55 : decode b_Mo_ahead 55 = .ok (.goto (-42), 3) := by decide +kernel
theorem d_Mo_ahead_58 : decode b_Mo_ahead 58 = .ok (.iload 4, 2) := by decide +kernel
theorem d_Mo_ahead_60 : decode b_Mo_ahead 60 = .ok (.ireturn, 1) := by decide +kernel
abbrev b_Mo_segment : ByteArray := prog_9_method_32_code
abbrev y_Mo_segment : MethodName := ⟨"SegmentIndexModel", "segment", "(II)I"⟩
theorem d_Mo_segment_0 : decode b_Mo_segment 0 = .ok (.aload_n 0, 1) := by decide +kernel
theorem d_Mo_segment_1 : decode b_Mo_segment 1 = .ok (.iconst 0, 1) := by decide +kernel
theorem d_Mo_segment_2 : decode b_Mo_segment 2 = .ok (.putfield 38, 3) := by decide +kernel
theorem d_Mo_segment_5 : decode b_Mo_segment 5 = .ok (.iload_n 1, 1) := by decide +kernel
theorem d_Mo_segment_6 : decode b_Mo_segment 6 = .ok (.ifCond .lt 20, 3) := by decide +kernel
theorem d_Mo_segment_9 : decode b_Mo_segment 9 = .ok (.iload_n 1, 1) := by decide +kernel
theorem d_Mo_segment_10 : decode b_Mo_segment 10 = .ok (.aload_n 0, 1) := by decide +kernel
theorem d_Mo_segment_11 : decode b_Mo_segment 11 = .ok (.getfield 58, 3) := by decide +kernel
theorem d_Mo_segment_14 : decode b_Mo_segment 14 = .ok (.if_icmp .ge 12, 3) := by decide +kernel
theorem d_Mo_segment_17 : decode b_Mo_segment 17 = .ok (.iload_n 2, 1) := by decide +kernel
theorem d_Mo_segment_18 : decode b_Mo_segment 18 = .ok (.ifCond .lt 8, 3) := by decide +kernel
theorem d_Mo_segment_21 : decode b_Mo_segment 21 = .ok (.iload_n 2, 1) := by decide +kernel
theorem d_Mo_segment_22 : decode b_Mo_segment 22 = .ok (.iconst 3, 1) := by decide +kernel
theorem d_Mo_segment_23 : decode b_Mo_segment 23 = .ok (.if_icmp .le 5, 3) := by decide +kernel
theorem d_Mo_segment_26 : decode b_Mo_segment 26 = .ok (.iconst (-1), 1) := by decide +kernel
theorem d_Mo_segment_27 : decode b_Mo_segment 27 = .ok (.ireturn, 1) := by decide +kernel
theorem d_Mo_segment_28 : decode b_Mo_segment 28 = .ok (.iload_n 2, 1) := by decide +kernel
theorem d_Mo_segment_29 : decode b_Mo_segment 29 = .ok (.ifCond .ne 10, 3) := by decide +kernel
theorem d_Mo_segment_32 : decode b_Mo_segment 32 = .ok (.aload_n 0, 1) := by decide +kernel
theorem d_Mo_segment_33 : decode b_Mo_segment 33 = .ok (.getfield 29, 3) := by decide +kernel
theorem d_Mo_segment_36 : decode b_Mo_segment 36 = .ok (.iload_n 1, 1) := by decide +kernel
theorem d_Mo_segment_37 : decode b_Mo_segment 37 = .ok (.iaload, 1) := by decide +kernel
theorem d_Mo_segment_38 : decode b_Mo_segment 38 = .ok (.ireturn, 1) := by decide +kernel
theorem d_Mo_segment_39 : decode b_Mo_segment 39 = .ok (.iload_n 2, 1) := by decide +kernel
theorem d_Mo_segment_40 : decode b_Mo_segment 40 = .ok (.iconst 1, 1) := by decide +kernel
theorem d_Mo_segment_41 : decode b_Mo_segment 41 = .ok (.if_icmp .ne 9, 3) := by decide +kernel
theorem d_Mo_segment_44 : decode b_Mo_segment 44 = .ok (.aload_n 0, 1) := by decide +kernel
theorem d_Mo_segment_45 : decode b_Mo_segment 45 = .ok (.iload_n 1, 1) := by decide +kernel
theorem d_Mo_segment_46 : decode b_Mo_segment 46 = .ok (.invokevirtual 51, 3) := by decide +kernel
theorem d_Mo_segment_49 : decode b_Mo_segment 49 = .ok (.ireturn, 1) := by decide +kernel
theorem d_Mo_segment_50 : decode b_Mo_segment 50 = .ok (.iconst 0, 1) := by decide +kernel
theorem d_Mo_segment_51 : decode b_Mo_segment 51 = .ok (.istore_n 3, 1) := by decide +kernel
theorem d_Mo_segment_52 : decode b_Mo_segment 52 = .ok (.iconst 0, 1) := by decide +kernel
theorem d_Mo_segment_53 : decode b_Mo_segment 53 = .ok (.istore 4, 2) := by decide +kernel
theorem d_Mo_segment_55 : decode b_Mo_segment 55 = .ok (.iload 4, 2) := by decide +kernel
theorem d_Mo_segment_57 : decode b_Mo_segment 57 = .ok (.aload_n 0, 1) := by decide +kernel
theorem d_Mo_segment_58 : decode b_Mo_segment 58 = .ok (.getfield 42, 3) := by decide +kernel
theorem d_Mo_segment_61 : decode b_Mo_segment 61 = .ok (.if_icmp .ge 44, 3) := by decide +kernel
theorem d_Mo_segment_64 : decode b_Mo_segment 64 = .ok (.aload_n 0, 1) := by decide +kernel
theorem d_Mo_segment_65 : decode b_Mo_segment 65 = .ok (.getfield 22, 3) := by decide +kernel
theorem d_Mo_segment_68 : decode b_Mo_segment 68 = .ok (.aload_n 0, 1) := by decide +kernel
theorem d_Mo_segment_69 : decode b_Mo_segment 69 = .ok (.getfield 7, 3) := by decide +kernel
theorem d_Mo_segment_72 : decode b_Mo_segment 72 = .ok (.iload 4, 2) := by decide +kernel
theorem d_Mo_segment_74 : decode b_Mo_segment 74 = .ok (.iaload, 1) := by decide +kernel
theorem d_Mo_segment_75 : decode b_Mo_segment 75 = .ok (.iaload, 1) := by decide +kernel
theorem d_Mo_segment_76 : decode b_Mo_segment 76 = .ok (.iload_n 1, 1) := by decide +kernel
theorem d_Mo_segment_77 : decode b_Mo_segment 77 = .ok (.if_icmp .ne 22, 3) := by decide +kernel
theorem d_Mo_segment_80 : decode b_Mo_segment 80 = .ok (.iload_n 2, 1) := by decide +kernel
theorem d_Mo_segment_81 : decode b_Mo_segment 81 = .ok (.iconst 3, 1) := by decide +kernel
theorem d_Mo_segment_82 : decode b_Mo_segment 82 = .ok (.if_icmp .eq 14, 3) := by decide +kernel
theorem d_Mo_segment_85 : decode b_Mo_segment 85 = .ok (.aload_n 0, 1) := by decide +kernel
theorem d_Mo_segment_86 : decode b_Mo_segment 86 = .ok (.iload 4, 2) := by decide +kernel
theorem d_Mo_segment_88 : decode b_Mo_segment 88 = .ok (.invokevirtual 112, 3) := by decide +kernel
theorem d_Mo_segment_91 : decode b_Mo_segment 91 = .ok (.iload 4, 2) := by decide +kernel
theorem d_Mo_segment_93 : decode b_Mo_segment 93 = .ok (.if_icmp .ne 6, 3) := by decide +kernel
theorem d_Mo_segment_96 : decode b_Mo_segment 96 = .ok (.iinc 3 1, 3) := by decide +kernel
theorem d_Mo_segment_99 : decode b_Mo_segment 99 = .ok (.iinc 4 1, 3) := by decide +kernel
theorem d_Mo_segment_102 : decode b_Mo_segment 102 = .ok (.goto (-47), 3) := by decide +kernel
theorem d_Mo_segment_105 : decode b_Mo_segment 105 = .ok (.iload_n 3, 1) := by decide +kernel
theorem d_Mo_segment_106 : decode b_Mo_segment 106 = .ok (.ireturn, 1) := by decide +kernel
abbrev b_Mo_firstAlike : ByteArray := prog_9_method_31_code
abbrev y_Mo_firstAlike : MethodName := ⟨"SegmentIndexModel", "firstAlike", "(I)I"⟩
theorem d_Mo_firstAlike_0 : decode b_Mo_firstAlike 0 = .ok (.iconst 0, 1) := by decide +kernel
theorem d_Mo_firstAlike_1 : decode b_Mo_firstAlike 1 = .ok (.istore_n 2, 1) := by decide +kernel
theorem d_Mo_firstAlike_2 : decode b_Mo_firstAlike 2 = .ok (.iload_n 2, 1) := by decide +kernel
theorem d_Mo_firstAlike_3 : decode b_Mo_firstAlike 3 = .ok (.iload_n 1, 1) := by decide +kernel
theorem d_Mo_firstAlike_4 : decode b_Mo_firstAlike 4 = .ok (.if_icmp .ge 66, 3) := by decide +kernel
theorem d_Mo_firstAlike_7 : decode b_Mo_firstAlike 7 = .ok (.aload_n 0, 1) := by decide +kernel
theorem d_Mo_firstAlike_8 : decode b_Mo_firstAlike 8 = .ok (.getfield 16, 3) := by decide +kernel
theorem d_Mo_firstAlike_11 : decode b_Mo_firstAlike 11 = .ok (.iload_n 2, 1) := by decide +kernel
theorem d_Mo_firstAlike_12 : decode b_Mo_firstAlike 12 = .ok (.iaload, 1) := by decide +kernel
theorem d_Mo_firstAlike_13 : decode b_Mo_firstAlike 13 = .ok (.aload_n 0, 1) := by decide +kernel
theorem d_Mo_firstAlike_14 : decode b_Mo_firstAlike 14 = .ok (.getfield 16, 3) := by decide +kernel
theorem d_Mo_firstAlike_17 : decode b_Mo_firstAlike 17 = .ok (.iload_n 1, 1) := by decide +kernel
theorem d_Mo_firstAlike_18 : decode b_Mo_firstAlike 18 = .ok (.iaload, 1) := by decide +kernel
theorem d_Mo_firstAlike_19 : decode b_Mo_firstAlike 19 = .ok (.if_icmp .ne 45, 3) := by decide +kernel
theorem d_Mo_firstAlike_22 : decode b_Mo_firstAlike 22 = .ok (.aload_n 0, 1) := by decide +kernel
theorem d_Mo_firstAlike_23 : decode b_Mo_firstAlike 23 = .ok (.getfield 19, 3) := by decide +kernel
theorem d_Mo_firstAlike_26 : decode b_Mo_firstAlike 26 = .ok (.iload_n 2, 1) := by decide +kernel
theorem d_Mo_firstAlike_27 : decode b_Mo_firstAlike 27 = .ok (.iaload, 1) := by decide +kernel
theorem d_Mo_firstAlike_28 : decode b_Mo_firstAlike 28 = .ok (.aload_n 0, 1) := by decide +kernel
theorem d_Mo_firstAlike_29 : decode b_Mo_firstAlike 29 = .ok (.getfield 19, 3) := by decide +kernel
theorem d_Mo_firstAlike_32 : decode b_Mo_firstAlike 32 = .ok (.iload_n 1, 1) := by decide +kernel
theorem d_Mo_firstAlike_33 : decode b_Mo_firstAlike 33 = .ok (.iaload, 1) := by decide +kernel
theorem d_Mo_firstAlike_34 : decode b_Mo_firstAlike 34 = .ok (.if_icmp .ne 30, 3) := by decide +kernel
theorem d_Mo_firstAlike_37 : decode b_Mo_firstAlike 37 = .ok (.aload_n 0, 1) := by decide +kernel
theorem d_Mo_firstAlike_38 : decode b_Mo_firstAlike 38 = .ok (.getfield 22, 3) := by decide +kernel
theorem d_Mo_firstAlike_41 : decode b_Mo_firstAlike 41 = .ok (.aload_n 0, 1) := by decide +kernel
theorem d_Mo_firstAlike_42 : decode b_Mo_firstAlike 42 = .ok (.getfield 7, 3) := by decide +kernel
theorem d_Mo_firstAlike_45 : decode b_Mo_firstAlike 45 = .ok (.iload_n 2, 1) := by decide +kernel
theorem d_Mo_firstAlike_46 : decode b_Mo_firstAlike 46 = .ok (.iaload, 1) := by decide +kernel
theorem d_Mo_firstAlike_47 : decode b_Mo_firstAlike 47 = .ok (.iaload, 1) := by decide +kernel
theorem d_Mo_firstAlike_48 : decode b_Mo_firstAlike 48 = .ok (.aload_n 0, 1) := by decide +kernel
theorem d_Mo_firstAlike_49 : decode b_Mo_firstAlike 49 = .ok (.getfield 22, 3) := by decide +kernel
theorem d_Mo_firstAlike_52 : decode b_Mo_firstAlike 52 = .ok (.aload_n 0, 1) := by decide +kernel
theorem d_Mo_firstAlike_53 : decode b_Mo_firstAlike 53 = .ok (.getfield 7, 3) := by decide +kernel
theorem d_Mo_firstAlike_56 : decode b_Mo_firstAlike 56 = .ok (.iload_n 1, 1) := by decide +kernel
theorem d_Mo_firstAlike_57 : decode b_Mo_firstAlike 57 = .ok (.iaload, 1) := by decide +kernel
theorem d_Mo_firstAlike_58 : decode b_Mo_firstAlike 58 = .ok (.iaload, 1) := by decide +kernel
theorem d_Mo_firstAlike_59 : decode b_Mo_firstAlike 59 = .ok (.if_icmp .ne 5, 3) := by decide +kernel
theorem d_Mo_firstAlike_62 : decode b_Mo_firstAlike 62 = .ok (.iload_n 2, 1) := by decide +kernel
theorem d_Mo_firstAlike_63 : decode b_Mo_firstAlike 63 = .ok (.ireturn, 1) := by decide +kernel
theorem d_Mo_firstAlike_64 : decode b_Mo_firstAlike 64 = .ok (.iinc 2 1, 3) := by decide +kernel
theorem d_Mo_firstAlike_67 : decode b_Mo_firstAlike 67 = .ok (.goto (-65), 3) := by decide +kernel
theorem d_Mo_firstAlike_70 : decode b_Mo_firstAlike 70 = .ok (.iload_n 1, 1) := by decide +kernel
theorem d_Mo_firstAlike_71 : decode b_Mo_firstAlike 71 = .ok (.ireturn, 1) := by decide +kernel
abbrev b_Mo_count : ByteArray := prog_9_method_33_code
abbrev y_Mo_count : MethodName := ⟨"SegmentIndexModel", "count", "(I)I"⟩
theorem d_Mo_count_0 : decode b_Mo_count 0 = .ok (.aload_n 0, 1) := by decide +kernel
theorem d_Mo_count_1 : decode b_Mo_count 1 = .ok (.iconst 0, 1) := by decide +kernel
theorem d_Mo_count_2 : decode b_Mo_count 2 = .ok (.putfield 38, 3) := by decide +kernel
theorem d_Mo_count_5 : decode b_Mo_count 5 = .ok (.iload_n 1, 1) := by decide +kernel
theorem d_Mo_count_6 : decode b_Mo_count 6 = .ok (.iconst 1, 1) := by decide +kernel
theorem d_Mo_count_7 : decode b_Mo_count 7 = .ok (.if_icmp .ne 8, 3) := by decide +kernel
theorem d_Mo_count_10 : decode b_Mo_count 10 = .ok (.aload_n 0, 1) := by decide +kernel
theorem d_Mo_count_11 : decode b_Mo_count 11 = .ok (.getfield 48, 3) := by decide +kernel
theorem d_Mo_count_14 : decode b_Mo_count 14 = .ok (.ireturn, 1) := by decide +kernel
theorem d_Mo_count_15 : decode b_Mo_count 15 = .ok (.iload_n 1, 1) := by decide +kernel
theorem d_Mo_count_16 : decode b_Mo_count 16 = .ok (.iconst 2, 1) := by decide +kernel
theorem d_Mo_count_17 : decode b_Mo_count 17 = .ok (.if_icmp .ne 9, 3) := by decide +kernel
theorem d_Mo_count_20 : decode b_Mo_count 20 = .ok (.aload_n 0, 1) := by decide +kernel
theorem d_Mo_count_21 : decode b_Mo_count 21 = .ok (.iconst (-1), 1) := by decide +kernel
theorem d_Mo_count_22 : decode b_Mo_count 22 = .ok (.invokevirtual 51, 3) := by decide +kernel
theorem d_Mo_count_25 : decode b_Mo_count 25 = .ok (.ireturn, 1) := by decide +kernel
theorem d_Mo_count_26 : decode b_Mo_count 26 = .ok (.iload_n 1, 1) := by decide +kernel
theorem d_Mo_count_27 : decode b_Mo_count 27 = .ok (.iconst 3, 1) := by decide +kernel
theorem d_Mo_count_28 : decode b_Mo_count 28 = .ok (.if_icmp .ne 13, 3) := by decide +kernel
theorem d_Mo_count_31 : decode b_Mo_count 31 = .ok (.aload_n 0, 1) := by decide +kernel
theorem d_Mo_count_32 : decode b_Mo_count 32 = .ok (.getfield 45, 3) := by decide +kernel
theorem d_Mo_count_35 : decode b_Mo_count 35 = .ok (.aload_n 0, 1) := by decide +kernel
theorem d_Mo_count_36 : decode b_Mo_count 36 = .ok (.getfield 42, 3) := by decide +kernel
theorem d_Mo_count_39 : decode b_Mo_count 39 = .ok (.isub, 1) := by decide +kernel
theorem d_Mo_count_40 : decode b_Mo_count 40 = .ok (.ireturn, 1) := by decide +kernel
theorem d_Mo_count_41 : decode b_Mo_count 41 = .ok (.iload_n 1, 1) := by decide +kernel
theorem d_Mo_count_42 : decode b_Mo_count 42 = .ok (.iconst 4, 1) := by decide +kernel
theorem d_Mo_count_43 : decode b_Mo_count 43 = .ok (.if_icmp .ne 8, 3) := by decide +kernel
theorem d_Mo_count_46 : decode b_Mo_count 46 = .ok (.aload_n 0, 1) := by decide +kernel
theorem d_Mo_count_47 : decode b_Mo_count 47 = .ok (.getfield 58, 3) := by decide +kernel
theorem d_Mo_count_50 : decode b_Mo_count 50 = .ok (.ireturn, 1) := by decide +kernel
theorem d_Mo_count_51 : decode b_Mo_count 51 = .ok (.iload_n 1, 1) := by decide +kernel
theorem d_Mo_count_52 : decode b_Mo_count 52 = .ok (.iconst 5, 1) := by decide +kernel
theorem d_Mo_count_53 : decode b_Mo_count 53 = .ok (.if_icmp .ne 8, 3) := by decide +kernel
theorem d_Mo_count_56 : decode b_Mo_count 56 = .ok (.aload_n 0, 1) := by decide +kernel
theorem d_Mo_count_57 : decode b_Mo_count 57 = .ok (.getfield 73, 3) := by decide +kernel
theorem d_Mo_count_60 : decode b_Mo_count 60 = .ok (.ireturn, 1) := by decide +kernel
theorem d_Mo_count_61 : decode b_Mo_count 61 = .ok (.iload_n 1, 1) := by decide +kernel
theorem d_Mo_count_62 : decode b_Mo_count 62 = .ok (.bipush 6, 2) := by decide +kernel
theorem d_Mo_count_64 : decode b_Mo_count 64 = .ok (.if_icmp .ne 26, 3) := by decide +kernel
theorem d_Mo_count_67 : decode b_Mo_count 67 = .ok (.aload_n 0, 1) := by decide +kernel
theorem d_Mo_count_68 : decode b_Mo_count 68 = .ok (.getfield 73, 3) := by decide +kernel
theorem d_Mo_count_71 : decode b_Mo_count 71 = .ok (.ifCond .le 17, 3) := by decide +kernel
theorem d_Mo_count_74 : decode b_Mo_count 74 = .ok (.aload_n 0, 1) := by decide +kernel
theorem d_Mo_count_75 : decode b_Mo_count 75 = .ok (.getfield 35, 3) := by decide +kernel
theorem d_Mo_count_78 : decode b_Mo_count 78 = .ok (.aload_n 0, 1) := by decide +kernel
theorem d_Mo_count_79 : decode b_Mo_count 79 = .ok (.getfield 73, 3) := by decide +kernel
theorem d_Mo_count_82 : decode b_Mo_count 82 = .ok (.iconst 1, 1) := by decide +kernel
theorem d_Mo_count_83 : decode b_Mo_count 83 = .ok (.isub, 1) := by decide +kernel
theorem d_Mo_count_84 : decode b_Mo_count 84 = .ok (.iaload, 1) := by decide +kernel
theorem d_Mo_count_85 : decode b_Mo_count 85 = .ok (.goto 4, 3) := by decide +kernel
theorem d_Mo_count_88 : decode b_Mo_count 88 = .ok (.iconst 0, 1) := by decide +kernel
theorem d_Mo_count_89 : decode b_Mo_count 89 = .ok (.ireturn, 1) := by decide +kernel
theorem d_Mo_count_90 : decode b_Mo_count 90 = .ok (.iload_n 1, 1) := by decide +kernel
theorem d_Mo_count_91 : decode b_Mo_count 91 = .ok (.ifCond .eq 11, 3) := by decide +kernel
theorem d_Mo_count_94 : decode b_Mo_count 94 = .ok (.iload_n 1, 1) := by decide +kernel
theorem d_Mo_count_95 : decode b_Mo_count 95 = .ok (.bipush 7, 2) := by decide +kernel
theorem d_Mo_count_97 : decode b_Mo_count 97 = .ok (.if_icmp .eq 5, 3) := by decide +kernel
theorem d_Mo_count_100 : decode b_Mo_count 100 = .ok (.iconst (-1), 1) := by decide +kernel
theorem d_Mo_count_101 : decode b_Mo_count 101 = .ok (.ireturn, 1) := by decide +kernel
theorem d_Mo_count_102 : decode b_Mo_count 102 = .ok (.iconst 0, 1) := by decide +kernel
theorem d_Mo_count_103 : decode b_Mo_count 103 = .ok (.istore_n 2, 1) := by decide +kernel
theorem d_Mo_count_104 : decode b_Mo_count 104 = .ok (.iconst 0, 1) := by decide +kernel
theorem d_Mo_count_105 : decode b_Mo_count 105 = .ok (.istore_n 3, 1) := by decide +kernel
theorem d_Mo_count_106 : decode b_Mo_count 106 = .ok (.iload_n 3, 1) := by decide +kernel
theorem d_Mo_count_107 : decode b_Mo_count 107 = .ok (.aload_n 0, 1) := by decide +kernel
theorem d_Mo_count_108 : decode b_Mo_count 108 = .ok (.getfield 48, 3) := by decide +kernel
theorem d_Mo_count_111 : decode b_Mo_count 111 = .ok (.if_icmp .ge 48, 3) := by decide +kernel
theorem d_Mo_count_114 : decode b_Mo_count 114 = .ok (.iload_n 1, 1) := by decide +kernel
theorem d_Mo_count_115 : decode b_Mo_count 115 = .ok (.ifCond .ne 15, 3) := by decide +kernel
theorem d_Mo_count_118 : decode b_Mo_count 118 = .ok (.aload_n 0, 1) := by decide +kernel
theorem d_Mo_count_119 : decode b_Mo_count 119 = .ok (.getfield 25, 3) := by decide +kernel
theorem d_Mo_count_122 : decode b_Mo_count 122 = .ok (.iload_n 3, 1) := by decide +kernel
theorem d_Mo_count_123 : decode b_Mo_count 123 = .ok (.baload, 1) := by decide +kernel
theorem d_Mo_count_124 : decode b_Mo_count 124 = .ok (.ifCond .ne 29, 3) := by decide +kernel
theorem d_Mo_count_127 : decode b_Mo_count 127 = .ok (.goto 23, 3) := by decide +kernel
theorem d_Mo_count_130 : decode b_Mo_count 130 = .ok (.aload_n 0, 1) := by decide +kernel
theorem d_Mo_count_131 : decode b_Mo_count 131 = .ok (.getfield 25, 3) := by decide +kernel
theorem d_Mo_count_134 : decode b_Mo_count 134 = .ok (.iload_n 3, 1) := by decide +kernel
theorem d_Mo_count_135 : decode b_Mo_count 135 = .ok (.baload, 1) := by decide +kernel
theorem d_Mo_count_136 : decode b_Mo_count 136 = .ok (.ifCond .eq 17, 3) := by decide +kernel
theorem d_Mo_count_139 : decode b_Mo_count 139 = .ok (.aload_n 0, 1) := by decide +kernel
theorem d_Mo_count_140 : decode b_Mo_count 140 = .ok (.getfield 22, 3) := by decide +kernel
theorem d_Mo_count_143 : decode b_Mo_count 143 = .ok (.iload_n 3, 1) := by decide +kernel
theorem d_Mo_count_144 : decode b_Mo_count 144 = .ok (.iaload, 1) := by decide +kernel
theorem d_Mo_count_145 : decode b_Mo_count 145 = .ok (.bipush (-2), 2) := by decide +kernel
theorem d_Mo_count_147 : decode b_Mo_count 147 = .ok (.if_icmp .eq 6, 3) := by decide +kernel
theorem d_Mo_count_150 : decode b_Mo_count 150 = .ok (.iinc 2 1, 3) := by decide +kernel
theorem d_Mo_count_153 : decode b_Mo_count 153 = .ok (.iinc 3 1, 3) := by decide +kernel
theorem d_Mo_count_156 : decode b_Mo_count 156 = .ok (.goto (-50), 3) := by decide +kernel
theorem d_Mo_count_159 : decode b_Mo_count 159 = .ok (.iload_n 2, 1) := by decide +kernel
theorem d_Mo_count_160 : decode b_Mo_count 160 = .ok (.ireturn, 1) := by decide +kernel
theorem w_Mo_init : MI y_Mo_init b_Mo_init 1 none 0 := ⟨gw_in (i := 719) (by decide +kernel) rfl, gw_in (i := 43) (by decide +kernel) rfl, gw_in (i := 720) (by decide +kernel) rfl, rfl, ⟨by decide, by decide, by decide +kernel⟩⟩
theorem w_Mo_thrown : MV y_Mo_thrown b_Mo_thrown 1 (some .int) 0 := ⟨gw_in (i := 770) (by decide +kernel) rfl, gw_in (i := 771) (by decide +kernel) rfl, gw_in (i := 43) (by decide +kernel) rfl, gw_in (i := 772) (by decide +kernel) rfl, ⟨by decide, by decide, by decide +kernel⟩⟩
theorem w_Mo_token : MV y_Mo_token b_Mo_token 7 (some .int) 4 := ⟨gw_in (i := 774) (by decide +kernel) rfl, gw_in (i := 775) (by decide +kernel) rfl, gw_in (i := 43) (by decide +kernel) rfl, gw_in (i := 776) (by decide +kernel) rfl, ⟨by decide, by decide, by decide +kernel⟩⟩
theorem w_Mo_add : MV y_Mo_add b_Mo_add 1 (some .int) 0 := ⟨gw_in (i := 778) (by decide +kernel) rfl, gw_in (i := 779) (by decide +kernel) rfl, gw_in (i := 43) (by decide +kernel) rfl, gw_in (i := 780) (by decide +kernel) rfl, ⟨by decide, by decide, by decide +kernel⟩⟩
theorem w_Mo_inside : MV y_Mo_inside b_Mo_inside 4 (some .int) 1 := ⟨gw_in (i := 783) (by decide +kernel) rfl, gw_in (i := 18) (by decide +kernel) rfl, gw_in (i := 43) (by decide +kernel) rfl, gw_in (i := 784) (by decide +kernel) rfl, ⟨by decide, by decide, by decide +kernel⟩⟩
theorem w_Mo_settle : MV y_Mo_settle b_Mo_settle 2 none 0 := ⟨gw_in (i := 787) (by decide +kernel) rfl, gw_in (i := 19) (by decide +kernel) rfl, gw_in (i := 43) (by decide +kernel) rfl, gw_in (i := 788) (by decide +kernel) rfl, ⟨by decide, by decide, by decide +kernel⟩⟩
theorem w_Mo_fourAlike : MV y_Mo_fourAlike b_Mo_fourAlike 1 (some .boolean) 0 := ⟨gw_in (i := 791) (by decide +kernel) rfl, gw_in (i := 20) (by decide +kernel) rfl, gw_in (i := 43) (by decide +kernel) rfl, gw_in (i := 792) (by decide +kernel) rfl, ⟨by decide, by decide, by decide +kernel⟩⟩
theorem w_Mo_gather : MV y_Mo_gather b_Mo_gather 5 (some .int) 2 := ⟨gw_in (i := 795) (by decide +kernel) rfl, gw_in (i := 21) (by decide +kernel) rfl, gw_in (i := 43) (by decide +kernel) rfl, gw_in (i := 796) (by decide +kernel) rfl, ⟨by decide, by decide, by decide +kernel⟩⟩
theorem w_Mo_take : MV y_Mo_take b_Mo_take 2 none 1 := ⟨gw_in (i := 798) (by decide +kernel) rfl, gw_in (i := 799) (by decide +kernel) rfl, gw_in (i := 43) (by decide +kernel) rfl, gw_in (i := 800) (by decide +kernel) rfl, ⟨by decide, by decide, by decide +kernel⟩⟩
theorem w_Mo_flush : MV y_Mo_flush b_Mo_flush 1 (some .int) 0 := ⟨gw_in (i := 802) (by decide +kernel) rfl, gw_in (i := 803) (by decide +kernel) rfl, gw_in (i := 43) (by decide +kernel) rfl, gw_in (i := 804) (by decide +kernel) rfl, ⟨by decide, by decide, by decide +kernel⟩⟩
theorem w_Mo_pack : MV y_Mo_pack b_Mo_pack 3 (some .int) 0 := ⟨gw_in (i := 806) (by decide +kernel) rfl, gw_in (i := 807) (by decide +kernel) rfl, gw_in (i := 43) (by decide +kernel) rfl, gw_in (i := 808) (by decide +kernel) rfl, ⟨by decide, by decide, by decide +kernel⟩⟩
theorem w_Mo_term : MV y_Mo_term b_Mo_term 4 (some .int) 3 := ⟨gw_in (i := 810) (by decide +kernel) rfl, gw_in (i := 811) (by decide +kernel) rfl, gw_in (i := 43) (by decide +kernel) rfl, gw_in (i := 812) (by decide +kernel) rfl, ⟨by decide, by decide, by decide +kernel⟩⟩
theorem w_Mo_push : MV y_Mo_push b_Mo_push 6 (some .int) 4 := ⟨gw_in (i := 815) (by decide +kernel) rfl, gw_in (i := 22) (by decide +kernel) rfl, gw_in (i := 43) (by decide +kernel) rfl, gw_in (i := 816) (by decide +kernel) rfl, ⟨by decide, by decide, by decide +kernel⟩⟩
theorem w_Mo_found : MV y_Mo_found b_Mo_found 2 (some .boolean) 1 := ⟨gw_in (i := 819) (by decide +kernel) rfl, gw_in (i := 23) (by decide +kernel) rfl, gw_in (i := 43) (by decide +kernel) rfl, gw_in (i := 820) (by decide +kernel) rfl, ⟨by decide, by decide, by decide +kernel⟩⟩
theorem w_Mo_alike : MV y_Mo_alike b_Mo_alike 6 (some .boolean) 4 := ⟨gw_in (i := 823) (by decide +kernel) rfl, gw_in (i := 24) (by decide +kernel) rfl, gw_in (i := 43) (by decide +kernel) rfl, gw_in (i := 824) (by decide +kernel) rfl, ⟨by decide, by decide, by decide +kernel⟩⟩
theorem w_Mo_byteAt : MS y_Mo_byteAt b_Mo_byteAt 3 (some .int) 3 := ⟨gw_in (i := 826) (by decide +kernel) rfl, gw_in (i := 43) (by decide +kernel) rfl, gw_in (i := 827) (by decide +kernel) rfl, ⟨by decide, by decide, by decide +kernel⟩⟩
theorem w_Mo_hitOf : MV y_Mo_hitOf b_Mo_hitOf 2 (some .int) 1 := ⟨gw_in (i := 830) (by decide +kernel) rfl, gw_in (i := 25) (by decide +kernel) rfl, gw_in (i := 43) (by decide +kernel) rfl, gw_in (i := 831) (by decide +kernel) rfl, ⟨by decide, by decide, by decide +kernel⟩⟩
theorem w_Mo_insert : MV y_Mo_insert b_Mo_insert 5 none 2 := ⟨gw_in (i := 834) (by decide +kernel) rfl, gw_in (i := 26) (by decide +kernel) rfl, gw_in (i := 43) (by decide +kernel) rfl, gw_in (i := 835) (by decide +kernel) rfl, ⟨by decide, by decide, by decide +kernel⟩⟩
theorem w_Mo_begins : MV y_Mo_begins b_Mo_begins 5 (some .int) 4 := ⟨gw_in (i := 837) (by decide +kernel) rfl, gw_in (i := 838) (by decide +kernel) rfl, gw_in (i := 43) (by decide +kernel) rfl, gw_in (i := 839) (by decide +kernel) rfl, ⟨by decide, by decide, by decide +kernel⟩⟩
theorem w_Mo_follow : MV y_Mo_follow b_Mo_follow 5 (some .int) 3 := ⟨gw_in (i := 841) (by decide +kernel) rfl, gw_in (i := 842) (by decide +kernel) rfl, gw_in (i := 43) (by decide +kernel) rfl, gw_in (i := 843) (by decide +kernel) rfl, ⟨by decide, by decide, by decide +kernel⟩⟩
theorem w_Mo_has : MV y_Mo_has b_Mo_has 4 (some .boolean) 2 := ⟨gw_in (i := 846) (by decide +kernel) rfl, gw_in (i := 27) (by decide +kernel) rfl, gw_in (i := 43) (by decide +kernel) rfl, gw_in (i := 847) (by decide +kernel) rfl, ⟨by decide, by decide, by decide +kernel⟩⟩
theorem w_Mo_place : MV y_Mo_place b_Mo_place 3 (some .int) 1 := ⟨gw_in (i := 850) (by decide +kernel) rfl, gw_in (i := 28) (by decide +kernel) rfl, gw_in (i := 43) (by decide +kernel) rfl, gw_in (i := 851) (by decide +kernel) rfl, ⟨by decide, by decide, by decide +kernel⟩⟩
theorem w_Mo_join : MV y_Mo_join b_Mo_join 7 (some .int) 1 := ⟨gw_in (i := 853) (by decide +kernel) rfl, gw_in (i := 854) (by decide +kernel) rfl, gw_in (i := 43) (by decide +kernel) rfl, gw_in (i := 855) (by decide +kernel) rfl, ⟨by decide, by decide, by decide +kernel⟩⟩
theorem w_Mo_many : MV y_Mo_many b_Mo_many 5 (some .int) 2 := ⟨gw_in (i := 858) (by decide +kernel) rfl, gw_in (i := 29) (by decide +kernel) rfl, gw_in (i := 43) (by decide +kernel) rfl, gw_in (i := 859) (by decide +kernel) rfl, ⟨by decide, by decide, by decide +kernel⟩⟩
theorem w_Mo_near : MV y_Mo_near b_Mo_near 4 (some .boolean) 2 := ⟨gw_in (i := 862) (by decide +kernel) rfl, gw_in (i := 30) (by decide +kernel) rfl, gw_in (i := 43) (by decide +kernel) rfl, gw_in (i := 863) (by decide +kernel) rfl, ⟨by decide, by decide, by decide +kernel⟩⟩
theorem w_Mo_drop : MV y_Mo_drop b_Mo_drop 1 (some .int) 0 := ⟨gw_in (i := 865) (by decide +kernel) rfl, gw_in (i := 866) (by decide +kernel) rfl, gw_in (i := 43) (by decide +kernel) rfl, gw_in (i := 867) (by decide +kernel) rfl, ⟨by decide, by decide, by decide +kernel⟩⟩
theorem w_Mo_hit : MV y_Mo_hit b_Mo_hit 4 (some .int) 2 := ⟨gw_in (i := 869) (by decide +kernel) rfl, gw_in (i := 870) (by decide +kernel) rfl, gw_in (i := 43) (by decide +kernel) rfl, gw_in (i := 871) (by decide +kernel) rfl, ⟨by decide, by decide, by decide +kernel⟩⟩
theorem w_Mo_documents : MV y_Mo_documents b_Mo_documents 3 (some .int) 0 := ⟨gw_in (i := 873) (by decide +kernel) rfl, gw_in (i := 874) (by decide +kernel) rfl, gw_in (i := 43) (by decide +kernel) rfl, gw_in (i := 875) (by decide +kernel) rfl, ⟨by decide, by decide, by decide +kernel⟩⟩
theorem w_Mo_best : MV y_Mo_best b_Mo_best 3 (some .int) 1 := ⟨gw_in (i := 877) (by decide +kernel) rfl, gw_in (i := 878) (by decide +kernel) rfl, gw_in (i := 43) (by decide +kernel) rfl, gw_in (i := 879) (by decide +kernel) rfl, ⟨by decide, by decide, by decide +kernel⟩⟩
theorem w_Mo_ahead : MV y_Mo_ahead b_Mo_ahead 7 (some .int) 2 := ⟨gw_in (i := 882) (by decide +kernel) rfl, gw_in (i := 31) (by decide +kernel) rfl, gw_in (i := 43) (by decide +kernel) rfl, gw_in (i := 883) (by decide +kernel) rfl, ⟨by decide, by decide, by decide +kernel⟩⟩
theorem w_Mo_segment : MV y_Mo_segment b_Mo_segment 5 (some .int) 2 := ⟨gw_in (i := 885) (by decide +kernel) rfl, gw_in (i := 886) (by decide +kernel) rfl, gw_in (i := 43) (by decide +kernel) rfl, gw_in (i := 887) (by decide +kernel) rfl, ⟨by decide, by decide, by decide +kernel⟩⟩
theorem w_Mo_firstAlike : MV y_Mo_firstAlike b_Mo_firstAlike 3 (some .int) 1 := ⟨gw_in (i := 890) (by decide +kernel) rfl, gw_in (i := 32) (by decide +kernel) rfl, gw_in (i := 43) (by decide +kernel) rfl, gw_in (i := 891) (by decide +kernel) rfl, ⟨by decide, by decide, by decide +kernel⟩⟩
theorem w_Mo_count : MV y_Mo_count b_Mo_count 4 (some .int) 1 := ⟨gw_in (i := 893) (by decide +kernel) rfl, gw_in (i := 894) (by decide +kernel) rfl, gw_in (i := 43) (by decide +kernel) rfl, gw_in (i := 895) (by decide +kernel) rfl, ⟨by decide, by decide, by decide +kernel⟩⟩
