abbrev b_La_token : ByteArray := method_3_code
abbrev y_La_token : MethodName := ⟨"SegmentIndexLaw", "token", "(LSegmentIndex;IIII[J)I"⟩
theorem d_La_token_0 : decode b_La_token 0 = .ok (.aload 5, 2) := by decide +kernel
theorem d_La_token_2 : decode b_La_token 2 = .ok (.iconst 0, 1) := by decide +kernel
theorem d_La_token_3 : decode b_La_token 3 = .ok (.aload_n 0, 1) := by decide +kernel
theorem d_La_token_4 : decode b_La_token 4 = .ok (.iload_n 1, 1) := by decide +kernel
theorem d_La_token_5 : decode b_La_token 5 = .ok (.iload_n 2, 1) := by decide +kernel
theorem d_La_token_6 : decode b_La_token 6 = .ok (.iload_n 3, 1) := by decide +kernel
theorem d_La_token_7 : decode b_La_token 7 = .ok (.iload 4, 2) := by decide +kernel
theorem d_La_token_9 : decode b_La_token 9 = .ok (.invokevirtual 7, 3) := by decide +kernel
theorem d_La_token_12 : decode b_La_token 12 = .ok (.i2l, 1) := by decide +kernel
theorem d_La_token_13 : decode b_La_token 13 = .ok (.lastore, 1) := by decide +kernel
theorem d_La_token_14 : decode b_La_token 14 = .ok (.goto 11, 3) := by decide +kernel
theorem d_La_token_17 : decode b_La_token 17 = .ok (.astore 6, 2) := by decide +kernel
theorem d_La_token_19 : decode b_La_token 19 = .ok (.iconst 1, 1) := by decide +kernel
theorem d_La_token_20 : decode b_La_token 20 = .ok (.ireturn, 1) := by decide +kernel
theorem d_La_token_21 : decode b_La_token 21 = .ok (.astore 6, 2) := by decide +kernel
theorem d_La_token_23 : decode b_La_token 23 = .ok (.iconst 2, 1) := by decide +kernel
theorem d_La_token_24 : decode b_La_token 24 = .ok (.ireturn, 1) := by decide +kernel
theorem d_La_token_25 : decode b_La_token 25 = .ok (.iconst 0, 1) := by decide +kernel
theorem d_La_token_26 : decode b_La_token 26 = .ok (.ireturn, 1) := by decide +kernel
abbrev b_La_add : ByteArray := method_4_code
abbrev y_La_add : MethodName := ⟨"SegmentIndexLaw", "add", "(LSegmentIndex;[J)I"⟩
theorem d_La_add_0 : decode b_La_add 0 = .ok (.aload_n 1, 1) := by decide +kernel
theorem d_La_add_1 : decode b_La_add 1 = .ok (.iconst 0, 1) := by decide +kernel
theorem d_La_add_2 : decode b_La_add 2 = .ok (.aload_n 0, 1) := by decide +kernel
theorem d_La_add_3 : decode b_La_add 3 = .ok (.invokevirtual 17, 3) := by decide +kernel
theorem d_La_add_6 : decode b_La_add 6 = .ok (.i2l, 1) := by decide +kernel
theorem d_La_add_7 : decode b_La_add 7 = .ok (.lastore, 1) := by decide +kernel
theorem d_La_add_8 : decode b_La_add 8 = .ok (.goto 6, 3) := by decide +kernel
theorem d_La_add_11 : decode b_La_add 11 = .ok (.astore_n 2, 1) := by decide +kernel
theorem d_La_add_12 : decode b_La_add 12 = .ok (.iconst 1, 1) := by decide +kernel
theorem d_La_add_13 : decode b_La_add 13 = .ok (.ireturn, 1) := by decide +kernel
theorem d_La_add_14 : decode b_La_add 14 = .ok (.iconst 0, 1) := by decide +kernel
theorem d_La_add_15 : decode b_La_add 15 = .ok (.ireturn, 1) := by decide +kernel
abbrev b_La_take : ByteArray := method_5_code
abbrev y_La_take : MethodName := ⟨"SegmentIndexLaw", "take", "(LSegmentIndex;I)I"⟩
theorem d_La_take_0 : decode b_La_take 0 = .ok (.aload_n 0, 1) := by decide +kernel
theorem d_La_take_1 : decode b_La_take 1 = .ok (.iload_n 1, 1) := by decide +kernel
theorem d_La_take_2 : decode b_La_take 2 = .ok (.invokevirtual 21, 3) := by decide +kernel
theorem d_La_take_5 : decode b_La_take 5 = .ok (.goto 6, 3) := by decide +kernel
theorem d_La_take_8 : decode b_La_take 8 = .ok (.astore_n 2, 1) := by decide +kernel
theorem d_La_take_9 : decode b_La_take 9 = .ok (.iconst 1, 1) := by decide +kernel
theorem d_La_take_10 : decode b_La_take 10 = .ok (.ireturn, 1) := by decide +kernel
theorem d_La_take_11 : decode b_La_take 11 = .ok (.iconst 0, 1) := by decide +kernel
theorem d_La_take_12 : decode b_La_take 12 = .ok (.ireturn, 1) := by decide +kernel
abbrev b_La_term : ByteArray := method_6_code
abbrev y_La_term : MethodName := ⟨"SegmentIndexLaw", "term", "(LSegmentIndex;III[J)I"⟩
theorem d_La_term_0 : decode b_La_term 0 = .ok (.aload 4, 2) := by decide +kernel
theorem d_La_term_2 : decode b_La_term 2 = .ok (.iconst 0, 1) := by decide +kernel
theorem d_La_term_3 : decode b_La_term 3 = .ok (.aload_n 0, 1) := by decide +kernel
theorem d_La_term_4 : decode b_La_term 4 = .ok (.iload_n 1, 1) := by decide +kernel
theorem d_La_term_5 : decode b_La_term 5 = .ok (.iload_n 2, 1) := by decide +kernel
theorem d_La_term_6 : decode b_La_term 6 = .ok (.iload_n 3, 1) := by decide +kernel
theorem d_La_term_7 : decode b_La_term 7 = .ok (.invokevirtual 27, 3) := by decide +kernel
theorem d_La_term_10 : decode b_La_term 10 = .ok (.i2l, 1) := by decide +kernel
theorem d_La_term_11 : decode b_La_term 11 = .ok (.lastore, 1) := by decide +kernel
theorem d_La_term_12 : decode b_La_term 12 = .ok (.goto 7, 3) := by decide +kernel
theorem d_La_term_15 : decode b_La_term 15 = .ok (.astore 5, 2) := by decide +kernel
theorem d_La_term_17 : decode b_La_term 17 = .ok (.iconst 1, 1) := by decide +kernel
theorem d_La_term_18 : decode b_La_term 18 = .ok (.ireturn, 1) := by decide +kernel
theorem d_La_term_19 : decode b_La_term 19 = .ok (.iconst 0, 1) := by decide +kernel
theorem d_La_term_20 : decode b_La_term 20 = .ok (.ireturn, 1) := by decide +kernel
abbrev b_La_begins : ByteArray := method_7_code
abbrev y_La_begins : MethodName := ⟨"SegmentIndexLaw", "begins", "(LSegmentIndex;IIII[J)I"⟩
theorem d_La_begins_0 : decode b_La_begins 0 = .ok (.aload 5, 2) := by decide +kernel
theorem d_La_begins_2 : decode b_La_begins 2 = .ok (.iconst 0, 1) := by decide +kernel
theorem d_La_begins_3 : decode b_La_begins 3 = .ok (.aload_n 0, 1) := by decide +kernel
theorem d_La_begins_4 : decode b_La_begins 4 = .ok (.iload_n 1, 1) := by decide +kernel
theorem d_La_begins_5 : decode b_La_begins 5 = .ok (.iload_n 2, 1) := by decide +kernel
theorem d_La_begins_6 : decode b_La_begins 6 = .ok (.iload_n 3, 1) := by decide +kernel
theorem d_La_begins_7 : decode b_La_begins 7 = .ok (.iload 4, 2) := by decide +kernel
theorem d_La_begins_9 : decode b_La_begins 9 = .ok (.invokevirtual 31, 3) := by decide +kernel
theorem d_La_begins_12 : decode b_La_begins 12 = .ok (.i2l, 1) := by decide +kernel
theorem d_La_begins_13 : decode b_La_begins 13 = .ok (.lastore, 1) := by decide +kernel
theorem d_La_begins_14 : decode b_La_begins 14 = .ok (.goto 11, 3) := by decide +kernel
theorem d_La_begins_17 : decode b_La_begins 17 = .ok (.astore 6, 2) := by decide +kernel
theorem d_La_begins_19 : decode b_La_begins 19 = .ok (.iconst 1, 1) := by decide +kernel
theorem d_La_begins_20 : decode b_La_begins 20 = .ok (.ireturn, 1) := by decide +kernel
theorem d_La_begins_21 : decode b_La_begins 21 = .ok (.astore 6, 2) := by decide +kernel
theorem d_La_begins_23 : decode b_La_begins 23 = .ok (.iconst 2, 1) := by decide +kernel
theorem d_La_begins_24 : decode b_La_begins 24 = .ok (.ireturn, 1) := by decide +kernel
theorem d_La_begins_25 : decode b_La_begins 25 = .ok (.iconst 0, 1) := by decide +kernel
theorem d_La_begins_26 : decode b_La_begins 26 = .ok (.ireturn, 1) := by decide +kernel
abbrev b_La_follow : ByteArray := method_8_code
abbrev y_La_follow : MethodName := ⟨"SegmentIndexLaw", "follow", "(LSegmentIndex;III[J)I"⟩
theorem d_La_follow_0 : decode b_La_follow 0 = .ok (.aload 4, 2) := by decide +kernel
theorem d_La_follow_2 : decode b_La_follow 2 = .ok (.iconst 0, 1) := by decide +kernel
theorem d_La_follow_3 : decode b_La_follow 3 = .ok (.aload_n 0, 1) := by decide +kernel
theorem d_La_follow_4 : decode b_La_follow 4 = .ok (.iload_n 1, 1) := by decide +kernel
theorem d_La_follow_5 : decode b_La_follow 5 = .ok (.iload_n 2, 1) := by decide +kernel
theorem d_La_follow_6 : decode b_La_follow 6 = .ok (.iload_n 3, 1) := by decide +kernel
theorem d_La_follow_7 : decode b_La_follow 7 = .ok (.invokevirtual 34, 3) := by decide +kernel
theorem d_La_follow_10 : decode b_La_follow 10 = .ok (.i2l, 1) := by decide +kernel
theorem d_La_follow_11 : decode b_La_follow 11 = .ok (.lastore, 1) := by decide +kernel
theorem d_La_follow_12 : decode b_La_follow 12 = .ok (.goto 11, 3) := by decide +kernel
theorem d_La_follow_15 : decode b_La_follow 15 = .ok (.astore 5, 2) := by decide +kernel
theorem d_La_follow_17 : decode b_La_follow 17 = .ok (.iconst 1, 1) := by decide +kernel
theorem d_La_follow_18 : decode b_La_follow 18 = .ok (.ireturn, 1) := by decide +kernel
theorem d_La_follow_19 : decode b_La_follow 19 = .ok (.astore 5, 2) := by decide +kernel
theorem d_La_follow_21 : decode b_La_follow 21 = .ok (.iconst 2, 1) := by decide +kernel
theorem d_La_follow_22 : decode b_La_follow 22 = .ok (.ireturn, 1) := by decide +kernel
theorem d_La_follow_23 : decode b_La_follow 23 = .ok (.iconst 0, 1) := by decide +kernel
theorem d_La_follow_24 : decode b_La_follow 24 = .ok (.ireturn, 1) := by decide +kernel
abbrev b_La_join : ByteArray := method_9_code
abbrev y_La_join : MethodName := ⟨"SegmentIndexLaw", "join", "(LSegmentIndex;I[J)I"⟩
theorem d_La_join_0 : decode b_La_join 0 = .ok (.aload_n 2, 1) := by decide +kernel
theorem d_La_join_1 : decode b_La_join 1 = .ok (.iconst 0, 1) := by decide +kernel
theorem d_La_join_2 : decode b_La_join 2 = .ok (.aload_n 0, 1) := by decide +kernel
theorem d_La_join_3 : decode b_La_join 3 = .ok (.iload_n 1, 1) := by decide +kernel
theorem d_La_join_4 : decode b_La_join 4 = .ok (.invokevirtual 37, 3) := by decide +kernel
theorem d_La_join_7 : decode b_La_join 7 = .ok (.i2l, 1) := by decide +kernel
theorem d_La_join_8 : decode b_La_join 8 = .ok (.lastore, 1) := by decide +kernel
theorem d_La_join_9 : decode b_La_join 9 = .ok (.goto 9, 3) := by decide +kernel
theorem d_La_join_12 : decode b_La_join 12 = .ok (.astore_n 3, 1) := by decide +kernel
theorem d_La_join_13 : decode b_La_join 13 = .ok (.iconst 1, 1) := by decide +kernel
theorem d_La_join_14 : decode b_La_join 14 = .ok (.ireturn, 1) := by decide +kernel
theorem d_La_join_15 : decode b_La_join 15 = .ok (.astore_n 3, 1) := by decide +kernel
theorem d_La_join_16 : decode b_La_join 16 = .ok (.iconst 2, 1) := by decide +kernel
theorem d_La_join_17 : decode b_La_join 17 = .ok (.ireturn, 1) := by decide +kernel
theorem d_La_join_18 : decode b_La_join 18 = .ok (.iconst 0, 1) := by decide +kernel
theorem d_La_join_19 : decode b_La_join 19 = .ok (.ireturn, 1) := by decide +kernel
abbrev b_La_drop : ByteArray := method_10_code
abbrev y_La_drop : MethodName := ⟨"SegmentIndexLaw", "drop", "(LSegmentIndex;[J)I"⟩
theorem d_La_drop_0 : decode b_La_drop 0 = .ok (.aload_n 1, 1) := by decide +kernel
theorem d_La_drop_1 : decode b_La_drop 1 = .ok (.iconst 0, 1) := by decide +kernel
theorem d_La_drop_2 : decode b_La_drop 2 = .ok (.aload_n 0, 1) := by decide +kernel
theorem d_La_drop_3 : decode b_La_drop 3 = .ok (.invokevirtual 41, 3) := by decide +kernel
theorem d_La_drop_6 : decode b_La_drop 6 = .ok (.i2l, 1) := by decide +kernel
theorem d_La_drop_7 : decode b_La_drop 7 = .ok (.lastore, 1) := by decide +kernel
theorem d_La_drop_8 : decode b_La_drop 8 = .ok (.goto 6, 3) := by decide +kernel
theorem d_La_drop_11 : decode b_La_drop 11 = .ok (.astore_n 2, 1) := by decide +kernel
theorem d_La_drop_12 : decode b_La_drop 12 = .ok (.iconst 1, 1) := by decide +kernel
theorem d_La_drop_13 : decode b_La_drop 13 = .ok (.ireturn, 1) := by decide +kernel
theorem d_La_drop_14 : decode b_La_drop 14 = .ok (.iconst 0, 1) := by decide +kernel
theorem d_La_drop_15 : decode b_La_drop 15 = .ok (.ireturn, 1) := by decide +kernel
abbrev b_La_law : ByteArray := code
abbrev y_La_law : MethodName := ⟨"SegmentIndexLaw", "law", "([I)Z"⟩
theorem d_La_law_0 : decode b_La_law 0 = .ok (.new 8, 3) := by decide +kernel
theorem d_La_law_3 : decode b_La_law 3 = .ok (.dup, 1) := by decide +kernel
theorem d_La_law_4 : decode b_La_law 4 = .ok (.invokespecial 44, 3) := by decide +kernel
theorem d_La_law_7 : decode b_La_law 7 = .ok (.astore_n 1, 1) := by decide +kernel
theorem d_La_law_8 : decode b_La_law 8 = .ok (.new 45, 3) := by decide +kernel
theorem d_La_law_11 : decode b_La_law 11 = .ok (.dup, 1) := by decide +kernel
theorem d_La_law_12 : decode b_La_law 12 = .ok (.invokespecial 47, 3) := by decide +kernel
theorem d_La_law_15 : decode b_La_law 15 = .ok (.astore_n 2, 1) := by decide +kernel
theorem d_La_law_16 : decode b_La_law 16 = .ok (.iconst 1, 1) := by decide +kernel
theorem d_La_law_17 : decode b_La_law 17 = .ok (.newarray .long, 2) := by decide +kernel
theorem d_La_law_19 : decode b_La_law 19 = .ok (.astore_n 3, 1) := by decide +kernel
theorem d_La_law_20 : decode b_La_law 20 = .ok (.iconst 0, 1) := by decide +kernel
theorem d_La_law_21 : decode b_La_law 21 = .ok (.istore 4, 2) := by decide +kernel
theorem d_La_law_23 : decode b_La_law 23 = .ok (.iload 4, 2) := by decide +kernel
theorem d_La_law_25 : decode b_La_law 25 = .ok (.aload_n 0, 1) := by decide +kernel
theorem d_La_law_26 : decode b_La_law 26 = .ok (.arraylength, 1) := by decide +kernel
theorem d_La_law_27 : decode b_La_law 27 = .ok (.iconst 5, 1) := by decide +kernel
theorem d_La_law_28 : decode b_La_law 28 = .ok (.isub, 1) := by decide +kernel
theorem d_La_law_29 : decode b_La_law 29 = .ok (.if_icmp .gt 776, 3) := by decide +kernel
theorem d_La_law_32 : decode b_La_law 32 = .ok (.aload_n 0, 1) := by decide +kernel
theorem d_La_law_33 : decode b_La_law 33 = .ok (.iload 4, 2) := by decide +kernel
theorem d_La_law_35 : decode b_La_law 35 = .ok (.iaload, 1) := by decide +kernel
theorem d_La_law_36 : decode b_La_law 36 = .ok (.bipush 15, 2) := by decide +kernel
theorem d_La_law_38 : decode b_La_law 38 = .ok (.iand, 1) := by decide +kernel
theorem d_La_law_39 : decode b_La_law 39 = .ok (.tableswitch 760 0 14 #[73, 165, 209, 245, 258, 271, 351, 443, 523, 579, 623, 660, 673, 698, 735], 73) := by decide +kernel
theorem d_La_law_112 : decode b_La_law 112 = .ok (.aload_n 1, 1) := by decide +kernel
theorem d_La_law_113 : decode b_La_law 113 = .ok (.aload_n 0, 1) := by decide +kernel
theorem d_La_law_114 : decode b_La_law 114 = .ok (.iload 4, 2) := by decide +kernel
theorem d_La_law_116 : decode b_La_law 116 = .ok (.iconst 1, 1) := by decide +kernel
theorem d_La_law_117 : decode b_La_law 117 = .ok (.iadd, 1) := by decide +kernel
theorem d_La_law_118 : decode b_La_law 118 = .ok (.iaload, 1) := by decide +kernel
theorem d_La_law_119 : decode b_La_law 119 = .ok (.aload_n 0, 1) := by decide +kernel
theorem d_La_law_120 : decode b_La_law 120 = .ok (.iload 4, 2) := by decide +kernel
theorem d_La_law_122 : decode b_La_law 122 = .ok (.iconst 2, 1) := by decide +kernel
theorem d_La_law_123 : decode b_La_law 123 = .ok (.iadd, 1) := by decide +kernel
theorem d_La_law_124 : decode b_La_law 124 = .ok (.iaload, 1) := by decide +kernel
theorem d_La_law_125 : decode b_La_law 125 = .ok (.aload_n 0, 1) := by decide +kernel
theorem d_La_law_126 : decode b_La_law 126 = .ok (.iload 4, 2) := by decide +kernel
theorem d_La_law_128 : decode b_La_law 128 = .ok (.iconst 3, 1) := by decide +kernel
theorem d_La_law_129 : decode b_La_law 129 = .ok (.iadd, 1) := by decide +kernel
theorem d_La_law_130 : decode b_La_law 130 = .ok (.iaload, 1) := by decide +kernel
theorem d_La_law_131 : decode b_La_law 131 = .ok (.aload_n 0, 1) := by decide +kernel
theorem d_La_law_132 : decode b_La_law 132 = .ok (.iload 4, 2) := by decide +kernel
theorem d_La_law_134 : decode b_La_law 134 = .ok (.iconst 4, 1) := by decide +kernel
theorem d_La_law_135 : decode b_La_law 135 = .ok (.iadd, 1) := by decide +kernel
theorem d_La_law_136 : decode b_La_law 136 = .ok (.iaload, 1) := by decide +kernel
theorem d_La_law_137 : decode b_La_law 137 = .ok (.aload_n 3, 1) := by decide +kernel
theorem d_La_law_138 : decode b_La_law 138 = .ok (.invokestatic 48, 3) := by decide +kernel
theorem d_La_law_141 : decode b_La_law 141 = .ok (.istore 5, 2) := by decide +kernel
theorem d_La_law_143 : decode b_La_law 143 = .ok (.aload_n 2, 1) := by decide +kernel
theorem d_La_law_144 : decode b_La_law 144 = .ok (.aload_n 0, 1) := by decide +kernel
theorem d_La_law_145 : decode b_La_law 145 = .ok (.iload 4, 2) := by decide +kernel
theorem d_La_law_147 : decode b_La_law 147 = .ok (.iconst 1, 1) := by decide +kernel
theorem d_La_law_148 : decode b_La_law 148 = .ok (.iadd, 1) := by decide +kernel
theorem d_La_law_149 : decode b_La_law 149 = .ok (.iaload, 1) := by decide +kernel
theorem d_La_law_150 : decode b_La_law 150 = .ok (.aload_n 0, 1) := by decide +kernel
theorem d_La_law_151 : decode b_La_law 151 = .ok (.iload 4, 2) := by decide +kernel
theorem d_La_law_153 : decode b_La_law 153 = .ok (.iconst 2, 1) := by decide +kernel
theorem d_La_law_154 : decode b_La_law 154 = .ok (.iadd, 1) := by decide +kernel
theorem d_La_law_155 : decode b_La_law 155 = .ok (.iaload, 1) := by decide +kernel
theorem d_La_law_156 : decode b_La_law 156 = .ok (.aload_n 0, 1) := by decide +kernel
theorem d_La_law_157 : decode b_La_law 157 = .ok (.iload 4, 2) := by decide +kernel
theorem d_La_law_159 : decode b_La_law 159 = .ok (.iconst 3, 1) := by decide +kernel
theorem d_La_law_160 : decode b_La_law 160 = .ok (.iadd, 1) := by decide +kernel
theorem d_La_law_161 : decode b_La_law 161 = .ok (.iaload, 1) := by decide +kernel
theorem d_La_law_162 : decode b_La_law 162 = .ok (.aload_n 0, 1) := by decide +kernel
theorem d_La_law_163 : decode b_La_law 163 = .ok (.iload 4, 2) := by decide +kernel
theorem d_La_law_165 : decode b_La_law 165 = .ok (.iconst 4, 1) := by decide +kernel
theorem d_La_law_166 : decode b_La_law 166 = .ok (.iadd, 1) := by decide +kernel
theorem d_La_law_167 : decode b_La_law 167 = .ok (.iaload, 1) := by decide +kernel
theorem d_La_law_168 : decode b_La_law 168 = .ok (.invokevirtual 53, 3) := by decide +kernel
theorem d_La_law_171 : decode b_La_law 171 = .ok (.istore 6, 2) := by decide +kernel
theorem d_La_law_173 : decode b_La_law 173 = .ok (.aload_n 2, 1) := by decide +kernel
theorem d_La_law_174 : decode b_La_law 174 = .ok (.invokevirtual 54, 3) := by decide +kernel
theorem d_La_law_177 : decode b_La_law 177 = .ok (.iload 5, 2) := by decide +kernel
theorem d_La_law_179 : decode b_La_law 179 = .ok (.if_icmp .eq 5, 3) := by decide +kernel
theorem d_La_law_182 : decode b_La_law 182 = .ok (.iconst 0, 1) := by decide +kernel
theorem d_La_law_183 : decode b_La_law 183 = .ok (.ireturn, 1) := by decide +kernel
theorem d_La_law_184 : decode b_La_law 184 = .ok (.iload 5, 2) := by decide +kernel
theorem d_La_law_186 : decode b_La_law 186 = .ok (.ifCond .ne 15, 3) := by decide +kernel
theorem d_La_law_189 : decode b_La_law 189 = .ok (.aload_n 3, 1) := by decide +kernel
theorem d_La_law_190 : decode b_La_law 190 = .ok (.iconst 0, 1) := by decide +kernel
theorem d_La_law_191 : decode b_La_law 191 = .ok (.laload, 1) := by decide +kernel
theorem d_La_law_192 : decode b_La_law 192 = .ok (.iload 6, 2) := by decide +kernel
theorem d_La_law_194 : decode b_La_law 194 = .ok (.i2l, 1) := by decide +kernel
theorem d_La_law_195 : decode b_La_law 195 = .ok (.lcmp, 1) := by decide +kernel
theorem d_La_law_196 : decode b_La_law 196 = .ok (.ifCond .eq 5, 3) := by decide +kernel
theorem d_La_law_199 : decode b_La_law 199 = .ok (.iconst 0, 1) := by decide +kernel
theorem d_La_law_200 : decode b_La_law 200 = .ok (.ireturn, 1) := by decide +kernel
theorem d_La_law_201 : decode b_La_law 201 = .ok (.goto 598, 3) := by decide +kernel
theorem d_La_law_204 : decode b_La_law 204 = .ok (.aload_n 1, 1) := by decide +kernel
theorem d_La_law_205 : decode b_La_law 205 = .ok (.aload_n 3, 1) := by decide +kernel
theorem d_La_law_206 : decode b_La_law 206 = .ok (.invokestatic 57, 3) := by decide +kernel
theorem d_La_law_209 : decode b_La_law 209 = .ok (.istore 5, 2) := by decide +kernel
theorem d_La_law_211 : decode b_La_law 211 = .ok (.aload_n 2, 1) := by decide +kernel
theorem d_La_law_212 : decode b_La_law 212 = .ok (.invokevirtual 60, 3) := by decide +kernel
theorem d_La_law_215 : decode b_La_law 215 = .ok (.istore 6, 2) := by decide +kernel
theorem d_La_law_217 : decode b_La_law 217 = .ok (.aload_n 2, 1) := by decide +kernel
theorem d_La_law_218 : decode b_La_law 218 = .ok (.invokevirtual 54, 3) := by decide +kernel
theorem d_La_law_221 : decode b_La_law 221 = .ok (.iload 5, 2) := by decide +kernel
theorem d_La_law_223 : decode b_La_law 223 = .ok (.if_icmp .eq 5, 3) := by decide +kernel
theorem d_La_law_226 : decode b_La_law 226 = .ok (.iconst 0, 1) := by decide +kernel
theorem d_La_law_227 : decode b_La_law 227 = .ok (.ireturn, 1) := by decide +kernel
theorem d_La_law_228 : decode b_La_law 228 = .ok (.iload 5, 2) := by decide +kernel
theorem d_La_law_230 : decode b_La_law 230 = .ok (.ifCond .ne 15, 3) := by decide +kernel
theorem d_La_law_233 : decode b_La_law 233 = .ok (.aload_n 3, 1) := by decide +kernel
theorem d_La_law_234 : decode b_La_law 234 = .ok (.iconst 0, 1) := by decide +kernel
theorem d_La_law_235 : decode b_La_law 235 = .ok (.laload, 1) := by decide +kernel
theorem d_La_law_236 : decode b_La_law 236 = .ok (.iload 6, 2) := by decide +kernel
theorem d_La_law_238 : decode b_La_law 238 = .ok (.i2l, 1) := by decide +kernel
theorem d_La_law_239 : decode b_La_law 239 = .ok (.lcmp, 1) := by decide +kernel
theorem d_La_law_240 : decode b_La_law 240 = .ok (.ifCond .eq 5, 3) := by decide +kernel
theorem d_La_law_243 : decode b_La_law 243 = .ok (.iconst 0, 1) := by decide +kernel
theorem d_La_law_244 : decode b_La_law 244 = .ok (.ireturn, 1) := by decide +kernel
theorem d_La_law_245 : decode b_La_law 245 = .ok (.goto 554, 3) := by decide +kernel
theorem d_La_law_248 : decode b_La_law 248 = .ok (.aload_n 1, 1) := by decide +kernel
theorem d_La_law_249 : decode b_La_law 249 = .ok (.aload_n 0, 1) := by decide +kernel
theorem d_La_law_250 : decode b_La_law 250 = .ok (.iload 4, 2) := by decide +kernel
theorem d_La_law_252 : decode b_La_law 252 = .ok (.iconst 1, 1) := by decide +kernel
theorem d_La_law_253 : decode b_La_law 253 = .ok (.iadd, 1) := by decide +kernel
theorem d_La_law_254 : decode b_La_law 254 = .ok (.iaload, 1) := by decide +kernel
theorem d_La_law_255 : decode b_La_law 255 = .ok (.invokestatic 61, 3) := by decide +kernel
theorem d_La_law_258 : decode b_La_law 258 = .ok (.istore 5, 2) := by decide +kernel
theorem d_La_law_260 : decode b_La_law 260 = .ok (.aload_n 2, 1) := by decide +kernel
theorem d_La_law_261 : decode b_La_law 261 = .ok (.aload_n 0, 1) := by decide +kernel
theorem d_La_law_262 : decode b_La_law 262 = .ok (.iload 4, 2) := by decide +kernel
theorem d_La_law_264 : decode b_La_law 264 = .ok (.iconst 1, 1) := by decide +kernel
theorem d_La_law_265 : decode b_La_law 265 = .ok (.iadd, 1) := by decide +kernel
theorem d_La_law_266 : decode b_La_law 266 = .ok (.iaload, 1) := by decide +kernel
theorem d_La_law_267 : decode b_La_law 267 = .ok (.invokevirtual 64, 3) := by decide +kernel
theorem d_La_law_270 : decode b_La_law 270 = .ok (.aload_n 2, 1) := by decide +kernel
theorem d_La_law_271 : decode b_La_law 271 = .ok (.invokevirtual 54, 3) := by decide +kernel
theorem d_La_law_274 : decode b_La_law 274 = .ok (.iload 5, 2) := by decide +kernel
theorem d_La_law_276 : decode b_La_law 276 = .ok (.if_icmp .eq 5, 3) := by decide +kernel
theorem d_La_law_279 : decode b_La_law 279 = .ok (.iconst 0, 1) := by decide +kernel
theorem d_La_law_280 : decode b_La_law 280 = .ok (.ireturn, 1) := by decide +kernel
theorem d_La_law_281 : decode b_La_law 281 = .ok (.goto 518, 3) := by decide +kernel
theorem d_La_law_284 : decode b_La_law 284 = .ok (.aload_n 1, 1) := by decide +kernel
theorem d_La_law_285 : decode b_La_law 285 = .ok (.invokevirtual 65, 3) := by decide +kernel
theorem d_La_law_288 : decode b_La_law 288 = .ok (.aload_n 2, 1) := by decide +kernel
theorem d_La_law_289 : decode b_La_law 289 = .ok (.invokevirtual 68, 3) := by decide +kernel
theorem d_La_law_292 : decode b_La_law 292 = .ok (.if_icmp .eq 507, 3) := by decide +kernel
theorem d_La_law_295 : decode b_La_law 295 = .ok (.iconst 0, 1) := by decide +kernel
theorem d_La_law_296 : decode b_La_law 296 = .ok (.ireturn, 1) := by decide +kernel
theorem d_La_law_297 : decode b_La_law 297 = .ok (.aload_n 1, 1) := by decide +kernel
theorem d_La_law_298 : decode b_La_law 298 = .ok (.invokevirtual 69, 3) := by decide +kernel
theorem d_La_law_301 : decode b_La_law 301 = .ok (.aload_n 2, 1) := by decide +kernel
theorem d_La_law_302 : decode b_La_law 302 = .ok (.invokevirtual 72, 3) := by decide +kernel
theorem d_La_law_305 : decode b_La_law 305 = .ok (.if_icmp .eq 494, 3) := by decide +kernel
theorem d_La_law_308 : decode b_La_law 308 = .ok (.iconst 0, 1) := by decide +kernel
theorem d_La_law_309 : decode b_La_law 309 = .ok (.ireturn, 1) := by decide +kernel
theorem d_La_law_310 : decode b_La_law 310 = .ok (.aload_n 1, 1) := by decide +kernel
theorem d_La_law_311 : decode b_La_law 311 = .ok (.aload_n 0, 1) := by decide +kernel
theorem d_La_law_312 : decode b_La_law 312 = .ok (.iload 4, 2) := by decide +kernel
theorem d_La_law_314 : decode b_La_law 314 = .ok (.iconst 1, 1) := by decide +kernel
theorem d_La_law_315 : decode b_La_law 315 = .ok (.iadd, 1) := by decide +kernel
theorem d_La_law_316 : decode b_La_law 316 = .ok (.iaload, 1) := by decide +kernel
theorem d_La_law_317 : decode b_La_law 317 = .ok (.aload_n 0, 1) := by decide +kernel
theorem d_La_law_318 : decode b_La_law 318 = .ok (.iload 4, 2) := by decide +kernel
theorem d_La_law_320 : decode b_La_law 320 = .ok (.iconst 2, 1) := by decide +kernel
theorem d_La_law_321 : decode b_La_law 321 = .ok (.iadd, 1) := by decide +kernel
theorem d_La_law_322 : decode b_La_law 322 = .ok (.iaload, 1) := by decide +kernel
theorem d_La_law_323 : decode b_La_law 323 = .ok (.aload_n 0, 1) := by decide +kernel
theorem d_La_law_324 : decode b_La_law 324 = .ok (.iload 4, 2) := by decide +kernel
theorem d_La_law_326 : decode b_La_law 326 = .ok (.iconst 3, 1) := by decide +kernel
theorem d_La_law_327 : decode b_La_law 327 = .ok (.iadd, 1) := by decide +kernel
theorem d_La_law_328 : decode b_La_law 328 = .ok (.iaload, 1) := by decide +kernel
theorem d_La_law_329 : decode b_La_law 329 = .ok (.aload_n 3, 1) := by decide +kernel
theorem d_La_law_330 : decode b_La_law 330 = .ok (.invokestatic 73, 3) := by decide +kernel
theorem d_La_law_333 : decode b_La_law 333 = .ok (.istore 5, 2) := by decide +kernel
theorem d_La_law_335 : decode b_La_law 335 = .ok (.aload_n 2, 1) := by decide +kernel
theorem d_La_law_336 : decode b_La_law 336 = .ok (.aload_n 0, 1) := by decide +kernel
theorem d_La_law_337 : decode b_La_law 337 = .ok (.iload 4, 2) := by decide +kernel
theorem d_La_law_339 : decode b_La_law 339 = .ok (.iconst 1, 1) := by decide +kernel
theorem d_La_law_340 : decode b_La_law 340 = .ok (.iadd, 1) := by decide +kernel
theorem d_La_law_341 : decode b_La_law 341 = .ok (.iaload, 1) := by decide +kernel
theorem d_La_law_342 : decode b_La_law 342 = .ok (.aload_n 0, 1) := by decide +kernel
theorem d_La_law_343 : decode b_La_law 343 = .ok (.iload 4, 2) := by decide +kernel
theorem d_La_law_345 : decode b_La_law 345 = .ok (.iconst 2, 1) := by decide +kernel
theorem d_La_law_346 : decode b_La_law 346 = .ok (.iadd, 1) := by decide +kernel
theorem d_La_law_347 : decode b_La_law 347 = .ok (.iaload, 1) := by decide +kernel
theorem d_La_law_348 : decode b_La_law 348 = .ok (.aload_n 0, 1) := by decide +kernel
theorem d_La_law_349 : decode b_La_law 349 = .ok (.iload 4, 2) := by decide +kernel
theorem d_La_law_351 : decode b_La_law 351 = .ok (.iconst 3, 1) := by decide +kernel
theorem d_La_law_352 : decode b_La_law 352 = .ok (.iadd, 1) := by decide +kernel
theorem d_La_law_353 : decode b_La_law 353 = .ok (.iaload, 1) := by decide +kernel
theorem d_La_law_354 : decode b_La_law 354 = .ok (.invokevirtual 76, 3) := by decide +kernel
theorem d_La_law_357 : decode b_La_law 357 = .ok (.istore 6, 2) := by decide +kernel
theorem d_La_law_359 : decode b_La_law 359 = .ok (.aload_n 2, 1) := by decide +kernel
theorem d_La_law_360 : decode b_La_law 360 = .ok (.invokevirtual 54, 3) := by decide +kernel
theorem d_La_law_363 : decode b_La_law 363 = .ok (.iload 5, 2) := by decide +kernel
theorem d_La_law_365 : decode b_La_law 365 = .ok (.if_icmp .eq 5, 3) := by decide +kernel
theorem d_La_law_368 : decode b_La_law 368 = .ok (.iconst 0, 1) := by decide +kernel
theorem d_La_law_369 : decode b_La_law 369 = .ok (.ireturn, 1) := by decide +kernel
theorem d_La_law_370 : decode b_La_law 370 = .ok (.iload 5, 2) := by decide +kernel
theorem d_La_law_372 : decode b_La_law 372 = .ok (.ifCond .ne 15, 3) := by decide +kernel
theorem d_La_law_375 : decode b_La_law 375 = .ok (.aload_n 3, 1) := by decide +kernel
theorem d_La_law_376 : decode b_La_law 376 = .ok (.iconst 0, 1) := by decide +kernel
theorem d_La_law_377 : decode b_La_law 377 = .ok (.laload, 1) := by decide +kernel
theorem d_La_law_378 : decode b_La_law 378 = .ok (.iload 6, 2) := by decide +kernel
theorem d_La_law_380 : decode b_La_law 380 = .ok (.i2l, 1) := by decide +kernel
theorem d_La_law_381 : decode b_La_law 381 = .ok (.lcmp, 1) := by decide +kernel
theorem d_La_law_382 : decode b_La_law 382 = .ok (.ifCond .eq 5, 3) := by decide +kernel
theorem d_La_law_385 : decode b_La_law 385 = .ok (.iconst 0, 1) := by decide +kernel
theorem d_La_law_386 : decode b_La_law 386 = .ok (.ireturn, 1) := by decide +kernel
theorem d_La_law_387 : decode b_La_law 387 = .ok (.goto 412, 3) := by decide +kernel
theorem d_La_law_390 : decode b_La_law 390 = .ok (.aload_n 1, 1) := by decide +kernel
theorem d_La_law_391 : decode b_La_law 391 = .ok (.aload_n 0, 1) := by decide +kernel
theorem d_La_law_392 : decode b_La_law 392 = .ok (.iload 4, 2) := by decide +kernel
theorem d_La_law_394 : decode b_La_law 394 = .ok (.iconst 1, 1) := by decide +kernel
theorem d_La_law_395 : decode b_La_law 395 = .ok (.iadd, 1) := by decide +kernel
theorem d_La_law_396 : decode b_La_law 396 = .ok (.iaload, 1) := by decide +kernel
theorem d_La_law_397 : decode b_La_law 397 = .ok (.aload_n 0, 1) := by decide +kernel
theorem d_La_law_398 : decode b_La_law 398 = .ok (.iload 4, 2) := by decide +kernel
theorem d_La_law_400 : decode b_La_law 400 = .ok (.iconst 2, 1) := by decide +kernel
theorem d_La_law_401 : decode b_La_law 401 = .ok (.iadd, 1) := by decide +kernel
theorem d_La_law_402 : decode b_La_law 402 = .ok (.iaload, 1) := by decide +kernel
theorem d_La_law_403 : decode b_La_law 403 = .ok (.aload_n 0, 1) := by decide +kernel
theorem d_La_law_404 : decode b_La_law 404 = .ok (.iload 4, 2) := by decide +kernel
theorem d_La_law_406 : decode b_La_law 406 = .ok (.iconst 3, 1) := by decide +kernel
theorem d_La_law_407 : decode b_La_law 407 = .ok (.iadd, 1) := by decide +kernel
theorem d_La_law_408 : decode b_La_law 408 = .ok (.iaload, 1) := by decide +kernel
theorem d_La_law_409 : decode b_La_law 409 = .ok (.aload_n 0, 1) := by decide +kernel
theorem d_La_law_410 : decode b_La_law 410 = .ok (.iload 4, 2) := by decide +kernel
theorem d_La_law_412 : decode b_La_law 412 = .ok (.iconst 4, 1) := by decide +kernel
theorem d_La_law_413 : decode b_La_law 413 = .ok (.iadd, 1) := by decide +kernel
theorem d_La_law_414 : decode b_La_law 414 = .ok (.iaload, 1) := by decide +kernel
theorem d_La_law_415 : decode b_La_law 415 = .ok (.aload_n 3, 1) := by decide +kernel
theorem d_La_law_416 : decode b_La_law 416 = .ok (.invokestatic 77, 3) := by decide +kernel
theorem d_La_law_419 : decode b_La_law 419 = .ok (.istore 5, 2) := by decide +kernel
theorem d_La_law_421 : decode b_La_law 421 = .ok (.aload_n 2, 1) := by decide +kernel
theorem d_La_law_422 : decode b_La_law 422 = .ok (.aload_n 0, 1) := by decide +kernel
theorem d_La_law_423 : decode b_La_law 423 = .ok (.iload 4, 2) := by decide +kernel
theorem d_La_law_425 : decode b_La_law 425 = .ok (.iconst 1, 1) := by decide +kernel
theorem d_La_law_426 : decode b_La_law 426 = .ok (.iadd, 1) := by decide +kernel
theorem d_La_law_427 : decode b_La_law 427 = .ok (.iaload, 1) := by decide +kernel
theorem d_La_law_428 : decode b_La_law 428 = .ok (.aload_n 0, 1) := by decide +kernel
theorem d_La_law_429 : decode b_La_law 429 = .ok (.iload 4, 2) := by decide +kernel
theorem d_La_law_431 : decode b_La_law 431 = .ok (.iconst 2, 1) := by decide +kernel
theorem d_La_law_432 : decode b_La_law 432 = .ok (.iadd, 1) := by decide +kernel
theorem d_La_law_433 : decode b_La_law 433 = .ok (.iaload, 1) := by decide +kernel
theorem d_La_law_434 : decode b_La_law 434 = .ok (.aload_n 0, 1) := by decide +kernel
theorem d_La_law_435 : decode b_La_law 435 = .ok (.iload 4, 2) := by decide +kernel
theorem d_La_law_437 : decode b_La_law 437 = .ok (.iconst 3, 1) := by decide +kernel
theorem d_La_law_438 : decode b_La_law 438 = .ok (.iadd, 1) := by decide +kernel
theorem d_La_law_439 : decode b_La_law 439 = .ok (.iaload, 1) := by decide +kernel
theorem d_La_law_440 : decode b_La_law 440 = .ok (.aload_n 0, 1) := by decide +kernel
theorem d_La_law_441 : decode b_La_law 441 = .ok (.iload 4, 2) := by decide +kernel
theorem d_La_law_443 : decode b_La_law 443 = .ok (.iconst 4, 1) := by decide +kernel
theorem d_La_law_444 : decode b_La_law 444 = .ok (.iadd, 1) := by decide +kernel
theorem d_La_law_445 : decode b_La_law 445 = .ok (.iaload, 1) := by decide +kernel
theorem d_La_law_446 : decode b_La_law 446 = .ok (.invokevirtual 79, 3) := by decide +kernel
theorem d_La_law_449 : decode b_La_law 449 = .ok (.istore 6, 2) := by decide +kernel
theorem d_La_law_451 : decode b_La_law 451 = .ok (.aload_n 2, 1) := by decide +kernel
theorem d_La_law_452 : decode b_La_law 452 = .ok (.invokevirtual 54, 3) := by decide +kernel
theorem d_La_law_455 : decode b_La_law 455 = .ok (.iload 5, 2) := by decide +kernel
theorem d_La_law_457 : decode b_La_law 457 = .ok (.if_icmp .eq 5, 3) := by decide +kernel
theorem d_La_law_460 : decode b_La_law 460 = .ok (.iconst 0, 1) := by decide +kernel
theorem d_La_law_461 : decode b_La_law 461 = .ok (.ireturn, 1) := by decide +kernel
theorem d_La_law_462 : decode b_La_law 462 = .ok (.iload 5, 2) := by decide +kernel
theorem d_La_law_464 : decode b_La_law 464 = .ok (.ifCond .ne 15, 3) := by decide +kernel
theorem d_La_law_467 : decode b_La_law 467 = .ok (.aload_n 3, 1) := by decide +kernel
theorem d_La_law_468 : decode b_La_law 468 = .ok (.iconst 0, 1) := by decide +kernel
theorem d_La_law_469 : decode b_La_law 469 = .ok (.laload, 1) := by decide +kernel
theorem d_La_law_470 : decode b_La_law 470 = .ok (.iload 6, 2) := by decide +kernel
theorem d_La_law_472 : decode b_La_law 472 = .ok (.i2l, 1) := by decide +kernel
theorem d_La_law_473 : decode b_La_law 473 = .ok (.lcmp, 1) := by decide +kernel
theorem d_La_law_474 : decode b_La_law 474 = .ok (.ifCond .eq 5, 3) := by decide +kernel
theorem d_La_law_477 : decode b_La_law 477 = .ok (.iconst 0, 1) := by decide +kernel
theorem d_La_law_478 : decode b_La_law 478 = .ok (.ireturn, 1) := by decide +kernel
theorem d_La_law_479 : decode b_La_law 479 = .ok (.goto 320, 3) := by decide +kernel
theorem d_La_law_482 : decode b_La_law 482 = .ok (.aload_n 1, 1) := by decide +kernel
theorem d_La_law_483 : decode b_La_law 483 = .ok (.aload_n 0, 1) := by decide +kernel
theorem d_La_law_484 : decode b_La_law 484 = .ok (.iload 4, 2) := by decide +kernel
theorem d_La_law_486 : decode b_La_law 486 = .ok (.iconst 1, 1) := by decide +kernel
theorem d_La_law_487 : decode b_La_law 487 = .ok (.iadd, 1) := by decide +kernel
theorem d_La_law_488 : decode b_La_law 488 = .ok (.iaload, 1) := by decide +kernel
theorem d_La_law_489 : decode b_La_law 489 = .ok (.aload_n 0, 1) := by decide +kernel
theorem d_La_law_490 : decode b_La_law 490 = .ok (.iload 4, 2) := by decide +kernel
theorem d_La_law_492 : decode b_La_law 492 = .ok (.iconst 2, 1) := by decide +kernel
theorem d_La_law_493 : decode b_La_law 493 = .ok (.iadd, 1) := by decide +kernel
theorem d_La_law_494 : decode b_La_law 494 = .ok (.iaload, 1) := by decide +kernel
theorem d_La_law_495 : decode b_La_law 495 = .ok (.aload_n 0, 1) := by decide +kernel
theorem d_La_law_496 : decode b_La_law 496 = .ok (.iload 4, 2) := by decide +kernel
theorem d_La_law_498 : decode b_La_law 498 = .ok (.iconst 3, 1) := by decide +kernel
theorem d_La_law_499 : decode b_La_law 499 = .ok (.iadd, 1) := by decide +kernel
theorem d_La_law_500 : decode b_La_law 500 = .ok (.iaload, 1) := by decide +kernel
theorem d_La_law_501 : decode b_La_law 501 = .ok (.aload_n 3, 1) := by decide +kernel
theorem d_La_law_502 : decode b_La_law 502 = .ok (.invokestatic 80, 3) := by decide +kernel
theorem d_La_law_505 : decode b_La_law 505 = .ok (.istore 5, 2) := by decide +kernel
theorem d_La_law_507 : decode b_La_law 507 = .ok (.aload_n 2, 1) := by decide +kernel
theorem d_La_law_508 : decode b_La_law 508 = .ok (.aload_n 0, 1) := by decide +kernel
theorem d_La_law_509 : decode b_La_law 509 = .ok (.iload 4, 2) := by decide +kernel
theorem d_La_law_511 : decode b_La_law 511 = .ok (.iconst 1, 1) := by decide +kernel
theorem d_La_law_512 : decode b_La_law 512 = .ok (.iadd, 1) := by decide +kernel
theorem d_La_law_513 : decode b_La_law 513 = .ok (.iaload, 1) := by decide +kernel
theorem d_La_law_514 : decode b_La_law 514 = .ok (.aload_n 0, 1) := by decide +kernel
theorem d_La_law_515 : decode b_La_law 515 = .ok (.iload 4, 2) := by decide +kernel
theorem d_La_law_517 : decode b_La_law 517 = .ok (.iconst 2, 1) := by decide +kernel
theorem d_La_law_518 : decode b_La_law 518 = .ok (.iadd, 1) := by decide +kernel
theorem d_La_law_519 : decode b_La_law 519 = .ok (.iaload, 1) := by decide +kernel
theorem d_La_law_520 : decode b_La_law 520 = .ok (.aload_n 0, 1) := by decide +kernel
theorem d_La_law_521 : decode b_La_law 521 = .ok (.iload 4, 2) := by decide +kernel
theorem d_La_law_523 : decode b_La_law 523 = .ok (.iconst 3, 1) := by decide +kernel
theorem d_La_law_524 : decode b_La_law 524 = .ok (.iadd, 1) := by decide +kernel
theorem d_La_law_525 : decode b_La_law 525 = .ok (.iaload, 1) := by decide +kernel
theorem d_La_law_526 : decode b_La_law 526 = .ok (.invokevirtual 82, 3) := by decide +kernel
theorem d_La_law_529 : decode b_La_law 529 = .ok (.istore 6, 2) := by decide +kernel
theorem d_La_law_531 : decode b_La_law 531 = .ok (.aload_n 2, 1) := by decide +kernel
theorem d_La_law_532 : decode b_La_law 532 = .ok (.invokevirtual 54, 3) := by decide +kernel
theorem d_La_law_535 : decode b_La_law 535 = .ok (.iload 5, 2) := by decide +kernel
theorem d_La_law_537 : decode b_La_law 537 = .ok (.if_icmp .eq 5, 3) := by decide +kernel
theorem d_La_law_540 : decode b_La_law 540 = .ok (.iconst 0, 1) := by decide +kernel
theorem d_La_law_541 : decode b_La_law 541 = .ok (.ireturn, 1) := by decide +kernel
theorem d_La_law_542 : decode b_La_law 542 = .ok (.iload 5, 2) := by decide +kernel
theorem d_La_law_544 : decode b_La_law 544 = .ok (.ifCond .ne 15, 3) := by decide +kernel
theorem d_La_law_547 : decode b_La_law 547 = .ok (.aload_n 3, 1) := by decide +kernel
theorem d_La_law_548 : decode b_La_law 548 = .ok (.iconst 0, 1) := by decide +kernel
theorem d_La_law_549 : decode b_La_law 549 = .ok (.laload, 1) := by decide +kernel
theorem d_La_law_550 : decode b_La_law 550 = .ok (.iload 6, 2) := by decide +kernel
theorem d_La_law_552 : decode b_La_law 552 = .ok (.i2l, 1) := by decide +kernel
theorem d_La_law_553 : decode b_La_law 553 = .ok (.lcmp, 1) := by decide +kernel
theorem d_La_law_554 : decode b_La_law 554 = .ok (.ifCond .eq 5, 3) := by decide +kernel
theorem d_La_law_557 : decode b_La_law 557 = .ok (.iconst 0, 1) := by decide +kernel
theorem d_La_law_558 : decode b_La_law 558 = .ok (.ireturn, 1) := by decide +kernel
theorem d_La_law_559 : decode b_La_law 559 = .ok (.goto 240, 3) := by decide +kernel
theorem d_La_law_562 : decode b_La_law 562 = .ok (.aload_n 1, 1) := by decide +kernel
theorem d_La_law_563 : decode b_La_law 563 = .ok (.aload_n 0, 1) := by decide +kernel
theorem d_La_law_564 : decode b_La_law 564 = .ok (.iload 4, 2) := by decide +kernel
theorem d_La_law_566 : decode b_La_law 566 = .ok (.iconst 1, 1) := by decide +kernel
theorem d_La_law_567 : decode b_La_law 567 = .ok (.iadd, 1) := by decide +kernel
theorem d_La_law_568 : decode b_La_law 568 = .ok (.iaload, 1) := by decide +kernel
theorem d_La_law_569 : decode b_La_law 569 = .ok (.aload_n 3, 1) := by decide +kernel
theorem d_La_law_570 : decode b_La_law 570 = .ok (.invokestatic 83, 3) := by decide +kernel
theorem d_La_law_573 : decode b_La_law 573 = .ok (.istore 5, 2) := by decide +kernel
theorem d_La_law_575 : decode b_La_law 575 = .ok (.aload_n 2, 1) := by decide +kernel
theorem d_La_law_576 : decode b_La_law 576 = .ok (.aload_n 0, 1) := by decide +kernel
theorem d_La_law_577 : decode b_La_law 577 = .ok (.iload 4, 2) := by decide +kernel
theorem d_La_law_579 : decode b_La_law 579 = .ok (.iconst 1, 1) := by decide +kernel
theorem d_La_law_580 : decode b_La_law 580 = .ok (.iadd, 1) := by decide +kernel
theorem d_La_law_581 : decode b_La_law 581 = .ok (.iaload, 1) := by decide +kernel
theorem d_La_law_582 : decode b_La_law 582 = .ok (.invokevirtual 86, 3) := by decide +kernel
theorem d_La_law_585 : decode b_La_law 585 = .ok (.istore 6, 2) := by decide +kernel
theorem d_La_law_587 : decode b_La_law 587 = .ok (.aload_n 2, 1) := by decide +kernel
theorem d_La_law_588 : decode b_La_law 588 = .ok (.invokevirtual 54, 3) := by decide +kernel
theorem d_La_law_591 : decode b_La_law 591 = .ok (.iload 5, 2) := by decide +kernel
theorem d_La_law_593 : decode b_La_law 593 = .ok (.if_icmp .eq 5, 3) := by decide +kernel
theorem d_La_law_596 : decode b_La_law 596 = .ok (.iconst 0, 1) := by decide +kernel
theorem d_La_law_597 : decode b_La_law 597 = .ok (.ireturn, 1) := by decide +kernel
theorem d_La_law_598 : decode b_La_law 598 = .ok (.iload 5, 2) := by decide +kernel
theorem d_La_law_600 : decode b_La_law 600 = .ok (.ifCond .ne 15, 3) := by decide +kernel
theorem d_La_law_603 : decode b_La_law 603 = .ok (.aload_n 3, 1) := by decide +kernel
theorem d_La_law_604 : decode b_La_law 604 = .ok (.iconst 0, 1) := by decide +kernel
theorem d_La_law_605 : decode b_La_law 605 = .ok (.laload, 1) := by decide +kernel
theorem d_La_law_606 : decode b_La_law 606 = .ok (.iload 6, 2) := by decide +kernel
theorem d_La_law_608 : decode b_La_law 608 = .ok (.i2l, 1) := by decide +kernel
theorem d_La_law_609 : decode b_La_law 609 = .ok (.lcmp, 1) := by decide +kernel
theorem d_La_law_610 : decode b_La_law 610 = .ok (.ifCond .eq 5, 3) := by decide +kernel
theorem d_La_law_613 : decode b_La_law 613 = .ok (.iconst 0, 1) := by decide +kernel
theorem d_La_law_614 : decode b_La_law 614 = .ok (.ireturn, 1) := by decide +kernel
theorem d_La_law_615 : decode b_La_law 615 = .ok (.goto 184, 3) := by decide +kernel
theorem d_La_law_618 : decode b_La_law 618 = .ok (.aload_n 1, 1) := by decide +kernel
theorem d_La_law_619 : decode b_La_law 619 = .ok (.aload_n 3, 1) := by decide +kernel
theorem d_La_law_620 : decode b_La_law 620 = .ok (.invokestatic 87, 3) := by decide +kernel
theorem d_La_law_623 : decode b_La_law 623 = .ok (.istore 5, 2) := by decide +kernel
theorem d_La_law_625 : decode b_La_law 625 = .ok (.aload_n 2, 1) := by decide +kernel
theorem d_La_law_626 : decode b_La_law 626 = .ok (.invokevirtual 89, 3) := by decide +kernel
theorem d_La_law_629 : decode b_La_law 629 = .ok (.istore 6, 2) := by decide +kernel
theorem d_La_law_631 : decode b_La_law 631 = .ok (.aload_n 2, 1) := by decide +kernel
theorem d_La_law_632 : decode b_La_law 632 = .ok (.invokevirtual 54, 3) := by decide +kernel
theorem d_La_law_635 : decode b_La_law 635 = .ok (.iload 5, 2) := by decide +kernel
theorem d_La_law_637 : decode b_La_law 637 = .ok (.if_icmp .eq 5, 3) := by decide +kernel
theorem d_La_law_640 : decode b_La_law 640 = .ok (.iconst 0, 1) := by decide +kernel
theorem d_La_law_641 : decode b_La_law 641 = .ok (.ireturn, 1) := by decide +kernel
theorem d_La_law_642 : decode b_La_law 642 = .ok (.iload 5, 2) := by decide +kernel
theorem d_La_law_644 : decode b_La_law 644 = .ok (.ifCond .ne 15, 3) := by decide +kernel
theorem d_La_law_647 : decode b_La_law 647 = .ok (.aload_n 3, 1) := by decide +kernel
theorem d_La_law_648 : decode b_La_law 648 = .ok (.iconst 0, 1) := by decide +kernel
theorem d_La_law_649 : decode b_La_law 649 = .ok (.laload, 1) := by decide +kernel
theorem d_La_law_650 : decode b_La_law 650 = .ok (.iload 6, 2) := by decide +kernel
theorem d_La_law_652 : decode b_La_law 652 = .ok (.i2l, 1) := by decide +kernel
theorem d_La_law_653 : decode b_La_law 653 = .ok (.lcmp, 1) := by decide +kernel
theorem d_La_law_654 : decode b_La_law 654 = .ok (.ifCond .eq 5, 3) := by decide +kernel
theorem d_La_law_657 : decode b_La_law 657 = .ok (.iconst 0, 1) := by decide +kernel
theorem d_La_law_658 : decode b_La_law 658 = .ok (.ireturn, 1) := by decide +kernel
theorem d_La_law_659 : decode b_La_law 659 = .ok (.goto 140, 3) := by decide +kernel
theorem d_La_law_662 : decode b_La_law 662 = .ok (.aload_n 1, 1) := by decide +kernel
theorem d_La_law_663 : decode b_La_law 663 = .ok (.aload_n 0, 1) := by decide +kernel
theorem d_La_law_664 : decode b_La_law 664 = .ok (.iload 4, 2) := by decide +kernel
theorem d_La_law_666 : decode b_La_law 666 = .ok (.iconst 1, 1) := by decide +kernel
theorem d_La_law_667 : decode b_La_law 667 = .ok (.iadd, 1) := by decide +kernel
theorem d_La_law_668 : decode b_La_law 668 = .ok (.iaload, 1) := by decide +kernel
theorem d_La_law_669 : decode b_La_law 669 = .ok (.aload_n 0, 1) := by decide +kernel
theorem d_La_law_670 : decode b_La_law 670 = .ok (.iload 4, 2) := by decide +kernel
theorem d_La_law_672 : decode b_La_law 672 = .ok (.iconst 2, 1) := by decide +kernel
theorem d_La_law_673 : decode b_La_law 673 = .ok (.iadd, 1) := by decide +kernel
theorem d_La_law_674 : decode b_La_law 674 = .ok (.iaload, 1) := by decide +kernel
theorem d_La_law_675 : decode b_La_law 675 = .ok (.invokevirtual 90, 3) := by decide +kernel
theorem d_La_law_678 : decode b_La_law 678 = .ok (.aload_n 2, 1) := by decide +kernel
theorem d_La_law_679 : decode b_La_law 679 = .ok (.aload_n 0, 1) := by decide +kernel
theorem d_La_law_680 : decode b_La_law 680 = .ok (.iload 4, 2) := by decide +kernel
theorem d_La_law_682 : decode b_La_law 682 = .ok (.iconst 1, 1) := by decide +kernel
theorem d_La_law_683 : decode b_La_law 683 = .ok (.iadd, 1) := by decide +kernel
theorem d_La_law_684 : decode b_La_law 684 = .ok (.iaload, 1) := by decide +kernel
theorem d_La_law_685 : decode b_La_law 685 = .ok (.aload_n 0, 1) := by decide +kernel
theorem d_La_law_686 : decode b_La_law 686 = .ok (.iload 4, 2) := by decide +kernel
theorem d_La_law_688 : decode b_La_law 688 = .ok (.iconst 2, 1) := by decide +kernel
theorem d_La_law_689 : decode b_La_law 689 = .ok (.iadd, 1) := by decide +kernel
theorem d_La_law_690 : decode b_La_law 690 = .ok (.iaload, 1) := by decide +kernel
theorem d_La_law_691 : decode b_La_law 691 = .ok (.invokevirtual 94, 3) := by decide +kernel
theorem d_La_law_694 : decode b_La_law 694 = .ok (.if_icmp .eq 105, 3) := by decide +kernel
theorem d_La_law_697 : decode b_La_law 697 = .ok (.iconst 0, 1) := by decide +kernel
theorem d_La_law_698 : decode b_La_law 698 = .ok (.ireturn, 1) := by decide +kernel
theorem d_La_law_699 : decode b_La_law 699 = .ok (.aload_n 1, 1) := by decide +kernel
theorem d_La_law_700 : decode b_La_law 700 = .ok (.invokevirtual 95, 3) := by decide +kernel
theorem d_La_law_703 : decode b_La_law 703 = .ok (.aload_n 2, 1) := by decide +kernel
theorem d_La_law_704 : decode b_La_law 704 = .ok (.invokevirtual 98, 3) := by decide +kernel
theorem d_La_law_707 : decode b_La_law 707 = .ok (.if_icmp .eq 92, 3) := by decide +kernel
theorem d_La_law_710 : decode b_La_law 710 = .ok (.iconst 0, 1) := by decide +kernel
theorem d_La_law_711 : decode b_La_law 711 = .ok (.ireturn, 1) := by decide +kernel
theorem d_La_law_712 : decode b_La_law 712 = .ok (.aload_n 1, 1) := by decide +kernel
theorem d_La_law_713 : decode b_La_law 713 = .ok (.aload_n 0, 1) := by decide +kernel
theorem d_La_law_714 : decode b_La_law 714 = .ok (.iload 4, 2) := by decide +kernel
theorem d_La_law_716 : decode b_La_law 716 = .ok (.iconst 1, 1) := by decide +kernel
theorem d_La_law_717 : decode b_La_law 717 = .ok (.iadd, 1) := by decide +kernel
theorem d_La_law_718 : decode b_La_law 718 = .ok (.iaload, 1) := by decide +kernel
theorem d_La_law_719 : decode b_La_law 719 = .ok (.invokevirtual 99, 3) := by decide +kernel
theorem d_La_law_722 : decode b_La_law 722 = .ok (.aload_n 2, 1) := by decide +kernel
theorem d_La_law_723 : decode b_La_law 723 = .ok (.aload_n 0, 1) := by decide +kernel
theorem d_La_law_724 : decode b_La_law 724 = .ok (.iload 4, 2) := by decide +kernel
theorem d_La_law_726 : decode b_La_law 726 = .ok (.iconst 1, 1) := by decide +kernel
theorem d_La_law_727 : decode b_La_law 727 = .ok (.iadd, 1) := by decide +kernel
theorem d_La_law_728 : decode b_La_law 728 = .ok (.iaload, 1) := by decide +kernel
theorem d_La_law_729 : decode b_La_law 729 = .ok (.invokevirtual 102, 3) := by decide +kernel
theorem d_La_law_732 : decode b_La_law 732 = .ok (.if_icmp .eq 67, 3) := by decide +kernel
theorem d_La_law_735 : decode b_La_law 735 = .ok (.iconst 0, 1) := by decide +kernel
theorem d_La_law_736 : decode b_La_law 736 = .ok (.ireturn, 1) := by decide +kernel
theorem d_La_law_737 : decode b_La_law 737 = .ok (.aload_n 1, 1) := by decide +kernel
theorem d_La_law_738 : decode b_La_law 738 = .ok (.aload_n 0, 1) := by decide +kernel
theorem d_La_law_739 : decode b_La_law 739 = .ok (.iload 4, 2) := by decide +kernel
theorem d_La_law_741 : decode b_La_law 741 = .ok (.iconst 1, 1) := by decide +kernel
theorem d_La_law_742 : decode b_La_law 742 = .ok (.iadd, 1) := by decide +kernel
theorem d_La_law_743 : decode b_La_law 743 = .ok (.iaload, 1) := by decide +kernel
theorem d_La_law_744 : decode b_La_law 744 = .ok (.aload_n 0, 1) := by decide +kernel
theorem d_La_law_745 : decode b_La_law 745 = .ok (.iload 4, 2) := by decide +kernel
theorem d_La_law_747 : decode b_La_law 747 = .ok (.iconst 2, 1) := by decide +kernel
theorem d_La_law_748 : decode b_La_law 748 = .ok (.iadd, 1) := by decide +kernel
theorem d_La_law_749 : decode b_La_law 749 = .ok (.iaload, 1) := by decide +kernel
theorem d_La_law_750 : decode b_La_law 750 = .ok (.invokevirtual 103, 3) := by decide +kernel
theorem d_La_law_753 : decode b_La_law 753 = .ok (.aload_n 2, 1) := by decide +kernel
theorem d_La_law_754 : decode b_La_law 754 = .ok (.aload_n 0, 1) := by decide +kernel
theorem d_La_law_755 : decode b_La_law 755 = .ok (.iload 4, 2) := by decide +kernel
theorem d_La_law_757 : decode b_La_law 757 = .ok (.iconst 1, 1) := by decide +kernel
theorem d_La_law_758 : decode b_La_law 758 = .ok (.iadd, 1) := by decide +kernel
theorem d_La_law_759 : decode b_La_law 759 = .ok (.iaload, 1) := by decide +kernel
theorem d_La_law_760 : decode b_La_law 760 = .ok (.aload_n 0, 1) := by decide +kernel
theorem d_La_law_761 : decode b_La_law 761 = .ok (.iload 4, 2) := by decide +kernel
theorem d_La_law_763 : decode b_La_law 763 = .ok (.iconst 2, 1) := by decide +kernel
theorem d_La_law_764 : decode b_La_law 764 = .ok (.iadd, 1) := by decide +kernel
theorem d_La_law_765 : decode b_La_law 765 = .ok (.iaload, 1) := by decide +kernel
theorem d_La_law_766 : decode b_La_law 766 = .ok (.invokevirtual 106, 3) := by decide +kernel
theorem d_La_law_769 : decode b_La_law 769 = .ok (.if_icmp .eq 30, 3) := by decide +kernel
theorem d_La_law_772 : decode b_La_law 772 = .ok (.iconst 0, 1) := by decide +kernel
theorem d_La_law_773 : decode b_La_law 773 = .ok (.ireturn, 1) := by decide +kernel
theorem d_La_law_774 : decode b_La_law 774 = .ok (.aload_n 1, 1) := by decide +kernel
theorem d_La_law_775 : decode b_La_law 775 = .ok (.aload_n 0, 1) := by decide +kernel
theorem d_La_law_776 : decode b_La_law 776 = .ok (.iload 4, 2) := by decide +kernel
theorem d_La_law_778 : decode b_La_law 778 = .ok (.iconst 1, 1) := by decide +kernel
theorem d_La_law_779 : decode b_La_law 779 = .ok (.iadd, 1) := by decide +kernel
theorem d_La_law_780 : decode b_La_law 780 = .ok (.iaload, 1) := by decide +kernel
theorem d_La_law_781 : decode b_La_law 781 = .ok (.invokevirtual 107, 3) := by decide +kernel
theorem d_La_law_784 : decode b_La_law 784 = .ok (.aload_n 2, 1) := by decide +kernel
theorem d_La_law_785 : decode b_La_law 785 = .ok (.aload_n 0, 1) := by decide +kernel
theorem d_La_law_786 : decode b_La_law 786 = .ok (.iload 4, 2) := by decide +kernel
theorem d_La_law_788 : decode b_La_law 788 = .ok (.iconst 1, 1) := by decide +kernel
theorem d_La_law_789 : decode b_La_law 789 = .ok (.iadd, 1) := by decide +kernel
theorem d_La_law_790 : decode b_La_law 790 = .ok (.iaload, 1) := by decide +kernel
theorem d_La_law_791 : decode b_La_law 791 = .ok (.invokevirtual 110, 3) := by decide +kernel
theorem d_La_law_794 : decode b_La_law 794 = .ok (.if_icmp .eq 5, 3) := by decide +kernel
theorem d_La_law_797 : decode b_La_law 797 = .ok (.iconst 0, 1) := by decide +kernel
theorem d_La_law_798 : decode b_La_law 798 = .ok (.ireturn, 1) := by decide +kernel
theorem d_La_law_799 : decode b_La_law 799 = .ok (.iinc 4 5, 3) := by decide +kernel
theorem d_La_law_802 : decode b_La_law 802 = .ok (.goto (-779), 3) := by decide +kernel
theorem d_La_law_805 : decode b_La_law 805 = .ok (.iconst 1, 1) := by decide +kernel
theorem d_La_law_806 : decode b_La_law 806 = .ok (.ireturn, 1) := by decide +kernel
theorem w_La_token : MSw y_La_token b_La_token 7 (some .int) [(0, 14, 17, 13), (0, 14, 21, 15)] 6 := ⟨gw_in (i := 451) (by decide +kernel) rfl, gw_in (i := 33) (by decide +kernel) rfl, gw_in (i := 452) (by decide +kernel) rfl, ⟨by decide, by decide, by decide +kernel⟩⟩
theorem w_La_add : MSw y_La_add b_La_add 3 (some .int) [(0, 8, 11, 15)] 2 := ⟨gw_in (i := 577) (by decide +kernel) rfl, gw_in (i := 33) (by decide +kernel) rfl, gw_in (i := 578) (by decide +kernel) rfl, ⟨by decide, by decide, by decide +kernel⟩⟩
theorem w_La_take : MSw y_La_take b_La_take 3 (some .int) [(0, 5, 8, 25)] 2 := ⟨gw_in (i := 589) (by decide +kernel) rfl, gw_in (i := 33) (by decide +kernel) rfl, gw_in (i := 590) (by decide +kernel) rfl, ⟨by decide, by decide, by decide +kernel⟩⟩
theorem w_La_term : MSw y_La_term b_La_term 6 (some .int) [(0, 12, 15, 15)] 5 := ⟨gw_in (i := 618) (by decide +kernel) rfl, gw_in (i := 33) (by decide +kernel) rfl, gw_in (i := 619) (by decide +kernel) rfl, ⟨by decide, by decide, by decide +kernel⟩⟩
theorem w_La_begins : MSw y_La_begins b_La_begins 7 (some .int) [(0, 14, 17, 13), (0, 14, 21, 15)] 6 := ⟨gw_in (i := 647) (by decide +kernel) rfl, gw_in (i := 33) (by decide +kernel) rfl, gw_in (i := 648) (by decide +kernel) rfl, ⟨by decide, by decide, by decide +kernel⟩⟩
theorem w_La_follow : MSw y_La_follow b_La_follow 6 (some .int) [(0, 12, 15, 13), (0, 12, 19, 15)] 5 := ⟨gw_in (i := 655) (by decide +kernel) rfl, gw_in (i := 33) (by decide +kernel) rfl, gw_in (i := 656) (by decide +kernel) rfl, ⟨by decide, by decide, by decide +kernel⟩⟩
theorem w_La_join : MSw y_La_join b_La_join 4 (some .int) [(0, 9, 12, 13), (0, 9, 15, 15)] 3 := ⟨gw_in (i := 679) (by decide +kernel) rfl, gw_in (i := 33) (by decide +kernel) rfl, gw_in (i := 680) (by decide +kernel) rfl, ⟨by decide, by decide, by decide +kernel⟩⟩
theorem w_La_drop : MSw y_La_drop b_La_drop 3 (some .int) [(0, 8, 11, 15)] 2 := ⟨gw_in (i := 710) (by decide +kernel) rfl, gw_in (i := 33) (by decide +kernel) rfl, gw_in (i := 711) (by decide +kernel) rfl, ⟨by decide, by decide, by decide +kernel⟩⟩
theorem ml_La_7 : Cond.methodLink "SegmentIndexLaw" 7 y_SI_token ∈ gw := gw_in (i := 455) (by decide +kernel) rfl
theorem ml_La_17 : Cond.methodLink "SegmentIndexLaw" 17 y_SI_add ∈ gw := gw_in (i := 579) (by decide +kernel) rfl
theorem ml_La_21 : Cond.methodLink "SegmentIndexLaw" 21 y_SI_take ∈ gw := gw_in (i := 592) (by decide +kernel) rfl
theorem ml_La_27 : Cond.methodLink "SegmentIndexLaw" 27 y_SI_term ∈ gw := gw_in (i := 620) (by decide +kernel) rfl
theorem ml_La_31 : Cond.methodLink "SegmentIndexLaw" 31 y_SI_begins ∈ gw := gw_in (i := 649) (by decide +kernel) rfl
theorem ml_La_34 : Cond.methodLink "SegmentIndexLaw" 34 y_SI_follow ∈ gw := gw_in (i := 657) (by decide +kernel) rfl
theorem ml_La_37 : Cond.methodLink "SegmentIndexLaw" 37 y_SI_join ∈ gw := gw_in (i := 681) (by decide +kernel) rfl
theorem ml_La_41 : Cond.methodLink "SegmentIndexLaw" 41 y_SI_drop ∈ gw := gw_in (i := 712) (by decide +kernel) rfl
theorem ml_La_44 : Cond.methodLink "SegmentIndexLaw" 44 y_SI_init ∈ gw := gw_in (i := 59) (by decide +kernel) rfl
theorem ml_La_47 : Cond.methodLink "SegmentIndexLaw" 47 y_Mo_init ∈ gw := gw_in (i := 718) (by decide +kernel) rfl
theorem ml_La_48 : Cond.methodLink "SegmentIndexLaw" 48 y_La_token ∈ gw := gw_in (i := 450) (by decide +kernel) rfl
theorem ml_La_53 : Cond.methodLink "SegmentIndexLaw" 53 y_Mo_token ∈ gw := gw_in (i := 773) (by decide +kernel) rfl
theorem ml_La_54 : Cond.methodLink "SegmentIndexLaw" 54 y_Mo_thrown ∈ gw := gw_in (i := 769) (by decide +kernel) rfl
theorem ml_La_57 : Cond.methodLink "SegmentIndexLaw" 57 y_La_add ∈ gw := gw_in (i := 576) (by decide +kernel) rfl
theorem ml_La_60 : Cond.methodLink "SegmentIndexLaw" 60 y_Mo_add ∈ gw := gw_in (i := 777) (by decide +kernel) rfl
theorem ml_La_61 : Cond.methodLink "SegmentIndexLaw" 61 y_La_take ∈ gw := gw_in (i := 588) (by decide +kernel) rfl
theorem ml_La_64 : Cond.methodLink "SegmentIndexLaw" 64 y_Mo_take ∈ gw := gw_in (i := 797) (by decide +kernel) rfl
theorem ml_La_65 : Cond.methodLink "SegmentIndexLaw" 65 y_SI_flush ∈ gw := gw_in (i := 200) (by decide +kernel) rfl
theorem ml_La_68 : Cond.methodLink "SegmentIndexLaw" 68 y_Mo_flush ∈ gw := gw_in (i := 801) (by decide +kernel) rfl
theorem ml_La_69 : Cond.methodLink "SegmentIndexLaw" 69 y_SI_pack ∈ gw := gw_in (i := 384) (by decide +kernel) rfl
theorem ml_La_72 : Cond.methodLink "SegmentIndexLaw" 72 y_Mo_pack ∈ gw := gw_in (i := 805) (by decide +kernel) rfl
theorem ml_La_73 : Cond.methodLink "SegmentIndexLaw" 73 y_La_term ∈ gw := gw_in (i := 617) (by decide +kernel) rfl
theorem ml_La_76 : Cond.methodLink "SegmentIndexLaw" 76 y_Mo_term ∈ gw := gw_in (i := 809) (by decide +kernel) rfl
theorem ml_La_77 : Cond.methodLink "SegmentIndexLaw" 77 y_La_begins ∈ gw := gw_in (i := 646) (by decide +kernel) rfl
theorem ml_La_79 : Cond.methodLink "SegmentIndexLaw" 79 y_Mo_begins ∈ gw := gw_in (i := 836) (by decide +kernel) rfl
theorem ml_La_80 : Cond.methodLink "SegmentIndexLaw" 80 y_La_follow ∈ gw := gw_in (i := 654) (by decide +kernel) rfl
theorem ml_La_82 : Cond.methodLink "SegmentIndexLaw" 82 y_Mo_follow ∈ gw := gw_in (i := 840) (by decide +kernel) rfl
theorem ml_La_83 : Cond.methodLink "SegmentIndexLaw" 83 y_La_join ∈ gw := gw_in (i := 678) (by decide +kernel) rfl
theorem ml_La_86 : Cond.methodLink "SegmentIndexLaw" 86 y_Mo_join ∈ gw := gw_in (i := 852) (by decide +kernel) rfl
theorem ml_La_87 : Cond.methodLink "SegmentIndexLaw" 87 y_La_drop ∈ gw := gw_in (i := 709) (by decide +kernel) rfl
theorem ml_La_89 : Cond.methodLink "SegmentIndexLaw" 89 y_Mo_drop ∈ gw := gw_in (i := 864) (by decide +kernel) rfl
theorem ml_La_90 : Cond.methodLink "SegmentIndexLaw" 90 y_SI_hit ∈ gw := gw_in (i := 393) (by decide +kernel) rfl
theorem ml_La_94 : Cond.methodLink "SegmentIndexLaw" 94 y_Mo_hit ∈ gw := gw_in (i := 868) (by decide +kernel) rfl
theorem ml_La_95 : Cond.methodLink "SegmentIndexLaw" 95 y_SI_documents ∈ gw := gw_in (i := 418) (by decide +kernel) rfl
theorem ml_La_98 : Cond.methodLink "SegmentIndexLaw" 98 y_Mo_documents ∈ gw := gw_in (i := 872) (by decide +kernel) rfl
theorem ml_La_99 : Cond.methodLink "SegmentIndexLaw" 99 y_SI_best ∈ gw := gw_in (i := 427) (by decide +kernel) rfl
theorem ml_La_102 : Cond.methodLink "SegmentIndexLaw" 102 y_Mo_best ∈ gw := gw_in (i := 876) (by decide +kernel) rfl
theorem ml_La_103 : Cond.methodLink "SegmentIndexLaw" 103 y_SI_segment ∈ gw := gw_in (i := 438) (by decide +kernel) rfl
theorem ml_La_106 : Cond.methodLink "SegmentIndexLaw" 106 y_Mo_segment ∈ gw := gw_in (i := 884) (by decide +kernel) rfl
theorem ml_La_107 : Cond.methodLink "SegmentIndexLaw" 107 y_SI_count ∈ gw := gw_in (i := 442) (by decide +kernel) rfl
theorem ml_La_110 : Cond.methodLink "SegmentIndexLaw" 110 y_Mo_count ∈ gw := gw_in (i := 892) (by decide +kernel) rfl
theorem cl_La_8 : Cond.classLink "SegmentIndexLaw" 8 "SegmentIndex" ∈ gw := gw_in (i := 57) (by decide +kernel) rfl
theorem cl_La_13 : Cond.classLink "SegmentIndexLaw" 13 "java/lang/IllegalArgumentException" ∈ gw := gw_in (i := 453) (by decide +kernel) rfl
theorem cl_La_15 : Cond.classLink "SegmentIndexLaw" 15 "java/lang/IllegalStateException" ∈ gw := gw_in (i := 454) (by decide +kernel) rfl
theorem cl_La_25 : Cond.classLink "SegmentIndexLaw" 25 "java/lang/IndexOutOfBoundsException" ∈ gw := gw_in (i := 591) (by decide +kernel) rfl
theorem cl_La_45 : Cond.classLink "SegmentIndexLaw" 45 "SegmentIndexModel" ∈ gw := gw_in (i := 716) (by decide +kernel) rfl
theorem w_cas_IA : Cond.castable "java/lang/IllegalArgumentException" "java/lang/IllegalArgumentException" ∈ gw := gw_in (i := 461) (by decide +kernel) rfl
theorem w_cas_IS : Cond.castable "java/lang/IllegalStateException" "java/lang/IllegalStateException" ∈ gw := gw_in (i := 548) (by decide +kernel) rfl
theorem w_cas_IO : Cond.castable "java/lang/IndexOutOfBoundsException" "java/lang/IndexOutOfBoundsException" ∈ gw := gw_in (i := 602) (by decide +kernel) rfl
