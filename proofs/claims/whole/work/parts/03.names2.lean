abbrev b_SI_init : ByteArray := prog_1_method_1_code
abbrev y_SI_init : MethodName := ⟨"SegmentIndex", "<init>", "()V"⟩
theorem d_SI_init_0 : decode b_SI_init 0 = .ok (.aload_n 0, 1) := by decide +kernel
theorem d_SI_init_1 : decode b_SI_init 1 = .ok (.invokespecial 1, 3) := by decide +kernel
theorem d_SI_init_4 : decode b_SI_init 4 = .ok (.aload_n 0, 1) := by decide +kernel
theorem d_SI_init_5 : decode b_SI_init 5 = .ok (.new 7, 3) := by decide +kernel
theorem d_SI_init_8 : decode b_SI_init 8 = .ok (.dup, 1) := by decide +kernel
theorem d_SI_init_9 : decode b_SI_init 9 = .ok (.invokespecial 9, 3) := by decide +kernel
theorem d_SI_init_12 : decode b_SI_init 12 = .ok (.putfield 10, 3) := by decide +kernel
theorem d_SI_init_15 : decode b_SI_init 15 = .ok (.aload_n 0, 1) := by decide +kernel
theorem d_SI_init_16 : decode b_SI_init 16 = .ok (.new 16, 3) := by decide +kernel
theorem d_SI_init_19 : decode b_SI_init 19 = .ok (.dup, 1) := by decide +kernel
theorem d_SI_init_20 : decode b_SI_init 20 = .ok (.invokespecial 18, 3) := by decide +kernel
theorem d_SI_init_23 : decode b_SI_init 23 = .ok (.putfield 19, 3) := by decide +kernel
theorem d_SI_init_26 : decode b_SI_init 26 = .ok (.aload_n 0, 1) := by decide +kernel
theorem d_SI_init_27 : decode b_SI_init 27 = .ok (.new 23, 3) := by decide +kernel
theorem d_SI_init_30 : decode b_SI_init 30 = .ok (.dup, 1) := by decide +kernel
theorem d_SI_init_31 : decode b_SI_init 31 = .ok (.invokespecial 25, 3) := by decide +kernel
theorem d_SI_init_34 : decode b_SI_init 34 = .ok (.putfield 26, 3) := by decide +kernel
theorem d_SI_init_37 : decode b_SI_init 37 = .ok (.aload_n 0, 1) := by decide +kernel
theorem d_SI_init_38 : decode b_SI_init 38 = .ok (.new 30, 3) := by decide +kernel
theorem d_SI_init_41 : decode b_SI_init 41 = .ok (.dup, 1) := by decide +kernel
theorem d_SI_init_42 : decode b_SI_init 42 = .ok (.invokespecial 32, 3) := by decide +kernel
theorem d_SI_init_45 : decode b_SI_init 45 = .ok (.putfield 33, 3) := by decide +kernel
theorem d_SI_init_48 : decode b_SI_init 48 = .ok (.aload_n 0, 1) := by decide +kernel
theorem d_SI_init_49 : decode b_SI_init 49 = .ok (.iconst 0, 1) := by decide +kernel
theorem d_SI_init_50 : decode b_SI_init 50 = .ok (.putfield 37, 3) := by decide +kernel
theorem d_SI_init_53 : decode b_SI_init 53 = .ok (.return_, 1) := by decide +kernel
abbrev b_Sh_init : ByteArray := prog_6_method_1_code
abbrev y_Sh_init : MethodName := ⟨"SegmentIndex$Shelf", "<init>", "()V"⟩
theorem d_Sh_init_0 : decode b_Sh_init 0 = .ok (.aload_n 0, 1) := by decide +kernel
theorem d_Sh_init_1 : decode b_Sh_init 1 = .ok (.invokespecial 3, 3) := by decide +kernel
theorem d_Sh_init_4 : decode b_Sh_init 4 = .ok (.aload_n 0, 1) := by decide +kernel
theorem d_Sh_init_5 : decode b_Sh_init 5 = .ok (.new 9, 3) := by decide +kernel
theorem d_Sh_init_8 : decode b_Sh_init 8 = .ok (.dup, 1) := by decide +kernel
theorem d_Sh_init_9 : decode b_Sh_init 9 = .ok (.invokespecial 11, 3) := by decide +kernel
theorem d_Sh_init_12 : decode b_Sh_init 12 = .ok (.putfield 12, 3) := by decide +kernel
theorem d_Sh_init_15 : decode b_Sh_init 15 = .ok (.aload_n 0, 1) := by decide +kernel
theorem d_Sh_init_16 : decode b_Sh_init 16 = .ok (.sipush 600, 3) := by decide +kernel
theorem d_Sh_init_19 : decode b_Sh_init 19 = .ok (.newarray .int, 2) := by decide +kernel
theorem d_Sh_init_21 : decode b_Sh_init 21 = .ok (.putfield 18, 3) := by decide +kernel
theorem d_Sh_init_24 : decode b_Sh_init 24 = .ok (.aload_n 0, 1) := by decide +kernel
theorem d_Sh_init_25 : decode b_Sh_init 25 = .ok (.sipush 601, 3) := by decide +kernel
theorem d_Sh_init_28 : decode b_Sh_init 28 = .ok (.newarray .int, 2) := by decide +kernel
theorem d_Sh_init_30 : decode b_Sh_init 30 = .ok (.putfield 22, 3) := by decide +kernel
theorem d_Sh_init_33 : decode b_Sh_init 33 = .ok (.aload_n 0, 1) := by decide +kernel
theorem d_Sh_init_34 : decode b_Sh_init 34 = .ok (.iconst 4, 1) := by decide +kernel
theorem d_Sh_init_35 : decode b_Sh_init 35 = .ok (.newarray .int, 2) := by decide +kernel
theorem d_Sh_init_37 : decode b_Sh_init 37 = .ok (.putfield 25, 3) := by decide +kernel
theorem d_Sh_init_40 : decode b_Sh_init 40 = .ok (.aload_n 0, 1) := by decide +kernel
theorem d_Sh_init_41 : decode b_Sh_init 41 = .ok (.iconst 0, 1) := by decide +kernel
theorem d_Sh_init_42 : decode b_Sh_init 42 = .ok (.putfield 28, 3) := by decide +kernel
theorem d_Sh_init_45 : decode b_Sh_init 45 = .ok (.return_, 1) := by decide +kernel
abbrev b_SI_flush : ByteArray := prog_1_method_5_code
abbrev y_SI_flush : MethodName := ⟨"SegmentIndex", "flush", "()I"⟩
theorem d_SI_flush_0 : decode b_SI_flush 0 = .ok (.aload_n 0, 1) := by decide +kernel
theorem d_SI_flush_1 : decode b_SI_flush 1 = .ok (.invokevirtual 95, 3) := by decide +kernel
theorem d_SI_flush_4 : decode b_SI_flush 4 = .ok (.aload_n 0, 1) := by decide +kernel
theorem d_SI_flush_5 : decode b_SI_flush 5 = .ok (.getfield 19, 3) := by decide +kernel
theorem d_SI_flush_8 : decode b_SI_flush 8 = .ok (.invokevirtual 115, 3) := by decide +kernel
theorem d_SI_flush_11 : decode b_SI_flush 11 = .ok (.ireturn, 1) := by decide +kernel
abbrev b_SI_flushBuffer : ByteArray := prog_1_method_17_code
abbrev y_SI_flushBuffer : MethodName := ⟨"SegmentIndex", "flushBuffer", "()V"⟩
theorem d_SI_flushBuffer_0 : decode b_SI_flushBuffer 0 = .ok (.aload_n 0, 1) := by decide +kernel
theorem d_SI_flushBuffer_1 : decode b_SI_flushBuffer 1 = .ok (.aload_n 0, 1) := by decide +kernel
theorem d_SI_flushBuffer_2 : decode b_SI_flushBuffer 2 = .ok (.getfield 37, 3) := by decide +kernel
theorem d_SI_flushBuffer_5 : decode b_SI_flushBuffer 5 = .ok (.iconst 0, 1) := by decide +kernel
theorem d_SI_flushBuffer_6 : decode b_SI_flushBuffer 6 = .ok (.invokevirtual 125, 3) := by decide +kernel
theorem d_SI_flushBuffer_9 : decode b_SI_flushBuffer 9 = .ok (.pop, 1) := by decide +kernel
theorem d_SI_flushBuffer_10 : decode b_SI_flushBuffer 10 = .ok (.aload_n 0, 1) := by decide +kernel
theorem d_SI_flushBuffer_11 : decode b_SI_flushBuffer 11 = .ok (.aload_n 0, 1) := by decide +kernel
theorem d_SI_flushBuffer_12 : decode b_SI_flushBuffer 12 = .ok (.getfield 10, 3) := by decide +kernel
theorem d_SI_flushBuffer_15 : decode b_SI_flushBuffer 15 = .ok (.getfield 48, 3) := by decide +kernel
theorem d_SI_flushBuffer_18 : decode b_SI_flushBuffer 18 = .ok (.putfield 37, 3) := by decide +kernel
theorem d_SI_flushBuffer_21 : decode b_SI_flushBuffer 21 = .ok (.iconst 0, 1) := by decide +kernel
theorem d_SI_flushBuffer_22 : decode b_SI_flushBuffer 22 = .ok (.istore_n 1, 1) := by decide +kernel
theorem d_SI_flushBuffer_23 : decode b_SI_flushBuffer 23 = .ok (.iload_n 1, 1) := by decide +kernel
theorem d_SI_flushBuffer_24 : decode b_SI_flushBuffer 24 = .ok (.sipush 600, 3) := by decide +kernel
theorem d_SI_flushBuffer_27 : decode b_SI_flushBuffer 27 = .ok (.if_icmp .ge 20, 3) := by decide +kernel
theorem d_SI_flushBuffer_30 : decode b_SI_flushBuffer 30 = .ok (.aload_n 0, 1) := by decide +kernel
theorem d_SI_flushBuffer_31 : decode b_SI_flushBuffer 31 = .ok (.invokevirtual 217, 3) := by decide +kernel
theorem d_SI_flushBuffer_34 : decode b_SI_flushBuffer 34 = .ok (.ifCond .eq 13, 3) := by decide +kernel
theorem d_SI_flushBuffer_37 : decode b_SI_flushBuffer 37 = .ok (.aload_n 0, 1) := by decide +kernel
theorem d_SI_flushBuffer_38 : decode b_SI_flushBuffer 38 = .ok (.invokevirtual 221, 3) := by decide +kernel
theorem d_SI_flushBuffer_41 : decode b_SI_flushBuffer 41 = .ok (.iinc 1 1, 3) := by decide +kernel
theorem d_SI_flushBuffer_44 : decode b_SI_flushBuffer 44 = .ok (.goto (-21), 3) := by decide +kernel
theorem d_SI_flushBuffer_47 : decode b_SI_flushBuffer 47 = .ok (.return_, 1) := by decide +kernel
abbrev b_SI_putTogether : ByteArray := prog_1_method_22_code
abbrev y_SI_putTogether : MethodName := ⟨"SegmentIndex", "putTogether", "(II)I"⟩
theorem d_SI_putTogether_0 : decode b_SI_putTogether 0 = .ok (.aload_n 0, 1) := by decide +kernel
theorem d_SI_putTogether_1 : decode b_SI_putTogether 1 = .ok (.getfield 33, 3) := by decide +kernel
theorem d_SI_putTogether_4 : decode b_SI_putTogether 4 = .ok (.invokevirtual 235, 3) := by decide +kernel
theorem d_SI_putTogether_7 : decode b_SI_putTogether 7 = .ok (.iconst 0, 1) := by decide +kernel
theorem d_SI_putTogether_8 : decode b_SI_putTogether 8 = .ok (.istore_n 3, 1) := by decide +kernel
theorem d_SI_putTogether_9 : decode b_SI_putTogether 9 = .ok (.iload_n 1, 1) := by decide +kernel
theorem d_SI_putTogether_10 : decode b_SI_putTogether 10 = .ok (.istore 4, 2) := by decide +kernel
theorem d_SI_putTogether_12 : decode b_SI_putTogether 12 = .ok (.iload 4, 2) := by decide +kernel
theorem d_SI_putTogether_14 : decode b_SI_putTogether 14 = .ok (.aload_n 0, 1) := by decide +kernel
theorem d_SI_putTogether_15 : decode b_SI_putTogether 15 = .ok (.getfield 10, 3) := by decide +kernel
theorem d_SI_putTogether_18 : decode b_SI_putTogether 18 = .ok (.getfield 48, 3) := by decide +kernel
theorem d_SI_putTogether_21 : decode b_SI_putTogether 21 = .ok (.if_icmp .ge 47, 3) := by decide +kernel
theorem d_SI_putTogether_24 : decode b_SI_putTogether 24 = .ok (.aload_n 0, 1) := by decide +kernel
theorem d_SI_putTogether_25 : decode b_SI_putTogether 25 = .ok (.getfield 10, 3) := by decide +kernel
theorem d_SI_putTogether_28 : decode b_SI_putTogether 28 = .ok (.iload 4, 2) := by decide +kernel
theorem d_SI_putTogether_30 : decode b_SI_putTogether 30 = .ok (.invokevirtual 238, 3) := by decide +kernel
theorem d_SI_putTogether_33 : decode b_SI_putTogether 33 = .ok (.aload_n 0, 1) := by decide +kernel
theorem d_SI_putTogether_34 : decode b_SI_putTogether 34 = .ok (.getfield 10, 3) := by decide +kernel
theorem d_SI_putTogether_37 : decode b_SI_putTogether 37 = .ok (.iload 4, 2) := by decide +kernel
theorem d_SI_putTogether_39 : decode b_SI_putTogether 39 = .ok (.invokevirtual 107, 3) := by decide +kernel
theorem d_SI_putTogether_42 : decode b_SI_putTogether 42 = .ok (.iconst 1, 1) := by decide +kernel
theorem d_SI_putTogether_43 : decode b_SI_putTogether 43 = .ok (.if_icmp .ne 19, 3) := by decide +kernel
theorem d_SI_putTogether_46 : decode b_SI_putTogether 46 = .ok (.iinc 3 1, 3) := by decide +kernel
theorem d_SI_putTogether_49 : decode b_SI_putTogether 49 = .ok (.aload_n 0, 1) := by decide +kernel
theorem d_SI_putTogether_50 : decode b_SI_putTogether 50 = .ok (.getfield 10, 3) := by decide +kernel
theorem d_SI_putTogether_53 : decode b_SI_putTogether 53 = .ok (.iload 4, 2) := by decide +kernel
theorem d_SI_putTogether_55 : decode b_SI_putTogether 55 = .ok (.aload_n 0, 1) := by decide +kernel
theorem d_SI_putTogether_56 : decode b_SI_putTogether 56 = .ok (.getfield 33, 3) := by decide +kernel
theorem d_SI_putTogether_59 : decode b_SI_putTogether 59 = .ok (.invokevirtual 241, 3) := by decide +kernel
theorem d_SI_putTogether_62 : decode b_SI_putTogether 62 = .ok (.iinc 4 1, 3) := by decide +kernel
theorem d_SI_putTogether_65 : decode b_SI_putTogether 65 = .ok (.goto (-53), 3) := by decide +kernel
theorem d_SI_putTogether_68 : decode b_SI_putTogether 68 = .ok (.iload_n 3, 1) := by decide +kernel
theorem d_SI_putTogether_69 : decode b_SI_putTogether 69 = .ok (.ifCond .le 35, 3) := by decide +kernel
theorem d_SI_putTogether_72 : decode b_SI_putTogether 72 = .ok (.aload_n 0, 1) := by decide +kernel
theorem d_SI_putTogether_73 : decode b_SI_putTogether 73 = .ok (.getfield 19, 3) := by decide +kernel
theorem d_SI_putTogether_76 : decode b_SI_putTogether 76 = .ok (.new 204, 3) := by decide +kernel
theorem d_SI_putTogether_79 : decode b_SI_putTogether 79 = .ok (.dup, 1) := by decide +kernel
theorem d_SI_putTogether_80 : decode b_SI_putTogether 80 = .ok (.iload_n 1, 1) := by decide +kernel
theorem d_SI_putTogether_81 : decode b_SI_putTogether 81 = .ok (.iload_n 2, 1) := by decide +kernel
theorem d_SI_putTogether_82 : decode b_SI_putTogether 82 = .ok (.iload_n 3, 1) := by decide +kernel
theorem d_SI_putTogether_83 : decode b_SI_putTogether 83 = .ok (.aload_n 0, 1) := by decide +kernel
theorem d_SI_putTogether_84 : decode b_SI_putTogether 84 = .ok (.getfield 33, 3) := by decide +kernel
theorem d_SI_putTogether_87 : decode b_SI_putTogether 87 = .ok (.invokevirtual 245, 3) := by decide +kernel
theorem d_SI_putTogether_90 : decode b_SI_putTogether 90 = .ok (.aload_n 0, 1) := by decide +kernel
theorem d_SI_putTogether_91 : decode b_SI_putTogether 91 = .ok (.getfield 33, 3) := by decide +kernel
theorem d_SI_putTogether_94 : decode b_SI_putTogether 94 = .ok (.getfield 193, 3) := by decide +kernel
theorem d_SI_putTogether_97 : decode b_SI_putTogether 97 = .ok (.invokespecial 248, 3) := by decide +kernel
theorem d_SI_putTogether_100 : decode b_SI_putTogether 100 = .ok (.invokevirtual 251, 3) := by decide +kernel
theorem d_SI_putTogether_103 : decode b_SI_putTogether 103 = .ok (.pop, 1) := by decide +kernel
theorem d_SI_putTogether_104 : decode b_SI_putTogether 104 = .ok (.iload_n 3, 1) := by decide +kernel
theorem d_SI_putTogether_105 : decode b_SI_putTogether 105 = .ok (.ireturn, 1) := by decide +kernel
abbrev b_Sh_moveOn : ByteArray := prog_6_method_10_code
abbrev y_Sh_moveOn : MethodName := ⟨"SegmentIndex$Shelf", "moveOn", "(I)V"⟩
theorem d_Sh_moveOn_0 : decode b_Sh_moveOn 0 = .ok (.aload_n 0, 1) := by decide +kernel
theorem d_Sh_moveOn_1 : decode b_Sh_moveOn 1 = .ok (.iload_n 1, 1) := by decide +kernel
theorem d_Sh_moveOn_2 : decode b_Sh_moveOn 2 = .ok (.invokevirtual 46, 3) := by decide +kernel
theorem d_Sh_moveOn_5 : decode b_Sh_moveOn 5 = .ok (.istore_n 2, 1) := by decide +kernel
theorem d_Sh_moveOn_6 : decode b_Sh_moveOn 6 = .ok (.iload_n 2, 1) := by decide +kernel
theorem d_Sh_moveOn_7 : decode b_Sh_moveOn 7 = .ok (.ifCond .ne 12, 3) := by decide +kernel
theorem d_Sh_moveOn_10 : decode b_Sh_moveOn 10 = .ok (.aload_n 0, 1) := by decide +kernel
theorem d_Sh_moveOn_11 : decode b_Sh_moveOn 11 = .ok (.iload_n 1, 1) := by decide +kernel
theorem d_Sh_moveOn_12 : decode b_Sh_moveOn 12 = .ok (.iconst 1, 1) := by decide +kernel
theorem d_Sh_moveOn_13 : decode b_Sh_moveOn 13 = .ok (.invokevirtual 50, 3) := by decide +kernel
theorem d_Sh_moveOn_16 : decode b_Sh_moveOn 16 = .ok (.goto 14, 3) := by decide +kernel
theorem d_Sh_moveOn_19 : decode b_Sh_moveOn 19 = .ok (.iload_n 2, 1) := by decide +kernel
theorem d_Sh_moveOn_20 : decode b_Sh_moveOn 20 = .ok (.iconst 2, 1) := by decide +kernel
theorem d_Sh_moveOn_21 : decode b_Sh_moveOn 21 = .ok (.if_icmp .ne 9, 3) := by decide +kernel
theorem d_Sh_moveOn_24 : decode b_Sh_moveOn 24 = .ok (.aload_n 0, 1) := by decide +kernel
theorem d_Sh_moveOn_25 : decode b_Sh_moveOn 25 = .ok (.iload_n 1, 1) := by decide +kernel
theorem d_Sh_moveOn_26 : decode b_Sh_moveOn 26 = .ok (.iconst 3, 1) := by decide +kernel
theorem d_Sh_moveOn_27 : decode b_Sh_moveOn 27 = .ok (.invokevirtual 50, 3) := by decide +kernel
theorem d_Sh_moveOn_30 : decode b_Sh_moveOn 30 = .ok (.return_, 1) := by decide +kernel
abbrev b_Sh_stateOf : ByteArray := prog_6_method_7_code
abbrev y_Sh_stateOf : MethodName := ⟨"SegmentIndex$Shelf", "stateOf", "(I)I"⟩
theorem d_Sh_stateOf_0 : decode b_Sh_stateOf 0 = .ok (.iload_n 1, 1) := by decide +kernel
theorem d_Sh_stateOf_1 : decode b_Sh_stateOf 1 = .ok (.ifCond .lt 11, 3) := by decide +kernel
theorem d_Sh_stateOf_4 : decode b_Sh_stateOf 4 = .ok (.iload_n 1, 1) := by decide +kernel
theorem d_Sh_stateOf_5 : decode b_Sh_stateOf 5 = .ok (.aload_n 0, 1) := by decide +kernel
theorem d_Sh_stateOf_6 : decode b_Sh_stateOf 6 = .ok (.getfield 28, 3) := by decide +kernel
theorem d_Sh_stateOf_9 : decode b_Sh_stateOf 9 = .ok (.if_icmp .lt 7, 3) := by decide +kernel
theorem d_Sh_stateOf_12 : decode b_Sh_stateOf 12 = .ok (.iconst 3, 1) := by decide +kernel
theorem d_Sh_stateOf_13 : decode b_Sh_stateOf 13 = .ok (.goto 9, 3) := by decide +kernel
theorem d_Sh_stateOf_16 : decode b_Sh_stateOf 16 = .ok (.aload_n 0, 1) := by decide +kernel
theorem d_Sh_stateOf_17 : decode b_Sh_stateOf 17 = .ok (.getfield 18, 3) := by decide +kernel
theorem d_Sh_stateOf_20 : decode b_Sh_stateOf 20 = .ok (.iload_n 1, 1) := by decide +kernel
theorem d_Sh_stateOf_21 : decode b_Sh_stateOf 21 = .ok (.iaload, 1) := by decide +kernel
theorem d_Sh_stateOf_22 : decode b_Sh_stateOf 22 = .ok (.ireturn, 1) := by decide +kernel
abbrev b_Sh_move : ByteArray := prog_6_method_9_code
abbrev y_Sh_move : MethodName := ⟨"SegmentIndex$Shelf", "move", "(II)V"⟩
theorem d_Sh_move_0 : decode b_Sh_move 0 = .ok (.iload_n 1, 1) := by decide +kernel
theorem d_Sh_move_1 : decode b_Sh_move 1 = .ok (.ifCond .lt 11, 3) := by decide +kernel
theorem d_Sh_move_4 : decode b_Sh_move 4 = .ok (.iload_n 1, 1) := by decide +kernel
theorem d_Sh_move_5 : decode b_Sh_move 5 = .ok (.aload_n 0, 1) := by decide +kernel
theorem d_Sh_move_6 : decode b_Sh_move 6 = .ok (.getfield 28, 3) := by decide +kernel
theorem d_Sh_move_9 : decode b_Sh_move 9 = .ok (.if_icmp .lt 4, 3) := by decide +kernel
theorem d_Sh_move_12 : decode b_Sh_move 12 = .ok (.return_, 1) := by decide +kernel
theorem d_Sh_move_13 : decode b_Sh_move 13 = .ok (.aload_n 0, 1) := by decide +kernel
theorem d_Sh_move_14 : decode b_Sh_move 14 = .ok (.getfield 25, 3) := by decide +kernel
theorem d_Sh_move_17 : decode b_Sh_move 17 = .ok (.aload_n 0, 1) := by decide +kernel
theorem d_Sh_move_18 : decode b_Sh_move 18 = .ok (.getfield 18, 3) := by decide +kernel
theorem d_Sh_move_21 : decode b_Sh_move 21 = .ok (.iload_n 1, 1) := by decide +kernel
theorem d_Sh_move_22 : decode b_Sh_move 22 = .ok (.iaload, 1) := by decide +kernel
theorem d_Sh_move_23 : decode b_Sh_move 23 = .ok (.dup2, 1) := by decide +kernel
theorem d_Sh_move_24 : decode b_Sh_move 24 = .ok (.iaload, 1) := by decide +kernel
theorem d_Sh_move_25 : decode b_Sh_move 25 = .ok (.iconst 1, 1) := by decide +kernel
theorem d_Sh_move_26 : decode b_Sh_move 26 = .ok (.isub, 1) := by decide +kernel
theorem d_Sh_move_27 : decode b_Sh_move 27 = .ok (.iastore, 1) := by decide +kernel
theorem d_Sh_move_28 : decode b_Sh_move 28 = .ok (.aload_n 0, 1) := by decide +kernel
theorem d_Sh_move_29 : decode b_Sh_move 29 = .ok (.getfield 25, 3) := by decide +kernel
theorem d_Sh_move_32 : decode b_Sh_move 32 = .ok (.iload_n 2, 1) := by decide +kernel
theorem d_Sh_move_33 : decode b_Sh_move 33 = .ok (.dup2, 1) := by decide +kernel
theorem d_Sh_move_34 : decode b_Sh_move 34 = .ok (.iaload, 1) := by decide +kernel
theorem d_Sh_move_35 : decode b_Sh_move 35 = .ok (.iconst 1, 1) := by decide +kernel
theorem d_Sh_move_36 : decode b_Sh_move 36 = .ok (.iadd, 1) := by decide +kernel
theorem d_Sh_move_37 : decode b_Sh_move 37 = .ok (.iastore, 1) := by decide +kernel
theorem d_Sh_move_38 : decode b_Sh_move 38 = .ok (.aload_n 0, 1) := by decide +kernel
theorem d_Sh_move_39 : decode b_Sh_move 39 = .ok (.getfield 18, 3) := by decide +kernel
theorem d_Sh_move_42 : decode b_Sh_move 42 = .ok (.iload_n 1, 1) := by decide +kernel
theorem d_Sh_move_43 : decode b_Sh_move 43 = .ok (.iload_n 2, 1) := by decide +kernel
theorem d_Sh_move_44 : decode b_Sh_move 44 = .ok (.iastore, 1) := by decide +kernel
theorem d_Sh_move_45 : decode b_Sh_move 45 = .ok (.return_, 1) := by decide +kernel
abbrev b_Sh_listTerms : ByteArray := prog_6_method_11_code
abbrev y_Sh_listTerms : MethodName := ⟨"SegmentIndex$Shelf", "listTerms", "(ILSegmentIndex$Keys;)V"⟩
theorem d_Sh_listTerms_0 : decode b_Sh_listTerms 0 = .ok (.iload_n 1, 1) := by decide +kernel
theorem d_Sh_listTerms_1 : decode b_Sh_listTerms 1 = .ok (.ifCond .lt 11, 3) := by decide +kernel
theorem d_Sh_listTerms_4 : decode b_Sh_listTerms 4 = .ok (.iload_n 1, 1) := by decide +kernel
theorem d_Sh_listTerms_5 : decode b_Sh_listTerms 5 = .ok (.aload_n 0, 1) := by decide +kernel
theorem d_Sh_listTerms_6 : decode b_Sh_listTerms 6 = .ok (.getfield 28, 3) := by decide +kernel
theorem d_Sh_listTerms_9 : decode b_Sh_listTerms 9 = .ok (.if_icmp .lt 4, 3) := by decide +kernel
theorem d_Sh_listTerms_12 : decode b_Sh_listTerms 12 = .ok (.return_, 1) := by decide +kernel
theorem d_Sh_listTerms_13 : decode b_Sh_listTerms 13 = .ok (.aload_n 0, 1) := by decide +kernel
theorem d_Sh_listTerms_14 : decode b_Sh_listTerms 14 = .ok (.getfield 22, 3) := by decide +kernel
theorem d_Sh_listTerms_17 : decode b_Sh_listTerms 17 = .ok (.iload_n 1, 1) := by decide +kernel
theorem d_Sh_listTerms_18 : decode b_Sh_listTerms 18 = .ok (.iaload, 1) := by decide +kernel
theorem d_Sh_listTerms_19 : decode b_Sh_listTerms 19 = .ok (.istore_n 3, 1) := by decide +kernel
theorem d_Sh_listTerms_20 : decode b_Sh_listTerms 20 = .ok (.iload_n 3, 1) := by decide +kernel
theorem d_Sh_listTerms_21 : decode b_Sh_listTerms 21 = .ok (.aload_n 0, 1) := by decide +kernel
theorem d_Sh_listTerms_22 : decode b_Sh_listTerms 22 = .ok (.getfield 22, 3) := by decide +kernel
theorem d_Sh_listTerms_25 : decode b_Sh_listTerms 25 = .ok (.iload_n 1, 1) := by decide +kernel
theorem d_Sh_listTerms_26 : decode b_Sh_listTerms 26 = .ok (.iconst 1, 1) := by decide +kernel
theorem d_Sh_listTerms_27 : decode b_Sh_listTerms 27 = .ok (.iadd, 1) := by decide +kernel
theorem d_Sh_listTerms_28 : decode b_Sh_listTerms 28 = .ok (.iaload, 1) := by decide +kernel
theorem d_Sh_listTerms_29 : decode b_Sh_listTerms 29 = .ok (.if_icmp .ge 22, 3) := by decide +kernel
theorem d_Sh_listTerms_32 : decode b_Sh_listTerms 32 = .ok (.aload_n 2, 1) := by decide +kernel
theorem d_Sh_listTerms_33 : decode b_Sh_listTerms 33 = .ok (.aload_n 0, 1) := by decide +kernel
theorem d_Sh_listTerms_34 : decode b_Sh_listTerms 34 = .ok (.getfield 12, 3) := by decide +kernel
theorem d_Sh_listTerms_37 : decode b_Sh_listTerms 37 = .ok (.getfield 42, 3) := by decide +kernel
theorem d_Sh_listTerms_40 : decode b_Sh_listTerms 40 = .ok (.iload_n 3, 1) := by decide +kernel
theorem d_Sh_listTerms_41 : decode b_Sh_listTerms 41 = .ok (.laload, 1) := by decide +kernel
theorem d_Sh_listTerms_42 : decode b_Sh_listTerms 42 = .ok (.invokevirtual 54, 3) := by decide +kernel
theorem d_Sh_listTerms_45 : decode b_Sh_listTerms 45 = .ok (.iinc 3 1, 3) := by decide +kernel
theorem d_Sh_listTerms_48 : decode b_Sh_listTerms 48 = .ok (.goto (-28), 3) := by decide +kernel
theorem d_Sh_listTerms_51 : decode b_Sh_listTerms 51 = .ok (.return_, 1) := by decide +kernel
abbrev b_SI_lastFourAreAlike : ByteArray := prog_1_method_18_code
abbrev y_SI_lastFourAreAlike : MethodName := ⟨"SegmentIndex", "lastFourAreAlike", "()Z"⟩
theorem d_SI_lastFourAreAlike_0 : decode b_SI_lastFourAreAlike 0 = .ok (.aload_n 0, 1) := by decide +kernel
theorem d_SI_lastFourAreAlike_1 : decode b_SI_lastFourAreAlike 1 = .ok (.getfield 19, 3) := by decide +kernel
theorem d_SI_lastFourAreAlike_4 : decode b_SI_lastFourAreAlike 4 = .ok (.invokevirtual 115, 3) := by decide +kernel
theorem d_SI_lastFourAreAlike_7 : decode b_SI_lastFourAreAlike 7 = .ok (.iconst 4, 1) := by decide +kernel
theorem d_SI_lastFourAreAlike_8 : decode b_SI_lastFourAreAlike 8 = .ok (.isub, 1) := by decide +kernel
theorem d_SI_lastFourAreAlike_9 : decode b_SI_lastFourAreAlike 9 = .ok (.istore_n 1, 1) := by decide +kernel
theorem d_SI_lastFourAreAlike_10 : decode b_SI_lastFourAreAlike 10 = .ok (.iload_n 1, 1) := by decide +kernel
theorem d_SI_lastFourAreAlike_11 : decode b_SI_lastFourAreAlike 11 = .ok (.ifCond .ge 5, 3) := by decide +kernel
theorem d_SI_lastFourAreAlike_14 : decode b_SI_lastFourAreAlike 14 = .ok (.iconst 0, 1) := by decide +kernel
theorem d_SI_lastFourAreAlike_15 : decode b_SI_lastFourAreAlike 15 = .ok (.ireturn, 1) := by decide +kernel
theorem d_SI_lastFourAreAlike_16 : decode b_SI_lastFourAreAlike 16 = .ok (.aload_n 0, 1) := by decide +kernel
theorem d_SI_lastFourAreAlike_17 : decode b_SI_lastFourAreAlike 17 = .ok (.getfield 19, 3) := by decide +kernel
theorem d_SI_lastFourAreAlike_20 : decode b_SI_lastFourAreAlike 20 = .ok (.iload_n 1, 1) := by decide +kernel
theorem d_SI_lastFourAreAlike_21 : decode b_SI_lastFourAreAlike 21 = .ok (.invokevirtual 200, 3) := by decide +kernel
theorem d_SI_lastFourAreAlike_24 : decode b_SI_lastFourAreAlike 24 = .ok (.checkcast 204, 3) := by decide +kernel
theorem d_SI_lastFourAreAlike_27 : decode b_SI_lastFourAreAlike 27 = .ok (.getfield 206, 3) := by decide +kernel
theorem d_SI_lastFourAreAlike_30 : decode b_SI_lastFourAreAlike 30 = .ok (.istore_n 2, 1) := by decide +kernel
theorem d_SI_lastFourAreAlike_31 : decode b_SI_lastFourAreAlike 31 = .ok (.iload_n 1, 1) := by decide +kernel
theorem d_SI_lastFourAreAlike_32 : decode b_SI_lastFourAreAlike 32 = .ok (.iconst 1, 1) := by decide +kernel
theorem d_SI_lastFourAreAlike_33 : decode b_SI_lastFourAreAlike 33 = .ok (.iadd, 1) := by decide +kernel
theorem d_SI_lastFourAreAlike_34 : decode b_SI_lastFourAreAlike 34 = .ok (.istore_n 3, 1) := by decide +kernel
theorem d_SI_lastFourAreAlike_35 : decode b_SI_lastFourAreAlike 35 = .ok (.iload_n 3, 1) := by decide +kernel
theorem d_SI_lastFourAreAlike_36 : decode b_SI_lastFourAreAlike 36 = .ok (.aload_n 0, 1) := by decide +kernel
theorem d_SI_lastFourAreAlike_37 : decode b_SI_lastFourAreAlike 37 = .ok (.getfield 19, 3) := by decide +kernel
theorem d_SI_lastFourAreAlike_40 : decode b_SI_lastFourAreAlike 40 = .ok (.invokevirtual 115, 3) := by decide +kernel
theorem d_SI_lastFourAreAlike_43 : decode b_SI_lastFourAreAlike 43 = .ok (.if_icmp .ge 29, 3) := by decide +kernel
theorem d_SI_lastFourAreAlike_46 : decode b_SI_lastFourAreAlike 46 = .ok (.aload_n 0, 1) := by decide +kernel
theorem d_SI_lastFourAreAlike_47 : decode b_SI_lastFourAreAlike 47 = .ok (.getfield 19, 3) := by decide +kernel
theorem d_SI_lastFourAreAlike_50 : decode b_SI_lastFourAreAlike 50 = .ok (.iload_n 3, 1) := by decide +kernel
theorem d_SI_lastFourAreAlike_51 : decode b_SI_lastFourAreAlike 51 = .ok (.invokevirtual 200, 3) := by decide +kernel
theorem d_SI_lastFourAreAlike_54 : decode b_SI_lastFourAreAlike 54 = .ok (.checkcast 204, 3) := by decide +kernel
theorem d_SI_lastFourAreAlike_57 : decode b_SI_lastFourAreAlike 57 = .ok (.getfield 206, 3) := by decide +kernel
theorem d_SI_lastFourAreAlike_60 : decode b_SI_lastFourAreAlike 60 = .ok (.iload_n 2, 1) := by decide +kernel
theorem d_SI_lastFourAreAlike_61 : decode b_SI_lastFourAreAlike 61 = .ok (.if_icmp .eq 5, 3) := by decide +kernel
theorem d_SI_lastFourAreAlike_64 : decode b_SI_lastFourAreAlike 64 = .ok (.iconst 0, 1) := by decide +kernel
theorem d_SI_lastFourAreAlike_65 : decode b_SI_lastFourAreAlike 65 = .ok (.ireturn, 1) := by decide +kernel
theorem d_SI_lastFourAreAlike_66 : decode b_SI_lastFourAreAlike 66 = .ok (.iinc 3 1, 3) := by decide +kernel
theorem d_SI_lastFourAreAlike_69 : decode b_SI_lastFourAreAlike 69 = .ok (.goto (-34), 3) := by decide +kernel
theorem d_SI_lastFourAreAlike_72 : decode b_SI_lastFourAreAlike 72 = .ok (.iconst 1, 1) := by decide +kernel
theorem d_SI_lastFourAreAlike_73 : decode b_SI_lastFourAreAlike 73 = .ok (.ireturn, 1) := by decide +kernel
abbrev b_SI_mergeLastFour : ByteArray := prog_1_method_19_code
abbrev y_SI_mergeLastFour : MethodName := ⟨"SegmentIndex", "mergeLastFour", "()V"⟩
theorem d_SI_mergeLastFour_0 : decode b_SI_mergeLastFour 0 = .ok (.aload_n 0, 1) := by decide +kernel
theorem d_SI_mergeLastFour_1 : decode b_SI_mergeLastFour 1 = .ok (.getfield 19, 3) := by decide +kernel
theorem d_SI_mergeLastFour_4 : decode b_SI_mergeLastFour 4 = .ok (.invokevirtual 115, 3) := by decide +kernel
theorem d_SI_mergeLastFour_7 : decode b_SI_mergeLastFour 7 = .ok (.iconst 4, 1) := by decide +kernel
theorem d_SI_mergeLastFour_8 : decode b_SI_mergeLastFour 8 = .ok (.isub, 1) := by decide +kernel
theorem d_SI_mergeLastFour_9 : decode b_SI_mergeLastFour 9 = .ok (.istore_n 1, 1) := by decide +kernel
theorem d_SI_mergeLastFour_10 : decode b_SI_mergeLastFour 10 = .ok (.iload_n 1, 1) := by decide +kernel
theorem d_SI_mergeLastFour_11 : decode b_SI_mergeLastFour 11 = .ok (.ifCond .ge 4, 3) := by decide +kernel
theorem d_SI_mergeLastFour_14 : decode b_SI_mergeLastFour 14 = .ok (.return_, 1) := by decide +kernel
theorem d_SI_mergeLastFour_15 : decode b_SI_mergeLastFour 15 = .ok (.aload_n 0, 1) := by decide +kernel
theorem d_SI_mergeLastFour_16 : decode b_SI_mergeLastFour 16 = .ok (.getfield 19, 3) := by decide +kernel
theorem d_SI_mergeLastFour_19 : decode b_SI_mergeLastFour 19 = .ok (.iload_n 1, 1) := by decide +kernel
theorem d_SI_mergeLastFour_20 : decode b_SI_mergeLastFour 20 = .ok (.invokevirtual 200, 3) := by decide +kernel
theorem d_SI_mergeLastFour_23 : decode b_SI_mergeLastFour 23 = .ok (.checkcast 204, 3) := by decide +kernel
theorem d_SI_mergeLastFour_26 : decode b_SI_mergeLastFour 26 = .ok (.astore_n 2, 1) := by decide +kernel
theorem d_SI_mergeLastFour_27 : decode b_SI_mergeLastFour 27 = .ok (.aload_n 0, 1) := by decide +kernel
theorem d_SI_mergeLastFour_28 : decode b_SI_mergeLastFour 28 = .ok (.iload_n 1, 1) := by decide +kernel
theorem d_SI_mergeLastFour_29 : decode b_SI_mergeLastFour 29 = .ok (.invokevirtual 121, 3) := by decide +kernel
theorem d_SI_mergeLastFour_32 : decode b_SI_mergeLastFour 32 = .ok (.aload_n 0, 1) := by decide +kernel
theorem d_SI_mergeLastFour_33 : decode b_SI_mergeLastFour 33 = .ok (.aload_n 2, 1) := by decide +kernel
theorem d_SI_mergeLastFour_34 : decode b_SI_mergeLastFour 34 = .ok (.getfield 224, 3) := by decide +kernel
theorem d_SI_mergeLastFour_37 : decode b_SI_mergeLastFour 37 = .ok (.aload_n 2, 1) := by decide +kernel
theorem d_SI_mergeLastFour_38 : decode b_SI_mergeLastFour 38 = .ok (.getfield 206, 3) := by decide +kernel
theorem d_SI_mergeLastFour_41 : decode b_SI_mergeLastFour 41 = .ok (.iconst 1, 1) := by decide +kernel
theorem d_SI_mergeLastFour_42 : decode b_SI_mergeLastFour 42 = .ok (.iadd, 1) := by decide +kernel
theorem d_SI_mergeLastFour_43 : decode b_SI_mergeLastFour 43 = .ok (.invokevirtual 125, 3) := by decide +kernel
theorem d_SI_mergeLastFour_46 : decode b_SI_mergeLastFour 46 = .ok (.pop, 1) := by decide +kernel
theorem d_SI_mergeLastFour_47 : decode b_SI_mergeLastFour 47 = .ok (.return_, 1) := by decide +kernel
abbrev b_SI_cutSegments : ByteArray := prog_1_method_20_code
abbrev y_SI_cutSegments : MethodName := ⟨"SegmentIndex", "cutSegments", "(I)V"⟩
theorem d_SI_cutSegments_0 : decode b_SI_cutSegments 0 = .ok (.aload_n 0, 1) := by decide +kernel
theorem d_SI_cutSegments_1 : decode b_SI_cutSegments 1 = .ok (.getfield 19, 3) := by decide +kernel
theorem d_SI_cutSegments_4 : decode b_SI_cutSegments 4 = .ok (.invokevirtual 115, 3) := by decide +kernel
theorem d_SI_cutSegments_7 : decode b_SI_cutSegments 7 = .ok (.iconst 1, 1) := by decide +kernel
theorem d_SI_cutSegments_8 : decode b_SI_cutSegments 8 = .ok (.isub, 1) := by decide +kernel
theorem d_SI_cutSegments_9 : decode b_SI_cutSegments 9 = .ok (.istore_n 2, 1) := by decide +kernel
theorem d_SI_cutSegments_10 : decode b_SI_cutSegments 10 = .ok (.iload_n 2, 1) := by decide +kernel
theorem d_SI_cutSegments_11 : decode b_SI_cutSegments 11 = .ok (.iload_n 1, 1) := by decide +kernel
theorem d_SI_cutSegments_12 : decode b_SI_cutSegments 12 = .ok (.if_icmp .lt 22, 3) := by decide +kernel
theorem d_SI_cutSegments_15 : decode b_SI_cutSegments 15 = .ok (.iload_n 2, 1) := by decide +kernel
theorem d_SI_cutSegments_16 : decode b_SI_cutSegments 16 = .ok (.ifCond .lt 18, 3) := by decide +kernel
theorem d_SI_cutSegments_19 : decode b_SI_cutSegments 19 = .ok (.aload_n 0, 1) := by decide +kernel
theorem d_SI_cutSegments_20 : decode b_SI_cutSegments 20 = .ok (.getfield 19, 3) := by decide +kernel
theorem d_SI_cutSegments_23 : decode b_SI_cutSegments 23 = .ok (.iload_n 2, 1) := by decide +kernel
theorem d_SI_cutSegments_24 : decode b_SI_cutSegments 24 = .ok (.invokevirtual 227, 3) := by decide +kernel
theorem d_SI_cutSegments_27 : decode b_SI_cutSegments 27 = .ok (.pop, 1) := by decide +kernel
theorem d_SI_cutSegments_28 : decode b_SI_cutSegments 28 = .ok (.iinc 2 (-1), 3) := by decide +kernel
theorem d_SI_cutSegments_31 : decode b_SI_cutSegments 31 = .ok (.goto (-21), 3) := by decide +kernel
theorem d_SI_cutSegments_34 : decode b_SI_cutSegments 34 = .ok (.return_, 1) := by decide +kernel
abbrev b_SI_pack : ByteArray := prog_1_method_6_code
abbrev y_SI_pack : MethodName := ⟨"SegmentIndex", "pack", "()I"⟩
theorem d_SI_pack_0 : decode b_SI_pack 0 = .ok (.aload_n 0, 1) := by decide +kernel
theorem d_SI_pack_1 : decode b_SI_pack 1 = .ok (.invokevirtual 118, 3) := by decide +kernel
theorem d_SI_pack_4 : decode b_SI_pack 4 = .ok (.istore_n 1, 1) := by decide +kernel
theorem d_SI_pack_5 : decode b_SI_pack 5 = .ok (.aload_n 0, 1) := by decide +kernel
theorem d_SI_pack_6 : decode b_SI_pack 6 = .ok (.iconst 0, 1) := by decide +kernel
theorem d_SI_pack_7 : decode b_SI_pack 7 = .ok (.invokevirtual 121, 3) := by decide +kernel
theorem d_SI_pack_10 : decode b_SI_pack 10 = .ok (.aload_n 0, 1) := by decide +kernel
theorem d_SI_pack_11 : decode b_SI_pack 11 = .ok (.iconst 0, 1) := by decide +kernel
theorem d_SI_pack_12 : decode b_SI_pack 12 = .ok (.iload_n 1, 1) := by decide +kernel
theorem d_SI_pack_13 : decode b_SI_pack 13 = .ok (.invokevirtual 125, 3) := by decide +kernel
theorem d_SI_pack_16 : decode b_SI_pack 16 = .ok (.istore_n 2, 1) := by decide +kernel
theorem d_SI_pack_17 : decode b_SI_pack 17 = .ok (.aload_n 0, 1) := by decide +kernel
theorem d_SI_pack_18 : decode b_SI_pack 18 = .ok (.aload_n 0, 1) := by decide +kernel
theorem d_SI_pack_19 : decode b_SI_pack 19 = .ok (.getfield 10, 3) := by decide +kernel
theorem d_SI_pack_22 : decode b_SI_pack 22 = .ok (.getfield 48, 3) := by decide +kernel
theorem d_SI_pack_25 : decode b_SI_pack 25 = .ok (.putfield 37, 3) := by decide +kernel
theorem d_SI_pack_28 : decode b_SI_pack 28 = .ok (.iload_n 2, 1) := by decide +kernel
theorem d_SI_pack_29 : decode b_SI_pack 29 = .ok (.ireturn, 1) := by decide +kernel
abbrev b_SI_highestLevel : ByteArray := prog_1_method_21_code
abbrev y_SI_highestLevel : MethodName := ⟨"SegmentIndex", "highestLevel", "()I"⟩
theorem d_SI_highestLevel_0 : decode b_SI_highestLevel 0 = .ok (.iconst 0, 1) := by decide +kernel
theorem d_SI_highestLevel_1 : decode b_SI_highestLevel 1 = .ok (.istore_n 1, 1) := by decide +kernel
theorem d_SI_highestLevel_2 : decode b_SI_highestLevel 2 = .ok (.iconst 0, 1) := by decide +kernel
theorem d_SI_highestLevel_3 : decode b_SI_highestLevel 3 = .ok (.istore_n 2, 1) := by decide +kernel
theorem d_SI_highestLevel_4 : decode b_SI_highestLevel 4 = .ok (.iload_n 2, 1) := by decide +kernel
theorem d_SI_highestLevel_5 : decode b_SI_highestLevel 5 = .ok (.aload_n 0, 1) := by decide +kernel
theorem d_SI_highestLevel_6 : decode b_SI_highestLevel 6 = .ok (.getfield 19, 3) := by decide +kernel
theorem d_SI_highestLevel_9 : decode b_SI_highestLevel 9 = .ok (.invokevirtual 115, 3) := by decide +kernel
theorem d_SI_highestLevel_12 : decode b_SI_highestLevel 12 = .ok (.if_icmp .ge 28, 3) := by decide +kernel
theorem d_SI_highestLevel_15 : decode b_SI_highestLevel 15 = .ok (.iload_n 1, 1) := by decide +kernel
theorem d_SI_highestLevel_16 : decode b_SI_highestLevel 16 = .ok (.aload_n 0, 1) := by decide +kernel
theorem d_SI_highestLevel_17 : decode b_SI_highestLevel 17 = .ok (.getfield 19, 3) := by decide +kernel
theorem d_SI_highestLevel_20 : decode b_SI_highestLevel 20 = .ok (.iload_n 2, 1) := by decide +kernel
theorem d_SI_highestLevel_21 : decode b_SI_highestLevel 21 = .ok (.invokevirtual 200, 3) := by decide +kernel
theorem d_SI_highestLevel_24 : decode b_SI_highestLevel 24 = .ok (.checkcast 204, 3) := by decide +kernel
theorem d_SI_highestLevel_27 : decode b_SI_highestLevel 27 = .ok (.getfield 206, 3) := by decide +kernel
theorem d_SI_highestLevel_30 : decode b_SI_highestLevel 30 = .ok (.invokestatic 230, 3) := by decide +kernel
theorem d_SI_highestLevel_33 : decode b_SI_highestLevel 33 = .ok (.istore_n 1, 1) := by decide +kernel
theorem d_SI_highestLevel_34 : decode b_SI_highestLevel 34 = .ok (.iinc 2 1, 3) := by decide +kernel
theorem d_SI_highestLevel_37 : decode b_SI_highestLevel 37 = .ok (.goto (-33), 3) := by decide +kernel
theorem d_SI_highestLevel_40 : decode b_SI_highestLevel 40 = .ok (.iload_n 1, 1) := by decide +kernel
theorem d_SI_highestLevel_41 : decode b_SI_highestLevel 41 = .ok (.ireturn, 1) := by decide +kernel
abbrev b_SI_hit : ByteArray := prog_1_method_12_code
abbrev y_SI_hit : MethodName := ⟨"SegmentIndex", "hit", "(II)I"⟩
theorem d_SI_hit_0 : decode b_SI_hit 0 = .ok (.aload_n 0, 1) := by decide +kernel
theorem d_SI_hit_1 : decode b_SI_hit 1 = .ok (.getfield 26, 3) := by decide +kernel
theorem d_SI_hit_4 : decode b_SI_hit 4 = .ok (.invokevirtual 151, 3) := by decide +kernel
theorem d_SI_hit_7 : decode b_SI_hit 7 = .ok (.astore_n 3, 1) := by decide +kernel
theorem d_SI_hit_8 : decode b_SI_hit 8 = .ok (.iload_n 1, 1) := by decide +kernel
theorem d_SI_hit_9 : decode b_SI_hit 9 = .ok (.ifCond .lt 11, 3) := by decide +kernel
theorem d_SI_hit_12 : decode b_SI_hit 12 = .ok (.iload_n 1, 1) := by decide +kernel
theorem d_SI_hit_13 : decode b_SI_hit 13 = .ok (.aload_n 3, 1) := by decide +kernel
theorem d_SI_hit_14 : decode b_SI_hit 14 = .ok (.getfield 172, 3) := by decide +kernel
theorem d_SI_hit_17 : decode b_SI_hit 17 = .ok (.if_icmp .lt 5, 3) := by decide +kernel
theorem d_SI_hit_20 : decode b_SI_hit 20 = .ok (.iconst (-1), 1) := by decide +kernel
theorem d_SI_hit_21 : decode b_SI_hit 21 = .ok (.ireturn, 1) := by decide +kernel
theorem d_SI_hit_22 : decode b_SI_hit 22 = .ok (.aload_n 3, 1) := by decide +kernel
theorem d_SI_hit_23 : decode b_SI_hit 23 = .ok (.getfield 174, 3) := by decide +kernel
theorem d_SI_hit_26 : decode b_SI_hit 26 = .ok (.iload_n 1, 1) := by decide +kernel
theorem d_SI_hit_27 : decode b_SI_hit 27 = .ok (.iaload, 1) := by decide +kernel
theorem d_SI_hit_28 : decode b_SI_hit 28 = .ok (.istore 4, 2) := by decide +kernel
theorem d_SI_hit_30 : decode b_SI_hit 30 = .ok (.iload_n 2, 1) := by decide +kernel
theorem d_SI_hit_31 : decode b_SI_hit 31 = .ok (.tableswitch 43 0 2 #[25, 31, 37], 25) := by decide +kernel
theorem d_SI_hit_56 : decode b_SI_hit 56 = .ok (.iload 4, 2) := by decide +kernel
theorem d_SI_hit_58 : decode b_SI_hit 58 = .ok (.invokestatic 177, 3) := by decide +kernel
theorem d_SI_hit_61 : decode b_SI_hit 61 = .ok (.ireturn, 1) := by decide +kernel
theorem d_SI_hit_62 : decode b_SI_hit 62 = .ok (.iload 4, 2) := by decide +kernel
theorem d_SI_hit_64 : decode b_SI_hit 64 = .ok (.invokestatic 180, 3) := by decide +kernel
theorem d_SI_hit_67 : decode b_SI_hit 67 = .ok (.ireturn, 1) := by decide +kernel
theorem d_SI_hit_68 : decode b_SI_hit 68 = .ok (.iload 4, 2) := by decide +kernel
theorem d_SI_hit_70 : decode b_SI_hit 70 = .ok (.invokestatic 183, 3) := by decide +kernel
theorem d_SI_hit_73 : decode b_SI_hit 73 = .ok (.ireturn, 1) := by decide +kernel
theorem d_SI_hit_74 : decode b_SI_hit 74 = .ok (.iconst (-1), 1) := by decide +kernel
theorem d_SI_hit_75 : decode b_SI_hit 75 = .ok (.ireturn, 1) := by decide +kernel
abbrev b_SI_documentOf : ByteArray := prog_1_method_27_code
abbrev y_SI_documentOf : MethodName := ⟨"SegmentIndex", "documentOf", "(I)I"⟩
theorem d_SI_documentOf_0 : decode b_SI_documentOf 0 = .ok (.iload_n 0, 1) := by decide +kernel
theorem d_SI_documentOf_1 : decode b_SI_documentOf 1 = .ok (.bipush 14, 2) := by decide +kernel
theorem d_SI_documentOf_3 : decode b_SI_documentOf 3 = .ok (.ishr, 1) := by decide +kernel
theorem d_SI_documentOf_4 : decode b_SI_documentOf 4 = .ok (.ireturn, 1) := by decide +kernel
abbrev b_SI_fieldOf : ByteArray := prog_1_method_28_code
abbrev y_SI_fieldOf : MethodName := ⟨"SegmentIndex", "fieldOf", "(I)I"⟩
theorem d_SI_fieldOf_0 : decode b_SI_fieldOf 0 = .ok (.iload_n 0, 1) := by decide +kernel
theorem d_SI_fieldOf_1 : decode b_SI_fieldOf 1 = .ok (.bipush 12, 2) := by decide +kernel
theorem d_SI_fieldOf_3 : decode b_SI_fieldOf 3 = .ok (.ishr, 1) := by decide +kernel
theorem d_SI_fieldOf_4 : decode b_SI_fieldOf 4 = .ok (.iconst 3, 1) := by decide +kernel
theorem d_SI_fieldOf_5 : decode b_SI_fieldOf 5 = .ok (.iand, 1) := by decide +kernel
theorem d_SI_fieldOf_6 : decode b_SI_fieldOf 6 = .ok (.ireturn, 1) := by decide +kernel
abbrev b_SI_placeOf : ByteArray := prog_1_method_29_code
abbrev y_SI_placeOf : MethodName := ⟨"SegmentIndex", "placeOf", "(I)I"⟩
theorem d_SI_placeOf_0 : decode b_SI_placeOf 0 = .ok (.iload_n 0, 1) := by decide +kernel
theorem d_SI_placeOf_1 : decode b_SI_placeOf 1 = .ok (.sipush 4095, 3) := by decide +kernel
theorem d_SI_placeOf_4 : decode b_SI_placeOf 4 = .ok (.iand, 1) := by decide +kernel
theorem d_SI_placeOf_5 : decode b_SI_placeOf 5 = .ok (.ireturn, 1) := by decide +kernel
abbrev b_SI_documents : ByteArray := prog_1_method_13_code
abbrev y_SI_documents : MethodName := ⟨"SegmentIndex", "documents", "()I"⟩
theorem d_SI_documents_0 : decode b_SI_documents 0 = .ok (.aload_n 0, 1) := by decide +kernel
theorem d_SI_documents_1 : decode b_SI_documents 1 = .ok (.getfield 26, 3) := by decide +kernel
theorem d_SI_documents_4 : decode b_SI_documents 4 = .ok (.invokevirtual 151, 3) := by decide +kernel
theorem d_SI_documents_7 : decode b_SI_documents 7 = .ok (.astore_n 1, 1) := by decide +kernel
theorem d_SI_documents_8 : decode b_SI_documents 8 = .ok (.iconst 0, 1) := by decide +kernel
theorem d_SI_documents_9 : decode b_SI_documents 9 = .ok (.istore_n 2, 1) := by decide +kernel
theorem d_SI_documents_10 : decode b_SI_documents 10 = .ok (.iconst 0, 1) := by decide +kernel
theorem d_SI_documents_11 : decode b_SI_documents 11 = .ok (.istore_n 3, 1) := by decide +kernel
theorem d_SI_documents_12 : decode b_SI_documents 12 = .ok (.iload_n 3, 1) := by decide +kernel
theorem d_SI_documents_13 : decode b_SI_documents 13 = .ok (.aload_n 1, 1) := by decide +kernel
theorem d_SI_documents_14 : decode b_SI_documents 14 = .ok (.getfield 172, 3) := by decide +kernel
theorem d_SI_documents_17 : decode b_SI_documents 17 = .ok (.if_icmp .ge 20, 3) := by decide +kernel
theorem d_SI_documents_20 : decode b_SI_documents 20 = .ok (.aload_n 1, 1) := by decide +kernel
theorem d_SI_documents_21 : decode b_SI_documents 21 = .ok (.iload_n 3, 1) := by decide +kernel
theorem d_SI_documents_22 : decode b_SI_documents 22 = .ok (.invokevirtual 186, 3) := by decide +kernel
theorem d_SI_documents_25 : decode b_SI_documents 25 = .ok (.ifCond .eq 6, 3) := by decide +kernel
theorem d_SI_documents_28 : decode b_SI_documents 28 = .ok (.iinc 2 1, 3) := by decide +kernel
theorem d_SI_documents_31 : decode b_SI_documents 31 = .ok (.iinc 3 1, 3) := by decide +kernel
theorem d_SI_documents_34 : decode b_SI_documents 34 = .ok (.goto (-22), 3) := by decide +kernel
theorem d_SI_documents_37 : decode b_SI_documents 37 = .ok (.iload_n 2, 1) := by decide +kernel
theorem d_SI_documents_38 : decode b_SI_documents 38 = .ok (.ireturn, 1) := by decide +kernel
abbrev b_SI_best : ByteArray := prog_1_method_14_code
abbrev y_SI_best : MethodName := ⟨"SegmentIndex", "best", "(I)I"⟩
theorem d_SI_best_0 : decode b_SI_best 0 = .ok (.aload_n 0, 1) := by decide +kernel
theorem d_SI_best_1 : decode b_SI_best 1 = .ok (.aload_n 0, 1) := by decide +kernel
theorem d_SI_best_2 : decode b_SI_best 2 = .ok (.getfield 26, 3) := by decide +kernel
theorem d_SI_best_5 : decode b_SI_best 5 = .ok (.invokevirtual 151, 3) := by decide +kernel
theorem d_SI_best_8 : decode b_SI_best 8 = .ok (.invokevirtual 189, 3) := by decide +kernel
theorem d_SI_best_11 : decode b_SI_best 11 = .ok (.iload_n 1, 1) := by decide +kernel
theorem d_SI_best_12 : decode b_SI_best 12 = .ok (.ifCond .lt 14, 3) := by decide +kernel
theorem d_SI_best_15 : decode b_SI_best 15 = .ok (.iload_n 1, 1) := by decide +kernel
theorem d_SI_best_16 : decode b_SI_best 16 = .ok (.aload_n 0, 1) := by decide +kernel
theorem d_SI_best_17 : decode b_SI_best 17 = .ok (.getfield 33, 3) := by decide +kernel
theorem d_SI_best_20 : decode b_SI_best 20 = .ok (.getfield 193, 3) := by decide +kernel
theorem d_SI_best_23 : decode b_SI_best 23 = .ok (.if_icmp .lt 5, 3) := by decide +kernel
theorem d_SI_best_26 : decode b_SI_best 26 = .ok (.iconst (-1), 1) := by decide +kernel
theorem d_SI_best_27 : decode b_SI_best 27 = .ok (.ireturn, 1) := by decide +kernel
theorem d_SI_best_28 : decode b_SI_best 28 = .ok (.aload_n 0, 1) := by decide +kernel
theorem d_SI_best_29 : decode b_SI_best 29 = .ok (.getfield 33, 3) := by decide +kernel
theorem d_SI_best_32 : decode b_SI_best 32 = .ok (.getfield 194, 3) := by decide +kernel
theorem d_SI_best_35 : decode b_SI_best 35 = .ok (.iload_n 1, 1) := by decide +kernel
theorem d_SI_best_36 : decode b_SI_best 36 = .ok (.laload, 1) := by decide +kernel
theorem d_SI_best_37 : decode b_SI_best 37 = .ok (.ldc2_w 198, 3) := by decide +kernel
theorem d_SI_best_40 : decode b_SI_best 40 = .ok (.land, 1) := by decide +kernel
theorem d_SI_best_41 : decode b_SI_best 41 = .ok (.l2i, 1) := by decide +kernel
theorem d_SI_best_42 : decode b_SI_best 42 = .ok (.ireturn, 1) := by decide +kernel
abbrev b_SI_rankDocuments : ByteArray := prog_1_method_24_code
abbrev y_SI_rankDocuments : MethodName := ⟨"SegmentIndex", "rankDocuments", "(LSegmentIndex$HitSet;)V"⟩
theorem d_SI_rankDocuments_0 : decode b_SI_rankDocuments 0 = .ok (.aload_n 0, 1) := by decide +kernel
theorem d_SI_rankDocuments_1 : decode b_SI_rankDocuments 1 = .ok (.getfield 33, 3) := by decide +kernel
theorem d_SI_rankDocuments_4 : decode b_SI_rankDocuments 4 = .ok (.invokevirtual 235, 3) := by decide +kernel
theorem d_SI_rankDocuments_7 : decode b_SI_rankDocuments 7 = .ok (.iconst 0, 1) := by decide +kernel
theorem d_SI_rankDocuments_8 : decode b_SI_rankDocuments 8 = .ok (.istore_n 2, 1) := by decide +kernel
theorem d_SI_rankDocuments_9 : decode b_SI_rankDocuments 9 = .ok (.iconst 0, 1) := by decide +kernel
theorem d_SI_rankDocuments_10 : decode b_SI_rankDocuments 10 = .ok (.istore_n 3, 1) := by decide +kernel
theorem d_SI_rankDocuments_11 : decode b_SI_rankDocuments 11 = .ok (.iload_n 3, 1) := by decide +kernel
theorem d_SI_rankDocuments_12 : decode b_SI_rankDocuments 12 = .ok (.aload_n 1, 1) := by decide +kernel
theorem d_SI_rankDocuments_13 : decode b_SI_rankDocuments 13 = .ok (.getfield 172, 3) := by decide +kernel
theorem d_SI_rankDocuments_16 : decode b_SI_rankDocuments 16 = .ok (.if_icmp .ge 46, 3) := by decide +kernel
theorem d_SI_rankDocuments_19 : decode b_SI_rankDocuments 19 = .ok (.iinc 2 1, 3) := by decide +kernel
theorem d_SI_rankDocuments_22 : decode b_SI_rankDocuments 22 = .ok (.aload_n 1, 1) := by decide +kernel
theorem d_SI_rankDocuments_23 : decode b_SI_rankDocuments 23 = .ok (.iload_n 3, 1) := by decide +kernel
theorem d_SI_rankDocuments_24 : decode b_SI_rankDocuments 24 = .ok (.invokevirtual 186, 3) := by decide +kernel
theorem d_SI_rankDocuments_27 : decode b_SI_rankDocuments 27 = .ok (.ifCond .eq 29, 3) := by decide +kernel
theorem d_SI_rankDocuments_30 : decode b_SI_rankDocuments 30 = .ok (.aload_n 0, 1) := by decide +kernel
theorem d_SI_rankDocuments_31 : decode b_SI_rankDocuments 31 = .ok (.getfield 33, 3) := by decide +kernel
theorem d_SI_rankDocuments_34 : decode b_SI_rankDocuments 34 = .ok (.iload_n 2, 1) := by decide +kernel
theorem d_SI_rankDocuments_35 : decode b_SI_rankDocuments 35 = .ok (.ineg, 1) := by decide +kernel
theorem d_SI_rankDocuments_36 : decode b_SI_rankDocuments 36 = .ok (.i2l, 1) := by decide +kernel
theorem d_SI_rankDocuments_37 : decode b_SI_rankDocuments 37 = .ok (.bipush 10, 2) := by decide +kernel
theorem d_SI_rankDocuments_39 : decode b_SI_rankDocuments 39 = .ok (.lshl, 1) := by decide +kernel
theorem d_SI_rankDocuments_40 : decode b_SI_rankDocuments 40 = .ok (.aload_n 1, 1) := by decide +kernel
theorem d_SI_rankDocuments_41 : decode b_SI_rankDocuments 41 = .ok (.getfield 174, 3) := by decide +kernel
theorem d_SI_rankDocuments_44 : decode b_SI_rankDocuments 44 = .ok (.iload_n 3, 1) := by decide +kernel
theorem d_SI_rankDocuments_45 : decode b_SI_rankDocuments 45 = .ok (.iaload, 1) := by decide +kernel
theorem d_SI_rankDocuments_46 : decode b_SI_rankDocuments 46 = .ok (.invokestatic 177, 3) := by decide +kernel
theorem d_SI_rankDocuments_49 : decode b_SI_rankDocuments 49 = .ok (.i2l, 1) := by decide +kernel
theorem d_SI_rankDocuments_50 : decode b_SI_rankDocuments 50 = .ok (.lor, 1) := by decide +kernel
theorem d_SI_rankDocuments_51 : decode b_SI_rankDocuments 51 = .ok (.invokevirtual 266, 3) := by decide +kernel
theorem d_SI_rankDocuments_54 : decode b_SI_rankDocuments 54 = .ok (.iconst 0, 1) := by decide +kernel
theorem d_SI_rankDocuments_55 : decode b_SI_rankDocuments 55 = .ok (.istore_n 2, 1) := by decide +kernel
theorem d_SI_rankDocuments_56 : decode b_SI_rankDocuments 56 = .ok (.iinc 3 1, 3) := by decide +kernel
theorem d_SI_rankDocuments_59 : decode b_SI_rankDocuments 59 = .ok (.goto (-48), 3) := by decide +kernel
theorem d_SI_rankDocuments_62 : decode b_SI_rankDocuments 62 = .ok (.aload_n 0, 1) := by decide +kernel
theorem d_SI_rankDocuments_63 : decode b_SI_rankDocuments 63 = .ok (.getfield 33, 3) := by decide +kernel
theorem d_SI_rankDocuments_66 : decode b_SI_rankDocuments 66 = .ok (.invokevirtual 270, 3) := by decide +kernel
theorem d_SI_rankDocuments_69 : decode b_SI_rankDocuments 69 = .ok (.return_, 1) := by decide +kernel
abbrev b_SI_segment : ByteArray := prog_1_method_15_code
abbrev y_SI_segment : MethodName := ⟨"SegmentIndex", "segment", "(II)I"⟩
theorem d_SI_segment_0 : decode b_SI_segment 0 = .ok (.iload_n 1, 1) := by decide +kernel
theorem d_SI_segment_1 : decode b_SI_segment 1 = .ok (.ifCond .lt 14, 3) := by decide +kernel
theorem d_SI_segment_4 : decode b_SI_segment 4 = .ok (.iload_n 1, 1) := by decide +kernel
theorem d_SI_segment_5 : decode b_SI_segment 5 = .ok (.aload_n 0, 1) := by decide +kernel
theorem d_SI_segment_6 : decode b_SI_segment 6 = .ok (.getfield 19, 3) := by decide +kernel
theorem d_SI_segment_9 : decode b_SI_segment 9 = .ok (.invokevirtual 115, 3) := by decide +kernel
theorem d_SI_segment_12 : decode b_SI_segment 12 = .ok (.if_icmp .lt 5, 3) := by decide +kernel
theorem d_SI_segment_15 : decode b_SI_segment 15 = .ok (.iconst (-1), 1) := by decide +kernel
theorem d_SI_segment_16 : decode b_SI_segment 16 = .ok (.ireturn, 1) := by decide +kernel
theorem d_SI_segment_17 : decode b_SI_segment 17 = .ok (.aload_n 0, 1) := by decide +kernel
theorem d_SI_segment_18 : decode b_SI_segment 18 = .ok (.getfield 19, 3) := by decide +kernel
theorem d_SI_segment_21 : decode b_SI_segment 21 = .ok (.iload_n 1, 1) := by decide +kernel
theorem d_SI_segment_22 : decode b_SI_segment 22 = .ok (.invokevirtual 200, 3) := by decide +kernel
theorem d_SI_segment_25 : decode b_SI_segment 25 = .ok (.checkcast 204, 3) := by decide +kernel
theorem d_SI_segment_28 : decode b_SI_segment 28 = .ok (.astore_n 3, 1) := by decide +kernel
theorem d_SI_segment_29 : decode b_SI_segment 29 = .ok (.iload_n 2, 1) := by decide +kernel
theorem d_SI_segment_30 : decode b_SI_segment 30 = .ok (.tableswitch 50 0 3 #[30, 35, 40, 45], 30) := by decide +kernel
theorem d_SI_segment_60 : decode b_SI_segment 60 = .ok (.aload_n 3, 1) := by decide +kernel
theorem d_SI_segment_61 : decode b_SI_segment 61 = .ok (.getfield 206, 3) := by decide +kernel
theorem d_SI_segment_64 : decode b_SI_segment 64 = .ok (.ireturn, 1) := by decide +kernel
theorem d_SI_segment_65 : decode b_SI_segment 65 = .ok (.aload_n 3, 1) := by decide +kernel
theorem d_SI_segment_66 : decode b_SI_segment 66 = .ok (.getfield 209, 3) := by decide +kernel
theorem d_SI_segment_69 : decode b_SI_segment 69 = .ok (.ireturn, 1) := by decide +kernel
theorem d_SI_segment_70 : decode b_SI_segment 70 = .ok (.aload_n 3, 1) := by decide +kernel
theorem d_SI_segment_71 : decode b_SI_segment 71 = .ok (.getfield 212, 3) := by decide +kernel
theorem d_SI_segment_74 : decode b_SI_segment 74 = .ok (.ireturn, 1) := by decide +kernel
theorem d_SI_segment_75 : decode b_SI_segment 75 = .ok (.aload_n 3, 1) := by decide +kernel
theorem d_SI_segment_76 : decode b_SI_segment 76 = .ok (.getfield 215, 3) := by decide +kernel
theorem d_SI_segment_79 : decode b_SI_segment 79 = .ok (.ireturn, 1) := by decide +kernel
theorem d_SI_segment_80 : decode b_SI_segment 80 = .ok (.iconst (-1), 1) := by decide +kernel
theorem d_SI_segment_81 : decode b_SI_segment 81 = .ok (.ireturn, 1) := by decide +kernel
abbrev b_SI_count : ByteArray := prog_1_method_16_code
abbrev y_SI_count : MethodName := ⟨"SegmentIndex", "count", "(I)I"⟩
theorem d_SI_count_0 : decode b_SI_count 0 = .ok (.iload_n 1, 1) := by decide +kernel
theorem d_SI_count_1 : decode b_SI_count 1 = .ok (.tableswitch 130 0 7 #[47, 67, 75, 85, 93, 101, 109, 120], 47) := by decide +kernel
theorem d_SI_count_48 : decode b_SI_count 48 = .ok (.aload_n 0, 1) := by decide +kernel
theorem d_SI_count_49 : decode b_SI_count 49 = .ok (.getfield 10, 3) := by decide +kernel
theorem d_SI_count_52 : decode b_SI_count 52 = .ok (.getfield 91, 3) := by decide +kernel
theorem d_SI_count_55 : decode b_SI_count 55 = .ok (.iconst 0, 1) := by decide +kernel
theorem d_SI_count_56 : decode b_SI_count 56 = .ok (.iaload, 1) := by decide +kernel
theorem d_SI_count_57 : decode b_SI_count 57 = .ok (.aload_n 0, 1) := by decide +kernel
theorem d_SI_count_58 : decode b_SI_count 58 = .ok (.getfield 10, 3) := by decide +kernel
theorem d_SI_count_61 : decode b_SI_count 61 = .ok (.getfield 91, 3) := by decide +kernel
theorem d_SI_count_64 : decode b_SI_count 64 = .ok (.iconst 1, 1) := by decide +kernel
theorem d_SI_count_65 : decode b_SI_count 65 = .ok (.iaload, 1) := by decide +kernel
theorem d_SI_count_66 : decode b_SI_count 66 = .ok (.iadd, 1) := by decide +kernel
theorem d_SI_count_67 : decode b_SI_count 67 = .ok (.ireturn, 1) := by decide +kernel
theorem d_SI_count_68 : decode b_SI_count 68 = .ok (.aload_n 0, 1) := by decide +kernel
theorem d_SI_count_69 : decode b_SI_count 69 = .ok (.getfield 10, 3) := by decide +kernel
theorem d_SI_count_72 : decode b_SI_count 72 = .ok (.getfield 48, 3) := by decide +kernel
theorem d_SI_count_75 : decode b_SI_count 75 = .ok (.ireturn, 1) := by decide +kernel
theorem d_SI_count_76 : decode b_SI_count 76 = .ok (.aload_n 0, 1) := by decide +kernel
theorem d_SI_count_77 : decode b_SI_count 77 = .ok (.getfield 10, 3) := by decide +kernel
theorem d_SI_count_80 : decode b_SI_count 80 = .ok (.getfield 91, 3) := by decide +kernel
theorem d_SI_count_83 : decode b_SI_count 83 = .ok (.iconst 0, 1) := by decide +kernel
theorem d_SI_count_84 : decode b_SI_count 84 = .ok (.iaload, 1) := by decide +kernel
theorem d_SI_count_85 : decode b_SI_count 85 = .ok (.ireturn, 1) := by decide +kernel
theorem d_SI_count_86 : decode b_SI_count 86 = .ok (.aload_n 0, 1) := by decide +kernel
theorem d_SI_count_87 : decode b_SI_count 87 = .ok (.getfield 10, 3) := by decide +kernel
theorem d_SI_count_90 : decode b_SI_count 90 = .ok (.invokevirtual 67, 3) := by decide +kernel
theorem d_SI_count_93 : decode b_SI_count 93 = .ok (.ireturn, 1) := by decide +kernel
theorem d_SI_count_94 : decode b_SI_count 94 = .ok (.aload_n 0, 1) := by decide +kernel
theorem d_SI_count_95 : decode b_SI_count 95 = .ok (.getfield 19, 3) := by decide +kernel
theorem d_SI_count_98 : decode b_SI_count 98 = .ok (.invokevirtual 115, 3) := by decide +kernel
theorem d_SI_count_101 : decode b_SI_count 101 = .ok (.ireturn, 1) := by decide +kernel
theorem d_SI_count_102 : decode b_SI_count 102 = .ok (.aload_n 0, 1) := by decide +kernel
theorem d_SI_count_103 : decode b_SI_count 103 = .ok (.getfield 26, 3) := by decide +kernel
theorem d_SI_count_106 : decode b_SI_count 106 = .ok (.getfield 129, 3) := by decide +kernel
theorem d_SI_count_109 : decode b_SI_count 109 = .ok (.ireturn, 1) := by decide +kernel
theorem d_SI_count_110 : decode b_SI_count 110 = .ok (.aload_n 0, 1) := by decide +kernel
theorem d_SI_count_111 : decode b_SI_count 111 = .ok (.getfield 26, 3) := by decide +kernel
theorem d_SI_count_114 : decode b_SI_count 114 = .ok (.invokevirtual 151, 3) := by decide +kernel
theorem d_SI_count_117 : decode b_SI_count 117 = .ok (.getfield 172, 3) := by decide +kernel
theorem d_SI_count_120 : decode b_SI_count 120 = .ok (.ireturn, 1) := by decide +kernel
theorem d_SI_count_121 : decode b_SI_count 121 = .ok (.aload_n 0, 1) := by decide +kernel
theorem d_SI_count_122 : decode b_SI_count 122 = .ok (.getfield 10, 3) := by decide +kernel
theorem d_SI_count_125 : decode b_SI_count 125 = .ok (.getfield 91, 3) := by decide +kernel
theorem d_SI_count_128 : decode b_SI_count 128 = .ok (.iconst 2, 1) := by decide +kernel
theorem d_SI_count_129 : decode b_SI_count 129 = .ok (.iaload, 1) := by decide +kernel
theorem d_SI_count_130 : decode b_SI_count 130 = .ok (.ireturn, 1) := by decide +kernel
theorem d_SI_count_131 : decode b_SI_count 131 = .ok (.iconst (-1), 1) := by decide +kernel
theorem d_SI_count_132 : decode b_SI_count 132 = .ok (.ireturn, 1) := by decide +kernel
abbrev b_Sh_inHand : ByteArray := prog_6_method_2_code
abbrev y_Sh_inHand : MethodName := ⟨"SegmentIndex$Shelf", "inHand", "()I"⟩
theorem d_Sh_inHand_0 : decode b_Sh_inHand 0 = .ok (.aload_n 0, 1) := by decide +kernel
theorem d_Sh_inHand_1 : decode b_Sh_inHand 1 = .ok (.getfield 12, 3) := by decide +kernel
theorem d_Sh_inHand_4 : decode b_Sh_inHand 4 = .ok (.getfield 32, 3) := by decide +kernel
theorem d_Sh_inHand_7 : decode b_Sh_inHand 7 = .ok (.aload_n 0, 1) := by decide +kernel
theorem d_Sh_inHand_8 : decode b_Sh_inHand 8 = .ok (.getfield 22, 3) := by decide +kernel
theorem d_Sh_inHand_11 : decode b_Sh_inHand 11 = .ok (.aload_n 0, 1) := by decide +kernel
theorem d_Sh_inHand_12 : decode b_Sh_inHand 12 = .ok (.getfield 28, 3) := by decide +kernel
theorem d_Sh_inHand_15 : decode b_Sh_inHand 15 = .ok (.iaload, 1) := by decide +kernel
theorem d_Sh_inHand_16 : decode b_Sh_inHand 16 = .ok (.isub, 1) := by decide +kernel
theorem d_Sh_inHand_17 : decode b_Sh_inHand 17 = .ok (.ireturn, 1) := by decide +kernel
abbrev b_SI_token : ByteArray := prog_1_method_2_code
abbrev y_SI_token : MethodName := ⟨"SegmentIndex", "token", "(IIII)I"⟩
theorem d_SI_token_0 : decode b_SI_token 0 = .ok (.iload_n 1, 1) := by decide +kernel
theorem d_SI_token_1 : decode b_SI_token 1 = .ok (.ifCond .lt 19, 3) := by decide +kernel
theorem d_SI_token_4 : decode b_SI_token 4 = .ok (.iload_n 1, 1) := by decide +kernel
theorem d_SI_token_5 : decode b_SI_token 5 = .ok (.iconst 4, 1) := by decide +kernel
theorem d_SI_token_6 : decode b_SI_token 6 = .ok (.if_icmp .ge 14, 3) := by decide +kernel
theorem d_SI_token_9 : decode b_SI_token 9 = .ok (.iload_n 2, 1) := by decide +kernel
theorem d_SI_token_10 : decode b_SI_token 10 = .ok (.ifCond .lt 10, 3) := by decide +kernel
theorem d_SI_token_13 : decode b_SI_token 13 = .ok (.iload_n 2, 1) := by decide +kernel
theorem d_SI_token_14 : decode b_SI_token 14 = .ok (.sipush 4096, 3) := by decide +kernel
theorem d_SI_token_17 : decode b_SI_token 17 = .ok (.if_icmp .lt 13, 3) := by decide +kernel
theorem d_SI_token_20 : decode b_SI_token 20 = .ok (.new 41, 3) := by decide +kernel
theorem d_SI_token_23 : decode b_SI_token 23 = .ok (.dup, 1) := by decide +kernel
theorem d_SI_token_24 : decode b_SI_token 24 = .ok (.ldc 43, 2) := by decide +kernel
theorem d_SI_token_26 : decode b_SI_token 26 = .ok (.invokespecial 45, 3) := by decide +kernel
theorem d_SI_token_29 : decode b_SI_token 29 = .ok (.athrow, 1) := by decide +kernel
theorem d_SI_token_30 : decode b_SI_token 30 = .ok (.aload_n 0, 1) := by decide +kernel
theorem d_SI_token_31 : decode b_SI_token 31 = .ok (.getfield 10, 3) := by decide +kernel
theorem d_SI_token_34 : decode b_SI_token 34 = .ok (.getfield 48, 3) := by decide +kernel
theorem d_SI_token_37 : decode b_SI_token 37 = .ok (.iload_n 1, 1) := by decide +kernel
theorem d_SI_token_38 : decode b_SI_token 38 = .ok (.iload_n 2, 1) := by decide +kernel
theorem d_SI_token_39 : decode b_SI_token 39 = .ok (.invokestatic 51, 3) := by decide +kernel
theorem d_SI_token_42 : decode b_SI_token 42 = .ok (.istore 5, 2) := by decide +kernel
theorem d_SI_token_44 : decode b_SI_token 44 = .ok (.iload_n 3, 1) := by decide +kernel
theorem d_SI_token_45 : decode b_SI_token 45 = .ok (.iload 4, 2) := by decide +kernel
theorem d_SI_token_47 : decode b_SI_token 47 = .ok (.invokestatic 55, 3) := by decide +kernel
theorem d_SI_token_50 : decode b_SI_token 50 = .ok (.lstore 6, 2) := by decide +kernel
theorem d_SI_token_52 : decode b_SI_token 52 = .ok (.aload_n 0, 1) := by decide +kernel
theorem d_SI_token_53 : decode b_SI_token 53 = .ok (.getfield 10, 3) := by decide +kernel
theorem d_SI_token_56 : decode b_SI_token 56 = .ok (.iload 5, 2) := by decide +kernel
theorem d_SI_token_58 : decode b_SI_token 58 = .ok (.lload 6, 2) := by decide +kernel
theorem d_SI_token_60 : decode b_SI_token 60 = .ok (.invokevirtual 59, 3) := by decide +kernel
theorem d_SI_token_63 : decode b_SI_token 63 = .ok (.istore 8, 2) := by decide +kernel
theorem d_SI_token_65 : decode b_SI_token 65 = .ok (.aload_n 0, 1) := by decide +kernel
theorem d_SI_token_66 : decode b_SI_token 66 = .ok (.getfield 10, 3) := by decide +kernel
theorem d_SI_token_69 : decode b_SI_token 69 = .ok (.iload 8, 2) := by decide +kernel
theorem d_SI_token_71 : decode b_SI_token 71 = .ok (.iload 5, 2) := by decide +kernel
theorem d_SI_token_73 : decode b_SI_token 73 = .ok (.lload 6, 2) := by decide +kernel
theorem d_SI_token_75 : decode b_SI_token 75 = .ok (.invokevirtual 63, 3) := by decide +kernel
theorem d_SI_token_78 : decode b_SI_token 78 = .ok (.ifCond .ne 41, 3) := by decide +kernel
theorem d_SI_token_81 : decode b_SI_token 81 = .ok (.aload_n 0, 1) := by decide +kernel
theorem d_SI_token_82 : decode b_SI_token 82 = .ok (.getfield 10, 3) := by decide +kernel
theorem d_SI_token_85 : decode b_SI_token 85 = .ok (.invokevirtual 67, 3) := by decide +kernel
theorem d_SI_token_88 : decode b_SI_token 88 = .ok (.bipush 120, 2) := by decide +kernel
theorem d_SI_token_90 : decode b_SI_token 90 = .ok (.if_icmp .lt 13, 3) := by decide +kernel
theorem d_SI_token_93 : decode b_SI_token 93 = .ok (.new 71, 3) := by decide +kernel
theorem d_SI_token_96 : decode b_SI_token 96 = .ok (.dup, 1) := by decide +kernel
theorem d_SI_token_97 : decode b_SI_token 97 = .ok (.ldc 73, 2) := by decide +kernel
theorem d_SI_token_99 : decode b_SI_token 99 = .ok (.invokespecial 75, 3) := by decide +kernel
theorem d_SI_token_102 : decode b_SI_token 102 = .ok (.athrow, 1) := by decide +kernel
theorem d_SI_token_103 : decode b_SI_token 103 = .ok (.aload_n 0, 1) := by decide +kernel
theorem d_SI_token_104 : decode b_SI_token 104 = .ok (.getfield 10, 3) := by decide +kernel
theorem d_SI_token_107 : decode b_SI_token 107 = .ok (.getfield 76, 3) := by decide +kernel
theorem d_SI_token_110 : decode b_SI_token 110 = .ok (.iload 8, 2) := by decide +kernel
theorem d_SI_token_112 : decode b_SI_token 112 = .ok (.iload 5, 2) := by decide +kernel
theorem d_SI_token_114 : decode b_SI_token 114 = .ok (.lload 6, 2) := by decide +kernel
theorem d_SI_token_116 : decode b_SI_token 116 = .ok (.invokevirtual 80, 3) := by decide +kernel
theorem d_SI_token_119 : decode b_SI_token 119 = .ok (.aload_n 0, 1) := by decide +kernel
theorem d_SI_token_120 : decode b_SI_token 120 = .ok (.getfield 10, 3) := by decide +kernel
theorem d_SI_token_123 : decode b_SI_token 123 = .ok (.invokevirtual 67, 3) := by decide +kernel
theorem d_SI_token_126 : decode b_SI_token 126 = .ok (.ireturn, 1) := by decide +kernel
abbrev b_SI_hitOf : ByteArray := prog_1_method_26_code
abbrev y_SI_hitOf : MethodName := ⟨"SegmentIndex", "hitOf", "(III)I"⟩
theorem d_SI_hitOf_0 : decode b_SI_hitOf 0 = .ok (.iload_n 0, 1) := by decide +kernel
theorem d_SI_hitOf_1 : decode b_SI_hitOf 1 = .ok (.bipush 14, 2) := by decide +kernel
theorem d_SI_hitOf_3 : decode b_SI_hitOf 3 = .ok (.ishl, 1) := by decide +kernel
theorem d_SI_hitOf_4 : decode b_SI_hitOf 4 = .ok (.iload_n 1, 1) := by decide +kernel
theorem d_SI_hitOf_5 : decode b_SI_hitOf 5 = .ok (.bipush 12, 2) := by decide +kernel
theorem d_SI_hitOf_7 : decode b_SI_hitOf 7 = .ok (.ishl, 1) := by decide +kernel
theorem d_SI_hitOf_8 : decode b_SI_hitOf 8 = .ok (.ior, 1) := by decide +kernel
theorem d_SI_hitOf_9 : decode b_SI_hitOf 9 = .ok (.iload_n 2, 1) := by decide +kernel
theorem d_SI_hitOf_10 : decode b_SI_hitOf 10 = .ok (.ior, 1) := by decide +kernel
theorem d_SI_hitOf_11 : decode b_SI_hitOf 11 = .ok (.ireturn, 1) := by decide +kernel
abbrev b_SI_termOf : ByteArray := prog_1_method_25_code
abbrev y_SI_termOf : MethodName := ⟨"SegmentIndex", "termOf", "(II)J"⟩
theorem d_SI_termOf_0 : decode b_SI_termOf 0 = .ok (.iload_n 0, 1) := by decide +kernel
theorem d_SI_termOf_1 : decode b_SI_termOf 1 = .ok (.i2l, 1) := by decide +kernel
theorem d_SI_termOf_2 : decode b_SI_termOf 2 = .ok (.bipush 32, 2) := by decide +kernel
theorem d_SI_termOf_4 : decode b_SI_termOf 4 = .ok (.lshl, 1) := by decide +kernel
theorem d_SI_termOf_5 : decode b_SI_termOf 5 = .ok (.iload_n 1, 1) := by decide +kernel
theorem d_SI_termOf_6 : decode b_SI_termOf 6 = .ok (.i2l, 1) := by decide +kernel
theorem d_SI_termOf_7 : decode b_SI_termOf 7 = .ok (.ldc2_w 273, 3) := by decide +kernel
theorem d_SI_termOf_10 : decode b_SI_termOf 10 = .ok (.land, 1) := by decide +kernel
theorem d_SI_termOf_11 : decode b_SI_termOf 11 = .ok (.lor, 1) := by decide +kernel
theorem d_SI_termOf_12 : decode b_SI_termOf 12 = .ok (.lreturn, 1) := by decide +kernel
abbrev b_Sh_spotInHand : ByteArray := prog_6_method_3_code
abbrev y_Sh_spotInHand : MethodName := ⟨"SegmentIndex$Shelf", "spotInHand", "(IJ)I"⟩
theorem d_Sh_spotInHand_0 : decode b_Sh_spotInHand 0 = .ok (.aload_n 0, 1) := by decide +kernel
theorem d_Sh_spotInHand_1 : decode b_Sh_spotInHand 1 = .ok (.getfield 12, 3) := by decide +kernel
theorem d_Sh_spotInHand_4 : decode b_Sh_spotInHand 4 = .ok (.getfield 32, 3) := by decide +kernel
theorem d_Sh_spotInHand_7 : decode b_Sh_spotInHand 7 = .ok (.istore 4, 2) := by decide +kernel
theorem d_Sh_spotInHand_9 : decode b_Sh_spotInHand 9 = .ok (.iload 4, 2) := by decide +kernel
theorem d_Sh_spotInHand_11 : decode b_Sh_spotInHand 11 = .ok (.aload_n 0, 1) := by decide +kernel
theorem d_Sh_spotInHand_12 : decode b_Sh_spotInHand 12 = .ok (.getfield 22, 3) := by decide +kernel
theorem d_Sh_spotInHand_15 : decode b_Sh_spotInHand 15 = .ok (.aload_n 0, 1) := by decide +kernel
theorem d_Sh_spotInHand_16 : decode b_Sh_spotInHand 16 = .ok (.getfield 28, 3) := by decide +kernel
theorem d_Sh_spotInHand_19 : decode b_Sh_spotInHand 19 = .ok (.iaload, 1) := by decide +kernel
theorem d_Sh_spotInHand_20 : decode b_Sh_spotInHand 20 = .ok (.if_icmp .le 22, 3) := by decide +kernel
theorem d_Sh_spotInHand_23 : decode b_Sh_spotInHand 23 = .ok (.aload_n 0, 1) := by decide +kernel
theorem d_Sh_spotInHand_24 : decode b_Sh_spotInHand 24 = .ok (.iload 4, 2) := by decide +kernel
theorem d_Sh_spotInHand_26 : decode b_Sh_spotInHand 26 = .ok (.iconst 1, 1) := by decide +kernel
theorem d_Sh_spotInHand_27 : decode b_Sh_spotInHand 27 = .ok (.isub, 1) := by decide +kernel
theorem d_Sh_spotInHand_28 : decode b_Sh_spotInHand 28 = .ok (.iload_n 1, 1) := by decide +kernel
theorem d_Sh_spotInHand_29 : decode b_Sh_spotInHand 29 = .ok (.lload_n 2, 1) := by decide +kernel
theorem d_Sh_spotInHand_30 : decode b_Sh_spotInHand 30 = .ok (.invokevirtual 35, 3) := by decide +kernel
theorem d_Sh_spotInHand_33 : decode b_Sh_spotInHand 33 = .ok (.ifCond .eq 9, 3) := by decide +kernel
theorem d_Sh_spotInHand_36 : decode b_Sh_spotInHand 36 = .ok (.iinc 4 (-1), 3) := by decide +kernel
theorem d_Sh_spotInHand_39 : decode b_Sh_spotInHand 39 = .ok (.goto (-30), 3) := by decide +kernel
theorem d_Sh_spotInHand_42 : decode b_Sh_spotInHand 42 = .ok (.iload 4, 2) := by decide +kernel
theorem d_Sh_spotInHand_44 : decode b_Sh_spotInHand 44 = .ok (.ireturn, 1) := by decide +kernel
abbrev b_Sh_comesAfter : ByteArray := prog_6_method_4_code
abbrev y_Sh_comesAfter : MethodName := ⟨"SegmentIndex$Shelf", "comesAfter", "(IIJ)Z"⟩
theorem d_Sh_comesAfter_0 : decode b_Sh_comesAfter 0 = .ok (.aload_n 0, 1) := by decide +kernel
theorem d_Sh_comesAfter_1 : decode b_Sh_comesAfter 1 = .ok (.getfield 12, 3) := by decide +kernel
theorem d_Sh_comesAfter_4 : decode b_Sh_comesAfter 4 = .ok (.getfield 39, 3) := by decide +kernel
theorem d_Sh_comesAfter_7 : decode b_Sh_comesAfter 7 = .ok (.iload_n 1, 1) := by decide +kernel
theorem d_Sh_comesAfter_8 : decode b_Sh_comesAfter 8 = .ok (.iaload, 1) := by decide +kernel
theorem d_Sh_comesAfter_9 : decode b_Sh_comesAfter 9 = .ok (.iload_n 2, 1) := by decide +kernel
theorem d_Sh_comesAfter_10 : decode b_Sh_comesAfter 10 = .ok (.if_icmp .gt 30, 3) := by decide +kernel
theorem d_Sh_comesAfter_13 : decode b_Sh_comesAfter 13 = .ok (.aload_n 0, 1) := by decide +kernel
theorem d_Sh_comesAfter_14 : decode b_Sh_comesAfter 14 = .ok (.getfield 12, 3) := by decide +kernel
theorem d_Sh_comesAfter_17 : decode b_Sh_comesAfter 17 = .ok (.getfield 39, 3) := by decide +kernel
theorem d_Sh_comesAfter_20 : decode b_Sh_comesAfter 20 = .ok (.iload_n 1, 1) := by decide +kernel
theorem d_Sh_comesAfter_21 : decode b_Sh_comesAfter 21 = .ok (.iaload, 1) := by decide +kernel
theorem d_Sh_comesAfter_22 : decode b_Sh_comesAfter 22 = .ok (.iload_n 2, 1) := by decide +kernel
theorem d_Sh_comesAfter_23 : decode b_Sh_comesAfter 23 = .ok (.if_icmp .ne 21, 3) := by decide +kernel
theorem d_Sh_comesAfter_26 : decode b_Sh_comesAfter 26 = .ok (.aload_n 0, 1) := by decide +kernel
theorem d_Sh_comesAfter_27 : decode b_Sh_comesAfter 27 = .ok (.getfield 12, 3) := by decide +kernel
theorem d_Sh_comesAfter_30 : decode b_Sh_comesAfter 30 = .ok (.getfield 42, 3) := by decide +kernel
theorem d_Sh_comesAfter_33 : decode b_Sh_comesAfter 33 = .ok (.iload_n 1, 1) := by decide +kernel
theorem d_Sh_comesAfter_34 : decode b_Sh_comesAfter 34 = .ok (.laload, 1) := by decide +kernel
theorem d_Sh_comesAfter_35 : decode b_Sh_comesAfter 35 = .ok (.lload_n 3, 1) := by decide +kernel
theorem d_Sh_comesAfter_36 : decode b_Sh_comesAfter 36 = .ok (.lcmp, 1) := by decide +kernel
theorem d_Sh_comesAfter_37 : decode b_Sh_comesAfter 37 = .ok (.ifCond .le 7, 3) := by decide +kernel
theorem d_Sh_comesAfter_40 : decode b_Sh_comesAfter 40 = .ok (.iconst 1, 1) := by decide +kernel
theorem d_Sh_comesAfter_41 : decode b_Sh_comesAfter 41 = .ok (.goto 4, 3) := by decide +kernel
theorem d_Sh_comesAfter_44 : decode b_Sh_comesAfter 44 = .ok (.iconst 0, 1) := by decide +kernel
theorem d_Sh_comesAfter_45 : decode b_Sh_comesAfter 45 = .ok (.ireturn, 1) := by decide +kernel
abbrev b_Sh_handHasBefore : ByteArray := prog_6_method_5_code
abbrev y_Sh_handHasBefore : MethodName := ⟨"SegmentIndex$Shelf", "handHasBefore", "(IIJ)Z"⟩
theorem d_Sh_handHasBefore_0 : decode b_Sh_handHasBefore 0 = .ok (.iload_n 1, 1) := by decide +kernel
theorem d_Sh_handHasBefore_1 : decode b_Sh_handHasBefore 1 = .ok (.aload_n 0, 1) := by decide +kernel
theorem d_Sh_handHasBefore_2 : decode b_Sh_handHasBefore 2 = .ok (.getfield 22, 3) := by decide +kernel
theorem d_Sh_handHasBefore_5 : decode b_Sh_handHasBefore 5 = .ok (.aload_n 0, 1) := by decide +kernel
theorem d_Sh_handHasBefore_6 : decode b_Sh_handHasBefore 6 = .ok (.getfield 28, 3) := by decide +kernel
theorem d_Sh_handHasBefore_9 : decode b_Sh_handHasBefore 9 = .ok (.iaload, 1) := by decide +kernel
theorem d_Sh_handHasBefore_10 : decode b_Sh_handHasBefore 10 = .ok (.if_icmp .le 38, 3) := by decide +kernel
theorem d_Sh_handHasBefore_13 : decode b_Sh_handHasBefore 13 = .ok (.aload_n 0, 1) := by decide +kernel
theorem d_Sh_handHasBefore_14 : decode b_Sh_handHasBefore 14 = .ok (.getfield 12, 3) := by decide +kernel
theorem d_Sh_handHasBefore_17 : decode b_Sh_handHasBefore 17 = .ok (.getfield 39, 3) := by decide +kernel
theorem d_Sh_handHasBefore_20 : decode b_Sh_handHasBefore 20 = .ok (.iload_n 1, 1) := by decide +kernel
theorem d_Sh_handHasBefore_21 : decode b_Sh_handHasBefore 21 = .ok (.iconst 1, 1) := by decide +kernel
theorem d_Sh_handHasBefore_22 : decode b_Sh_handHasBefore 22 = .ok (.isub, 1) := by decide +kernel
theorem d_Sh_handHasBefore_23 : decode b_Sh_handHasBefore 23 = .ok (.iaload, 1) := by decide +kernel
theorem d_Sh_handHasBefore_24 : decode b_Sh_handHasBefore 24 = .ok (.iload_n 2, 1) := by decide +kernel
theorem d_Sh_handHasBefore_25 : decode b_Sh_handHasBefore 25 = .ok (.if_icmp .ne 23, 3) := by decide +kernel
theorem d_Sh_handHasBefore_28 : decode b_Sh_handHasBefore 28 = .ok (.aload_n 0, 1) := by decide +kernel
theorem d_Sh_handHasBefore_29 : decode b_Sh_handHasBefore 29 = .ok (.getfield 12, 3) := by decide +kernel
theorem d_Sh_handHasBefore_32 : decode b_Sh_handHasBefore 32 = .ok (.getfield 42, 3) := by decide +kernel
theorem d_Sh_handHasBefore_35 : decode b_Sh_handHasBefore 35 = .ok (.iload_n 1, 1) := by decide +kernel
theorem d_Sh_handHasBefore_36 : decode b_Sh_handHasBefore 36 = .ok (.iconst 1, 1) := by decide +kernel
theorem d_Sh_handHasBefore_37 : decode b_Sh_handHasBefore 37 = .ok (.isub, 1) := by decide +kernel
theorem d_Sh_handHasBefore_38 : decode b_Sh_handHasBefore 38 = .ok (.laload, 1) := by decide +kernel
theorem d_Sh_handHasBefore_39 : decode b_Sh_handHasBefore 39 = .ok (.lload_n 3, 1) := by decide +kernel
theorem d_Sh_handHasBefore_40 : decode b_Sh_handHasBefore 40 = .ok (.lcmp, 1) := by decide +kernel
theorem d_Sh_handHasBefore_41 : decode b_Sh_handHasBefore 41 = .ok (.ifCond .ne 7, 3) := by decide +kernel
theorem d_Sh_handHasBefore_44 : decode b_Sh_handHasBefore 44 = .ok (.iconst 1, 1) := by decide +kernel
theorem d_Sh_handHasBefore_45 : decode b_Sh_handHasBefore 45 = .ok (.goto 4, 3) := by decide +kernel
theorem d_Sh_handHasBefore_48 : decode b_Sh_handHasBefore 48 = .ok (.iconst 0, 1) := by decide +kernel
theorem d_Sh_handHasBefore_49 : decode b_Sh_handHasBefore 49 = .ok (.ireturn, 1) := by decide +kernel
abbrev b_SI_add : ByteArray := prog_1_method_3_code
abbrev y_SI_add : MethodName := ⟨"SegmentIndex", "add", "()I"⟩
theorem d_SI_add_0 : decode b_SI_add 0 = .ok (.aload_n 0, 1) := by decide +kernel
theorem d_SI_add_1 : decode b_SI_add 1 = .ok (.getfield 10, 3) := by decide +kernel
theorem d_SI_add_4 : decode b_SI_add 4 = .ok (.getfield 48, 3) := by decide +kernel
theorem d_SI_add_7 : decode b_SI_add 7 = .ok (.sipush 600, 3) := by decide +kernel
theorem d_SI_add_10 : decode b_SI_add 10 = .ok (.if_icmp .lt 13, 3) := by decide +kernel
theorem d_SI_add_13 : decode b_SI_add 13 = .ok (.new 71, 3) := by decide +kernel
theorem d_SI_add_16 : decode b_SI_add 16 = .ok (.dup, 1) := by decide +kernel
theorem d_SI_add_17 : decode b_SI_add 17 = .ok (.ldc 86, 2) := by decide +kernel
theorem d_SI_add_19 : decode b_SI_add 19 = .ok (.invokespecial 75, 3) := by decide +kernel
theorem d_SI_add_22 : decode b_SI_add 22 = .ok (.athrow, 1) := by decide +kernel
theorem d_SI_add_23 : decode b_SI_add 23 = .ok (.aload_n 0, 1) := by decide +kernel
theorem d_SI_add_24 : decode b_SI_add 24 = .ok (.getfield 10, 3) := by decide +kernel
theorem d_SI_add_27 : decode b_SI_add 27 = .ok (.invokevirtual 88, 3) := by decide +kernel
theorem d_SI_add_30 : decode b_SI_add 30 = .ok (.istore_n 1, 1) := by decide +kernel
theorem d_SI_add_31 : decode b_SI_add 31 = .ok (.aload_n 0, 1) := by decide +kernel
theorem d_SI_add_32 : decode b_SI_add 32 = .ok (.getfield 10, 3) := by decide +kernel
theorem d_SI_add_35 : decode b_SI_add 35 = .ok (.getfield 91, 3) := by decide +kernel
theorem d_SI_add_38 : decode b_SI_add 38 = .ok (.iconst 0, 1) := by decide +kernel
theorem d_SI_add_39 : decode b_SI_add 39 = .ok (.iaload, 1) := by decide +kernel
theorem d_SI_add_40 : decode b_SI_add 40 = .ok (.bipush 12, 2) := by decide +kernel
theorem d_SI_add_42 : decode b_SI_add 42 = .ok (.if_icmp .lt 7, 3) := by decide +kernel
theorem d_SI_add_45 : decode b_SI_add 45 = .ok (.aload_n 0, 1) := by decide +kernel
theorem d_SI_add_46 : decode b_SI_add 46 = .ok (.invokevirtual 95, 3) := by decide +kernel
theorem d_SI_add_49 : decode b_SI_add 49 = .ok (.iload_n 1, 1) := by decide +kernel
theorem d_SI_add_50 : decode b_SI_add 50 = .ok (.ireturn, 1) := by decide +kernel
abbrev b_Sh_bringHand : ByteArray := prog_6_method_6_code
abbrev y_Sh_bringHand : MethodName := ⟨"SegmentIndex$Shelf", "bringHand", "()I"⟩
theorem d_Sh_bringHand_0 : decode b_Sh_bringHand 0 = .ok (.aload_n 0, 1) := by decide +kernel
theorem d_Sh_bringHand_1 : decode b_Sh_bringHand 1 = .ok (.getfield 28, 3) := by decide +kernel
theorem d_Sh_bringHand_4 : decode b_Sh_bringHand 4 = .ok (.sipush 600, 3) := by decide +kernel
theorem d_Sh_bringHand_7 : decode b_Sh_bringHand 7 = .ok (.if_icmp .lt 5, 3) := by decide +kernel
theorem d_Sh_bringHand_10 : decode b_Sh_bringHand 10 = .ok (.iconst (-1), 1) := by decide +kernel
theorem d_Sh_bringHand_11 : decode b_Sh_bringHand 11 = .ok (.ireturn, 1) := by decide +kernel
theorem d_Sh_bringHand_12 : decode b_Sh_bringHand 12 = .ok (.aload_n 0, 1) := by decide +kernel
theorem d_Sh_bringHand_13 : decode b_Sh_bringHand 13 = .ok (.getfield 28, 3) := by decide +kernel
theorem d_Sh_bringHand_16 : decode b_Sh_bringHand 16 = .ok (.istore_n 1, 1) := by decide +kernel
theorem d_Sh_bringHand_17 : decode b_Sh_bringHand 17 = .ok (.aload_n 0, 1) := by decide +kernel
theorem d_Sh_bringHand_18 : decode b_Sh_bringHand 18 = .ok (.getfield 18, 3) := by decide +kernel
theorem d_Sh_bringHand_21 : decode b_Sh_bringHand 21 = .ok (.iload_n 1, 1) := by decide +kernel
theorem d_Sh_bringHand_22 : decode b_Sh_bringHand 22 = .ok (.iconst 0, 1) := by decide +kernel
theorem d_Sh_bringHand_23 : decode b_Sh_bringHand 23 = .ok (.iastore, 1) := by decide +kernel
theorem d_Sh_bringHand_24 : decode b_Sh_bringHand 24 = .ok (.aload_n 0, 1) := by decide +kernel
theorem d_Sh_bringHand_25 : decode b_Sh_bringHand 25 = .ok (.getfield 25, 3) := by decide +kernel
theorem d_Sh_bringHand_28 : decode b_Sh_bringHand 28 = .ok (.iconst 0, 1) := by decide +kernel
theorem d_Sh_bringHand_29 : decode b_Sh_bringHand 29 = .ok (.dup2, 1) := by decide +kernel
theorem d_Sh_bringHand_30 : decode b_Sh_bringHand 30 = .ok (.iaload, 1) := by decide +kernel
theorem d_Sh_bringHand_31 : decode b_Sh_bringHand 31 = .ok (.iconst 1, 1) := by decide +kernel
theorem d_Sh_bringHand_32 : decode b_Sh_bringHand 32 = .ok (.iadd, 1) := by decide +kernel
theorem d_Sh_bringHand_33 : decode b_Sh_bringHand 33 = .ok (.iastore, 1) := by decide +kernel
theorem d_Sh_bringHand_34 : decode b_Sh_bringHand 34 = .ok (.aload_n 0, 1) := by decide +kernel
theorem d_Sh_bringHand_35 : decode b_Sh_bringHand 35 = .ok (.dup, 1) := by decide +kernel
theorem d_Sh_bringHand_36 : decode b_Sh_bringHand 36 = .ok (.getfield 28, 3) := by decide +kernel
theorem d_Sh_bringHand_39 : decode b_Sh_bringHand 39 = .ok (.iconst 1, 1) := by decide +kernel
theorem d_Sh_bringHand_40 : decode b_Sh_bringHand 40 = .ok (.iadd, 1) := by decide +kernel
theorem d_Sh_bringHand_41 : decode b_Sh_bringHand 41 = .ok (.putfield 28, 3) := by decide +kernel
theorem d_Sh_bringHand_44 : decode b_Sh_bringHand 44 = .ok (.aload_n 0, 1) := by decide +kernel
theorem d_Sh_bringHand_45 : decode b_Sh_bringHand 45 = .ok (.getfield 22, 3) := by decide +kernel
theorem d_Sh_bringHand_48 : decode b_Sh_bringHand 48 = .ok (.aload_n 0, 1) := by decide +kernel
theorem d_Sh_bringHand_49 : decode b_Sh_bringHand 49 = .ok (.getfield 28, 3) := by decide +kernel
theorem d_Sh_bringHand_52 : decode b_Sh_bringHand 52 = .ok (.aload_n 0, 1) := by decide +kernel
theorem d_Sh_bringHand_53 : decode b_Sh_bringHand 53 = .ok (.getfield 12, 3) := by decide +kernel
theorem d_Sh_bringHand_56 : decode b_Sh_bringHand 56 = .ok (.getfield 32, 3) := by decide +kernel
theorem d_Sh_bringHand_59 : decode b_Sh_bringHand 59 = .ok (.iastore, 1) := by decide +kernel
theorem d_Sh_bringHand_60 : decode b_Sh_bringHand 60 = .ok (.iload_n 1, 1) := by decide +kernel
theorem d_Sh_bringHand_61 : decode b_Sh_bringHand 61 = .ok (.ireturn, 1) := by decide +kernel
abbrev b_SI_take : ByteArray := prog_1_method_4_code
abbrev y_SI_take : MethodName := ⟨"SegmentIndex", "take", "(I)V"⟩
theorem d_SI_take_0 : decode b_SI_take 0 = .ok (.aload_n 0, 1) := by decide +kernel
theorem d_SI_take_1 : decode b_SI_take 1 = .ok (.getfield 10, 3) := by decide +kernel
theorem d_SI_take_4 : decode b_SI_take 4 = .ok (.iload_n 1, 1) := by decide +kernel
theorem d_SI_take_5 : decode b_SI_take 5 = .ok (.invokevirtual 98, 3) := by decide +kernel
theorem d_SI_take_8 : decode b_SI_take 8 = .ok (.ifCond .ne 13, 3) := by decide +kernel
theorem d_SI_take_11 : decode b_SI_take 11 = .ok (.new 102, 3) := by decide +kernel
theorem d_SI_take_14 : decode b_SI_take 14 = .ok (.dup, 1) := by decide +kernel
theorem d_SI_take_15 : decode b_SI_take 15 = .ok (.ldc 104, 2) := by decide +kernel
theorem d_SI_take_17 : decode b_SI_take 17 = .ok (.invokespecial 106, 3) := by decide +kernel
theorem d_SI_take_20 : decode b_SI_take 20 = .ok (.athrow, 1) := by decide +kernel
theorem d_SI_take_21 : decode b_SI_take 21 = .ok (.aload_n 0, 1) := by decide +kernel
theorem d_SI_take_22 : decode b_SI_take 22 = .ok (.getfield 10, 3) := by decide +kernel
theorem d_SI_take_25 : decode b_SI_take 25 = .ok (.iload_n 1, 1) := by decide +kernel
theorem d_SI_take_26 : decode b_SI_take 26 = .ok (.aload_n 0, 1) := by decide +kernel
theorem d_SI_take_27 : decode b_SI_take 27 = .ok (.getfield 10, 3) := by decide +kernel
theorem d_SI_take_30 : decode b_SI_take 30 = .ok (.iload_n 1, 1) := by decide +kernel
theorem d_SI_take_31 : decode b_SI_take 31 = .ok (.invokevirtual 107, 3) := by decide +kernel
theorem d_SI_take_34 : decode b_SI_take 34 = .ok (.ifCond .ne 7, 3) := by decide +kernel
theorem d_SI_take_37 : decode b_SI_take 37 = .ok (.iconst 3, 1) := by decide +kernel
theorem d_SI_take_38 : decode b_SI_take 38 = .ok (.goto 4, 3) := by decide +kernel
theorem d_SI_take_41 : decode b_SI_take 41 = .ok (.iconst 2, 1) := by decide +kernel
theorem d_SI_take_42 : decode b_SI_take 42 = .ok (.invokevirtual 111, 3) := by decide +kernel
theorem d_SI_take_45 : decode b_SI_take 45 = .ok (.return_, 1) := by decide +kernel
abbrev b_Sh_isThere : ByteArray := prog_6_method_8_code
abbrev y_Sh_isThere : MethodName := ⟨"SegmentIndex$Shelf", "isThere", "(I)Z"⟩
theorem d_Sh_isThere_0 : decode b_Sh_isThere 0 = .ok (.aload_n 0, 1) := by decide +kernel
theorem d_Sh_isThere_1 : decode b_Sh_isThere 1 = .ok (.iload_n 1, 1) := by decide +kernel
theorem d_Sh_isThere_2 : decode b_Sh_isThere 2 = .ok (.invokevirtual 46, 3) := by decide +kernel
theorem d_Sh_isThere_5 : decode b_Sh_isThere 5 = .ok (.istore_n 2, 1) := by decide +kernel
theorem d_Sh_isThere_6 : decode b_Sh_isThere 6 = .ok (.iload_n 2, 1) := by decide +kernel
theorem d_Sh_isThere_7 : decode b_Sh_isThere 7 = .ok (.ifCond .eq 8, 3) := by decide +kernel
theorem d_Sh_isThere_10 : decode b_Sh_isThere 10 = .ok (.iload_n 2, 1) := by decide +kernel
theorem d_Sh_isThere_11 : decode b_Sh_isThere 11 = .ok (.iconst 1, 1) := by decide +kernel
theorem d_Sh_isThere_12 : decode b_Sh_isThere 12 = .ok (.if_icmp .ne 7, 3) := by decide +kernel
theorem d_Sh_isThere_15 : decode b_Sh_isThere 15 = .ok (.iconst 1, 1) := by decide +kernel
theorem d_Sh_isThere_16 : decode b_Sh_isThere 16 = .ok (.goto 4, 3) := by decide +kernel
theorem d_Sh_isThere_19 : decode b_Sh_isThere 19 = .ok (.iconst 0, 1) := by decide +kernel
theorem d_Sh_isThere_20 : decode b_Sh_isThere 20 = .ok (.ireturn, 1) := by decide +kernel
abbrev b_SI_term : ByteArray := prog_1_method_7_code
abbrev y_SI_term : MethodName := ⟨"SegmentIndex", "term", "(III)I"⟩
theorem d_SI_term_0 : decode b_SI_term 0 = .ok (.aload_n 0, 1) := by decide +kernel
theorem d_SI_term_1 : decode b_SI_term 1 = .ok (.getfield 26, 3) := by decide +kernel
theorem d_SI_term_4 : decode b_SI_term 4 = .ok (.getfield 129, 3) := by decide +kernel
theorem d_SI_term_7 : decode b_SI_term 7 = .ok (.bipush 8, 2) := by decide +kernel
theorem d_SI_term_9 : decode b_SI_term 9 = .ok (.if_icmp .lt 13, 3) := by decide +kernel
theorem d_SI_term_12 : decode b_SI_term 12 = .ok (.new 71, 3) := by decide +kernel
theorem d_SI_term_15 : decode b_SI_term 15 = .ok (.dup, 1) := by decide +kernel
theorem d_SI_term_16 : decode b_SI_term 16 = .ok (.ldc 132, 2) := by decide +kernel
theorem d_SI_term_18 : decode b_SI_term 18 = .ok (.invokespecial 75, 3) := by decide +kernel
theorem d_SI_term_21 : decode b_SI_term 21 = .ok (.athrow, 1) := by decide +kernel
theorem d_SI_term_22 : decode b_SI_term 22 = .ok (.aload_n 0, 1) := by decide +kernel
theorem d_SI_term_23 : decode b_SI_term 23 = .ok (.getfield 10, 3) := by decide +kernel
theorem d_SI_term_26 : decode b_SI_term 26 = .ok (.iload_n 1, 1) := by decide +kernel
theorem d_SI_term_27 : decode b_SI_term 27 = .ok (.iload_n 2, 1) := by decide +kernel
theorem d_SI_term_28 : decode b_SI_term 28 = .ok (.iload_n 3, 1) := by decide +kernel
theorem d_SI_term_29 : decode b_SI_term 29 = .ok (.invokestatic 55, 3) := by decide +kernel
theorem d_SI_term_32 : decode b_SI_term 32 = .ok (.bipush 8, 2) := by decide +kernel
theorem d_SI_term_34 : decode b_SI_term 34 = .ok (.aload_n 0, 1) := by decide +kernel
theorem d_SI_term_35 : decode b_SI_term 35 = .ok (.getfield 26, 3) := by decide +kernel
theorem d_SI_term_38 : decode b_SI_term 38 = .ok (.invokevirtual 134, 3) := by decide +kernel
theorem d_SI_term_41 : decode b_SI_term 41 = .ok (.invokevirtual 138, 3) := by decide +kernel
theorem d_SI_term_44 : decode b_SI_term 44 = .ok (.aload_n 0, 1) := by decide +kernel
theorem d_SI_term_45 : decode b_SI_term 45 = .ok (.getfield 26, 3) := by decide +kernel
theorem d_SI_term_48 : decode b_SI_term 48 = .ok (.iconst 0, 1) := by decide +kernel
theorem d_SI_term_49 : decode b_SI_term 49 = .ok (.invokevirtual 142, 3) := by decide +kernel
theorem d_SI_term_52 : decode b_SI_term 52 = .ok (.ireturn, 1) := by decide +kernel
abbrev b_Sh_gather : ByteArray := prog_6_method_12_code
abbrev y_Sh_gather : MethodName := ⟨"SegmentIndex$Shelf", "gather", "(IJILSegmentIndex$HitSet;)V"⟩
theorem d_Sh_gather_0 : decode b_Sh_gather 0 = .ok (.iload 4, 2) := by decide +kernel
theorem d_Sh_gather_2 : decode b_Sh_gather 2 = .ok (.ifCond .gt 7, 3) := by decide +kernel
theorem d_Sh_gather_5 : decode b_Sh_gather 5 = .ok (.lconst 0, 1) := by decide +kernel
theorem d_Sh_gather_6 : decode b_Sh_gather 6 = .ok (.goto 15, 3) := by decide +kernel
theorem d_Sh_gather_9 : decode b_Sh_gather 9 = .ok (.ldc2_w 60, 3) := by decide +kernel
theorem d_Sh_gather_12 : decode b_Sh_gather 12 = .ok (.bipush 64, 2) := by decide +kernel
theorem d_Sh_gather_14 : decode b_Sh_gather 14 = .ok (.bipush 8, 2) := by decide +kernel
theorem d_Sh_gather_16 : decode b_Sh_gather 16 = .ok (.iload 4, 2) := by decide +kernel
theorem d_Sh_gather_18 : decode b_Sh_gather 18 = .ok (.imul, 1) := by decide +kernel
theorem d_Sh_gather_19 : decode b_Sh_gather 19 = .ok (.isub, 1) := by decide +kernel
theorem d_Sh_gather_20 : decode b_Sh_gather 20 = .ok (.lshl, 1) := by decide +kernel
theorem d_Sh_gather_21 : decode b_Sh_gather 21 = .ok (.lstore 6, 2) := by decide +kernel
theorem d_Sh_gather_23 : decode b_Sh_gather 23 = .ok (.iconst 0, 1) := by decide +kernel
theorem d_Sh_gather_24 : decode b_Sh_gather 24 = .ok (.istore 8, 2) := by decide +kernel
theorem d_Sh_gather_26 : decode b_Sh_gather 26 = .ok (.iload 8, 2) := by decide +kernel
theorem d_Sh_gather_28 : decode b_Sh_gather 28 = .ok (.aload_n 0, 1) := by decide +kernel
theorem d_Sh_gather_29 : decode b_Sh_gather 29 = .ok (.getfield 28, 3) := by decide +kernel
theorem d_Sh_gather_32 : decode b_Sh_gather 32 = .ok (.if_icmp .ge 33, 3) := by decide +kernel
theorem d_Sh_gather_35 : decode b_Sh_gather 35 = .ok (.aload_n 0, 1) := by decide +kernel
theorem d_Sh_gather_36 : decode b_Sh_gather 36 = .ok (.iload 8, 2) := by decide +kernel
theorem d_Sh_gather_38 : decode b_Sh_gather 38 = .ok (.invokevirtual 62, 3) := by decide +kernel
theorem d_Sh_gather_41 : decode b_Sh_gather 41 = .ok (.ifCond .eq 18, 3) := by decide +kernel
theorem d_Sh_gather_44 : decode b_Sh_gather 44 = .ok (.aload_n 0, 1) := by decide +kernel
theorem d_Sh_gather_45 : decode b_Sh_gather 45 = .ok (.iload 8, 2) := by decide +kernel
theorem d_Sh_gather_47 : decode b_Sh_gather 47 = .ok (.iload_n 1, 1) := by decide +kernel
theorem d_Sh_gather_48 : decode b_Sh_gather 48 = .ok (.lload_n 2, 1) := by decide +kernel
theorem d_Sh_gather_49 : decode b_Sh_gather 49 = .ok (.lload 6, 2) := by decide +kernel
theorem d_Sh_gather_51 : decode b_Sh_gather 51 = .ok (.land, 1) := by decide +kernel
theorem d_Sh_gather_52 : decode b_Sh_gather 52 = .ok (.lload 6, 2) := by decide +kernel
theorem d_Sh_gather_54 : decode b_Sh_gather 54 = .ok (.aload 5, 2) := by decide +kernel
theorem d_Sh_gather_56 : decode b_Sh_gather 56 = .ok (.invokevirtual 66, 3) := by decide +kernel
theorem d_Sh_gather_59 : decode b_Sh_gather 59 = .ok (.iinc 8 1, 3) := by decide +kernel
theorem d_Sh_gather_62 : decode b_Sh_gather 62 = .ok (.goto (-36), 3) := by decide +kernel
theorem d_Sh_gather_65 : decode b_Sh_gather 65 = .ok (.return_, 1) := by decide +kernel
abbrev b_Sh_gatherFrom : ByteArray := prog_6_method_13_code
abbrev y_Sh_gatherFrom : MethodName := ⟨"SegmentIndex$Shelf", "gatherFrom", "(IIJJLSegmentIndex$HitSet;)V"⟩
theorem d_Sh_gatherFrom_0 : decode b_Sh_gatherFrom 0 = .ok (.aload_n 0, 1) := by decide +kernel
theorem d_Sh_gatherFrom_1 : decode b_Sh_gatherFrom 1 = .ok (.getfield 22, 3) := by decide +kernel
theorem d_Sh_gatherFrom_4 : decode b_Sh_gatherFrom 4 = .ok (.iload_n 1, 1) := by decide +kernel
theorem d_Sh_gatherFrom_5 : decode b_Sh_gatherFrom 5 = .ok (.iaload, 1) := by decide +kernel
theorem d_Sh_gatherFrom_6 : decode b_Sh_gatherFrom 6 = .ok (.istore 8, 2) := by decide +kernel
theorem d_Sh_gatherFrom_8 : decode b_Sh_gatherFrom 8 = .ok (.iload 8, 2) := by decide +kernel
theorem d_Sh_gatherFrom_10 : decode b_Sh_gatherFrom 10 = .ok (.aload_n 0, 1) := by decide +kernel
theorem d_Sh_gatherFrom_11 : decode b_Sh_gatherFrom 11 = .ok (.getfield 22, 3) := by decide +kernel
theorem d_Sh_gatherFrom_14 : decode b_Sh_gatherFrom 14 = .ok (.iload_n 1, 1) := by decide +kernel
theorem d_Sh_gatherFrom_15 : decode b_Sh_gatherFrom 15 = .ok (.iconst 1, 1) := by decide +kernel
theorem d_Sh_gatherFrom_16 : decode b_Sh_gatherFrom 16 = .ok (.iadd, 1) := by decide +kernel
theorem d_Sh_gatherFrom_17 : decode b_Sh_gatherFrom 17 = .ok (.iaload, 1) := by decide +kernel
theorem d_Sh_gatherFrom_18 : decode b_Sh_gatherFrom 18 = .ok (.if_icmp .ge 58, 3) := by decide +kernel
theorem d_Sh_gatherFrom_21 : decode b_Sh_gatherFrom 21 = .ok (.aload_n 0, 1) := by decide +kernel
theorem d_Sh_gatherFrom_22 : decode b_Sh_gatherFrom 22 = .ok (.getfield 12, 3) := by decide +kernel
theorem d_Sh_gatherFrom_25 : decode b_Sh_gatherFrom 25 = .ok (.getfield 39, 3) := by decide +kernel
theorem d_Sh_gatherFrom_28 : decode b_Sh_gatherFrom 28 = .ok (.iload 8, 2) := by decide +kernel
theorem d_Sh_gatherFrom_30 : decode b_Sh_gatherFrom 30 = .ok (.iaload, 1) := by decide +kernel
theorem d_Sh_gatherFrom_31 : decode b_Sh_gatherFrom 31 = .ok (.istore 9, 2) := by decide +kernel
theorem d_Sh_gatherFrom_33 : decode b_Sh_gatherFrom 33 = .ok (.aload_n 0, 1) := by decide +kernel
theorem d_Sh_gatherFrom_34 : decode b_Sh_gatherFrom 34 = .ok (.getfield 12, 3) := by decide +kernel
theorem d_Sh_gatherFrom_37 : decode b_Sh_gatherFrom 37 = .ok (.getfield 42, 3) := by decide +kernel
theorem d_Sh_gatherFrom_40 : decode b_Sh_gatherFrom 40 = .ok (.iload 8, 2) := by decide +kernel
theorem d_Sh_gatherFrom_42 : decode b_Sh_gatherFrom 42 = .ok (.laload, 1) := by decide +kernel
theorem d_Sh_gatherFrom_43 : decode b_Sh_gatherFrom 43 = .ok (.lload 5, 2) := by decide +kernel
theorem d_Sh_gatherFrom_45 : decode b_Sh_gatherFrom 45 = .ok (.land, 1) := by decide +kernel
theorem d_Sh_gatherFrom_46 : decode b_Sh_gatherFrom 46 = .ok (.lload_n 3, 1) := by decide +kernel
theorem d_Sh_gatherFrom_47 : decode b_Sh_gatherFrom 47 = .ok (.lcmp, 1) := by decide +kernel
theorem d_Sh_gatherFrom_48 : decode b_Sh_gatherFrom 48 = .ok (.ifCond .ne 22, 3) := by decide +kernel
theorem d_Sh_gatherFrom_51 : decode b_Sh_gatherFrom 51 = .ok (.iload_n 2, 1) := by decide +kernel
theorem d_Sh_gatherFrom_52 : decode b_Sh_gatherFrom 52 = .ok (.iload 9, 2) := by decide +kernel
theorem d_Sh_gatherFrom_54 : decode b_Sh_gatherFrom 54 = .ok (.invokestatic 70, 3) := by decide +kernel
theorem d_Sh_gatherFrom_57 : decode b_Sh_gatherFrom 57 = .ok (.ishr, 1) := by decide +kernel
theorem d_Sh_gatherFrom_58 : decode b_Sh_gatherFrom 58 = .ok (.iconst 1, 1) := by decide +kernel
theorem d_Sh_gatherFrom_59 : decode b_Sh_gatherFrom 59 = .ok (.iand, 1) := by decide +kernel
theorem d_Sh_gatherFrom_60 : decode b_Sh_gatherFrom 60 = .ok (.ifCond .eq 10, 3) := by decide +kernel
theorem d_Sh_gatherFrom_63 : decode b_Sh_gatherFrom 63 = .ok (.aload 7, 2) := by decide +kernel
theorem d_Sh_gatherFrom_65 : decode b_Sh_gatherFrom 65 = .ok (.iload 9, 2) := by decide +kernel
theorem d_Sh_gatherFrom_67 : decode b_Sh_gatherFrom 67 = .ok (.invokevirtual 73, 3) := by decide +kernel
theorem d_Sh_gatherFrom_70 : decode b_Sh_gatherFrom 70 = .ok (.iinc 8 1, 3) := by decide +kernel
theorem d_Sh_gatherFrom_73 : decode b_Sh_gatherFrom 73 = .ok (.goto (-65), 3) := by decide +kernel
theorem d_Sh_gatherFrom_76 : decode b_Sh_gatherFrom 76 = .ok (.return_, 1) := by decide +kernel
abbrev b_SI_begins : ByteArray := prog_1_method_8_code
abbrev y_SI_begins : MethodName := ⟨"SegmentIndex", "begins", "(IIII)I"⟩
theorem d_SI_begins_0 : decode b_SI_begins 0 = .ok (.aload_n 0, 1) := by decide +kernel
theorem d_SI_begins_1 : decode b_SI_begins 1 = .ok (.getfield 26, 3) := by decide +kernel
theorem d_SI_begins_4 : decode b_SI_begins 4 = .ok (.getfield 129, 3) := by decide +kernel
theorem d_SI_begins_7 : decode b_SI_begins 7 = .ok (.bipush 8, 2) := by decide +kernel
theorem d_SI_begins_9 : decode b_SI_begins 9 = .ok (.if_icmp .lt 13, 3) := by decide +kernel
theorem d_SI_begins_12 : decode b_SI_begins 12 = .ok (.new 71, 3) := by decide +kernel
theorem d_SI_begins_15 : decode b_SI_begins 15 = .ok (.dup, 1) := by decide +kernel
theorem d_SI_begins_16 : decode b_SI_begins 16 = .ok (.ldc 132, 2) := by decide +kernel
theorem d_SI_begins_18 : decode b_SI_begins 18 = .ok (.invokespecial 75, 3) := by decide +kernel
theorem d_SI_begins_21 : decode b_SI_begins 21 = .ok (.athrow, 1) := by decide +kernel
theorem d_SI_begins_22 : decode b_SI_begins 22 = .ok (.iload 4, 2) := by decide +kernel
theorem d_SI_begins_24 : decode b_SI_begins 24 = .ok (.ifCond .lt 10, 3) := by decide +kernel
theorem d_SI_begins_27 : decode b_SI_begins 27 = .ok (.iload 4, 2) := by decide +kernel
theorem d_SI_begins_29 : decode b_SI_begins 29 = .ok (.bipush 8, 2) := by decide +kernel
theorem d_SI_begins_31 : decode b_SI_begins 31 = .ok (.if_icmp .le 13, 3) := by decide +kernel
theorem d_SI_begins_34 : decode b_SI_begins 34 = .ok (.new 41, 3) := by decide +kernel
theorem d_SI_begins_37 : decode b_SI_begins 37 = .ok (.dup, 1) := by decide +kernel
theorem d_SI_begins_38 : decode b_SI_begins 38 = .ok (.ldc 145, 2) := by decide +kernel
theorem d_SI_begins_40 : decode b_SI_begins 40 = .ok (.invokespecial 45, 3) := by decide +kernel
theorem d_SI_begins_43 : decode b_SI_begins 43 = .ok (.athrow, 1) := by decide +kernel
theorem d_SI_begins_44 : decode b_SI_begins 44 = .ok (.aload_n 0, 1) := by decide +kernel
theorem d_SI_begins_45 : decode b_SI_begins 45 = .ok (.getfield 10, 3) := by decide +kernel
theorem d_SI_begins_48 : decode b_SI_begins 48 = .ok (.iload_n 1, 1) := by decide +kernel
theorem d_SI_begins_49 : decode b_SI_begins 49 = .ok (.iload_n 2, 1) := by decide +kernel
theorem d_SI_begins_50 : decode b_SI_begins 50 = .ok (.iload_n 3, 1) := by decide +kernel
theorem d_SI_begins_51 : decode b_SI_begins 51 = .ok (.invokestatic 55, 3) := by decide +kernel
theorem d_SI_begins_54 : decode b_SI_begins 54 = .ok (.iload 4, 2) := by decide +kernel
theorem d_SI_begins_56 : decode b_SI_begins 56 = .ok (.aload_n 0, 1) := by decide +kernel
theorem d_SI_begins_57 : decode b_SI_begins 57 = .ok (.getfield 26, 3) := by decide +kernel
theorem d_SI_begins_60 : decode b_SI_begins 60 = .ok (.invokevirtual 134, 3) := by decide +kernel
theorem d_SI_begins_63 : decode b_SI_begins 63 = .ok (.invokevirtual 138, 3) := by decide +kernel
theorem d_SI_begins_66 : decode b_SI_begins 66 = .ok (.aload_n 0, 1) := by decide +kernel
theorem d_SI_begins_67 : decode b_SI_begins 67 = .ok (.getfield 26, 3) := by decide +kernel
theorem d_SI_begins_70 : decode b_SI_begins 70 = .ok (.iconst 0, 1) := by decide +kernel
theorem d_SI_begins_71 : decode b_SI_begins 71 = .ok (.invokevirtual 142, 3) := by decide +kernel
theorem d_SI_begins_74 : decode b_SI_begins 74 = .ok (.ireturn, 1) := by decide +kernel
abbrev b_SI_follow : ByteArray := prog_1_method_9_code
abbrev y_SI_follow : MethodName := ⟨"SegmentIndex", "follow", "(III)I"⟩
theorem d_SI_follow_0 : decode b_SI_follow 0 = .ok (.aload_n 0, 1) := by decide +kernel
theorem d_SI_follow_1 : decode b_SI_follow 1 = .ok (.getfield 26, 3) := by decide +kernel
theorem d_SI_follow_4 : decode b_SI_follow 4 = .ok (.getfield 129, 3) := by decide +kernel
theorem d_SI_follow_7 : decode b_SI_follow 7 = .ok (.iconst 1, 1) := by decide +kernel
theorem d_SI_follow_8 : decode b_SI_follow 8 = .ok (.if_icmp .ge 13, 3) := by decide +kernel
theorem d_SI_follow_11 : decode b_SI_follow 11 = .ok (.new 71, 3) := by decide +kernel
theorem d_SI_follow_14 : decode b_SI_follow 14 = .ok (.dup, 1) := by decide +kernel
theorem d_SI_follow_15 : decode b_SI_follow 15 = .ok (.ldc 147, 2) := by decide +kernel
theorem d_SI_follow_17 : decode b_SI_follow 17 = .ok (.invokespecial 75, 3) := by decide +kernel
theorem d_SI_follow_20 : decode b_SI_follow 20 = .ok (.athrow, 1) := by decide +kernel
theorem d_SI_follow_21 : decode b_SI_follow 21 = .ok (.iload_n 3, 1) := by decide +kernel
theorem d_SI_follow_22 : decode b_SI_follow 22 = .ok (.iconst 1, 1) := by decide +kernel
theorem d_SI_follow_23 : decode b_SI_follow 23 = .ok (.if_icmp .lt 9, 3) := by decide +kernel
theorem d_SI_follow_26 : decode b_SI_follow 26 = .ok (.iload_n 3, 1) := by decide +kernel
theorem d_SI_follow_27 : decode b_SI_follow 27 = .ok (.bipush 100, 2) := by decide +kernel
theorem d_SI_follow_29 : decode b_SI_follow 29 = .ok (.if_icmp .le 13, 3) := by decide +kernel
theorem d_SI_follow_32 : decode b_SI_follow 32 = .ok (.new 41, 3) := by decide +kernel
theorem d_SI_follow_35 : decode b_SI_follow 35 = .ok (.dup, 1) := by decide +kernel
theorem d_SI_follow_36 : decode b_SI_follow 36 = .ok (.ldc 149, 2) := by decide +kernel
theorem d_SI_follow_38 : decode b_SI_follow 38 = .ok (.invokespecial 45, 3) := by decide +kernel
theorem d_SI_follow_41 : decode b_SI_follow 41 = .ok (.athrow, 1) := by decide +kernel
theorem d_SI_follow_42 : decode b_SI_follow 42 = .ok (.aload_n 0, 1) := by decide +kernel
theorem d_SI_follow_43 : decode b_SI_follow 43 = .ok (.getfield 26, 3) := by decide +kernel
theorem d_SI_follow_46 : decode b_SI_follow 46 = .ok (.invokevirtual 134, 3) := by decide +kernel
theorem d_SI_follow_49 : decode b_SI_follow 49 = .ok (.astore 4, 2) := by decide +kernel
theorem d_SI_follow_51 : decode b_SI_follow 51 = .ok (.aload_n 0, 1) := by decide +kernel
theorem d_SI_follow_52 : decode b_SI_follow 52 = .ok (.getfield 10, 3) := by decide +kernel
theorem d_SI_follow_55 : decode b_SI_follow 55 = .ok (.bipush 15, 2) := by decide +kernel
theorem d_SI_follow_57 : decode b_SI_follow 57 = .ok (.iload_n 1, 1) := by decide +kernel
theorem d_SI_follow_58 : decode b_SI_follow 58 = .ok (.iload_n 2, 1) := by decide +kernel
theorem d_SI_follow_59 : decode b_SI_follow 59 = .ok (.invokestatic 55, 3) := by decide +kernel
theorem d_SI_follow_62 : decode b_SI_follow 62 = .ok (.bipush 8, 2) := by decide +kernel
theorem d_SI_follow_64 : decode b_SI_follow 64 = .ok (.aload 4, 2) := by decide +kernel
theorem d_SI_follow_66 : decode b_SI_follow 66 = .ok (.invokevirtual 138, 3) := by decide +kernel
theorem d_SI_follow_69 : decode b_SI_follow 69 = .ok (.aload 4, 2) := by decide +kernel
theorem d_SI_follow_71 : decode b_SI_follow 71 = .ok (.aload_n 0, 1) := by decide +kernel
theorem d_SI_follow_72 : decode b_SI_follow 72 = .ok (.getfield 26, 3) := by decide +kernel
theorem d_SI_follow_75 : decode b_SI_follow 75 = .ok (.invokevirtual 151, 3) := by decide +kernel
theorem d_SI_follow_78 : decode b_SI_follow 78 = .ok (.iload_n 3, 1) := by decide +kernel
theorem d_SI_follow_79 : decode b_SI_follow 79 = .ok (.ineg, 1) := by decide +kernel
theorem d_SI_follow_80 : decode b_SI_follow 80 = .ok (.iload_n 3, 1) := by decide +kernel
theorem d_SI_follow_81 : decode b_SI_follow 81 = .ok (.ineg, 1) := by decide +kernel
theorem d_SI_follow_82 : decode b_SI_follow 82 = .ok (.invokevirtual 154, 3) := by decide +kernel
theorem d_SI_follow_85 : decode b_SI_follow 85 = .ok (.aload_n 0, 1) := by decide +kernel
theorem d_SI_follow_86 : decode b_SI_follow 86 = .ok (.getfield 26, 3) := by decide +kernel
theorem d_SI_follow_89 : decode b_SI_follow 89 = .ok (.iconst 1, 1) := by decide +kernel
theorem d_SI_follow_90 : decode b_SI_follow 90 = .ok (.invokevirtual 142, 3) := by decide +kernel
theorem d_SI_follow_93 : decode b_SI_follow 93 = .ok (.ireturn, 1) := by decide +kernel
abbrev b_SI_join : ByteArray := prog_1_method_10_code
abbrev y_SI_join : MethodName := ⟨"SegmentIndex", "join", "(I)I"⟩
theorem d_SI_join_0 : decode b_SI_join 0 = .ok (.aload_n 0, 1) := by decide +kernel
theorem d_SI_join_1 : decode b_SI_join 1 = .ok (.getfield 26, 3) := by decide +kernel
theorem d_SI_join_4 : decode b_SI_join 4 = .ok (.getfield 129, 3) := by decide +kernel
theorem d_SI_join_7 : decode b_SI_join 7 = .ok (.iconst 2, 1) := by decide +kernel
theorem d_SI_join_8 : decode b_SI_join 8 = .ok (.if_icmp .ge 13, 3) := by decide +kernel
theorem d_SI_join_11 : decode b_SI_join 11 = .ok (.new 71, 3) := by decide +kernel
theorem d_SI_join_14 : decode b_SI_join 14 = .ok (.dup, 1) := by decide +kernel
theorem d_SI_join_15 : decode b_SI_join 15 = .ok (.ldc 160, 2) := by decide +kernel
theorem d_SI_join_17 : decode b_SI_join 17 = .ok (.invokespecial 75, 3) := by decide +kernel
theorem d_SI_join_20 : decode b_SI_join 20 = .ok (.athrow, 1) := by decide +kernel
theorem d_SI_join_21 : decode b_SI_join 21 = .ok (.iload_n 1, 1) := by decide +kernel
theorem d_SI_join_22 : decode b_SI_join 22 = .ok (.ifCond .lt 8, 3) := by decide +kernel
theorem d_SI_join_25 : decode b_SI_join 25 = .ok (.iload_n 1, 1) := by decide +kernel
theorem d_SI_join_26 : decode b_SI_join 26 = .ok (.iconst 3, 1) := by decide +kernel
theorem d_SI_join_27 : decode b_SI_join 27 = .ok (.if_icmp .le 13, 3) := by decide +kernel
theorem d_SI_join_30 : decode b_SI_join 30 = .ok (.new 41, 3) := by decide +kernel
theorem d_SI_join_33 : decode b_SI_join 33 = .ok (.dup, 1) := by decide +kernel
theorem d_SI_join_34 : decode b_SI_join 34 = .ok (.ldc 162, 2) := by decide +kernel
theorem d_SI_join_36 : decode b_SI_join 36 = .ok (.invokespecial 45, 3) := by decide +kernel
theorem d_SI_join_39 : decode b_SI_join 39 = .ok (.athrow, 1) := by decide +kernel
theorem d_SI_join_40 : decode b_SI_join 40 = .ok (.aload_n 0, 1) := by decide +kernel
theorem d_SI_join_41 : decode b_SI_join 41 = .ok (.getfield 26, 3) := by decide +kernel
theorem d_SI_join_44 : decode b_SI_join 44 = .ok (.invokevirtual 134, 3) := by decide +kernel
theorem d_SI_join_47 : decode b_SI_join 47 = .ok (.aload_n 0, 1) := by decide +kernel
theorem d_SI_join_48 : decode b_SI_join 48 = .ok (.getfield 26, 3) := by decide +kernel
theorem d_SI_join_51 : decode b_SI_join 51 = .ok (.getfield 164, 3) := by decide +kernel
theorem d_SI_join_54 : decode b_SI_join 54 = .ok (.aload_n 0, 1) := by decide +kernel
theorem d_SI_join_55 : decode b_SI_join 55 = .ok (.getfield 26, 3) := by decide +kernel
theorem d_SI_join_58 : decode b_SI_join 58 = .ok (.getfield 129, 3) := by decide +kernel
theorem d_SI_join_61 : decode b_SI_join 61 = .ok (.iconst 2, 1) := by decide +kernel
theorem d_SI_join_62 : decode b_SI_join 62 = .ok (.isub, 1) := by decide +kernel
theorem d_SI_join_63 : decode b_SI_join 63 = .ok (.aaload, 1) := by decide +kernel
theorem d_SI_join_64 : decode b_SI_join 64 = .ok (.aload_n 0, 1) := by decide +kernel
theorem d_SI_join_65 : decode b_SI_join 65 = .ok (.getfield 26, 3) := by decide +kernel
theorem d_SI_join_68 : decode b_SI_join 68 = .ok (.getfield 164, 3) := by decide +kernel
theorem d_SI_join_71 : decode b_SI_join 71 = .ok (.aload_n 0, 1) := by decide +kernel
theorem d_SI_join_72 : decode b_SI_join 72 = .ok (.getfield 26, 3) := by decide +kernel
theorem d_SI_join_75 : decode b_SI_join 75 = .ok (.getfield 129, 3) := by decide +kernel
theorem d_SI_join_78 : decode b_SI_join 78 = .ok (.iconst 1, 1) := by decide +kernel
theorem d_SI_join_79 : decode b_SI_join 79 = .ok (.isub, 1) := by decide +kernel
theorem d_SI_join_80 : decode b_SI_join 80 = .ok (.aaload, 1) := by decide +kernel
theorem d_SI_join_81 : decode b_SI_join 81 = .ok (.iload_n 1, 1) := by decide +kernel
theorem d_SI_join_82 : decode b_SI_join 82 = .ok (.invokestatic 168, 3) := by decide +kernel
theorem d_SI_join_85 : decode b_SI_join 85 = .ok (.aload_n 0, 1) := by decide +kernel
theorem d_SI_join_86 : decode b_SI_join 86 = .ok (.getfield 26, 3) := by decide +kernel
theorem d_SI_join_89 : decode b_SI_join 89 = .ok (.iconst 2, 1) := by decide +kernel
theorem d_SI_join_90 : decode b_SI_join 90 = .ok (.invokevirtual 142, 3) := by decide +kernel
theorem d_SI_join_93 : decode b_SI_join 93 = .ok (.ireturn, 1) := by decide +kernel
abbrev b_SI_joinInto : ByteArray := prog_1_method_23_code
abbrev y_SI_joinInto : MethodName := ⟨"SegmentIndex", "joinInto", "(LSegmentIndex$HitSet;LSegmentIndex$HitSet;LSegmentIndex$HitSet;I)V"⟩
theorem d_SI_joinInto_0 : decode b_SI_joinInto 0 = .ok (.iload_n 3, 1) := by decide +kernel
theorem d_SI_joinInto_1 : decode b_SI_joinInto 1 = .ok (.tableswitch 71 0 2 #[27, 48, 57], 27) := by decide +kernel
theorem d_SI_joinInto_28 : decode b_SI_joinInto 28 = .ok (.aload_n 0, 1) := by decide +kernel
theorem d_SI_joinInto_29 : decode b_SI_joinInto 29 = .ok (.aload_n 1, 1) := by decide +kernel
theorem d_SI_joinInto_30 : decode b_SI_joinInto 30 = .ok (.aload_n 2, 1) := by decide +kernel
theorem d_SI_joinInto_31 : decode b_SI_joinInto 31 = .ok (.invokevirtual 255, 3) := by decide +kernel
theorem d_SI_joinInto_34 : decode b_SI_joinInto 34 = .ok (.aload_n 0, 1) := by decide +kernel
theorem d_SI_joinInto_35 : decode b_SI_joinInto 35 = .ok (.aload_n 1, 1) := by decide +kernel
theorem d_SI_joinInto_36 : decode b_SI_joinInto 36 = .ok (.iconst 1, 1) := by decide +kernel
theorem d_SI_joinInto_37 : decode b_SI_joinInto 37 = .ok (.invokevirtual 259, 3) := by decide +kernel
theorem d_SI_joinInto_40 : decode b_SI_joinInto 40 = .ok (.aload_n 0, 1) := by decide +kernel
theorem d_SI_joinInto_41 : decode b_SI_joinInto 41 = .ok (.aload_n 2, 1) := by decide +kernel
theorem d_SI_joinInto_42 : decode b_SI_joinInto 42 = .ok (.iconst 1, 1) := by decide +kernel
theorem d_SI_joinInto_43 : decode b_SI_joinInto 43 = .ok (.invokevirtual 259, 3) := by decide +kernel
theorem d_SI_joinInto_46 : decode b_SI_joinInto 46 = .ok (.goto 40, 3) := by decide +kernel
theorem d_SI_joinInto_49 : decode b_SI_joinInto 49 = .ok (.aload_n 0, 1) := by decide +kernel
theorem d_SI_joinInto_50 : decode b_SI_joinInto 50 = .ok (.aload_n 1, 1) := by decide +kernel
theorem d_SI_joinInto_51 : decode b_SI_joinInto 51 = .ok (.aload_n 2, 1) := by decide +kernel
theorem d_SI_joinInto_52 : decode b_SI_joinInto 52 = .ok (.invokevirtual 255, 3) := by decide +kernel
theorem d_SI_joinInto_55 : decode b_SI_joinInto 55 = .ok (.goto 31, 3) := by decide +kernel
theorem d_SI_joinInto_58 : decode b_SI_joinInto 58 = .ok (.aload_n 0, 1) := by decide +kernel
theorem d_SI_joinInto_59 : decode b_SI_joinInto 59 = .ok (.aload_n 1, 1) := by decide +kernel
theorem d_SI_joinInto_60 : decode b_SI_joinInto 60 = .ok (.invokevirtual 263, 3) := by decide +kernel
theorem d_SI_joinInto_63 : decode b_SI_joinInto 63 = .ok (.aload_n 0, 1) := by decide +kernel
theorem d_SI_joinInto_64 : decode b_SI_joinInto 64 = .ok (.aload_n 2, 1) := by decide +kernel
theorem d_SI_joinInto_65 : decode b_SI_joinInto 65 = .ok (.iconst 0, 1) := by decide +kernel
theorem d_SI_joinInto_66 : decode b_SI_joinInto 66 = .ok (.invokevirtual 259, 3) := by decide +kernel
theorem d_SI_joinInto_69 : decode b_SI_joinInto 69 = .ok (.goto 17, 3) := by decide +kernel
theorem d_SI_joinInto_72 : decode b_SI_joinInto 72 = .ok (.aload_n 0, 1) := by decide +kernel
theorem d_SI_joinInto_73 : decode b_SI_joinInto 73 = .ok (.aload_n 2, 1) := by decide +kernel
theorem d_SI_joinInto_74 : decode b_SI_joinInto 74 = .ok (.invokevirtual 263, 3) := by decide +kernel
theorem d_SI_joinInto_77 : decode b_SI_joinInto 77 = .ok (.aload_n 0, 1) := by decide +kernel
theorem d_SI_joinInto_78 : decode b_SI_joinInto 78 = .ok (.aload_n 1, 1) := by decide +kernel
theorem d_SI_joinInto_79 : decode b_SI_joinInto 79 = .ok (.bipush (-10), 2) := by decide +kernel
theorem d_SI_joinInto_81 : decode b_SI_joinInto 81 = .ok (.bipush 10, 2) := by decide +kernel
theorem d_SI_joinInto_83 : decode b_SI_joinInto 83 = .ok (.invokevirtual 154, 3) := by decide +kernel
theorem d_SI_joinInto_86 : decode b_SI_joinInto 86 = .ok (.return_, 1) := by decide +kernel
abbrev b_SI_drop : ByteArray := prog_1_method_11_code
abbrev y_SI_drop : MethodName := ⟨"SegmentIndex", "drop", "()I"⟩
theorem d_SI_drop_0 : decode b_SI_drop 0 = .ok (.aload_n 0, 1) := by decide +kernel
theorem d_SI_drop_1 : decode b_SI_drop 1 = .ok (.getfield 26, 3) := by decide +kernel
theorem d_SI_drop_4 : decode b_SI_drop 4 = .ok (.getfield 129, 3) := by decide +kernel
theorem d_SI_drop_7 : decode b_SI_drop 7 = .ok (.iconst 1, 1) := by decide +kernel
theorem d_SI_drop_8 : decode b_SI_drop 8 = .ok (.if_icmp .ge 13, 3) := by decide +kernel
theorem d_SI_drop_11 : decode b_SI_drop 11 = .ok (.new 71, 3) := by decide +kernel
theorem d_SI_drop_14 : decode b_SI_drop 14 = .ok (.dup, 1) := by decide +kernel
theorem d_SI_drop_15 : decode b_SI_drop 15 = .ok (.ldc 147, 2) := by decide +kernel
theorem d_SI_drop_17 : decode b_SI_drop 17 = .ok (.invokespecial 75, 3) := by decide +kernel
theorem d_SI_drop_20 : decode b_SI_drop 20 = .ok (.athrow, 1) := by decide +kernel
theorem d_SI_drop_21 : decode b_SI_drop 21 = .ok (.aload_n 0, 1) := by decide +kernel
theorem d_SI_drop_22 : decode b_SI_drop 22 = .ok (.getfield 26, 3) := by decide +kernel
theorem d_SI_drop_25 : decode b_SI_drop 25 = .ok (.dup, 1) := by decide +kernel
theorem d_SI_drop_26 : decode b_SI_drop 26 = .ok (.getfield 129, 3) := by decide +kernel
theorem d_SI_drop_29 : decode b_SI_drop 29 = .ok (.iconst 1, 1) := by decide +kernel
theorem d_SI_drop_30 : decode b_SI_drop 30 = .ok (.isub, 1) := by decide +kernel
theorem d_SI_drop_31 : decode b_SI_drop 31 = .ok (.putfield 129, 3) := by decide +kernel
theorem d_SI_drop_34 : decode b_SI_drop 34 = .ok (.aload_n 0, 1) := by decide +kernel
theorem d_SI_drop_35 : decode b_SI_drop 35 = .ok (.getfield 26, 3) := by decide +kernel
theorem d_SI_drop_38 : decode b_SI_drop 38 = .ok (.getfield 129, 3) := by decide +kernel
theorem d_SI_drop_41 : decode b_SI_drop 41 = .ok (.ireturn, 1) := by decide +kernel
theorem w_SI_init : MI y_SI_init b_SI_init 1 none 0 := ⟨gw_in (i := 60) (by decide +kernel) rfl, gw_in (i := 34) (by decide +kernel) rfl, gw_in (i := 61) (by decide +kernel) rfl, rfl, ⟨by decide, by decide, by decide +kernel⟩⟩
theorem w_Sh_init : MI y_Sh_init b_Sh_init 1 none 0 := ⟨gw_in (i := 68) (by decide +kernel) rfl, gw_in (i := 35) (by decide +kernel) rfl, gw_in (i := 69) (by decide +kernel) rfl, rfl, ⟨by decide, by decide, by decide +kernel⟩⟩
theorem w_SI_flush : MV y_SI_flush b_SI_flush 1 (some .int) 0 := ⟨gw_in (i := 201) (by decide +kernel) rfl, gw_in (i := 202) (by decide +kernel) rfl, gw_in (i := 34) (by decide +kernel) rfl, gw_in (i := 203) (by decide +kernel) rfl, ⟨by decide, by decide, by decide +kernel⟩⟩
theorem w_SI_flushBuffer : MV y_SI_flushBuffer b_SI_flushBuffer 2 none 0 := ⟨gw_in (i := 206) (by decide +kernel) rfl, gw_in (i := 0) (by decide +kernel) rfl, gw_in (i := 34) (by decide +kernel) rfl, gw_in (i := 207) (by decide +kernel) rfl, ⟨by decide, by decide, by decide +kernel⟩⟩
theorem w_SI_putTogether : MV y_SI_putTogether b_SI_putTogether 5 (some .int) 2 := ⟨gw_in (i := 210) (by decide +kernel) rfl, gw_in (i := 1) (by decide +kernel) rfl, gw_in (i := 34) (by decide +kernel) rfl, gw_in (i := 211) (by decide +kernel) rfl, ⟨by decide, by decide, by decide +kernel⟩⟩
theorem w_Sh_moveOn : MV y_Sh_moveOn b_Sh_moveOn 3 none 1 := ⟨gw_in (i := 217) (by decide +kernel) rfl, gw_in (i := 218) (by decide +kernel) rfl, gw_in (i := 35) (by decide +kernel) rfl, gw_in (i := 219) (by decide +kernel) rfl, ⟨by decide, by decide, by decide +kernel⟩⟩
theorem w_Sh_stateOf : MV y_Sh_stateOf b_Sh_stateOf 2 (some .int) 1 := ⟨gw_in (i := 221) (by decide +kernel) rfl, gw_in (i := 222) (by decide +kernel) rfl, gw_in (i := 35) (by decide +kernel) rfl, gw_in (i := 223) (by decide +kernel) rfl, ⟨by decide, by decide, by decide +kernel⟩⟩
theorem w_Sh_move : MV y_Sh_move b_Sh_move 3 none 2 := ⟨gw_in (i := 225) (by decide +kernel) rfl, gw_in (i := 226) (by decide +kernel) rfl, gw_in (i := 35) (by decide +kernel) rfl, gw_in (i := 227) (by decide +kernel) rfl, ⟨by decide, by decide, by decide +kernel⟩⟩
theorem w_Sh_listTerms : MV y_Sh_listTerms b_Sh_listTerms 4 none 2 := ⟨gw_in (i := 230) (by decide +kernel) rfl, gw_in (i := 231) (by decide +kernel) rfl, gw_in (i := 35) (by decide +kernel) rfl, gw_in (i := 232) (by decide +kernel) rfl, ⟨by decide, by decide, by decide +kernel⟩⟩
theorem w_SI_lastFourAreAlike : MV y_SI_lastFourAreAlike b_SI_lastFourAreAlike 4 (some .boolean) 0 := ⟨gw_in (i := 347) (by decide +kernel) rfl, gw_in (i := 6) (by decide +kernel) rfl, gw_in (i := 34) (by decide +kernel) rfl, gw_in (i := 348) (by decide +kernel) rfl, ⟨by decide, by decide, by decide +kernel⟩⟩
theorem w_SI_mergeLastFour : MV y_SI_mergeLastFour b_SI_mergeLastFour 3 none 0 := ⟨gw_in (i := 369) (by decide +kernel) rfl, gw_in (i := 7) (by decide +kernel) rfl, gw_in (i := 34) (by decide +kernel) rfl, gw_in (i := 370) (by decide +kernel) rfl, ⟨by decide, by decide, by decide +kernel⟩⟩
theorem w_SI_cutSegments : MV y_SI_cutSegments b_SI_cutSegments 3 none 1 := ⟨gw_in (i := 373) (by decide +kernel) rfl, gw_in (i := 8) (by decide +kernel) rfl, gw_in (i := 34) (by decide +kernel) rfl, gw_in (i := 374) (by decide +kernel) rfl, ⟨by decide, by decide, by decide +kernel⟩⟩
theorem w_SI_pack : MV y_SI_pack b_SI_pack 3 (some .int) 0 := ⟨gw_in (i := 385) (by decide +kernel) rfl, gw_in (i := 386) (by decide +kernel) rfl, gw_in (i := 34) (by decide +kernel) rfl, gw_in (i := 387) (by decide +kernel) rfl, ⟨by decide, by decide, by decide +kernel⟩⟩
theorem w_SI_highestLevel : MV y_SI_highestLevel b_SI_highestLevel 3 (some .int) 0 := ⟨gw_in (i := 390) (by decide +kernel) rfl, gw_in (i := 10) (by decide +kernel) rfl, gw_in (i := 34) (by decide +kernel) rfl, gw_in (i := 391) (by decide +kernel) rfl, ⟨by decide, by decide, by decide +kernel⟩⟩
theorem w_SI_hit : MV y_SI_hit b_SI_hit 5 (some .int) 2 := ⟨gw_in (i := 394) (by decide +kernel) rfl, gw_in (i := 395) (by decide +kernel) rfl, gw_in (i := 34) (by decide +kernel) rfl, gw_in (i := 396) (by decide +kernel) rfl, ⟨by decide, by decide, by decide +kernel⟩⟩
theorem w_SI_documentOf : MS y_SI_documentOf b_SI_documentOf 1 (some .int) 1 := ⟨gw_in (i := 410) (by decide +kernel) rfl, gw_in (i := 34) (by decide +kernel) rfl, gw_in (i := 411) (by decide +kernel) rfl, ⟨by decide, by decide, by decide +kernel⟩⟩
theorem w_SI_fieldOf : MS y_SI_fieldOf b_SI_fieldOf 1 (some .int) 1 := ⟨gw_in (i := 413) (by decide +kernel) rfl, gw_in (i := 34) (by decide +kernel) rfl, gw_in (i := 414) (by decide +kernel) rfl, ⟨by decide, by decide, by decide +kernel⟩⟩
theorem w_SI_placeOf : MS y_SI_placeOf b_SI_placeOf 1 (some .int) 1 := ⟨gw_in (i := 416) (by decide +kernel) rfl, gw_in (i := 34) (by decide +kernel) rfl, gw_in (i := 417) (by decide +kernel) rfl, ⟨by decide, by decide, by decide +kernel⟩⟩
theorem w_SI_documents : MV y_SI_documents b_SI_documents 4 (some .int) 0 := ⟨gw_in (i := 419) (by decide +kernel) rfl, gw_in (i := 420) (by decide +kernel) rfl, gw_in (i := 34) (by decide +kernel) rfl, gw_in (i := 421) (by decide +kernel) rfl, ⟨by decide, by decide, by decide +kernel⟩⟩
theorem w_SI_best : MV y_SI_best b_SI_best 2 (some .int) 1 := ⟨gw_in (i := 428) (by decide +kernel) rfl, gw_in (i := 429) (by decide +kernel) rfl, gw_in (i := 34) (by decide +kernel) rfl, gw_in (i := 430) (by decide +kernel) rfl, ⟨by decide, by decide, by decide +kernel⟩⟩
theorem w_SI_rankDocuments : MV y_SI_rankDocuments b_SI_rankDocuments 4 none 1 := ⟨gw_in (i := 433) (by decide +kernel) rfl, gw_in (i := 11) (by decide +kernel) rfl, gw_in (i := 34) (by decide +kernel) rfl, gw_in (i := 434) (by decide +kernel) rfl, ⟨by decide, by decide, by decide +kernel⟩⟩
theorem w_SI_segment : MV y_SI_segment b_SI_segment 4 (some .int) 2 := ⟨gw_in (i := 439) (by decide +kernel) rfl, gw_in (i := 440) (by decide +kernel) rfl, gw_in (i := 34) (by decide +kernel) rfl, gw_in (i := 441) (by decide +kernel) rfl, ⟨by decide, by decide, by decide +kernel⟩⟩
theorem w_SI_count : MV y_SI_count b_SI_count 2 (some .int) 1 := ⟨gw_in (i := 443) (by decide +kernel) rfl, gw_in (i := 444) (by decide +kernel) rfl, gw_in (i := 34) (by decide +kernel) rfl, gw_in (i := 445) (by decide +kernel) rfl, ⟨by decide, by decide, by decide +kernel⟩⟩
theorem w_Sh_inHand : MV y_Sh_inHand b_Sh_inHand 1 (some .int) 0 := ⟨gw_in (i := 447) (by decide +kernel) rfl, gw_in (i := 448) (by decide +kernel) rfl, gw_in (i := 35) (by decide +kernel) rfl, gw_in (i := 449) (by decide +kernel) rfl, ⟨by decide, by decide, by decide +kernel⟩⟩
theorem w_SI_token : MV y_SI_token b_SI_token 9 (some .int) 4 := ⟨gw_in (i := 456) (by decide +kernel) rfl, gw_in (i := 457) (by decide +kernel) rfl, gw_in (i := 34) (by decide +kernel) rfl, gw_in (i := 458) (by decide +kernel) rfl, ⟨by decide, by decide, by decide +kernel⟩⟩
theorem w_SI_hitOf : MS y_SI_hitOf b_SI_hitOf 3 (some .int) 3 := ⟨gw_in (i := 528) (by decide +kernel) rfl, gw_in (i := 34) (by decide +kernel) rfl, gw_in (i := 529) (by decide +kernel) rfl, ⟨by decide, by decide, by decide +kernel⟩⟩
theorem w_SI_termOf : MS y_SI_termOf b_SI_termOf 2 (some .long) 2 := ⟨gw_in (i := 531) (by decide +kernel) rfl, gw_in (i := 34) (by decide +kernel) rfl, gw_in (i := 532) (by decide +kernel) rfl, ⟨by decide, by decide, by decide +kernel⟩⟩
theorem w_Sh_spotInHand : MV y_Sh_spotInHand b_Sh_spotInHand 5 (some .int) 2 := ⟨gw_in (i := 535) (by decide +kernel) rfl, gw_in (i := 536) (by decide +kernel) rfl, gw_in (i := 35) (by decide +kernel) rfl, gw_in (i := 537) (by decide +kernel) rfl, ⟨by decide, by decide, by decide +kernel⟩⟩
theorem w_Sh_comesAfter : MV y_Sh_comesAfter b_Sh_comesAfter 5 (some .boolean) 3 := ⟨gw_in (i := 540) (by decide +kernel) rfl, gw_in (i := 13) (by decide +kernel) rfl, gw_in (i := 35) (by decide +kernel) rfl, gw_in (i := 541) (by decide +kernel) rfl, ⟨by decide, by decide, by decide +kernel⟩⟩
theorem w_Sh_handHasBefore : MV y_Sh_handHasBefore b_Sh_handHasBefore 5 (some .boolean) 3 := ⟨gw_in (i := 543) (by decide +kernel) rfl, gw_in (i := 544) (by decide +kernel) rfl, gw_in (i := 35) (by decide +kernel) rfl, gw_in (i := 545) (by decide +kernel) rfl, ⟨by decide, by decide, by decide +kernel⟩⟩
theorem w_SI_add : MV y_SI_add b_SI_add 2 (some .int) 0 := ⟨gw_in (i := 580) (by decide +kernel) rfl, gw_in (i := 581) (by decide +kernel) rfl, gw_in (i := 34) (by decide +kernel) rfl, gw_in (i := 582) (by decide +kernel) rfl, ⟨by decide, by decide, by decide +kernel⟩⟩
theorem w_Sh_bringHand : MV y_Sh_bringHand b_Sh_bringHand 2 (some .int) 0 := ⟨gw_in (i := 585) (by decide +kernel) rfl, gw_in (i := 586) (by decide +kernel) rfl, gw_in (i := 35) (by decide +kernel) rfl, gw_in (i := 587) (by decide +kernel) rfl, ⟨by decide, by decide, by decide +kernel⟩⟩
theorem w_SI_take : MV y_SI_take b_SI_take 2 none 1 := ⟨gw_in (i := 593) (by decide +kernel) rfl, gw_in (i := 594) (by decide +kernel) rfl, gw_in (i := 34) (by decide +kernel) rfl, gw_in (i := 595) (by decide +kernel) rfl, ⟨by decide, by decide, by decide +kernel⟩⟩
theorem w_Sh_isThere : MV y_Sh_isThere b_Sh_isThere 3 (some .boolean) 1 := ⟨gw_in (i := 597) (by decide +kernel) rfl, gw_in (i := 598) (by decide +kernel) rfl, gw_in (i := 35) (by decide +kernel) rfl, gw_in (i := 599) (by decide +kernel) rfl, ⟨by decide, by decide, by decide +kernel⟩⟩
theorem w_SI_term : MV y_SI_term b_SI_term 4 (some .int) 3 := ⟨gw_in (i := 621) (by decide +kernel) rfl, gw_in (i := 622) (by decide +kernel) rfl, gw_in (i := 34) (by decide +kernel) rfl, gw_in (i := 623) (by decide +kernel) rfl, ⟨by decide, by decide, by decide +kernel⟩⟩
theorem w_Sh_gather : MV y_Sh_gather b_Sh_gather 9 none 4 := ⟨gw_in (i := 627) (by decide +kernel) rfl, gw_in (i := 628) (by decide +kernel) rfl, gw_in (i := 35) (by decide +kernel) rfl, gw_in (i := 629) (by decide +kernel) rfl, ⟨by decide, by decide, by decide +kernel⟩⟩
theorem w_Sh_gatherFrom : MV y_Sh_gatherFrom b_Sh_gatherFrom 10 none 5 := ⟨gw_in (i := 634) (by decide +kernel) rfl, gw_in (i := 14) (by decide +kernel) rfl, gw_in (i := 35) (by decide +kernel) rfl, gw_in (i := 635) (by decide +kernel) rfl, ⟨by decide, by decide, by decide +kernel⟩⟩
theorem w_SI_begins : MV y_SI_begins b_SI_begins 5 (some .int) 4 := ⟨gw_in (i := 650) (by decide +kernel) rfl, gw_in (i := 651) (by decide +kernel) rfl, gw_in (i := 34) (by decide +kernel) rfl, gw_in (i := 652) (by decide +kernel) rfl, ⟨by decide, by decide, by decide +kernel⟩⟩
theorem w_SI_follow : MV y_SI_follow b_SI_follow 5 (some .int) 3 := ⟨gw_in (i := 658) (by decide +kernel) rfl, gw_in (i := 659) (by decide +kernel) rfl, gw_in (i := 34) (by decide +kernel) rfl, gw_in (i := 660) (by decide +kernel) rfl, ⟨by decide, by decide, by decide +kernel⟩⟩
theorem w_SI_join : MV y_SI_join b_SI_join 2 (some .int) 1 := ⟨gw_in (i := 682) (by decide +kernel) rfl, gw_in (i := 683) (by decide +kernel) rfl, gw_in (i := 34) (by decide +kernel) rfl, gw_in (i := 684) (by decide +kernel) rfl, ⟨by decide, by decide, by decide +kernel⟩⟩
theorem w_SI_joinInto : MS y_SI_joinInto b_SI_joinInto 4 none 4 := ⟨gw_in (i := 688) (by decide +kernel) rfl, gw_in (i := 34) (by decide +kernel) rfl, gw_in (i := 689) (by decide +kernel) rfl, ⟨by decide, by decide, by decide +kernel⟩⟩
theorem w_SI_drop : MV y_SI_drop b_SI_drop 1 (some .int) 0 := ⟨gw_in (i := 713) (by decide +kernel) rfl, gw_in (i := 714) (by decide +kernel) rfl, gw_in (i := 34) (by decide +kernel) rfl, gw_in (i := 715) (by decide +kernel) rfl, ⟨by decide, by decide, by decide +kernel⟩⟩
