abbrev b_Ob_init : ByteArray := object_method_1_code
abbrev y_Ob_init : MethodName := ⟨"java/lang/Object", "<init>", "()V"⟩
theorem d_Ob_init_0 : decode b_Ob_init 0 = .ok (.return_, 1) := by decide +kernel
abbrev b_Tk_init : ByteArray := prog_7_method_1_code
abbrev y_Tk_init : MethodName := ⟨"SegmentIndex$Tokens", "<init>", "()V"⟩
theorem d_Tk_init_0 : decode b_Tk_init 0 = .ok (.aload_n 0, 1) := by decide +kernel
theorem d_Tk_init_1 : decode b_Tk_init 1 = .ok (.invokespecial 3, 3) := by decide +kernel
theorem d_Tk_init_4 : decode b_Tk_init 4 = .ok (.aload_n 0, 1) := by decide +kernel
theorem d_Tk_init_5 : decode b_Tk_init 5 = .ok (.sipush 512, 3) := by decide +kernel
theorem d_Tk_init_8 : decode b_Tk_init 8 = .ok (.newarray .int, 2) := by decide +kernel
theorem d_Tk_init_10 : decode b_Tk_init 10 = .ok (.putfield 9, 3) := by decide +kernel
theorem d_Tk_init_13 : decode b_Tk_init 13 = .ok (.aload_n 0, 1) := by decide +kernel
theorem d_Tk_init_14 : decode b_Tk_init 14 = .ok (.sipush 512, 3) := by decide +kernel
theorem d_Tk_init_17 : decode b_Tk_init 17 = .ok (.newarray .long, 2) := by decide +kernel
theorem d_Tk_init_19 : decode b_Tk_init 19 = .ok (.putfield 15, 3) := by decide +kernel
theorem d_Tk_init_22 : decode b_Tk_init 22 = .ok (.aload_n 0, 1) := by decide +kernel
theorem d_Tk_init_23 : decode b_Tk_init 23 = .ok (.iconst 0, 1) := by decide +kernel
theorem d_Tk_init_24 : decode b_Tk_init 24 = .ok (.putfield 19, 3) := by decide +kernel
theorem d_Tk_init_27 : decode b_Tk_init 27 = .ok (.return_, 1) := by decide +kernel
abbrev b_Pl_init : ByteArray := prog_4_method_1_code
abbrev y_Pl_init : MethodName := ⟨"SegmentIndex$Pile", "<init>", "()V"⟩
theorem d_Pl_init_0 : decode b_Pl_init 0 = .ok (.aload_n 0, 1) := by decide +kernel
theorem d_Pl_init_1 : decode b_Pl_init 1 = .ok (.invokespecial 3, 3) := by decide +kernel
theorem d_Pl_init_4 : decode b_Pl_init 4 = .ok (.aload_n 0, 1) := by decide +kernel
theorem d_Pl_init_5 : decode b_Pl_init 5 = .ok (.bipush 9, 2) := by decide +kernel
theorem d_Pl_init_7 : decode b_Pl_init 7 = .ok (.anewarray 9, 3) := by decide +kernel
theorem d_Pl_init_10 : decode b_Pl_init 10 = .ok (.putfield 11, 3) := by decide +kernel
theorem d_Pl_init_13 : decode b_Pl_init 13 = .ok (.aload_n 0, 1) := by decide +kernel
theorem d_Pl_init_14 : decode b_Pl_init 14 = .ok (.iconst 0, 1) := by decide +kernel
theorem d_Pl_init_15 : decode b_Pl_init 15 = .ok (.putfield 17, 3) := by decide +kernel
theorem d_Pl_init_18 : decode b_Pl_init 18 = .ok (.iconst 0, 1) := by decide +kernel
theorem d_Pl_init_19 : decode b_Pl_init 19 = .ok (.istore_n 1, 1) := by decide +kernel
theorem d_Pl_init_20 : decode b_Pl_init 20 = .ok (.iload_n 1, 1) := by decide +kernel
theorem d_Pl_init_21 : decode b_Pl_init 21 = .ok (.aload_n 0, 1) := by decide +kernel
theorem d_Pl_init_22 : decode b_Pl_init 22 = .ok (.getfield 11, 3) := by decide +kernel
theorem d_Pl_init_25 : decode b_Pl_init 25 = .ok (.arraylength, 1) := by decide +kernel
theorem d_Pl_init_26 : decode b_Pl_init 26 = .ok (.if_icmp .ge 22, 3) := by decide +kernel
theorem d_Pl_init_29 : decode b_Pl_init 29 = .ok (.aload_n 0, 1) := by decide +kernel
theorem d_Pl_init_30 : decode b_Pl_init 30 = .ok (.getfield 11, 3) := by decide +kernel
theorem d_Pl_init_33 : decode b_Pl_init 33 = .ok (.iload_n 1, 1) := by decide +kernel
theorem d_Pl_init_34 : decode b_Pl_init 34 = .ok (.new 9, 3) := by decide +kernel
theorem d_Pl_init_37 : decode b_Pl_init 37 = .ok (.dup, 1) := by decide +kernel
theorem d_Pl_init_38 : decode b_Pl_init 38 = .ok (.invokespecial 21, 3) := by decide +kernel
theorem d_Pl_init_41 : decode b_Pl_init 41 = .ok (.aastore, 1) := by decide +kernel
theorem d_Pl_init_42 : decode b_Pl_init 42 = .ok (.iinc 1 1, 3) := by decide +kernel
theorem d_Pl_init_45 : decode b_Pl_init 45 = .ok (.goto (-25), 3) := by decide +kernel
theorem d_Pl_init_48 : decode b_Pl_init 48 = .ok (.return_, 1) := by decide +kernel
abbrev b_HS_init : ByteArray := prog_2_method_1_code
abbrev y_HS_init : MethodName := ⟨"SegmentIndex$HitSet", "<init>", "()V"⟩
theorem d_HS_init_0 : decode b_HS_init 0 = .ok (.aload_n 0, 1) := by decide +kernel
theorem d_HS_init_1 : decode b_HS_init 1 = .ok (.invokespecial 3, 3) := by decide +kernel
theorem d_HS_init_4 : decode b_HS_init 4 = .ok (.aload_n 0, 1) := by decide +kernel
theorem d_HS_init_5 : decode b_HS_init 5 = .ok (.sipush 512, 3) := by decide +kernel
theorem d_HS_init_8 : decode b_HS_init 8 = .ok (.newarray .int, 2) := by decide +kernel
theorem d_HS_init_10 : decode b_HS_init 10 = .ok (.putfield 9, 3) := by decide +kernel
theorem d_HS_init_13 : decode b_HS_init 13 = .ok (.aload_n 0, 1) := by decide +kernel
theorem d_HS_init_14 : decode b_HS_init 14 = .ok (.iconst 0, 1) := by decide +kernel
theorem d_HS_init_15 : decode b_HS_init 15 = .ok (.putfield 15, 3) := by decide +kernel
theorem d_HS_init_18 : decode b_HS_init 18 = .ok (.return_, 1) := by decide +kernel
abbrev b_Ks_init : ByteArray := prog_3_method_1_code
abbrev y_Ks_init : MethodName := ⟨"SegmentIndex$Keys", "<init>", "()V"⟩
theorem d_Ks_init_0 : decode b_Ks_init 0 = .ok (.aload_n 0, 1) := by decide +kernel
theorem d_Ks_init_1 : decode b_Ks_init 1 = .ok (.invokespecial 3, 3) := by decide +kernel
theorem d_Ks_init_4 : decode b_Ks_init 4 = .ok (.aload_n 0, 1) := by decide +kernel
theorem d_Ks_init_5 : decode b_Ks_init 5 = .ok (.sipush 512, 3) := by decide +kernel
theorem d_Ks_init_8 : decode b_Ks_init 8 = .ok (.newarray .long, 2) := by decide +kernel
theorem d_Ks_init_10 : decode b_Ks_init 10 = .ok (.putfield 9, 3) := by decide +kernel
theorem d_Ks_init_13 : decode b_Ks_init 13 = .ok (.aload_n 0, 1) := by decide +kernel
theorem d_Ks_init_14 : decode b_Ks_init 14 = .ok (.iconst 0, 1) := by decide +kernel
theorem d_Ks_init_15 : decode b_Ks_init 15 = .ok (.putfield 15, 3) := by decide +kernel
theorem d_Ks_init_18 : decode b_Ks_init 18 = .ok (.return_, 1) := by decide +kernel
abbrev b_Ks_clear : ByteArray := prog_3_method_2_code
abbrev y_Ks_clear : MethodName := ⟨"SegmentIndex$Keys", "clear", "()V"⟩
theorem d_Ks_clear_0 : decode b_Ks_clear 0 = .ok (.aload_n 0, 1) := by decide +kernel
theorem d_Ks_clear_1 : decode b_Ks_clear 1 = .ok (.iconst 0, 1) := by decide +kernel
theorem d_Ks_clear_2 : decode b_Ks_clear 2 = .ok (.putfield 15, 3) := by decide +kernel
theorem d_Ks_clear_5 : decode b_Ks_clear 5 = .ok (.return_, 1) := by decide +kernel
abbrev b_Ks_put : ByteArray := prog_3_method_3_code
abbrev y_Ks_put : MethodName := ⟨"SegmentIndex$Keys", "put", "(J)V"⟩
theorem d_Ks_put_0 : decode b_Ks_put 0 = .ok (.aload_n 0, 1) := by decide +kernel
theorem d_Ks_put_1 : decode b_Ks_put 1 = .ok (.getfield 15, 3) := by decide +kernel
theorem d_Ks_put_4 : decode b_Ks_put 4 = .ok (.aload_n 0, 1) := by decide +kernel
theorem d_Ks_put_5 : decode b_Ks_put 5 = .ok (.getfield 9, 3) := by decide +kernel
theorem d_Ks_put_8 : decode b_Ks_put 8 = .ok (.arraylength, 1) := by decide +kernel
theorem d_Ks_put_9 : decode b_Ks_put 9 = .ok (.if_icmp .lt 21, 3) := by decide +kernel
theorem d_Ks_put_12 : decode b_Ks_put 12 = .ok (.aload_n 0, 1) := by decide +kernel
theorem d_Ks_put_13 : decode b_Ks_put 13 = .ok (.aload_n 0, 1) := by decide +kernel
theorem d_Ks_put_14 : decode b_Ks_put 14 = .ok (.getfield 9, 3) := by decide +kernel
theorem d_Ks_put_17 : decode b_Ks_put 17 = .ok (.iconst 2, 1) := by decide +kernel
theorem d_Ks_put_18 : decode b_Ks_put 18 = .ok (.aload_n 0, 1) := by decide +kernel
theorem d_Ks_put_19 : decode b_Ks_put 19 = .ok (.getfield 9, 3) := by decide +kernel
theorem d_Ks_put_22 : decode b_Ks_put 22 = .ok (.arraylength, 1) := by decide +kernel
theorem d_Ks_put_23 : decode b_Ks_put 23 = .ok (.imul, 1) := by decide +kernel
theorem d_Ks_put_24 : decode b_Ks_put 24 = .ok (.invokestatic 19, 3) := by decide +kernel
theorem d_Ks_put_27 : decode b_Ks_put 27 = .ok (.putfield 9, 3) := by decide +kernel
theorem d_Ks_put_30 : decode b_Ks_put 30 = .ok (.aload_n 0, 1) := by decide +kernel
theorem d_Ks_put_31 : decode b_Ks_put 31 = .ok (.getfield 9, 3) := by decide +kernel
theorem d_Ks_put_34 : decode b_Ks_put 34 = .ok (.aload_n 0, 1) := by decide +kernel
theorem d_Ks_put_35 : decode b_Ks_put 35 = .ok (.getfield 15, 3) := by decide +kernel
theorem d_Ks_put_38 : decode b_Ks_put 38 = .ok (.lload_n 1, 1) := by decide +kernel
theorem d_Ks_put_39 : decode b_Ks_put 39 = .ok (.lastore, 1) := by decide +kernel
theorem d_Ks_put_40 : decode b_Ks_put 40 = .ok (.aload_n 0, 1) := by decide +kernel
theorem d_Ks_put_41 : decode b_Ks_put 41 = .ok (.dup, 1) := by decide +kernel
theorem d_Ks_put_42 : decode b_Ks_put 42 = .ok (.getfield 15, 3) := by decide +kernel
theorem d_Ks_put_45 : decode b_Ks_put 45 = .ok (.iconst 1, 1) := by decide +kernel
theorem d_Ks_put_46 : decode b_Ks_put 46 = .ok (.iadd, 1) := by decide +kernel
theorem d_Ks_put_47 : decode b_Ks_put 47 = .ok (.putfield 15, 3) := by decide +kernel
theorem d_Ks_put_50 : decode b_Ks_put 50 = .ok (.return_, 1) := by decide +kernel
abbrev b_Ks_different : ByteArray := prog_3_method_4_code
abbrev y_Ks_different : MethodName := ⟨"SegmentIndex$Keys", "different", "()I"⟩
theorem d_Ks_different_0 : decode b_Ks_different 0 = .ok (.aload_n 0, 1) := by decide +kernel
theorem d_Ks_different_1 : decode b_Ks_different 1 = .ok (.invokevirtual 25, 3) := by decide +kernel
theorem d_Ks_different_4 : decode b_Ks_different 4 = .ok (.iconst 0, 1) := by decide +kernel
theorem d_Ks_different_5 : decode b_Ks_different 5 = .ok (.istore_n 1, 1) := by decide +kernel
theorem d_Ks_different_6 : decode b_Ks_different 6 = .ok (.iconst 0, 1) := by decide +kernel
theorem d_Ks_different_7 : decode b_Ks_different 7 = .ok (.istore_n 2, 1) := by decide +kernel
theorem d_Ks_different_8 : decode b_Ks_different 8 = .ok (.iload_n 2, 1) := by decide +kernel
theorem d_Ks_different_9 : decode b_Ks_different 9 = .ok (.aload_n 0, 1) := by decide +kernel
theorem d_Ks_different_10 : decode b_Ks_different 10 = .ok (.getfield 15, 3) := by decide +kernel
theorem d_Ks_different_13 : decode b_Ks_different 13 = .ok (.if_icmp .ge 34, 3) := by decide +kernel
theorem d_Ks_different_16 : decode b_Ks_different 16 = .ok (.iload_n 2, 1) := by decide +kernel
theorem d_Ks_different_17 : decode b_Ks_different 17 = .ok (.ifCond .eq 21, 3) := by decide +kernel
theorem d_Ks_different_20 : decode b_Ks_different 20 = .ok (.aload_n 0, 1) := by decide +kernel
theorem d_Ks_different_21 : decode b_Ks_different 21 = .ok (.getfield 9, 3) := by decide +kernel
theorem d_Ks_different_24 : decode b_Ks_different 24 = .ok (.iload_n 2, 1) := by decide +kernel
theorem d_Ks_different_25 : decode b_Ks_different 25 = .ok (.laload, 1) := by decide +kernel
theorem d_Ks_different_26 : decode b_Ks_different 26 = .ok (.aload_n 0, 1) := by decide +kernel
theorem d_Ks_different_27 : decode b_Ks_different 27 = .ok (.getfield 9, 3) := by decide +kernel
theorem d_Ks_different_30 : decode b_Ks_different 30 = .ok (.iload_n 2, 1) := by decide +kernel
theorem d_Ks_different_31 : decode b_Ks_different 31 = .ok (.iconst 1, 1) := by decide +kernel
theorem d_Ks_different_32 : decode b_Ks_different 32 = .ok (.isub, 1) := by decide +kernel
theorem d_Ks_different_33 : decode b_Ks_different 33 = .ok (.laload, 1) := by decide +kernel
theorem d_Ks_different_34 : decode b_Ks_different 34 = .ok (.lcmp, 1) := by decide +kernel
theorem d_Ks_different_35 : decode b_Ks_different 35 = .ok (.ifCond .eq 6, 3) := by decide +kernel
theorem d_Ks_different_38 : decode b_Ks_different 38 = .ok (.iinc 1 1, 3) := by decide +kernel
theorem d_Ks_different_41 : decode b_Ks_different 41 = .ok (.iinc 2 1, 3) := by decide +kernel
theorem d_Ks_different_44 : decode b_Ks_different 44 = .ok (.goto (-36), 3) := by decide +kernel
theorem d_Ks_different_47 : decode b_Ks_different 47 = .ok (.iload_n 1, 1) := by decide +kernel
theorem d_Ks_different_48 : decode b_Ks_different 48 = .ok (.ireturn, 1) := by decide +kernel
abbrev b_Ks_sort : ByteArray := prog_3_method_5_code
abbrev y_Ks_sort : MethodName := ⟨"SegmentIndex$Keys", "sort", "()V"⟩
theorem d_Ks_sort_0 : decode b_Ks_sort 0 = .ok (.aload_n 0, 1) := by decide +kernel
theorem d_Ks_sort_1 : decode b_Ks_sort 1 = .ok (.getfield 15, 3) := by decide +kernel
theorem d_Ks_sort_4 : decode b_Ks_sort 4 = .ok (.iconst 2, 1) := by decide +kernel
theorem d_Ks_sort_5 : decode b_Ks_sort 5 = .ok (.idiv, 1) := by decide +kernel
theorem d_Ks_sort_6 : decode b_Ks_sort 6 = .ok (.iconst 1, 1) := by decide +kernel
theorem d_Ks_sort_7 : decode b_Ks_sort 7 = .ok (.isub, 1) := by decide +kernel
theorem d_Ks_sort_8 : decode b_Ks_sort 8 = .ok (.istore_n 1, 1) := by decide +kernel
theorem d_Ks_sort_9 : decode b_Ks_sort 9 = .ok (.iload_n 1, 1) := by decide +kernel
theorem d_Ks_sort_10 : decode b_Ks_sort 10 = .ok (.ifCond .lt 18, 3) := by decide +kernel
theorem d_Ks_sort_13 : decode b_Ks_sort 13 = .ok (.aload_n 0, 1) := by decide +kernel
theorem d_Ks_sort_14 : decode b_Ks_sort 14 = .ok (.iload_n 1, 1) := by decide +kernel
theorem d_Ks_sort_15 : decode b_Ks_sort 15 = .ok (.aload_n 0, 1) := by decide +kernel
theorem d_Ks_sort_16 : decode b_Ks_sort 16 = .ok (.getfield 15, 3) := by decide +kernel
theorem d_Ks_sort_19 : decode b_Ks_sort 19 = .ok (.invokevirtual 28, 3) := by decide +kernel
theorem d_Ks_sort_22 : decode b_Ks_sort 22 = .ok (.iinc 1 (-1), 3) := by decide +kernel
theorem d_Ks_sort_25 : decode b_Ks_sort 25 = .ok (.goto (-16), 3) := by decide +kernel
theorem d_Ks_sort_28 : decode b_Ks_sort 28 = .ok (.aload_n 0, 1) := by decide +kernel
theorem d_Ks_sort_29 : decode b_Ks_sort 29 = .ok (.getfield 15, 3) := by decide +kernel
theorem d_Ks_sort_32 : decode b_Ks_sort 32 = .ok (.iconst 1, 1) := by decide +kernel
theorem d_Ks_sort_33 : decode b_Ks_sort 33 = .ok (.isub, 1) := by decide +kernel
theorem d_Ks_sort_34 : decode b_Ks_sort 34 = .ok (.istore_n 1, 1) := by decide +kernel
theorem d_Ks_sort_35 : decode b_Ks_sort 35 = .ok (.iload_n 1, 1) := by decide +kernel
theorem d_Ks_sort_36 : decode b_Ks_sort 36 = .ok (.ifCond .le 41, 3) := by decide +kernel
theorem d_Ks_sort_39 : decode b_Ks_sort 39 = .ok (.aload_n 0, 1) := by decide +kernel
theorem d_Ks_sort_40 : decode b_Ks_sort 40 = .ok (.getfield 9, 3) := by decide +kernel
theorem d_Ks_sort_43 : decode b_Ks_sort 43 = .ok (.iconst 0, 1) := by decide +kernel
theorem d_Ks_sort_44 : decode b_Ks_sort 44 = .ok (.laload, 1) := by decide +kernel
theorem d_Ks_sort_45 : decode b_Ks_sort 45 = .ok (.lstore_n 2, 1) := by decide +kernel
theorem d_Ks_sort_46 : decode b_Ks_sort 46 = .ok (.aload_n 0, 1) := by decide +kernel
theorem d_Ks_sort_47 : decode b_Ks_sort 47 = .ok (.getfield 9, 3) := by decide +kernel
theorem d_Ks_sort_50 : decode b_Ks_sort 50 = .ok (.iconst 0, 1) := by decide +kernel
theorem d_Ks_sort_51 : decode b_Ks_sort 51 = .ok (.aload_n 0, 1) := by decide +kernel
theorem d_Ks_sort_52 : decode b_Ks_sort 52 = .ok (.getfield 9, 3) := by decide +kernel
theorem d_Ks_sort_55 : decode b_Ks_sort 55 = .ok (.iload_n 1, 1) := by decide +kernel
theorem d_Ks_sort_56 : decode b_Ks_sort 56 = .ok (.laload, 1) := by decide +kernel
theorem d_Ks_sort_57 : decode b_Ks_sort 57 = .ok (.lastore, 1) := by decide +kernel
theorem d_Ks_sort_58 : decode b_Ks_sort 58 = .ok (.aload_n 0, 1) := by decide +kernel
theorem d_Ks_sort_59 : decode b_Ks_sort 59 = .ok (.getfield 9, 3) := by decide +kernel
theorem d_Ks_sort_62 : decode b_Ks_sort 62 = .ok (.iload_n 1, 1) := by decide +kernel
theorem d_Ks_sort_63 : decode b_Ks_sort 63 = .ok (.lload_n 2, 1) := by decide +kernel
theorem d_Ks_sort_64 : decode b_Ks_sort 64 = .ok (.lastore, 1) := by decide +kernel
theorem d_Ks_sort_65 : decode b_Ks_sort 65 = .ok (.aload_n 0, 1) := by decide +kernel
theorem d_Ks_sort_66 : decode b_Ks_sort 66 = .ok (.iconst 0, 1) := by decide +kernel
theorem d_Ks_sort_67 : decode b_Ks_sort 67 = .ok (.iload_n 1, 1) := by decide +kernel
theorem d_Ks_sort_68 : decode b_Ks_sort 68 = .ok (.invokevirtual 28, 3) := by decide +kernel
theorem d_Ks_sort_71 : decode b_Ks_sort 71 = .ok (.iinc 1 (-1), 3) := by decide +kernel
theorem d_Ks_sort_74 : decode b_Ks_sort 74 = .ok (.goto (-39), 3) := by decide +kernel
theorem d_Ks_sort_77 : decode b_Ks_sort 77 = .ok (.return_, 1) := by decide +kernel
abbrev b_Ks_sink : ByteArray := prog_3_method_6_code
abbrev y_Ks_sink : MethodName := ⟨"SegmentIndex$Keys", "sink", "(II)V"⟩
theorem d_Ks_sink_0 : decode b_Ks_sink 0 = .ok (.aload_n 0, 1) := by decide +kernel
theorem d_Ks_sink_1 : decode b_Ks_sink 1 = .ok (.getfield 9, 3) := by decide +kernel
theorem d_Ks_sink_4 : decode b_Ks_sink 4 = .ok (.iload_n 1, 1) := by decide +kernel
theorem d_Ks_sink_5 : decode b_Ks_sink 5 = .ok (.laload, 1) := by decide +kernel
theorem d_Ks_sink_6 : decode b_Ks_sink 6 = .ok (.lstore_n 3, 1) := by decide +kernel
theorem d_Ks_sink_7 : decode b_Ks_sink 7 = .ok (.iload_n 1, 1) := by decide +kernel
theorem d_Ks_sink_8 : decode b_Ks_sink 8 = .ok (.istore 5, 2) := by decide +kernel
theorem d_Ks_sink_10 : decode b_Ks_sink 10 = .ok (.iconst 2, 1) := by decide +kernel
theorem d_Ks_sink_11 : decode b_Ks_sink 11 = .ok (.iload 5, 2) := by decide +kernel
theorem d_Ks_sink_13 : decode b_Ks_sink 13 = .ok (.imul, 1) := by decide +kernel
theorem d_Ks_sink_14 : decode b_Ks_sink 14 = .ok (.iconst 1, 1) := by decide +kernel
theorem d_Ks_sink_15 : decode b_Ks_sink 15 = .ok (.iadd, 1) := by decide +kernel
theorem d_Ks_sink_16 : decode b_Ks_sink 16 = .ok (.istore 6, 2) := by decide +kernel
theorem d_Ks_sink_18 : decode b_Ks_sink 18 = .ok (.iload 6, 2) := by decide +kernel
theorem d_Ks_sink_20 : decode b_Ks_sink 20 = .ok (.iload_n 2, 1) := by decide +kernel
theorem d_Ks_sink_21 : decode b_Ks_sink 21 = .ok (.if_icmp .ge 78, 3) := by decide +kernel
theorem d_Ks_sink_24 : decode b_Ks_sink 24 = .ok (.iload 6, 2) := by decide +kernel
theorem d_Ks_sink_26 : decode b_Ks_sink 26 = .ok (.iconst 1, 1) := by decide +kernel
theorem d_Ks_sink_27 : decode b_Ks_sink 27 = .ok (.iadd, 1) := by decide +kernel
theorem d_Ks_sink_28 : decode b_Ks_sink 28 = .ok (.iload_n 2, 1) := by decide +kernel
theorem d_Ks_sink_29 : decode b_Ks_sink 29 = .ok (.if_icmp .ge 26, 3) := by decide +kernel
theorem d_Ks_sink_32 : decode b_Ks_sink 32 = .ok (.aload_n 0, 1) := by decide +kernel
theorem d_Ks_sink_33 : decode b_Ks_sink 33 = .ok (.getfield 9, 3) := by decide +kernel
theorem d_Ks_sink_36 : decode b_Ks_sink 36 = .ok (.iload 6, 2) := by decide +kernel
theorem d_Ks_sink_38 : decode b_Ks_sink 38 = .ok (.iconst 1, 1) := by decide +kernel
theorem d_Ks_sink_39 : decode b_Ks_sink 39 = .ok (.iadd, 1) := by decide +kernel
theorem d_Ks_sink_40 : decode b_Ks_sink 40 = .ok (.laload, 1) := by decide +kernel
theorem d_Ks_sink_41 : decode b_Ks_sink 41 = .ok (.aload_n 0, 1) := by decide +kernel
theorem d_Ks_sink_42 : decode b_Ks_sink 42 = .ok (.getfield 9, 3) := by decide +kernel
theorem d_Ks_sink_45 : decode b_Ks_sink 45 = .ok (.iload 6, 2) := by decide +kernel
theorem d_Ks_sink_47 : decode b_Ks_sink 47 = .ok (.laload, 1) := by decide +kernel
theorem d_Ks_sink_48 : decode b_Ks_sink 48 = .ok (.lcmp, 1) := by decide +kernel
theorem d_Ks_sink_49 : decode b_Ks_sink 49 = .ok (.ifCond .le 6, 3) := by decide +kernel
theorem d_Ks_sink_52 : decode b_Ks_sink 52 = .ok (.iinc 6 1, 3) := by decide +kernel
theorem d_Ks_sink_55 : decode b_Ks_sink 55 = .ok (.aload_n 0, 1) := by decide +kernel
theorem d_Ks_sink_56 : decode b_Ks_sink 56 = .ok (.getfield 9, 3) := by decide +kernel
theorem d_Ks_sink_59 : decode b_Ks_sink 59 = .ok (.iload 6, 2) := by decide +kernel
theorem d_Ks_sink_61 : decode b_Ks_sink 61 = .ok (.laload, 1) := by decide +kernel
theorem d_Ks_sink_62 : decode b_Ks_sink 62 = .ok (.lload_n 3, 1) := by decide +kernel
theorem d_Ks_sink_63 : decode b_Ks_sink 63 = .ok (.lcmp, 1) := by decide +kernel
theorem d_Ks_sink_64 : decode b_Ks_sink 64 = .ok (.ifCond .gt 6, 3) := by decide +kernel
theorem d_Ks_sink_67 : decode b_Ks_sink 67 = .ok (.goto 32, 3) := by decide +kernel
theorem d_Ks_sink_70 : decode b_Ks_sink 70 = .ok (.aload_n 0, 1) := by decide +kernel
theorem d_Ks_sink_71 : decode b_Ks_sink 71 = .ok (.getfield 9, 3) := by decide +kernel
theorem d_Ks_sink_74 : decode b_Ks_sink 74 = .ok (.iload 5, 2) := by decide +kernel
theorem d_Ks_sink_76 : decode b_Ks_sink 76 = .ok (.aload_n 0, 1) := by decide +kernel
theorem d_Ks_sink_77 : decode b_Ks_sink 77 = .ok (.getfield 9, 3) := by decide +kernel
theorem d_Ks_sink_80 : decode b_Ks_sink 80 = .ok (.iload 6, 2) := by decide +kernel
theorem d_Ks_sink_82 : decode b_Ks_sink 82 = .ok (.laload, 1) := by decide +kernel
theorem d_Ks_sink_83 : decode b_Ks_sink 83 = .ok (.lastore, 1) := by decide +kernel
theorem d_Ks_sink_84 : decode b_Ks_sink 84 = .ok (.iload 6, 2) := by decide +kernel
theorem d_Ks_sink_86 : decode b_Ks_sink 86 = .ok (.istore 5, 2) := by decide +kernel
theorem d_Ks_sink_88 : decode b_Ks_sink 88 = .ok (.iconst 2, 1) := by decide +kernel
theorem d_Ks_sink_89 : decode b_Ks_sink 89 = .ok (.iload 5, 2) := by decide +kernel
theorem d_Ks_sink_91 : decode b_Ks_sink 91 = .ok (.imul, 1) := by decide +kernel
theorem d_Ks_sink_92 : decode b_Ks_sink 92 = .ok (.iconst 1, 1) := by decide +kernel
theorem d_Ks_sink_93 : decode b_Ks_sink 93 = .ok (.iadd, 1) := by decide +kernel
theorem d_Ks_sink_94 : decode b_Ks_sink 94 = .ok (.istore 6, 2) := by decide +kernel
theorem d_Ks_sink_96 : decode b_Ks_sink 96 = .ok (.goto (-78), 3) := by decide +kernel
theorem d_Ks_sink_99 : decode b_Ks_sink 99 = .ok (.aload_n 0, 1) := by decide +kernel
theorem d_Ks_sink_100 : decode b_Ks_sink 100 = .ok (.getfield 9, 3) := by decide +kernel
theorem d_Ks_sink_103 : decode b_Ks_sink 103 = .ok (.iload 5, 2) := by decide +kernel
theorem d_Ks_sink_105 : decode b_Ks_sink 105 = .ok (.lload_n 3, 1) := by decide +kernel
theorem d_Ks_sink_106 : decode b_Ks_sink 106 = .ok (.lastore, 1) := by decide +kernel
theorem d_Ks_sink_107 : decode b_Ks_sink 107 = .ok (.return_, 1) := by decide +kernel
abbrev b_Sg_init : ByteArray := prog_5_method_1_code
abbrev y_Sg_init : MethodName := ⟨"SegmentIndex$Segment", "<init>", "(IIIII)V"⟩
theorem d_Sg_init_0 : decode b_Sg_init 0 = .ok (.aload_n 0, 1) := by decide +kernel
theorem d_Sg_init_1 : decode b_Sg_init 1 = .ok (.invokespecial 1, 3) := by decide +kernel
theorem d_Sg_init_4 : decode b_Sg_init 4 = .ok (.aload_n 0, 1) := by decide +kernel
theorem d_Sg_init_5 : decode b_Sg_init 5 = .ok (.iload_n 1, 1) := by decide +kernel
theorem d_Sg_init_6 : decode b_Sg_init 6 = .ok (.putfield 7, 3) := by decide +kernel
theorem d_Sg_init_9 : decode b_Sg_init 9 = .ok (.aload_n 0, 1) := by decide +kernel
theorem d_Sg_init_10 : decode b_Sg_init 10 = .ok (.iload_n 2, 1) := by decide +kernel
theorem d_Sg_init_11 : decode b_Sg_init 11 = .ok (.putfield 13, 3) := by decide +kernel
theorem d_Sg_init_14 : decode b_Sg_init 14 = .ok (.aload_n 0, 1) := by decide +kernel
theorem d_Sg_init_15 : decode b_Sg_init 15 = .ok (.iload_n 3, 1) := by decide +kernel
theorem d_Sg_init_16 : decode b_Sg_init 16 = .ok (.putfield 16, 3) := by decide +kernel
theorem d_Sg_init_19 : decode b_Sg_init 19 = .ok (.aload_n 0, 1) := by decide +kernel
theorem d_Sg_init_20 : decode b_Sg_init 20 = .ok (.iload 4, 2) := by decide +kernel
theorem d_Sg_init_22 : decode b_Sg_init 22 = .ok (.putfield 19, 3) := by decide +kernel
theorem d_Sg_init_25 : decode b_Sg_init 25 = .ok (.aload_n 0, 1) := by decide +kernel
theorem d_Sg_init_26 : decode b_Sg_init 26 = .ok (.iload 5, 2) := by decide +kernel
theorem d_Sg_init_28 : decode b_Sg_init 28 = .ok (.putfield 22, 3) := by decide +kernel
theorem d_Sg_init_31 : decode b_Sg_init 31 = .ok (.return_, 1) := by decide +kernel
abbrev b_Pl_uppermost : ByteArray := prog_4_method_3_code
abbrev y_Pl_uppermost : MethodName := ⟨"SegmentIndex$Pile", "uppermost", "()LSegmentIndex$HitSet;"⟩
theorem d_Pl_uppermost_0 : decode b_Pl_uppermost 0 = .ok (.aload_n 0, 1) := by decide +kernel
theorem d_Pl_uppermost_1 : decode b_Pl_uppermost 1 = .ok (.getfield 17, 3) := by decide +kernel
theorem d_Pl_uppermost_4 : decode b_Pl_uppermost 4 = .ok (.iconst 1, 1) := by decide +kernel
theorem d_Pl_uppermost_5 : decode b_Pl_uppermost 5 = .ok (.if_icmp .ge 10, 3) := by decide +kernel
theorem d_Pl_uppermost_8 : decode b_Pl_uppermost 8 = .ok (.aload_n 0, 1) := by decide +kernel
theorem d_Pl_uppermost_9 : decode b_Pl_uppermost 9 = .ok (.invokevirtual 25, 3) := by decide +kernel
theorem d_Pl_uppermost_12 : decode b_Pl_uppermost 12 = .ok (.goto 14, 3) := by decide +kernel
theorem d_Pl_uppermost_15 : decode b_Pl_uppermost 15 = .ok (.aload_n 0, 1) := by decide +kernel
theorem d_Pl_uppermost_16 : decode b_Pl_uppermost 16 = .ok (.getfield 11, 3) := by decide +kernel
theorem d_Pl_uppermost_19 : decode b_Pl_uppermost 19 = .ok (.aload_n 0, 1) := by decide +kernel
theorem d_Pl_uppermost_20 : decode b_Pl_uppermost 20 = .ok (.getfield 17, 3) := by decide +kernel
theorem d_Pl_uppermost_23 : decode b_Pl_uppermost 23 = .ok (.iconst 1, 1) := by decide +kernel
theorem d_Pl_uppermost_24 : decode b_Pl_uppermost 24 = .ok (.isub, 1) := by decide +kernel
theorem d_Pl_uppermost_25 : decode b_Pl_uppermost 25 = .ok (.aaload, 1) := by decide +kernel
theorem d_Pl_uppermost_26 : decode b_Pl_uppermost 26 = .ok (.areturn, 1) := by decide +kernel
abbrev b_Pl_spare : ByteArray := prog_4_method_2_code
abbrev y_Pl_spare : MethodName := ⟨"SegmentIndex$Pile", "spare", "()LSegmentIndex$HitSet;"⟩
theorem d_Pl_spare_0 : decode b_Pl_spare 0 = .ok (.aload_n 0, 1) := by decide +kernel
theorem d_Pl_spare_1 : decode b_Pl_spare 1 = .ok (.getfield 11, 3) := by decide +kernel
theorem d_Pl_spare_4 : decode b_Pl_spare 4 = .ok (.aload_n 0, 1) := by decide +kernel
theorem d_Pl_spare_5 : decode b_Pl_spare 5 = .ok (.getfield 17, 3) := by decide +kernel
theorem d_Pl_spare_8 : decode b_Pl_spare 8 = .ok (.aaload, 1) := by decide +kernel
theorem d_Pl_spare_9 : decode b_Pl_spare 9 = .ok (.astore_n 1, 1) := by decide +kernel
theorem d_Pl_spare_10 : decode b_Pl_spare 10 = .ok (.aload_n 1, 1) := by decide +kernel
theorem d_Pl_spare_11 : decode b_Pl_spare 11 = .ok (.invokevirtual 22, 3) := by decide +kernel
theorem d_Pl_spare_14 : decode b_Pl_spare 14 = .ok (.aload_n 1, 1) := by decide +kernel
theorem d_Pl_spare_15 : decode b_Pl_spare 15 = .ok (.areturn, 1) := by decide +kernel
abbrev b_HS_clear : ByteArray := prog_2_method_2_code
abbrev y_HS_clear : MethodName := ⟨"SegmentIndex$HitSet", "clear", "()V"⟩
theorem d_HS_clear_0 : decode b_HS_clear 0 = .ok (.aload_n 0, 1) := by decide +kernel
theorem d_HS_clear_1 : decode b_HS_clear 1 = .ok (.iconst 0, 1) := by decide +kernel
theorem d_HS_clear_2 : decode b_HS_clear 2 = .ok (.putfield 15, 3) := by decide +kernel
theorem d_HS_clear_5 : decode b_HS_clear 5 = .ok (.return_, 1) := by decide +kernel
abbrev b_HS_endsDocument : ByteArray := prog_2_method_6_code
abbrev y_HS_endsDocument : MethodName := ⟨"SegmentIndex$HitSet", "endsDocument", "(I)Z"⟩
theorem d_HS_endsDocument_0 : decode b_HS_endsDocument 0 = .ok (.iload_n 1, 1) := by decide +kernel
theorem d_HS_endsDocument_1 : decode b_HS_endsDocument 1 = .ok (.iconst 1, 1) := by decide +kernel
theorem d_HS_endsDocument_2 : decode b_HS_endsDocument 2 = .ok (.iadd, 1) := by decide +kernel
theorem d_HS_endsDocument_3 : decode b_HS_endsDocument 3 = .ok (.aload_n 0, 1) := by decide +kernel
theorem d_HS_endsDocument_4 : decode b_HS_endsDocument 4 = .ok (.getfield 15, 3) := by decide +kernel
theorem d_HS_endsDocument_7 : decode b_HS_endsDocument 7 = .ok (.if_icmp .ge 26, 3) := by decide +kernel
theorem d_HS_endsDocument_10 : decode b_HS_endsDocument 10 = .ok (.aload_n 0, 1) := by decide +kernel
theorem d_HS_endsDocument_11 : decode b_HS_endsDocument 11 = .ok (.getfield 9, 3) := by decide +kernel
theorem d_HS_endsDocument_14 : decode b_HS_endsDocument 14 = .ok (.iload_n 1, 1) := by decide +kernel
theorem d_HS_endsDocument_15 : decode b_HS_endsDocument 15 = .ok (.iconst 1, 1) := by decide +kernel
theorem d_HS_endsDocument_16 : decode b_HS_endsDocument 16 = .ok (.iadd, 1) := by decide +kernel
theorem d_HS_endsDocument_17 : decode b_HS_endsDocument 17 = .ok (.iaload, 1) := by decide +kernel
theorem d_HS_endsDocument_18 : decode b_HS_endsDocument 18 = .ok (.invokestatic 32, 3) := by decide +kernel
theorem d_HS_endsDocument_21 : decode b_HS_endsDocument 21 = .ok (.aload_n 0, 1) := by decide +kernel
theorem d_HS_endsDocument_22 : decode b_HS_endsDocument 22 = .ok (.getfield 9, 3) := by decide +kernel
theorem d_HS_endsDocument_25 : decode b_HS_endsDocument 25 = .ok (.iload_n 1, 1) := by decide +kernel
theorem d_HS_endsDocument_26 : decode b_HS_endsDocument 26 = .ok (.iaload, 1) := by decide +kernel
theorem d_HS_endsDocument_27 : decode b_HS_endsDocument 27 = .ok (.invokestatic 32, 3) := by decide +kernel
theorem d_HS_endsDocument_30 : decode b_HS_endsDocument 30 = .ok (.if_icmp .eq 7, 3) := by decide +kernel
theorem d_HS_endsDocument_33 : decode b_HS_endsDocument 33 = .ok (.iconst 1, 1) := by decide +kernel
theorem d_HS_endsDocument_34 : decode b_HS_endsDocument 34 = .ok (.goto 4, 3) := by decide +kernel
theorem d_HS_endsDocument_37 : decode b_HS_endsDocument 37 = .ok (.iconst 0, 1) := by decide +kernel
theorem d_HS_endsDocument_38 : decode b_HS_endsDocument 38 = .ok (.ireturn, 1) := by decide +kernel
abbrev b_Tk_insert : ByteArray := prog_7_method_2_code
abbrev y_Tk_insert : MethodName := ⟨"SegmentIndex$Tokens", "insert", "(IIJ)V"⟩
theorem d_Tk_insert_0 : decode b_Tk_insert 0 = .ok (.iload_n 1, 1) := by decide +kernel
theorem d_Tk_insert_1 : decode b_Tk_insert 1 = .ok (.ifCond .lt 11, 3) := by decide +kernel
theorem d_Tk_insert_4 : decode b_Tk_insert 4 = .ok (.iload_n 1, 1) := by decide +kernel
theorem d_Tk_insert_5 : decode b_Tk_insert 5 = .ok (.aload_n 0, 1) := by decide +kernel
theorem d_Tk_insert_6 : decode b_Tk_insert 6 = .ok (.getfield 19, 3) := by decide +kernel
theorem d_Tk_insert_9 : decode b_Tk_insert 9 = .ok (.if_icmp .le 4, 3) := by decide +kernel
theorem d_Tk_insert_12 : decode b_Tk_insert 12 = .ok (.return_, 1) := by decide +kernel
theorem d_Tk_insert_13 : decode b_Tk_insert 13 = .ok (.aload_n 0, 1) := by decide +kernel
theorem d_Tk_insert_14 : decode b_Tk_insert 14 = .ok (.getfield 19, 3) := by decide +kernel
theorem d_Tk_insert_17 : decode b_Tk_insert 17 = .ok (.aload_n 0, 1) := by decide +kernel
theorem d_Tk_insert_18 : decode b_Tk_insert 18 = .ok (.getfield 9, 3) := by decide +kernel
theorem d_Tk_insert_21 : decode b_Tk_insert 21 = .ok (.arraylength, 1) := by decide +kernel
theorem d_Tk_insert_22 : decode b_Tk_insert 22 = .ok (.if_icmp .lt 37, 3) := by decide +kernel
theorem d_Tk_insert_25 : decode b_Tk_insert 25 = .ok (.aload_n 0, 1) := by decide +kernel
theorem d_Tk_insert_26 : decode b_Tk_insert 26 = .ok (.aload_n 0, 1) := by decide +kernel
theorem d_Tk_insert_27 : decode b_Tk_insert 27 = .ok (.getfield 9, 3) := by decide +kernel
theorem d_Tk_insert_30 : decode b_Tk_insert 30 = .ok (.iconst 2, 1) := by decide +kernel
theorem d_Tk_insert_31 : decode b_Tk_insert 31 = .ok (.aload_n 0, 1) := by decide +kernel
theorem d_Tk_insert_32 : decode b_Tk_insert 32 = .ok (.getfield 9, 3) := by decide +kernel
theorem d_Tk_insert_35 : decode b_Tk_insert 35 = .ok (.arraylength, 1) := by decide +kernel
theorem d_Tk_insert_36 : decode b_Tk_insert 36 = .ok (.imul, 1) := by decide +kernel
theorem d_Tk_insert_37 : decode b_Tk_insert 37 = .ok (.invokestatic 23, 3) := by decide +kernel
theorem d_Tk_insert_40 : decode b_Tk_insert 40 = .ok (.putfield 9, 3) := by decide +kernel
theorem d_Tk_insert_43 : decode b_Tk_insert 43 = .ok (.aload_n 0, 1) := by decide +kernel
theorem d_Tk_insert_44 : decode b_Tk_insert 44 = .ok (.aload_n 0, 1) := by decide +kernel
theorem d_Tk_insert_45 : decode b_Tk_insert 45 = .ok (.getfield 15, 3) := by decide +kernel
theorem d_Tk_insert_48 : decode b_Tk_insert 48 = .ok (.aload_n 0, 1) := by decide +kernel
theorem d_Tk_insert_49 : decode b_Tk_insert 49 = .ok (.getfield 9, 3) := by decide +kernel
theorem d_Tk_insert_52 : decode b_Tk_insert 52 = .ok (.arraylength, 1) := by decide +kernel
theorem d_Tk_insert_53 : decode b_Tk_insert 53 = .ok (.invokestatic 29, 3) := by decide +kernel
theorem d_Tk_insert_56 : decode b_Tk_insert 56 = .ok (.putfield 15, 3) := by decide +kernel
theorem d_Tk_insert_59 : decode b_Tk_insert 59 = .ok (.aload_n 0, 1) := by decide +kernel
theorem d_Tk_insert_60 : decode b_Tk_insert 60 = .ok (.getfield 9, 3) := by decide +kernel
theorem d_Tk_insert_63 : decode b_Tk_insert 63 = .ok (.iload_n 1, 1) := by decide +kernel
theorem d_Tk_insert_64 : decode b_Tk_insert 64 = .ok (.aload_n 0, 1) := by decide +kernel
theorem d_Tk_insert_65 : decode b_Tk_insert 65 = .ok (.getfield 9, 3) := by decide +kernel
theorem d_Tk_insert_68 : decode b_Tk_insert 68 = .ok (.iload_n 1, 1) := by decide +kernel
theorem d_Tk_insert_69 : decode b_Tk_insert 69 = .ok (.iconst 1, 1) := by decide +kernel
theorem d_Tk_insert_70 : decode b_Tk_insert 70 = .ok (.iadd, 1) := by decide +kernel
theorem d_Tk_insert_71 : decode b_Tk_insert 71 = .ok (.aload_n 0, 1) := by decide +kernel
theorem d_Tk_insert_72 : decode b_Tk_insert 72 = .ok (.getfield 19, 3) := by decide +kernel
theorem d_Tk_insert_75 : decode b_Tk_insert 75 = .ok (.iload_n 1, 1) := by decide +kernel
theorem d_Tk_insert_76 : decode b_Tk_insert 76 = .ok (.isub, 1) := by decide +kernel
theorem d_Tk_insert_77 : decode b_Tk_insert 77 = .ok (.invokestatic 32, 3) := by decide +kernel
theorem d_Tk_insert_80 : decode b_Tk_insert 80 = .ok (.aload_n 0, 1) := by decide +kernel
theorem d_Tk_insert_81 : decode b_Tk_insert 81 = .ok (.getfield 15, 3) := by decide +kernel
theorem d_Tk_insert_84 : decode b_Tk_insert 84 = .ok (.iload_n 1, 1) := by decide +kernel
theorem d_Tk_insert_85 : decode b_Tk_insert 85 = .ok (.aload_n 0, 1) := by decide +kernel
theorem d_Tk_insert_86 : decode b_Tk_insert 86 = .ok (.getfield 15, 3) := by decide +kernel
theorem d_Tk_insert_89 : decode b_Tk_insert 89 = .ok (.iload_n 1, 1) := by decide +kernel
theorem d_Tk_insert_90 : decode b_Tk_insert 90 = .ok (.iconst 1, 1) := by decide +kernel
theorem d_Tk_insert_91 : decode b_Tk_insert 91 = .ok (.iadd, 1) := by decide +kernel
theorem d_Tk_insert_92 : decode b_Tk_insert 92 = .ok (.aload_n 0, 1) := by decide +kernel
theorem d_Tk_insert_93 : decode b_Tk_insert 93 = .ok (.getfield 19, 3) := by decide +kernel
theorem d_Tk_insert_96 : decode b_Tk_insert 96 = .ok (.iload_n 1, 1) := by decide +kernel
theorem d_Tk_insert_97 : decode b_Tk_insert 97 = .ok (.isub, 1) := by decide +kernel
theorem d_Tk_insert_98 : decode b_Tk_insert 98 = .ok (.invokestatic 32, 3) := by decide +kernel
theorem d_Tk_insert_101 : decode b_Tk_insert 101 = .ok (.aload_n 0, 1) := by decide +kernel
theorem d_Tk_insert_102 : decode b_Tk_insert 102 = .ok (.getfield 9, 3) := by decide +kernel
theorem d_Tk_insert_105 : decode b_Tk_insert 105 = .ok (.iload_n 1, 1) := by decide +kernel
theorem d_Tk_insert_106 : decode b_Tk_insert 106 = .ok (.iload_n 2, 1) := by decide +kernel
theorem d_Tk_insert_107 : decode b_Tk_insert 107 = .ok (.iastore, 1) := by decide +kernel
theorem d_Tk_insert_108 : decode b_Tk_insert 108 = .ok (.aload_n 0, 1) := by decide +kernel
theorem d_Tk_insert_109 : decode b_Tk_insert 109 = .ok (.getfield 15, 3) := by decide +kernel
theorem d_Tk_insert_112 : decode b_Tk_insert 112 = .ok (.iload_n 1, 1) := by decide +kernel
theorem d_Tk_insert_113 : decode b_Tk_insert 113 = .ok (.lload_n 3, 1) := by decide +kernel
theorem d_Tk_insert_114 : decode b_Tk_insert 114 = .ok (.lastore, 1) := by decide +kernel
theorem d_Tk_insert_115 : decode b_Tk_insert 115 = .ok (.aload_n 0, 1) := by decide +kernel
theorem d_Tk_insert_116 : decode b_Tk_insert 116 = .ok (.dup, 1) := by decide +kernel
theorem d_Tk_insert_117 : decode b_Tk_insert 117 = .ok (.getfield 19, 3) := by decide +kernel
theorem d_Tk_insert_120 : decode b_Tk_insert 120 = .ok (.iconst 1, 1) := by decide +kernel
theorem d_Tk_insert_121 : decode b_Tk_insert 121 = .ok (.iadd, 1) := by decide +kernel
theorem d_Tk_insert_122 : decode b_Tk_insert 122 = .ok (.putfield 19, 3) := by decide +kernel
theorem d_Tk_insert_125 : decode b_Tk_insert 125 = .ok (.return_, 1) := by decide +kernel
abbrev b_HS_put : ByteArray := prog_2_method_3_code
abbrev y_HS_put : MethodName := ⟨"SegmentIndex$HitSet", "put", "(I)V"⟩
theorem d_HS_put_0 : decode b_HS_put 0 = .ok (.aload_n 0, 1) := by decide +kernel
theorem d_HS_put_1 : decode b_HS_put 1 = .ok (.getfield 15, 3) := by decide +kernel
theorem d_HS_put_4 : decode b_HS_put 4 = .ok (.ifCond .le 19, 3) := by decide +kernel
theorem d_HS_put_7 : decode b_HS_put 7 = .ok (.aload_n 0, 1) := by decide +kernel
theorem d_HS_put_8 : decode b_HS_put 8 = .ok (.getfield 9, 3) := by decide +kernel
theorem d_HS_put_11 : decode b_HS_put 11 = .ok (.aload_n 0, 1) := by decide +kernel
theorem d_HS_put_12 : decode b_HS_put 12 = .ok (.getfield 15, 3) := by decide +kernel
theorem d_HS_put_15 : decode b_HS_put 15 = .ok (.iconst 1, 1) := by decide +kernel
theorem d_HS_put_16 : decode b_HS_put 16 = .ok (.isub, 1) := by decide +kernel
theorem d_HS_put_17 : decode b_HS_put 17 = .ok (.iaload, 1) := by decide +kernel
theorem d_HS_put_18 : decode b_HS_put 18 = .ok (.iload_n 1, 1) := by decide +kernel
theorem d_HS_put_19 : decode b_HS_put 19 = .ok (.if_icmp .ne 4, 3) := by decide +kernel
theorem d_HS_put_22 : decode b_HS_put 22 = .ok (.return_, 1) := by decide +kernel
theorem d_HS_put_23 : decode b_HS_put 23 = .ok (.aload_n 0, 1) := by decide +kernel
theorem d_HS_put_24 : decode b_HS_put 24 = .ok (.getfield 15, 3) := by decide +kernel
theorem d_HS_put_27 : decode b_HS_put 27 = .ok (.aload_n 0, 1) := by decide +kernel
theorem d_HS_put_28 : decode b_HS_put 28 = .ok (.getfield 9, 3) := by decide +kernel
theorem d_HS_put_31 : decode b_HS_put 31 = .ok (.arraylength, 1) := by decide +kernel
theorem d_HS_put_32 : decode b_HS_put 32 = .ok (.if_icmp .lt 21, 3) := by decide +kernel
theorem d_HS_put_35 : decode b_HS_put 35 = .ok (.aload_n 0, 1) := by decide +kernel
theorem d_HS_put_36 : decode b_HS_put 36 = .ok (.aload_n 0, 1) := by decide +kernel
theorem d_HS_put_37 : decode b_HS_put 37 = .ok (.getfield 9, 3) := by decide +kernel
theorem d_HS_put_40 : decode b_HS_put 40 = .ok (.iconst 2, 1) := by decide +kernel
theorem d_HS_put_41 : decode b_HS_put 41 = .ok (.aload_n 0, 1) := by decide +kernel
theorem d_HS_put_42 : decode b_HS_put 42 = .ok (.getfield 9, 3) := by decide +kernel
theorem d_HS_put_45 : decode b_HS_put 45 = .ok (.arraylength, 1) := by decide +kernel
theorem d_HS_put_46 : decode b_HS_put 46 = .ok (.imul, 1) := by decide +kernel
theorem d_HS_put_47 : decode b_HS_put 47 = .ok (.invokestatic 19, 3) := by decide +kernel
theorem d_HS_put_50 : decode b_HS_put 50 = .ok (.putfield 9, 3) := by decide +kernel
theorem d_HS_put_53 : decode b_HS_put 53 = .ok (.aload_n 0, 1) := by decide +kernel
theorem d_HS_put_54 : decode b_HS_put 54 = .ok (.getfield 9, 3) := by decide +kernel
theorem d_HS_put_57 : decode b_HS_put 57 = .ok (.aload_n 0, 1) := by decide +kernel
theorem d_HS_put_58 : decode b_HS_put 58 = .ok (.getfield 15, 3) := by decide +kernel
theorem d_HS_put_61 : decode b_HS_put 61 = .ok (.iload_n 1, 1) := by decide +kernel
theorem d_HS_put_62 : decode b_HS_put 62 = .ok (.iastore, 1) := by decide +kernel
theorem d_HS_put_63 : decode b_HS_put 63 = .ok (.aload_n 0, 1) := by decide +kernel
theorem d_HS_put_64 : decode b_HS_put 64 = .ok (.dup, 1) := by decide +kernel
theorem d_HS_put_65 : decode b_HS_put 65 = .ok (.getfield 15, 3) := by decide +kernel
theorem d_HS_put_68 : decode b_HS_put 68 = .ok (.iconst 1, 1) := by decide +kernel
theorem d_HS_put_69 : decode b_HS_put 69 = .ok (.iadd, 1) := by decide +kernel
theorem d_HS_put_70 : decode b_HS_put 70 = .ok (.putfield 15, 3) := by decide +kernel
theorem d_HS_put_73 : decode b_HS_put 73 = .ok (.return_, 1) := by decide +kernel
abbrev b_Pl_settle : ByteArray := prog_4_method_4_code
abbrev y_Pl_settle : MethodName := ⟨"SegmentIndex$Pile", "settle", "(I)I"⟩
theorem d_Pl_settle_0 : decode b_Pl_settle 0 = .ok (.aload_n 0, 1) := by decide +kernel
theorem d_Pl_settle_1 : decode b_Pl_settle 1 = .ok (.getfield 17, 3) := by decide +kernel
theorem d_Pl_settle_4 : decode b_Pl_settle 4 = .ok (.iload_n 1, 1) := by decide +kernel
theorem d_Pl_settle_5 : decode b_Pl_settle 5 = .ok (.isub, 1) := by decide +kernel
theorem d_Pl_settle_6 : decode b_Pl_settle 6 = .ok (.istore_n 2, 1) := by decide +kernel
theorem d_Pl_settle_7 : decode b_Pl_settle 7 = .ok (.iload_n 2, 1) := by decide +kernel
theorem d_Pl_settle_8 : decode b_Pl_settle 8 = .ok (.ifCond .lt 9, 3) := by decide +kernel
theorem d_Pl_settle_11 : decode b_Pl_settle 11 = .ok (.iload_n 2, 1) := by decide +kernel
theorem d_Pl_settle_12 : decode b_Pl_settle 12 = .ok (.bipush 8, 2) := by decide +kernel
theorem d_Pl_settle_14 : decode b_Pl_settle 14 = .ok (.if_icmp .lt 5, 3) := by decide +kernel
theorem d_Pl_settle_17 : decode b_Pl_settle 17 = .ok (.iconst (-1), 1) := by decide +kernel
theorem d_Pl_settle_18 : decode b_Pl_settle 18 = .ok (.ireturn, 1) := by decide +kernel
theorem d_Pl_settle_19 : decode b_Pl_settle 19 = .ok (.aload_n 0, 1) := by decide +kernel
theorem d_Pl_settle_20 : decode b_Pl_settle 20 = .ok (.getfield 11, 3) := by decide +kernel
theorem d_Pl_settle_23 : decode b_Pl_settle 23 = .ok (.aload_n 0, 1) := by decide +kernel
theorem d_Pl_settle_24 : decode b_Pl_settle 24 = .ok (.getfield 17, 3) := by decide +kernel
theorem d_Pl_settle_27 : decode b_Pl_settle 27 = .ok (.aaload, 1) := by decide +kernel
theorem d_Pl_settle_28 : decode b_Pl_settle 28 = .ok (.astore_n 3, 1) := by decide +kernel
theorem d_Pl_settle_29 : decode b_Pl_settle 29 = .ok (.aload_n 0, 1) := by decide +kernel
theorem d_Pl_settle_30 : decode b_Pl_settle 30 = .ok (.getfield 11, 3) := by decide +kernel
theorem d_Pl_settle_33 : decode b_Pl_settle 33 = .ok (.aload_n 0, 1) := by decide +kernel
theorem d_Pl_settle_34 : decode b_Pl_settle 34 = .ok (.getfield 17, 3) := by decide +kernel
theorem d_Pl_settle_37 : decode b_Pl_settle 37 = .ok (.aload_n 0, 1) := by decide +kernel
theorem d_Pl_settle_38 : decode b_Pl_settle 38 = .ok (.getfield 11, 3) := by decide +kernel
theorem d_Pl_settle_41 : decode b_Pl_settle 41 = .ok (.iload_n 2, 1) := by decide +kernel
theorem d_Pl_settle_42 : decode b_Pl_settle 42 = .ok (.aaload, 1) := by decide +kernel
theorem d_Pl_settle_43 : decode b_Pl_settle 43 = .ok (.aastore, 1) := by decide +kernel
theorem d_Pl_settle_44 : decode b_Pl_settle 44 = .ok (.aload_n 0, 1) := by decide +kernel
theorem d_Pl_settle_45 : decode b_Pl_settle 45 = .ok (.getfield 11, 3) := by decide +kernel
theorem d_Pl_settle_48 : decode b_Pl_settle 48 = .ok (.iload_n 2, 1) := by decide +kernel
theorem d_Pl_settle_49 : decode b_Pl_settle 49 = .ok (.aload_n 3, 1) := by decide +kernel
theorem d_Pl_settle_50 : decode b_Pl_settle 50 = .ok (.aastore, 1) := by decide +kernel
theorem d_Pl_settle_51 : decode b_Pl_settle 51 = .ok (.aload_n 0, 1) := by decide +kernel
theorem d_Pl_settle_52 : decode b_Pl_settle 52 = .ok (.iload_n 2, 1) := by decide +kernel
theorem d_Pl_settle_53 : decode b_Pl_settle 53 = .ok (.iconst 1, 1) := by decide +kernel
theorem d_Pl_settle_54 : decode b_Pl_settle 54 = .ok (.iadd, 1) := by decide +kernel
theorem d_Pl_settle_55 : decode b_Pl_settle 55 = .ok (.putfield 17, 3) := by decide +kernel
theorem d_Pl_settle_58 : decode b_Pl_settle 58 = .ok (.aload_n 3, 1) := by decide +kernel
theorem d_Pl_settle_59 : decode b_Pl_settle 59 = .ok (.getfield 29, 3) := by decide +kernel
theorem d_Pl_settle_62 : decode b_Pl_settle 62 = .ok (.ireturn, 1) := by decide +kernel
abbrev b_HS_keepByDistance : ByteArray := prog_2_method_11_code
abbrev y_HS_keepByDistance : MethodName := ⟨"SegmentIndex$HitSet", "keepByDistance", "(LSegmentIndex$HitSet;II)V"⟩
theorem d_HS_keepByDistance_0 : decode b_HS_keepByDistance 0 = .ok (.iconst 0, 1) := by decide +kernel
theorem d_HS_keepByDistance_1 : decode b_HS_keepByDistance 1 = .ok (.istore 4, 2) := by decide +kernel
theorem d_HS_keepByDistance_3 : decode b_HS_keepByDistance 3 = .ok (.iconst 0, 1) := by decide +kernel
theorem d_HS_keepByDistance_4 : decode b_HS_keepByDistance 4 = .ok (.istore 5, 2) := by decide +kernel
theorem d_HS_keepByDistance_6 : decode b_HS_keepByDistance 6 = .ok (.iload 5, 2) := by decide +kernel
theorem d_HS_keepByDistance_8 : decode b_HS_keepByDistance 8 = .ok (.aload_n 0, 1) := by decide +kernel
theorem d_HS_keepByDistance_9 : decode b_HS_keepByDistance 9 = .ok (.getfield 15, 3) := by decide +kernel
theorem d_HS_keepByDistance_12 : decode b_HS_keepByDistance 12 = .ok (.if_icmp .ge 42, 3) := by decide +kernel
theorem d_HS_keepByDistance_15 : decode b_HS_keepByDistance 15 = .ok (.aload_n 1, 1) := by decide +kernel
theorem d_HS_keepByDistance_16 : decode b_HS_keepByDistance 16 = .ok (.aload_n 0, 1) := by decide +kernel
theorem d_HS_keepByDistance_17 : decode b_HS_keepByDistance 17 = .ok (.getfield 9, 3) := by decide +kernel
theorem d_HS_keepByDistance_20 : decode b_HS_keepByDistance 20 = .ok (.iload 5, 2) := by decide +kernel
theorem d_HS_keepByDistance_22 : decode b_HS_keepByDistance 22 = .ok (.iaload, 1) := by decide +kernel
theorem d_HS_keepByDistance_23 : decode b_HS_keepByDistance 23 = .ok (.iload_n 2, 1) := by decide +kernel
theorem d_HS_keepByDistance_24 : decode b_HS_keepByDistance 24 = .ok (.iload_n 3, 1) := by decide +kernel
theorem d_HS_keepByDistance_25 : decode b_HS_keepByDistance 25 = .ok (.invokevirtual 60, 3) := by decide +kernel
theorem d_HS_keepByDistance_28 : decode b_HS_keepByDistance 28 = .ok (.ifCond .eq 20, 3) := by decide +kernel
theorem d_HS_keepByDistance_31 : decode b_HS_keepByDistance 31 = .ok (.aload_n 0, 1) := by decide +kernel
theorem d_HS_keepByDistance_32 : decode b_HS_keepByDistance 32 = .ok (.getfield 9, 3) := by decide +kernel
theorem d_HS_keepByDistance_35 : decode b_HS_keepByDistance 35 = .ok (.iload 4, 2) := by decide +kernel
theorem d_HS_keepByDistance_37 : decode b_HS_keepByDistance 37 = .ok (.aload_n 0, 1) := by decide +kernel
theorem d_HS_keepByDistance_38 : decode b_HS_keepByDistance 38 = .ok (.getfield 9, 3) := by decide +kernel
theorem d_HS_keepByDistance_41 : decode b_HS_keepByDistance 41 = .ok (.iload 5, 2) := by decide +kernel
theorem d_HS_keepByDistance_43 : decode b_HS_keepByDistance 43 = .ok (.iaload, 1) := by decide +kernel
theorem d_HS_keepByDistance_44 : decode b_HS_keepByDistance 44 = .ok (.iastore, 1) := by decide +kernel
theorem d_HS_keepByDistance_45 : decode b_HS_keepByDistance 45 = .ok (.iinc 4 1, 3) := by decide +kernel
theorem d_HS_keepByDistance_48 : decode b_HS_keepByDistance 48 = .ok (.iinc 5 1, 3) := by decide +kernel
theorem d_HS_keepByDistance_51 : decode b_HS_keepByDistance 51 = .ok (.goto (-45), 3) := by decide +kernel
theorem d_HS_keepByDistance_54 : decode b_HS_keepByDistance 54 = .ok (.aload_n 0, 1) := by decide +kernel
theorem d_HS_keepByDistance_55 : decode b_HS_keepByDistance 55 = .ok (.iload 4, 2) := by decide +kernel
theorem d_HS_keepByDistance_57 : decode b_HS_keepByDistance 57 = .ok (.putfield 15, 3) := by decide +kernel
theorem d_HS_keepByDistance_60 : decode b_HS_keepByDistance 60 = .ok (.return_, 1) := by decide +kernel
abbrev b_HS_hasAtDistance : ByteArray := prog_2_method_9_code
abbrev y_HS_hasAtDistance : MethodName := ⟨"SegmentIndex$HitSet", "hasAtDistance", "(III)Z"⟩
theorem d_HS_hasAtDistance_0 : decode b_HS_hasAtDistance 0 = .ok (.iload_n 1, 1) := by decide +kernel
theorem d_HS_hasAtDistance_1 : decode b_HS_hasAtDistance 1 = .ok (.invokestatic 44, 3) := by decide +kernel
theorem d_HS_hasAtDistance_4 : decode b_HS_hasAtDistance 4 = .ok (.istore 4, 2) := by decide +kernel
theorem d_HS_hasAtDistance_6 : decode b_HS_hasAtDistance 6 = .ok (.iload_n 1, 1) := by decide +kernel
theorem d_HS_hasAtDistance_7 : decode b_HS_hasAtDistance 7 = .ok (.iload 4, 2) := by decide +kernel
theorem d_HS_hasAtDistance_9 : decode b_HS_hasAtDistance 9 = .ok (.isub, 1) := by decide +kernel
theorem d_HS_hasAtDistance_10 : decode b_HS_hasAtDistance 10 = .ok (.istore 5, 2) := by decide +kernel
theorem d_HS_hasAtDistance_12 : decode b_HS_hasAtDistance 12 = .ok (.iload 4, 2) := by decide +kernel
theorem d_HS_hasAtDistance_14 : decode b_HS_hasAtDistance 14 = .ok (.iload_n 2, 1) := by decide +kernel
theorem d_HS_hasAtDistance_15 : decode b_HS_hasAtDistance 15 = .ok (.iadd, 1) := by decide +kernel
theorem d_HS_hasAtDistance_16 : decode b_HS_hasAtDistance 16 = .ok (.iconst 0, 1) := by decide +kernel
theorem d_HS_hasAtDistance_17 : decode b_HS_hasAtDistance 17 = .ok (.invokestatic 47, 3) := by decide +kernel
theorem d_HS_hasAtDistance_20 : decode b_HS_hasAtDistance 20 = .ok (.istore 6, 2) := by decide +kernel
theorem d_HS_hasAtDistance_22 : decode b_HS_hasAtDistance 22 = .ok (.iload 4, 2) := by decide +kernel
theorem d_HS_hasAtDistance_24 : decode b_HS_hasAtDistance 24 = .ok (.iload_n 3, 1) := by decide +kernel
theorem d_HS_hasAtDistance_25 : decode b_HS_hasAtDistance 25 = .ok (.iadd, 1) := by decide +kernel
theorem d_HS_hasAtDistance_26 : decode b_HS_hasAtDistance 26 = .ok (.sipush 4095, 3) := by decide +kernel
theorem d_HS_hasAtDistance_29 : decode b_HS_hasAtDistance 29 = .ok (.invokestatic 53, 3) := by decide +kernel
theorem d_HS_hasAtDistance_32 : decode b_HS_hasAtDistance 32 = .ok (.istore 7, 2) := by decide +kernel
theorem d_HS_hasAtDistance_34 : decode b_HS_hasAtDistance 34 = .ok (.aload_n 0, 1) := by decide +kernel
theorem d_HS_hasAtDistance_35 : decode b_HS_hasAtDistance 35 = .ok (.iload 5, 2) := by decide +kernel
theorem d_HS_hasAtDistance_37 : decode b_HS_hasAtDistance 37 = .ok (.iload 6, 2) := by decide +kernel
theorem d_HS_hasAtDistance_39 : decode b_HS_hasAtDistance 39 = .ok (.iadd, 1) := by decide +kernel
theorem d_HS_hasAtDistance_40 : decode b_HS_hasAtDistance 40 = .ok (.iload 5, 2) := by decide +kernel
theorem d_HS_hasAtDistance_42 : decode b_HS_hasAtDistance 42 = .ok (.iload 7, 2) := by decide +kernel
theorem d_HS_hasAtDistance_44 : decode b_HS_hasAtDistance 44 = .ok (.iadd, 1) := by decide +kernel
theorem d_HS_hasAtDistance_45 : decode b_HS_hasAtDistance 45 = .ok (.invokevirtual 40, 3) := by decide +kernel
theorem d_HS_hasAtDistance_48 : decode b_HS_hasAtDistance 48 = .ok (.ireturn, 1) := by decide +kernel
abbrev b_HS_hasWithin : ByteArray := prog_2_method_7_code
abbrev y_HS_hasWithin : MethodName := ⟨"SegmentIndex$HitSet", "hasWithin", "(II)Z"⟩
theorem d_HS_hasWithin_0 : decode b_HS_hasWithin 0 = .ok (.iconst 0, 1) := by decide +kernel
theorem d_HS_hasWithin_1 : decode b_HS_hasWithin 1 = .ok (.istore_n 3, 1) := by decide +kernel
theorem d_HS_hasWithin_2 : decode b_HS_hasWithin 2 = .ok (.aload_n 0, 1) := by decide +kernel
theorem d_HS_hasWithin_3 : decode b_HS_hasWithin 3 = .ok (.getfield 15, 3) := by decide +kernel
theorem d_HS_hasWithin_6 : decode b_HS_hasWithin 6 = .ok (.istore 4, 2) := by decide +kernel
theorem d_HS_hasWithin_8 : decode b_HS_hasWithin 8 = .ok (.iload_n 3, 1) := by decide +kernel
theorem d_HS_hasWithin_9 : decode b_HS_hasWithin 9 = .ok (.iload 4, 2) := by decide +kernel
theorem d_HS_hasWithin_11 : decode b_HS_hasWithin 11 = .ok (.if_icmp .ge 37, 3) := by decide +kernel
theorem d_HS_hasWithin_14 : decode b_HS_hasWithin 14 = .ok (.iload_n 3, 1) := by decide +kernel
theorem d_HS_hasWithin_15 : decode b_HS_hasWithin 15 = .ok (.iload 4, 2) := by decide +kernel
theorem d_HS_hasWithin_17 : decode b_HS_hasWithin 17 = .ok (.iadd, 1) := by decide +kernel
theorem d_HS_hasWithin_18 : decode b_HS_hasWithin 18 = .ok (.iconst 1, 1) := by decide +kernel
theorem d_HS_hasWithin_19 : decode b_HS_hasWithin 19 = .ok (.iushr, 1) := by decide +kernel
theorem d_HS_hasWithin_20 : decode b_HS_hasWithin 20 = .ok (.istore 5, 2) := by decide +kernel
theorem d_HS_hasWithin_22 : decode b_HS_hasWithin 22 = .ok (.aload_n 0, 1) := by decide +kernel
theorem d_HS_hasWithin_23 : decode b_HS_hasWithin 23 = .ok (.getfield 9, 3) := by decide +kernel
theorem d_HS_hasWithin_26 : decode b_HS_hasWithin 26 = .ok (.iload 5, 2) := by decide +kernel
theorem d_HS_hasWithin_28 : decode b_HS_hasWithin 28 = .ok (.iaload, 1) := by decide +kernel
theorem d_HS_hasWithin_29 : decode b_HS_hasWithin 29 = .ok (.iload_n 1, 1) := by decide +kernel
theorem d_HS_hasWithin_30 : decode b_HS_hasWithin 30 = .ok (.if_icmp .ge 11, 3) := by decide +kernel
theorem d_HS_hasWithin_33 : decode b_HS_hasWithin 33 = .ok (.iload 5, 2) := by decide +kernel
theorem d_HS_hasWithin_35 : decode b_HS_hasWithin 35 = .ok (.iconst 1, 1) := by decide +kernel
theorem d_HS_hasWithin_36 : decode b_HS_hasWithin 36 = .ok (.iadd, 1) := by decide +kernel
theorem d_HS_hasWithin_37 : decode b_HS_hasWithin 37 = .ok (.istore_n 3, 1) := by decide +kernel
theorem d_HS_hasWithin_38 : decode b_HS_hasWithin 38 = .ok (.goto 7, 3) := by decide +kernel
theorem d_HS_hasWithin_41 : decode b_HS_hasWithin 41 = .ok (.iload 5, 2) := by decide +kernel
theorem d_HS_hasWithin_43 : decode b_HS_hasWithin 43 = .ok (.istore 4, 2) := by decide +kernel
theorem d_HS_hasWithin_45 : decode b_HS_hasWithin 45 = .ok (.goto (-37), 3) := by decide +kernel
theorem d_HS_hasWithin_48 : decode b_HS_hasWithin 48 = .ok (.iload_n 3, 1) := by decide +kernel
theorem d_HS_hasWithin_49 : decode b_HS_hasWithin 49 = .ok (.aload_n 0, 1) := by decide +kernel
theorem d_HS_hasWithin_50 : decode b_HS_hasWithin 50 = .ok (.getfield 15, 3) := by decide +kernel
theorem d_HS_hasWithin_53 : decode b_HS_hasWithin 53 = .ok (.if_icmp .ge 17, 3) := by decide +kernel
theorem d_HS_hasWithin_56 : decode b_HS_hasWithin 56 = .ok (.aload_n 0, 1) := by decide +kernel
theorem d_HS_hasWithin_57 : decode b_HS_hasWithin 57 = .ok (.getfield 9, 3) := by decide +kernel
theorem d_HS_hasWithin_60 : decode b_HS_hasWithin 60 = .ok (.iload_n 3, 1) := by decide +kernel
theorem d_HS_hasWithin_61 : decode b_HS_hasWithin 61 = .ok (.iaload, 1) := by decide +kernel
theorem d_HS_hasWithin_62 : decode b_HS_hasWithin 62 = .ok (.iload_n 2, 1) := by decide +kernel
theorem d_HS_hasWithin_63 : decode b_HS_hasWithin 63 = .ok (.if_icmp .gt 7, 3) := by decide +kernel
theorem d_HS_hasWithin_66 : decode b_HS_hasWithin 66 = .ok (.iconst 1, 1) := by decide +kernel
theorem d_HS_hasWithin_67 : decode b_HS_hasWithin 67 = .ok (.goto 4, 3) := by decide +kernel
theorem d_HS_hasWithin_70 : decode b_HS_hasWithin 70 = .ok (.iconst 0, 1) := by decide +kernel
theorem d_HS_hasWithin_71 : decode b_HS_hasWithin 71 = .ok (.ireturn, 1) := by decide +kernel
abbrev b_HS_unite : ByteArray := prog_2_method_5_code
abbrev y_HS_unite : MethodName := ⟨"SegmentIndex$HitSet", "unite", "(LSegmentIndex$HitSet;LSegmentIndex$HitSet;)V"⟩
theorem d_HS_unite_0 : decode b_HS_unite 0 = .ok (.aload_n 0, 1) := by decide +kernel
theorem d_HS_unite_1 : decode b_HS_unite 1 = .ok (.invokevirtual 25, 3) := by decide +kernel
theorem d_HS_unite_4 : decode b_HS_unite 4 = .ok (.iconst 0, 1) := by decide +kernel
theorem d_HS_unite_5 : decode b_HS_unite 5 = .ok (.istore_n 3, 1) := by decide +kernel
theorem d_HS_unite_6 : decode b_HS_unite 6 = .ok (.iconst 0, 1) := by decide +kernel
theorem d_HS_unite_7 : decode b_HS_unite 7 = .ok (.istore 4, 2) := by decide +kernel
theorem d_HS_unite_9 : decode b_HS_unite 9 = .ok (.iload_n 3, 1) := by decide +kernel
theorem d_HS_unite_10 : decode b_HS_unite 10 = .ok (.aload_n 1, 1) := by decide +kernel
theorem d_HS_unite_11 : decode b_HS_unite 11 = .ok (.getfield 15, 3) := by decide +kernel
theorem d_HS_unite_14 : decode b_HS_unite 14 = .ok (.if_icmp .lt 12, 3) := by decide +kernel
theorem d_HS_unite_17 : decode b_HS_unite 17 = .ok (.iload 4, 2) := by decide +kernel
theorem d_HS_unite_19 : decode b_HS_unite 19 = .ok (.aload_n 2, 1) := by decide +kernel
theorem d_HS_unite_20 : decode b_HS_unite 20 = .ok (.getfield 15, 3) := by decide +kernel
theorem d_HS_unite_23 : decode b_HS_unite 23 = .ok (.if_icmp .ge 69, 3) := by decide +kernel
theorem d_HS_unite_26 : decode b_HS_unite 26 = .ok (.iload 4, 2) := by decide +kernel
theorem d_HS_unite_28 : decode b_HS_unite 28 = .ok (.aload_n 2, 1) := by decide +kernel
theorem d_HS_unite_29 : decode b_HS_unite 29 = .ok (.getfield 15, 3) := by decide +kernel
theorem d_HS_unite_32 : decode b_HS_unite 32 = .ok (.if_icmp .ge 27, 3) := by decide +kernel
theorem d_HS_unite_35 : decode b_HS_unite 35 = .ok (.iload_n 3, 1) := by decide +kernel
theorem d_HS_unite_36 : decode b_HS_unite 36 = .ok (.aload_n 1, 1) := by decide +kernel
theorem d_HS_unite_37 : decode b_HS_unite 37 = .ok (.getfield 15, 3) := by decide +kernel
theorem d_HS_unite_40 : decode b_HS_unite 40 = .ok (.if_icmp .ge 35, 3) := by decide +kernel
theorem d_HS_unite_43 : decode b_HS_unite 43 = .ok (.aload_n 1, 1) := by decide +kernel
theorem d_HS_unite_44 : decode b_HS_unite 44 = .ok (.getfield 9, 3) := by decide +kernel
theorem d_HS_unite_47 : decode b_HS_unite 47 = .ok (.iload_n 3, 1) := by decide +kernel
theorem d_HS_unite_48 : decode b_HS_unite 48 = .ok (.iaload, 1) := by decide +kernel
theorem d_HS_unite_49 : decode b_HS_unite 49 = .ok (.aload_n 2, 1) := by decide +kernel
theorem d_HS_unite_50 : decode b_HS_unite 50 = .ok (.getfield 9, 3) := by decide +kernel
theorem d_HS_unite_53 : decode b_HS_unite 53 = .ok (.iload 4, 2) := by decide +kernel
theorem d_HS_unite_55 : decode b_HS_unite 55 = .ok (.iaload, 1) := by decide +kernel
theorem d_HS_unite_56 : decode b_HS_unite 56 = .ok (.if_icmp .gt 19, 3) := by decide +kernel
theorem d_HS_unite_59 : decode b_HS_unite 59 = .ok (.aload_n 0, 1) := by decide +kernel
theorem d_HS_unite_60 : decode b_HS_unite 60 = .ok (.aload_n 1, 1) := by decide +kernel
theorem d_HS_unite_61 : decode b_HS_unite 61 = .ok (.getfield 9, 3) := by decide +kernel
theorem d_HS_unite_64 : decode b_HS_unite 64 = .ok (.iload_n 3, 1) := by decide +kernel
theorem d_HS_unite_65 : decode b_HS_unite 65 = .ok (.iaload, 1) := by decide +kernel
theorem d_HS_unite_66 : decode b_HS_unite 66 = .ok (.invokevirtual 28, 3) := by decide +kernel
theorem d_HS_unite_69 : decode b_HS_unite 69 = .ok (.iinc 3 1, 3) := by decide +kernel
theorem d_HS_unite_72 : decode b_HS_unite 72 = .ok (.goto (-63), 3) := by decide +kernel
theorem d_HS_unite_75 : decode b_HS_unite 75 = .ok (.aload_n 0, 1) := by decide +kernel
theorem d_HS_unite_76 : decode b_HS_unite 76 = .ok (.aload_n 2, 1) := by decide +kernel
theorem d_HS_unite_77 : decode b_HS_unite 77 = .ok (.getfield 9, 3) := by decide +kernel
theorem d_HS_unite_80 : decode b_HS_unite 80 = .ok (.iload 4, 2) := by decide +kernel
theorem d_HS_unite_82 : decode b_HS_unite 82 = .ok (.iaload, 1) := by decide +kernel
theorem d_HS_unite_83 : decode b_HS_unite 83 = .ok (.invokevirtual 28, 3) := by decide +kernel
theorem d_HS_unite_86 : decode b_HS_unite 86 = .ok (.iinc 4 1, 3) := by decide +kernel
theorem d_HS_unite_89 : decode b_HS_unite 89 = .ok (.goto (-80), 3) := by decide +kernel
theorem d_HS_unite_92 : decode b_HS_unite 92 = .ok (.return_, 1) := by decide +kernel
abbrev b_HS_keepByDocument : ByteArray := prog_2_method_10_code
abbrev y_HS_keepByDocument : MethodName := ⟨"SegmentIndex$HitSet", "keepByDocument", "(LSegmentIndex$HitSet;Z)V"⟩
theorem d_HS_keepByDocument_0 : decode b_HS_keepByDocument 0 = .ok (.iconst 0, 1) := by decide +kernel
theorem d_HS_keepByDocument_1 : decode b_HS_keepByDocument 1 = .ok (.istore_n 3, 1) := by decide +kernel
theorem d_HS_keepByDocument_2 : decode b_HS_keepByDocument 2 = .ok (.iconst 0, 1) := by decide +kernel
theorem d_HS_keepByDocument_3 : decode b_HS_keepByDocument 3 = .ok (.istore 4, 2) := by decide +kernel
theorem d_HS_keepByDocument_5 : decode b_HS_keepByDocument 5 = .ok (.iload 4, 2) := by decide +kernel
theorem d_HS_keepByDocument_7 : decode b_HS_keepByDocument 7 = .ok (.aload_n 0, 1) := by decide +kernel
theorem d_HS_keepByDocument_8 : decode b_HS_keepByDocument 8 = .ok (.getfield 15, 3) := by decide +kernel
theorem d_HS_keepByDocument_11 : decode b_HS_keepByDocument 11 = .ok (.if_icmp .ge 43, 3) := by decide +kernel
theorem d_HS_keepByDocument_14 : decode b_HS_keepByDocument 14 = .ok (.aload_n 1, 1) := by decide +kernel
theorem d_HS_keepByDocument_15 : decode b_HS_keepByDocument 15 = .ok (.aload_n 0, 1) := by decide +kernel
theorem d_HS_keepByDocument_16 : decode b_HS_keepByDocument 16 = .ok (.getfield 9, 3) := by decide +kernel
theorem d_HS_keepByDocument_19 : decode b_HS_keepByDocument 19 = .ok (.iload 4, 2) := by decide +kernel
theorem d_HS_keepByDocument_21 : decode b_HS_keepByDocument 21 = .ok (.iaload, 1) := by decide +kernel
theorem d_HS_keepByDocument_22 : decode b_HS_keepByDocument 22 = .ok (.invokestatic 32, 3) := by decide +kernel
theorem d_HS_keepByDocument_25 : decode b_HS_keepByDocument 25 = .ok (.invokevirtual 56, 3) := by decide +kernel
theorem d_HS_keepByDocument_28 : decode b_HS_keepByDocument 28 = .ok (.iload_n 2, 1) := by decide +kernel
theorem d_HS_keepByDocument_29 : decode b_HS_keepByDocument 29 = .ok (.if_icmp .ne 19, 3) := by decide +kernel
theorem d_HS_keepByDocument_32 : decode b_HS_keepByDocument 32 = .ok (.aload_n 0, 1) := by decide +kernel
theorem d_HS_keepByDocument_33 : decode b_HS_keepByDocument 33 = .ok (.getfield 9, 3) := by decide +kernel
theorem d_HS_keepByDocument_36 : decode b_HS_keepByDocument 36 = .ok (.iload_n 3, 1) := by decide +kernel
theorem d_HS_keepByDocument_37 : decode b_HS_keepByDocument 37 = .ok (.aload_n 0, 1) := by decide +kernel
theorem d_HS_keepByDocument_38 : decode b_HS_keepByDocument 38 = .ok (.getfield 9, 3) := by decide +kernel
theorem d_HS_keepByDocument_41 : decode b_HS_keepByDocument 41 = .ok (.iload 4, 2) := by decide +kernel
theorem d_HS_keepByDocument_43 : decode b_HS_keepByDocument 43 = .ok (.iaload, 1) := by decide +kernel
theorem d_HS_keepByDocument_44 : decode b_HS_keepByDocument 44 = .ok (.iastore, 1) := by decide +kernel
theorem d_HS_keepByDocument_45 : decode b_HS_keepByDocument 45 = .ok (.iinc 3 1, 3) := by decide +kernel
theorem d_HS_keepByDocument_48 : decode b_HS_keepByDocument 48 = .ok (.iinc 4 1, 3) := by decide +kernel
theorem d_HS_keepByDocument_51 : decode b_HS_keepByDocument 51 = .ok (.goto (-46), 3) := by decide +kernel
theorem d_HS_keepByDocument_54 : decode b_HS_keepByDocument 54 = .ok (.aload_n 0, 1) := by decide +kernel
theorem d_HS_keepByDocument_55 : decode b_HS_keepByDocument 55 = .ok (.iload_n 3, 1) := by decide +kernel
theorem d_HS_keepByDocument_56 : decode b_HS_keepByDocument 56 = .ok (.putfield 15, 3) := by decide +kernel
theorem d_HS_keepByDocument_59 : decode b_HS_keepByDocument 59 = .ok (.return_, 1) := by decide +kernel
abbrev b_HS_hasDocument : ByteArray := prog_2_method_8_code
abbrev y_HS_hasDocument : MethodName := ⟨"SegmentIndex$HitSet", "hasDocument", "(I)Z"⟩
theorem d_HS_hasDocument_0 : decode b_HS_hasDocument 0 = .ok (.aload_n 0, 1) := by decide +kernel
theorem d_HS_hasDocument_1 : decode b_HS_hasDocument 1 = .ok (.iload_n 1, 1) := by decide +kernel
theorem d_HS_hasDocument_2 : decode b_HS_hasDocument 2 = .ok (.iconst 0, 1) := by decide +kernel
theorem d_HS_hasDocument_3 : decode b_HS_hasDocument 3 = .ok (.iconst 0, 1) := by decide +kernel
theorem d_HS_hasDocument_4 : decode b_HS_hasDocument 4 = .ok (.invokestatic 36, 3) := by decide +kernel
theorem d_HS_hasDocument_7 : decode b_HS_hasDocument 7 = .ok (.iload_n 1, 1) := by decide +kernel
theorem d_HS_hasDocument_8 : decode b_HS_hasDocument 8 = .ok (.iconst 3, 1) := by decide +kernel
theorem d_HS_hasDocument_9 : decode b_HS_hasDocument 9 = .ok (.sipush 4095, 3) := by decide +kernel
theorem d_HS_hasDocument_12 : decode b_HS_hasDocument 12 = .ok (.invokestatic 36, 3) := by decide +kernel
theorem d_HS_hasDocument_15 : decode b_HS_hasDocument 15 = .ok (.invokevirtual 40, 3) := by decide +kernel
theorem d_HS_hasDocument_18 : decode b_HS_hasDocument 18 = .ok (.ireturn, 1) := by decide +kernel
abbrev b_HS_copy : ByteArray := prog_2_method_4_code
abbrev y_HS_copy : MethodName := ⟨"SegmentIndex$HitSet", "copy", "(LSegmentIndex$HitSet;)V"⟩
theorem d_HS_copy_0 : decode b_HS_copy 0 = .ok (.aload_n 0, 1) := by decide +kernel
theorem d_HS_copy_1 : decode b_HS_copy 1 = .ok (.invokevirtual 25, 3) := by decide +kernel
theorem d_HS_copy_4 : decode b_HS_copy 4 = .ok (.iconst 0, 1) := by decide +kernel
theorem d_HS_copy_5 : decode b_HS_copy 5 = .ok (.istore_n 2, 1) := by decide +kernel
theorem d_HS_copy_6 : decode b_HS_copy 6 = .ok (.iload_n 2, 1) := by decide +kernel
theorem d_HS_copy_7 : decode b_HS_copy 7 = .ok (.aload_n 1, 1) := by decide +kernel
theorem d_HS_copy_8 : decode b_HS_copy 8 = .ok (.getfield 15, 3) := by decide +kernel
theorem d_HS_copy_11 : decode b_HS_copy 11 = .ok (.if_icmp .ge 19, 3) := by decide +kernel
theorem d_HS_copy_14 : decode b_HS_copy 14 = .ok (.aload_n 0, 1) := by decide +kernel
theorem d_HS_copy_15 : decode b_HS_copy 15 = .ok (.aload_n 1, 1) := by decide +kernel
theorem d_HS_copy_16 : decode b_HS_copy 16 = .ok (.getfield 9, 3) := by decide +kernel
theorem d_HS_copy_19 : decode b_HS_copy 19 = .ok (.iload_n 2, 1) := by decide +kernel
theorem d_HS_copy_20 : decode b_HS_copy 20 = .ok (.iaload, 1) := by decide +kernel
theorem d_HS_copy_21 : decode b_HS_copy 21 = .ok (.invokevirtual 28, 3) := by decide +kernel
theorem d_HS_copy_24 : decode b_HS_copy 24 = .ok (.iinc 2 1, 3) := by decide +kernel
theorem d_HS_copy_27 : decode b_HS_copy 27 = .ok (.goto (-21), 3) := by decide +kernel
theorem d_HS_copy_30 : decode b_HS_copy 30 = .ok (.return_, 1) := by decide +kernel
-- not initialized: Ob_init
theorem w_Tk_init : MI y_Tk_init b_Tk_init 1 none 0 := ⟨gw_in (i := 74) (by decide +kernel) rfl, gw_in (i := 36) (by decide +kernel) rfl, gw_in (i := 75) (by decide +kernel) rfl, rfl, ⟨by decide, by decide, by decide +kernel⟩⟩
theorem w_Pl_init : MI y_Pl_init b_Pl_init 2 none 0 := ⟨gw_in (i := 140) (by decide +kernel) rfl, gw_in (i := 40) (by decide +kernel) rfl, gw_in (i := 141) (by decide +kernel) rfl, rfl, ⟨by decide, by decide, by decide +kernel⟩⟩
theorem w_HS_init : MI y_HS_init b_HS_init 1 none 0 := ⟨gw_in (i := 147) (by decide +kernel) rfl, gw_in (i := 41) (by decide +kernel) rfl, gw_in (i := 148) (by decide +kernel) rfl, rfl, ⟨by decide, by decide, by decide +kernel⟩⟩
theorem w_Ks_init : MI y_Ks_init b_Ks_init 1 none 0 := ⟨gw_in (i := 172) (by decide +kernel) rfl, gw_in (i := 42) (by decide +kernel) rfl, gw_in (i := 173) (by decide +kernel) rfl, rfl, ⟨by decide, by decide, by decide +kernel⟩⟩
theorem w_Ks_clear : MV y_Ks_clear b_Ks_clear 1 none 0 := ⟨gw_in (i := 213) (by decide +kernel) rfl, gw_in (i := 214) (by decide +kernel) rfl, gw_in (i := 42) (by decide +kernel) rfl, gw_in (i := 215) (by decide +kernel) rfl, ⟨by decide, by decide, by decide +kernel⟩⟩
theorem w_Ks_put : MV y_Ks_put b_Ks_put 3 none 1 := ⟨gw_in (i := 234) (by decide +kernel) rfl, gw_in (i := 235) (by decide +kernel) rfl, gw_in (i := 42) (by decide +kernel) rfl, gw_in (i := 236) (by decide +kernel) rfl, ⟨by decide, by decide, by decide +kernel⟩⟩
theorem w_Ks_different : MV y_Ks_different b_Ks_different 3 (some .int) 0 := ⟨gw_in (i := 256) (by decide +kernel) rfl, gw_in (i := 257) (by decide +kernel) rfl, gw_in (i := 42) (by decide +kernel) rfl, gw_in (i := 258) (by decide +kernel) rfl, ⟨by decide, by decide, by decide +kernel⟩⟩
theorem w_Ks_sort : MV y_Ks_sort b_Ks_sort 4 none 0 := ⟨gw_in (i := 260) (by decide +kernel) rfl, gw_in (i := 261) (by decide +kernel) rfl, gw_in (i := 42) (by decide +kernel) rfl, gw_in (i := 262) (by decide +kernel) rfl, ⟨by decide, by decide, by decide +kernel⟩⟩
theorem w_Ks_sink : MV y_Ks_sink b_Ks_sink 7 none 2 := ⟨gw_in (i := 265) (by decide +kernel) rfl, gw_in (i := 2) (by decide +kernel) rfl, gw_in (i := 42) (by decide +kernel) rfl, gw_in (i := 266) (by decide +kernel) rfl, ⟨by decide, by decide, by decide +kernel⟩⟩
theorem w_Sg_init : MI y_Sg_init b_Sg_init 6 none 5 := ⟨gw_in (i := 268) (by decide +kernel) rfl, gw_in (i := 52) (by decide +kernel) rfl, gw_in (i := 269) (by decide +kernel) rfl, rfl, ⟨by decide, by decide, by decide +kernel⟩⟩
theorem w_Pl_uppermost : MV y_Pl_uppermost b_Pl_uppermost 1 (some (.object "SegmentIndex$HitSet")) 0 := ⟨gw_in (i := 398) (by decide +kernel) rfl, gw_in (i := 399) (by decide +kernel) rfl, gw_in (i := 40) (by decide +kernel) rfl, gw_in (i := 400) (by decide +kernel) rfl, ⟨by decide, by decide, by decide +kernel⟩⟩
theorem w_Pl_spare : MV y_Pl_spare b_Pl_spare 2 (some (.object "SegmentIndex$HitSet")) 0 := ⟨gw_in (i := 402) (by decide +kernel) rfl, gw_in (i := 403) (by decide +kernel) rfl, gw_in (i := 40) (by decide +kernel) rfl, gw_in (i := 404) (by decide +kernel) rfl, ⟨by decide, by decide, by decide +kernel⟩⟩
theorem w_HS_clear : MV y_HS_clear b_HS_clear 1 none 0 := ⟨gw_in (i := 406) (by decide +kernel) rfl, gw_in (i := 407) (by decide +kernel) rfl, gw_in (i := 41) (by decide +kernel) rfl, gw_in (i := 408) (by decide +kernel) rfl, ⟨by decide, by decide, by decide +kernel⟩⟩
theorem w_HS_endsDocument : MV y_HS_endsDocument b_HS_endsDocument 2 (some .boolean) 1 := ⟨gw_in (i := 423) (by decide +kernel) rfl, gw_in (i := 424) (by decide +kernel) rfl, gw_in (i := 41) (by decide +kernel) rfl, gw_in (i := 425) (by decide +kernel) rfl, ⟨by decide, by decide, by decide +kernel⟩⟩
theorem w_Tk_insert : MV y_Tk_insert b_Tk_insert 5 none 3 := ⟨gw_in (i := 563) (by decide +kernel) rfl, gw_in (i := 564) (by decide +kernel) rfl, gw_in (i := 36) (by decide +kernel) rfl, gw_in (i := 565) (by decide +kernel) rfl, ⟨by decide, by decide, by decide +kernel⟩⟩
theorem w_HS_put : MV y_HS_put b_HS_put 2 none 1 := ⟨gw_in (i := 638) (by decide +kernel) rfl, gw_in (i := 639) (by decide +kernel) rfl, gw_in (i := 41) (by decide +kernel) rfl, gw_in (i := 640) (by decide +kernel) rfl, ⟨by decide, by decide, by decide +kernel⟩⟩
theorem w_Pl_settle : MV y_Pl_settle b_Pl_settle 4 (some .int) 1 := ⟨gw_in (i := 643) (by decide +kernel) rfl, gw_in (i := 644) (by decide +kernel) rfl, gw_in (i := 40) (by decide +kernel) rfl, gw_in (i := 645) (by decide +kernel) rfl, ⟨by decide, by decide, by decide +kernel⟩⟩
theorem w_HS_keepByDistance : MV y_HS_keepByDistance b_HS_keepByDistance 6 none 3 := ⟨gw_in (i := 664) (by decide +kernel) rfl, gw_in (i := 665) (by decide +kernel) rfl, gw_in (i := 41) (by decide +kernel) rfl, gw_in (i := 666) (by decide +kernel) rfl, ⟨by decide, by decide, by decide +kernel⟩⟩
theorem w_HS_hasAtDistance : MV y_HS_hasAtDistance b_HS_hasAtDistance 8 (some .boolean) 3 := ⟨gw_in (i := 669) (by decide +kernel) rfl, gw_in (i := 15) (by decide +kernel) rfl, gw_in (i := 41) (by decide +kernel) rfl, gw_in (i := 670) (by decide +kernel) rfl, ⟨by decide, by decide, by decide +kernel⟩⟩
theorem w_HS_hasWithin : MV y_HS_hasWithin b_HS_hasWithin 6 (some .boolean) 2 := ⟨gw_in (i := 676) (by decide +kernel) rfl, gw_in (i := 16) (by decide +kernel) rfl, gw_in (i := 41) (by decide +kernel) rfl, gw_in (i := 677) (by decide +kernel) rfl, ⟨by decide, by decide, by decide +kernel⟩⟩
theorem w_HS_unite : MV y_HS_unite b_HS_unite 5 none 2 := ⟨gw_in (i := 691) (by decide +kernel) rfl, gw_in (i := 692) (by decide +kernel) rfl, gw_in (i := 41) (by decide +kernel) rfl, gw_in (i := 693) (by decide +kernel) rfl, ⟨by decide, by decide, by decide +kernel⟩⟩
theorem w_HS_keepByDocument : MV y_HS_keepByDocument b_HS_keepByDocument 5 none 2 := ⟨gw_in (i := 697) (by decide +kernel) rfl, gw_in (i := 698) (by decide +kernel) rfl, gw_in (i := 41) (by decide +kernel) rfl, gw_in (i := 699) (by decide +kernel) rfl, ⟨by decide, by decide, by decide +kernel⟩⟩
theorem w_HS_hasDocument : MV y_HS_hasDocument b_HS_hasDocument 2 (some .boolean) 1 := ⟨gw_in (i := 702) (by decide +kernel) rfl, gw_in (i := 17) (by decide +kernel) rfl, gw_in (i := 41) (by decide +kernel) rfl, gw_in (i := 703) (by decide +kernel) rfl, ⟨by decide, by decide, by decide +kernel⟩⟩
theorem w_HS_copy : MV y_HS_copy b_HS_copy 3 none 1 := ⟨gw_in (i := 706) (by decide +kernel) rfl, gw_in (i := 707) (by decide +kernel) rfl, gw_in (i := 41) (by decide +kernel) rfl, gw_in (i := 708) (by decide +kernel) rfl, ⟨by decide, by decide, by decide +kernel⟩⟩
