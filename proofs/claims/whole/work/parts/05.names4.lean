abbrev b_AL_init : ByteArray := prog_24_method_2_code
abbrev y_AL_init : MethodName := ⟨"java/util/ArrayList", "<init>", "()V"⟩
theorem d_AL_init_0 : decode b_AL_init 0 = .ok (.aload_n 0, 1) := by decide +kernel
theorem d_AL_init_1 : decode b_AL_init 1 = .ok (.invokespecial 1, 3) := by decide +kernel
theorem d_AL_init_4 : decode b_AL_init 4 = .ok (.aload_n 0, 1) := by decide +kernel
theorem d_AL_init_5 : decode b_AL_init 5 = .ok (.getstatic 39, 3) := by decide +kernel
theorem d_AL_init_8 : decode b_AL_init 8 = .ok (.putfield 9, 3) := by decide +kernel
theorem d_AL_init_11 : decode b_AL_init 11 = .ok (.return_, 1) := by decide +kernel
abbrev b_AbL_init : ByteArray := prog_23_method_1_code
abbrev y_AbL_init : MethodName := ⟨"java/util/AbstractList", "<init>", "()V"⟩
theorem d_AbL_init_0 : decode b_AbL_init 0 = .ok (.aload_n 0, 1) := by decide +kernel
theorem d_AbL_init_1 : decode b_AbL_init 1 = .ok (.invokespecial 1, 3) := by decide +kernel
theorem d_AbL_init_4 : decode b_AbL_init 4 = .ok (.aload_n 0, 1) := by decide +kernel
theorem d_AbL_init_5 : decode b_AbL_init 5 = .ok (.iconst 0, 1) := by decide +kernel
theorem d_AbL_init_6 : decode b_AbL_init 6 = .ok (.putfield 7, 3) := by decide +kernel
theorem d_AbL_init_9 : decode b_AbL_init 9 = .ok (.return_, 1) := by decide +kernel
abbrev b_AbC_init : ByteArray := prog_22_method_1_code
abbrev y_AbC_init : MethodName := ⟨"java/util/AbstractCollection", "<init>", "()V"⟩
theorem d_AbC_init_0 : decode b_AbC_init 0 = .ok (.aload_n 0, 1) := by decide +kernel
theorem d_AbC_init_1 : decode b_AbC_init 1 = .ok (.invokespecial 1, 3) := by decide +kernel
theorem d_AbC_init_4 : decode b_AbC_init 4 = .ok (.return_, 1) := by decide +kernel
abbrev b_Ar_copyOf_aJIaJ : ByteArray := prog_25_method_124_code
abbrev y_Ar_copyOf_aJIaJ : MethodName := ⟨"java/util/Arrays", "copyOf", "([JI)[J"⟩
theorem d_Ar_copyOf_aJIaJ_0 : decode b_Ar_copyOf_aJIaJ 0 = .ok (.iload_n 1, 1) := by decide +kernel
theorem d_Ar_copyOf_aJIaJ_1 : decode b_Ar_copyOf_aJIaJ 1 = .ok (.aload_n 0, 1) := by decide +kernel
theorem d_Ar_copyOf_aJIaJ_2 : decode b_Ar_copyOf_aJIaJ 2 = .ok (.arraylength, 1) := by decide +kernel
theorem d_Ar_copyOf_aJIaJ_3 : decode b_Ar_copyOf_aJIaJ 3 = .ok (.if_icmp .ne 11, 3) := by decide +kernel
theorem d_Ar_copyOf_aJIaJ_6 : decode b_Ar_copyOf_aJIaJ 6 = .ok (.aload_n 0, 1) := by decide +kernel
theorem d_Ar_copyOf_aJIaJ_7 : decode b_Ar_copyOf_aJIaJ 7 = .ok (.invokevirtual 319, 3) := by decide +kernel
theorem d_Ar_copyOf_aJIaJ_10 : decode b_Ar_copyOf_aJIaJ 10 = .ok (.checkcast 320, 3) := by decide +kernel
theorem d_Ar_copyOf_aJIaJ_13 : decode b_Ar_copyOf_aJIaJ 13 = .ok (.areturn, 1) := by decide +kernel
theorem d_Ar_copyOf_aJIaJ_14 : decode b_Ar_copyOf_aJIaJ 14 = .ok (.iload_n 1, 1) := by decide +kernel
theorem d_Ar_copyOf_aJIaJ_15 : decode b_Ar_copyOf_aJIaJ 15 = .ok (.newarray .long, 2) := by decide +kernel
theorem d_Ar_copyOf_aJIaJ_17 : decode b_Ar_copyOf_aJIaJ 17 = .ok (.astore_n 2, 1) := by decide +kernel
theorem d_Ar_copyOf_aJIaJ_18 : decode b_Ar_copyOf_aJIaJ 18 = .ok (.aload_n 0, 1) := by decide +kernel
theorem d_Ar_copyOf_aJIaJ_19 : decode b_Ar_copyOf_aJIaJ 19 = .ok (.iconst 0, 1) := by decide +kernel
theorem d_Ar_copyOf_aJIaJ_20 : decode b_Ar_copyOf_aJIaJ 20 = .ok (.aload_n 2, 1) := by decide +kernel
theorem d_Ar_copyOf_aJIaJ_21 : decode b_Ar_copyOf_aJIaJ 21 = .ok (.iconst 0, 1) := by decide +kernel
theorem d_Ar_copyOf_aJIaJ_22 : decode b_Ar_copyOf_aJIaJ 22 = .ok (.aload_n 0, 1) := by decide +kernel
theorem d_Ar_copyOf_aJIaJ_23 : decode b_Ar_copyOf_aJIaJ 23 = .ok (.arraylength, 1) := by decide +kernel
theorem d_Ar_copyOf_aJIaJ_24 : decode b_Ar_copyOf_aJIaJ 24 = .ok (.iload_n 1, 1) := by decide +kernel
theorem d_Ar_copyOf_aJIaJ_25 : decode b_Ar_copyOf_aJIaJ 25 = .ok (.invokestatic 304, 3) := by decide +kernel
theorem d_Ar_copyOf_aJIaJ_28 : decode b_Ar_copyOf_aJIaJ 28 = .ok (.invokestatic 150, 3) := by decide +kernel
theorem d_Ar_copyOf_aJIaJ_31 : decode b_Ar_copyOf_aJIaJ 31 = .ok (.aload_n 2, 1) := by decide +kernel
theorem d_Ar_copyOf_aJIaJ_32 : decode b_Ar_copyOf_aJIaJ 32 = .ok (.areturn, 1) := by decide +kernel
abbrev b_Ma_min : ByteArray := prog_17_method_69_code
abbrev y_Ma_min : MethodName := ⟨"java/lang/Math", "min", "(II)I"⟩
theorem d_Ma_min_0 : decode b_Ma_min 0 = .ok (.iload_n 0, 1) := by decide +kernel
theorem d_Ma_min_1 : decode b_Ma_min 1 = .ok (.iload_n 1, 1) := by decide +kernel
theorem d_Ma_min_2 : decode b_Ma_min 2 = .ok (.if_icmp .gt 7, 3) := by decide +kernel
theorem d_Ma_min_5 : decode b_Ma_min 5 = .ok (.iload_n 0, 1) := by decide +kernel
theorem d_Ma_min_6 : decode b_Ma_min 6 = .ok (.goto 4, 3) := by decide +kernel
theorem d_Ma_min_9 : decode b_Ma_min 9 = .ok (.iload_n 1, 1) := by decide +kernel
theorem d_Ma_min_10 : decode b_Ma_min 10 = .ok (.ireturn, 1) := by decide +kernel
abbrev b_AL_add_LObjectZ : ByteArray := prog_24_method_25_code
abbrev y_AL_add_LObjectZ : MethodName := ⟨"java/util/ArrayList", "add", "(Ljava/lang/Object;)Z"⟩
theorem d_AL_add_LObjectZ_0 : decode b_AL_add_LObjectZ 0 = .ok (.aload_n 0, 1) := by decide +kernel
theorem d_AL_add_LObjectZ_1 : decode b_AL_add_LObjectZ 1 = .ok (.dup, 1) := by decide +kernel
theorem d_AL_add_LObjectZ_2 : decode b_AL_add_LObjectZ 2 = .ok (.getfield 63, 3) := by decide +kernel
theorem d_AL_add_LObjectZ_5 : decode b_AL_add_LObjectZ 5 = .ok (.iconst 1, 1) := by decide +kernel
theorem d_AL_add_LObjectZ_6 : decode b_AL_add_LObjectZ 6 = .ok (.iadd, 1) := by decide +kernel
theorem d_AL_add_LObjectZ_7 : decode b_AL_add_LObjectZ 7 = .ok (.putfield 63, 3) := by decide +kernel
theorem d_AL_add_LObjectZ_10 : decode b_AL_add_LObjectZ 10 = .ok (.aload_n 0, 1) := by decide +kernel
theorem d_AL_add_LObjectZ_11 : decode b_AL_add_LObjectZ 11 = .ok (.aload_n 1, 1) := by decide +kernel
theorem d_AL_add_LObjectZ_12 : decode b_AL_add_LObjectZ 12 = .ok (.aload_n 0, 1) := by decide +kernel
theorem d_AL_add_LObjectZ_13 : decode b_AL_add_LObjectZ 13 = .ok (.getfield 9, 3) := by decide +kernel
theorem d_AL_add_LObjectZ_16 : decode b_AL_add_LObjectZ 16 = .ok (.aload_n 0, 1) := by decide +kernel
theorem d_AL_add_LObjectZ_17 : decode b_AL_add_LObjectZ 17 = .ok (.getfield 48, 3) := by decide +kernel
theorem d_AL_add_LObjectZ_20 : decode b_AL_add_LObjectZ 20 = .ok (.invokevirtual 131, 3) := by decide +kernel
theorem d_AL_add_LObjectZ_23 : decode b_AL_add_LObjectZ 23 = .ok (.iconst 1, 1) := by decide +kernel
theorem d_AL_add_LObjectZ_24 : decode b_AL_add_LObjectZ 24 = .ok (.ireturn, 1) := by decide +kernel
abbrev b_AL_add_LObjectaLObjectIV : ByteArray := prog_24_method_24_code
abbrev y_AL_add_LObjectaLObjectIV : MethodName := ⟨"java/util/ArrayList", "add", "(Ljava/lang/Object;[Ljava/lang/Object;I)V"⟩
theorem d_AL_add_LObjectaLObjectIV_0 : decode b_AL_add_LObjectaLObjectIV 0 = .ok (.iload_n 3, 1) := by decide +kernel
theorem d_AL_add_LObjectaLObjectIV_1 : decode b_AL_add_LObjectaLObjectIV 1 = .ok (.aload_n 2, 1) := by decide +kernel
theorem d_AL_add_LObjectaLObjectIV_2 : decode b_AL_add_LObjectaLObjectIV 2 = .ok (.arraylength, 1) := by decide +kernel
theorem d_AL_add_LObjectaLObjectIV_3 : decode b_AL_add_LObjectaLObjectIV 3 = .ok (.if_icmp .ne 8, 3) := by decide +kernel
theorem d_AL_add_LObjectaLObjectIV_6 : decode b_AL_add_LObjectaLObjectIV 6 = .ok (.aload_n 0, 1) := by decide +kernel
theorem d_AL_add_LObjectaLObjectIV_7 : decode b_AL_add_LObjectaLObjectIV 7 = .ok (.invokevirtual 129, 3) := by decide +kernel
theorem d_AL_add_LObjectaLObjectIV_10 : decode b_AL_add_LObjectaLObjectIV 10 = .ok (.astore_n 2, 1) := by decide +kernel
theorem d_AL_add_LObjectaLObjectIV_11 : decode b_AL_add_LObjectaLObjectIV 11 = .ok (.aload_n 2, 1) := by decide +kernel
theorem d_AL_add_LObjectaLObjectIV_12 : decode b_AL_add_LObjectaLObjectIV 12 = .ok (.iload_n 3, 1) := by decide +kernel
theorem d_AL_add_LObjectaLObjectIV_13 : decode b_AL_add_LObjectaLObjectIV 13 = .ok (.aload_n 1, 1) := by decide +kernel
theorem d_AL_add_LObjectaLObjectIV_14 : decode b_AL_add_LObjectaLObjectIV 14 = .ok (.aastore, 1) := by decide +kernel
theorem d_AL_add_LObjectaLObjectIV_15 : decode b_AL_add_LObjectaLObjectIV 15 = .ok (.aload_n 0, 1) := by decide +kernel
theorem d_AL_add_LObjectaLObjectIV_16 : decode b_AL_add_LObjectaLObjectIV 16 = .ok (.iload_n 3, 1) := by decide +kernel
theorem d_AL_add_LObjectaLObjectIV_17 : decode b_AL_add_LObjectaLObjectIV 17 = .ok (.iconst 1, 1) := by decide +kernel
theorem d_AL_add_LObjectaLObjectIV_18 : decode b_AL_add_LObjectaLObjectIV 18 = .ok (.iadd, 1) := by decide +kernel
theorem d_AL_add_LObjectaLObjectIV_19 : decode b_AL_add_LObjectaLObjectIV 19 = .ok (.putfield 48, 3) := by decide +kernel
theorem d_AL_add_LObjectaLObjectIV_22 : decode b_AL_add_LObjectaLObjectIV 22 = .ok (.return_, 1) := by decide +kernel
abbrev b_AL_grow_aLObject : ByteArray := prog_24_method_7_code
abbrev y_AL_grow_aLObject : MethodName := ⟨"java/util/ArrayList", "grow", "()[Ljava/lang/Object;"⟩
theorem d_AL_grow_aLObject_0 : decode b_AL_grow_aLObject 0 = .ok (.aload_n 0, 1) := by decide +kernel
theorem d_AL_grow_aLObject_1 : decode b_AL_grow_aLObject 1 = .ok (.aload_n 0, 1) := by decide +kernel
theorem d_AL_grow_aLObject_2 : decode b_AL_grow_aLObject 2 = .ok (.getfield 48, 3) := by decide +kernel
theorem d_AL_grow_aLObject_5 : decode b_AL_grow_aLObject 5 = .ok (.iconst 1, 1) := by decide +kernel
theorem d_AL_grow_aLObject_6 : decode b_AL_grow_aLObject 6 = .ok (.iadd, 1) := by decide +kernel
theorem d_AL_grow_aLObject_7 : decode b_AL_grow_aLObject 7 = .ok (.invokevirtual 69, 3) := by decide +kernel
theorem d_AL_grow_aLObject_10 : decode b_AL_grow_aLObject 10 = .ok (.areturn, 1) := by decide +kernel
abbrev b_AL_grow_IaLObject : ByteArray := prog_24_method_6_code
abbrev y_AL_grow_IaLObject : MethodName := ⟨"java/util/ArrayList", "grow", "(I)[Ljava/lang/Object;"⟩
theorem d_AL_grow_IaLObject_0 : decode b_AL_grow_IaLObject 0 = .ok (.aload_n 0, 1) := by decide +kernel
theorem d_AL_grow_IaLObject_1 : decode b_AL_grow_IaLObject 1 = .ok (.getfield 9, 3) := by decide +kernel
theorem d_AL_grow_IaLObject_4 : decode b_AL_grow_IaLObject 4 = .ok (.arraylength, 1) := by decide +kernel
theorem d_AL_grow_IaLObject_5 : decode b_AL_grow_IaLObject 5 = .ok (.istore_n 2, 1) := by decide +kernel
theorem d_AL_grow_IaLObject_6 : decode b_AL_grow_IaLObject 6 = .ok (.iload_n 2, 1) := by decide +kernel
theorem d_AL_grow_IaLObject_7 : decode b_AL_grow_IaLObject 7 = .ok (.ifCond .gt 13, 3) := by decide +kernel
theorem d_AL_grow_IaLObject_10 : decode b_AL_grow_IaLObject 10 = .ok (.aload_n 0, 1) := by decide +kernel
theorem d_AL_grow_IaLObject_11 : decode b_AL_grow_IaLObject 11 = .ok (.getfield 9, 3) := by decide +kernel
theorem d_AL_grow_IaLObject_14 : decode b_AL_grow_IaLObject 14 = .ok (.getstatic 39, 3) := by decide +kernel
theorem d_AL_grow_IaLObject_17 : decode b_AL_grow_IaLObject 17 = .ok (.if_acmp .eq 28, 3) := by decide +kernel
theorem d_AL_grow_IaLObject_20 : decode b_AL_grow_IaLObject 20 = .ok (.iload_n 2, 1) := by decide +kernel
theorem d_AL_grow_IaLObject_21 : decode b_AL_grow_IaLObject 21 = .ok (.iload_n 1, 1) := by decide +kernel
theorem d_AL_grow_IaLObject_22 : decode b_AL_grow_IaLObject 22 = .ok (.iload_n 2, 1) := by decide +kernel
theorem d_AL_grow_IaLObject_23 : decode b_AL_grow_IaLObject 23 = .ok (.isub, 1) := by decide +kernel
theorem d_AL_grow_IaLObject_24 : decode b_AL_grow_IaLObject 24 = .ok (.iload_n 2, 1) := by decide +kernel
theorem d_AL_grow_IaLObject_25 : decode b_AL_grow_IaLObject 25 = .ok (.iconst 1, 1) := by decide +kernel
theorem d_AL_grow_IaLObject_26 : decode b_AL_grow_IaLObject 26 = .ok (.ishr, 1) := by decide +kernel
theorem d_AL_grow_IaLObject_27 : decode b_AL_grow_IaLObject 27 = .ok (.invokestatic 73, 3) := by decide +kernel
theorem d_AL_grow_IaLObject_30 : decode b_AL_grow_IaLObject 30 = .ok (.istore_n 3, 1) := by decide +kernel
theorem d_AL_grow_IaLObject_31 : decode b_AL_grow_IaLObject 31 = .ok (.aload_n 0, 1) := by decide +kernel
theorem d_AL_grow_IaLObject_32 : decode b_AL_grow_IaLObject 32 = .ok (.aload_n 0, 1) := by decide +kernel
theorem d_AL_grow_IaLObject_33 : decode b_AL_grow_IaLObject 33 = .ok (.getfield 9, 3) := by decide +kernel
theorem d_AL_grow_IaLObject_36 : decode b_AL_grow_IaLObject 36 = .ok (.iload_n 3, 1) := by decide +kernel
theorem d_AL_grow_IaLObject_37 : decode b_AL_grow_IaLObject 37 = .ok (.invokestatic 66, 3) := by decide +kernel
theorem d_AL_grow_IaLObject_40 : decode b_AL_grow_IaLObject 40 = .ok (.dup_x1, 1) := by decide +kernel
theorem d_AL_grow_IaLObject_41 : decode b_AL_grow_IaLObject 41 = .ok (.putfield 9, 3) := by decide +kernel
theorem d_AL_grow_IaLObject_44 : decode b_AL_grow_IaLObject 44 = .ok (.areturn, 1) := by decide +kernel
theorem d_AL_grow_IaLObject_45 : decode b_AL_grow_IaLObject 45 = .ok (.aload_n 0, 1) := by decide +kernel
theorem d_AL_grow_IaLObject_46 : decode b_AL_grow_IaLObject 46 = .ok (.bipush 10, 2) := by decide +kernel
theorem d_AL_grow_IaLObject_48 : decode b_AL_grow_IaLObject 48 = .ok (.iload_n 1, 1) := by decide +kernel
theorem d_AL_grow_IaLObject_49 : decode b_AL_grow_IaLObject 49 = .ok (.invokestatic 79, 3) := by decide +kernel
theorem d_AL_grow_IaLObject_52 : decode b_AL_grow_IaLObject 52 = .ok (.anewarray 7, 3) := by decide +kernel
theorem d_AL_grow_IaLObject_55 : decode b_AL_grow_IaLObject 55 = .ok (.dup_x1, 1) := by decide +kernel
theorem d_AL_grow_IaLObject_56 : decode b_AL_grow_IaLObject 56 = .ok (.putfield 9, 3) := by decide +kernel
theorem d_AL_grow_IaLObject_59 : decode b_AL_grow_IaLObject 59 = .ok (.areturn, 1) := by decide +kernel
abbrev b_AS_newLength : ByteArray := prog_31_method_27_code
abbrev y_AS_newLength : MethodName := ⟨"jdk/internal/util/ArraysSupport", "newLength", "(III)I"⟩
theorem d_AS_newLength_0 : decode b_AS_newLength 0 = .ok (.iload_n 0, 1) := by decide +kernel
theorem d_AS_newLength_1 : decode b_AS_newLength 1 = .ok (.iload_n 1, 1) := by decide +kernel
theorem d_AS_newLength_2 : decode b_AS_newLength 2 = .ok (.iload_n 2, 1) := by decide +kernel
theorem d_AS_newLength_3 : decode b_AS_newLength 3 = .ok (.invokestatic 194, 3) := by decide +kernel
theorem d_AS_newLength_6 : decode b_AS_newLength 6 = .ok (.iadd, 1) := by decide +kernel
theorem d_AS_newLength_7 : decode b_AS_newLength 7 = .ok (.istore_n 3, 1) := by decide +kernel
theorem d_AS_newLength_8 : decode b_AS_newLength 8 = .ok (.iconst 0, 1) := by decide +kernel
theorem d_AS_newLength_9 : decode b_AS_newLength 9 = .ok (.iload_n 3, 1) := by decide +kernel
theorem d_AS_newLength_10 : decode b_AS_newLength 10 = .ok (.if_icmp .ge 11, 3) := by decide +kernel
theorem d_AS_newLength_13 : decode b_AS_newLength 13 = .ok (.iload_n 3, 1) := by decide +kernel
theorem d_AS_newLength_14 : decode b_AS_newLength 14 = .ok (.ldc 200, 2) := by decide +kernel
theorem d_AS_newLength_16 : decode b_AS_newLength 16 = .ok (.if_icmp .gt 5, 3) := by decide +kernel
theorem d_AS_newLength_19 : decode b_AS_newLength 19 = .ok (.iload_n 3, 1) := by decide +kernel
theorem d_AS_newLength_20 : decode b_AS_newLength 20 = .ok (.ireturn, 1) := by decide +kernel
theorem d_AS_newLength_21 : decode b_AS_newLength 21 = .ok (.iload_n 0, 1) := by decide +kernel
theorem d_AS_newLength_22 : decode b_AS_newLength 22 = .ok (.iload_n 1, 1) := by decide +kernel
theorem d_AS_newLength_23 : decode b_AS_newLength 23 = .ok (.invokestatic 201, 3) := by decide +kernel
theorem d_AS_newLength_26 : decode b_AS_newLength 26 = .ok (.ireturn, 1) := by decide +kernel
abbrev b_Ma_max : ByteArray := prog_17_method_65_code
abbrev y_Ma_max : MethodName := ⟨"java/lang/Math", "max", "(II)I"⟩
theorem d_Ma_max_0 : decode b_Ma_max 0 = .ok (.iload_n 0, 1) := by decide +kernel
theorem d_Ma_max_1 : decode b_Ma_max 1 = .ok (.iload_n 1, 1) := by decide +kernel
theorem d_Ma_max_2 : decode b_Ma_max 2 = .ok (.if_icmp .lt 7, 3) := by decide +kernel
theorem d_Ma_max_5 : decode b_Ma_max 5 = .ok (.iload_n 0, 1) := by decide +kernel
theorem d_Ma_max_6 : decode b_Ma_max 6 = .ok (.goto 4, 3) := by decide +kernel
theorem d_Ma_max_9 : decode b_Ma_max 9 = .ok (.iload_n 1, 1) := by decide +kernel
theorem d_Ma_max_10 : decode b_Ma_max 10 = .ok (.ireturn, 1) := by decide +kernel
abbrev b_AS_hugeLength : ByteArray := prog_31_method_28_code
abbrev y_AS_hugeLength : MethodName := ⟨"jdk/internal/util/ArraysSupport", "hugeLength", "(II)I"⟩
theorem d_AS_hugeLength_0 : decode b_AS_hugeLength 0 = .ok (.iload_n 0, 1) := by decide +kernel
theorem d_AS_hugeLength_1 : decode b_AS_hugeLength 1 = .ok (.iload_n 1, 1) := by decide +kernel
theorem d_AS_hugeLength_2 : decode b_AS_hugeLength 2 = .ok (.iadd, 1) := by decide +kernel
theorem d_AS_hugeLength_3 : decode b_AS_hugeLength 3 = .ok (.istore_n 2, 1) := by decide +kernel
theorem d_AS_hugeLength_4 : decode b_AS_hugeLength 4 = .ok (.iload_n 2, 1) := by decide +kernel
theorem d_AS_hugeLength_5 : decode b_AS_hugeLength 5 = .ok (.ifCond .ge 44, 3) := by decide +kernel
theorem d_AS_hugeLength_8 : decode b_AS_hugeLength 8 = .ok (.new 204, 3) := by decide +kernel
theorem d_AS_hugeLength_11 : decode b_AS_hugeLength 11 = .ok (.dup, 1) := by decide +kernel
theorem d_AS_hugeLength_12 : decode b_AS_hugeLength 12 = .ok (.new 89, 3) := by decide +kernel
theorem d_AS_hugeLength_15 : decode b_AS_hugeLength 15 = .ok (.dup, 1) := by decide +kernel
theorem d_AS_hugeLength_16 : decode b_AS_hugeLength 16 = .ok (.invokespecial 91, 3) := by decide +kernel
theorem d_AS_hugeLength_19 : decode b_AS_hugeLength 19 = .ok (.ldc 206, 2) := by decide +kernel
theorem d_AS_hugeLength_21 : decode b_AS_hugeLength 21 = .ok (.invokevirtual 94, 3) := by decide +kernel
theorem d_AS_hugeLength_24 : decode b_AS_hugeLength 24 = .ok (.iload_n 0, 1) := by decide +kernel
theorem d_AS_hugeLength_25 : decode b_AS_hugeLength 25 = .ok (.invokevirtual 98, 3) := by decide +kernel
theorem d_AS_hugeLength_28 : decode b_AS_hugeLength 28 = .ok (.ldc 208, 2) := by decide +kernel
theorem d_AS_hugeLength_30 : decode b_AS_hugeLength 30 = .ok (.invokevirtual 94, 3) := by decide +kernel
theorem d_AS_hugeLength_33 : decode b_AS_hugeLength 33 = .ok (.iload_n 1, 1) := by decide +kernel
theorem d_AS_hugeLength_34 : decode b_AS_hugeLength 34 = .ok (.invokevirtual 98, 3) := by decide +kernel
theorem d_AS_hugeLength_37 : decode b_AS_hugeLength 37 = .ok (.ldc 210, 2) := by decide +kernel
theorem d_AS_hugeLength_39 : decode b_AS_hugeLength 39 = .ok (.invokevirtual 94, 3) := by decide +kernel
theorem d_AS_hugeLength_42 : decode b_AS_hugeLength 42 = .ok (.invokevirtual 101, 3) := by decide +kernel
theorem d_AS_hugeLength_45 : decode b_AS_hugeLength 45 = .ok (.invokespecial 212, 3) := by decide +kernel
theorem d_AS_hugeLength_48 : decode b_AS_hugeLength 48 = .ok (.athrow, 1) := by decide +kernel
theorem d_AS_hugeLength_49 : decode b_AS_hugeLength 49 = .ok (.iload_n 2, 1) := by decide +kernel
theorem d_AS_hugeLength_50 : decode b_AS_hugeLength 50 = .ok (.ldc 200, 2) := by decide +kernel
theorem d_AS_hugeLength_52 : decode b_AS_hugeLength 52 = .ok (.if_icmp .gt 6, 3) := by decide +kernel
theorem d_AS_hugeLength_55 : decode b_AS_hugeLength 55 = .ok (.ldc 200, 2) := by decide +kernel
theorem d_AS_hugeLength_57 : decode b_AS_hugeLength 57 = .ok (.ireturn, 1) := by decide +kernel
theorem d_AS_hugeLength_58 : decode b_AS_hugeLength 58 = .ok (.iload_n 2, 1) := by decide +kernel
theorem d_AS_hugeLength_59 : decode b_AS_hugeLength 59 = .ok (.ireturn, 1) := by decide +kernel
abbrev b_Ar_copyOf_aLObjectIaLObject : ByteArray := prog_25_method_119_code
abbrev y_Ar_copyOf_aLObjectIaLObject : MethodName := ⟨"java/util/Arrays", "copyOf", "([Ljava/lang/Object;I)[Ljava/lang/Object;"⟩
theorem d_Ar_copyOf_aLObjectIaLObject_0 : decode b_Ar_copyOf_aLObjectIaLObject 0 = .ok (.aload_n 0, 1) := by decide +kernel
theorem d_Ar_copyOf_aLObjectIaLObject_1 : decode b_Ar_copyOf_aLObjectIaLObject 1 = .ok (.iload_n 1, 1) := by decide +kernel
theorem d_Ar_copyOf_aLObjectIaLObject_2 : decode b_Ar_copyOf_aLObjectIaLObject 2 = .ok (.aload_n 0, 1) := by decide +kernel
theorem d_Ar_copyOf_aLObjectIaLObject_3 : decode b_Ar_copyOf_aLObjectIaLObject 3 = .ok (.invokevirtual 86, 3) := by decide +kernel
theorem d_Ar_copyOf_aLObjectIaLObject_6 : decode b_Ar_copyOf_aLObjectIaLObject 6 = .ok (.invokestatic 300, 3) := by decide +kernel
theorem d_Ar_copyOf_aLObjectIaLObject_9 : decode b_Ar_copyOf_aLObjectIaLObject 9 = .ok (.areturn, 1) := by decide +kernel
abbrev b_Ar_copyOf_aLObjectILClassaLObject : ByteArray := prog_25_method_120_code
abbrev y_Ar_copyOf_aLObjectILClassaLObject : MethodName := ⟨"java/util/Arrays", "copyOf", "([Ljava/lang/Object;ILjava/lang/Class;)[Ljava/lang/Object;"⟩
theorem d_Ar_copyOf_aLObjectILClassaLObject_0 : decode b_Ar_copyOf_aLObjectILClassaLObject 0 = .ok (.aload_n 2, 1) := by decide +kernel
theorem d_Ar_copyOf_aLObjectILClassaLObject_1 : decode b_Ar_copyOf_aLObjectILClassaLObject 1 = .ok (.ldc 110, 2) := by decide +kernel
theorem d_Ar_copyOf_aLObjectILClassaLObject_3 : decode b_Ar_copyOf_aLObjectILClassaLObject 3 = .ok (.if_acmp .ne 10, 3) := by decide +kernel
theorem d_Ar_copyOf_aLObjectILClassaLObject_6 : decode b_Ar_copyOf_aLObjectILClassaLObject 6 = .ok (.iload_n 1, 1) := by decide +kernel
theorem d_Ar_copyOf_aLObjectILClassaLObject_7 : decode b_Ar_copyOf_aLObjectILClassaLObject 7 = .ok (.anewarray 2, 3) := by decide +kernel
theorem d_Ar_copyOf_aLObjectILClassaLObject_10 : decode b_Ar_copyOf_aLObjectILClassaLObject 10 = .ok (.goto 14, 3) := by decide +kernel
theorem d_Ar_copyOf_aLObjectILClassaLObject_13 : decode b_Ar_copyOf_aLObjectILClassaLObject 13 = .ok (.aload_n 2, 1) := by decide +kernel
theorem d_Ar_copyOf_aLObjectILClassaLObject_14 : decode b_Ar_copyOf_aLObjectILClassaLObject 14 = .ok (.invokevirtual 90, 3) := by decide +kernel
theorem d_Ar_copyOf_aLObjectILClassaLObject_17 : decode b_Ar_copyOf_aLObjectILClassaLObject 17 = .ok (.iload_n 1, 1) := by decide +kernel
theorem d_Ar_copyOf_aLObjectILClassaLObject_18 : decode b_Ar_copyOf_aLObjectILClassaLObject 18 = .ok (.invokestatic 95, 3) := by decide +kernel
theorem d_Ar_copyOf_aLObjectILClassaLObject_21 : decode b_Ar_copyOf_aLObjectILClassaLObject 21 = .ok (.checkcast 110, 3) := by decide +kernel
theorem d_Ar_copyOf_aLObjectILClassaLObject_24 : decode b_Ar_copyOf_aLObjectILClassaLObject 24 = .ok (.astore_n 3, 1) := by decide +kernel
theorem d_Ar_copyOf_aLObjectILClassaLObject_25 : decode b_Ar_copyOf_aLObjectILClassaLObject 25 = .ok (.aload_n 0, 1) := by decide +kernel
theorem d_Ar_copyOf_aLObjectILClassaLObject_26 : decode b_Ar_copyOf_aLObjectILClassaLObject 26 = .ok (.iconst 0, 1) := by decide +kernel
theorem d_Ar_copyOf_aLObjectILClassaLObject_27 : decode b_Ar_copyOf_aLObjectILClassaLObject 27 = .ok (.aload_n 3, 1) := by decide +kernel
theorem d_Ar_copyOf_aLObjectILClassaLObject_28 : decode b_Ar_copyOf_aLObjectILClassaLObject 28 = .ok (.iconst 0, 1) := by decide +kernel
theorem d_Ar_copyOf_aLObjectILClassaLObject_29 : decode b_Ar_copyOf_aLObjectILClassaLObject 29 = .ok (.aload_n 0, 1) := by decide +kernel
theorem d_Ar_copyOf_aLObjectILClassaLObject_30 : decode b_Ar_copyOf_aLObjectILClassaLObject 30 = .ok (.arraylength, 1) := by decide +kernel
theorem d_Ar_copyOf_aLObjectILClassaLObject_31 : decode b_Ar_copyOf_aLObjectILClassaLObject 31 = .ok (.iload_n 1, 1) := by decide +kernel
theorem d_Ar_copyOf_aLObjectILClassaLObject_32 : decode b_Ar_copyOf_aLObjectILClassaLObject 32 = .ok (.invokestatic 304, 3) := by decide +kernel
theorem d_Ar_copyOf_aLObjectILClassaLObject_35 : decode b_Ar_copyOf_aLObjectILClassaLObject 35 = .ok (.invokestatic 150, 3) := by decide +kernel
theorem d_Ar_copyOf_aLObjectILClassaLObject_38 : decode b_Ar_copyOf_aLObjectILClassaLObject 38 = .ok (.aload_n 3, 1) := by decide +kernel
theorem d_Ar_copyOf_aLObjectILClassaLObject_39 : decode b_Ar_copyOf_aLObjectILClassaLObject 39 = .ok (.areturn, 1) := by decide +kernel
abbrev b_AL_size : ByteArray := prog_24_method_8_code
abbrev y_AL_size : MethodName := ⟨"java/util/ArrayList", "size", "()I"⟩
theorem d_AL_size_0 : decode b_AL_size 0 = .ok (.aload_n 0, 1) := by decide +kernel
theorem d_AL_size_1 : decode b_AL_size 1 = .ok (.getfield 48, 3) := by decide +kernel
theorem d_AL_size_4 : decode b_AL_size 4 = .ok (.ireturn, 1) := by decide +kernel
abbrev b_AL_get : ByteArray := prog_24_method_20_code
abbrev y_AL_get : MethodName := ⟨"java/util/ArrayList", "get", "(I)Ljava/lang/Object;"⟩
theorem d_AL_get_0 : decode b_AL_get 0 = .ok (.iload_n 1, 1) := by decide +kernel
theorem d_AL_get_1 : decode b_AL_get 1 = .ok (.aload_n 0, 1) := by decide +kernel
theorem d_AL_get_2 : decode b_AL_get 2 = .ok (.getfield 48, 3) := by decide +kernel
theorem d_AL_get_5 : decode b_AL_get 5 = .ok (.invokestatic 118, 3) := by decide +kernel
theorem d_AL_get_8 : decode b_AL_get 8 = .ok (.pop, 1) := by decide +kernel
theorem d_AL_get_9 : decode b_AL_get 9 = .ok (.aload_n 0, 1) := by decide +kernel
theorem d_AL_get_10 : decode b_AL_get 10 = .ok (.iload_n 1, 1) := by decide +kernel
theorem d_AL_get_11 : decode b_AL_get 11 = .ok (.invokevirtual 123, 3) := by decide +kernel
theorem d_AL_get_14 : decode b_AL_get 14 = .ok (.areturn, 1) := by decide +kernel
abbrev b_Os_checkIndex : ByteArray := prog_28_method_17_code
abbrev y_Os_checkIndex : MethodName := ⟨"java/util/Objects", "checkIndex", "(II)I"⟩
theorem d_Os_checkIndex_0 : decode b_Os_checkIndex 0 = .ok (.iload_n 0, 1) := by decide +kernel
theorem d_Os_checkIndex_1 : decode b_Os_checkIndex 1 = .ok (.iload_n 1, 1) := by decide +kernel
theorem d_Os_checkIndex_2 : decode b_Os_checkIndex 2 = .ok (.aconst_null, 1) := by decide +kernel
theorem d_Os_checkIndex_3 : decode b_Os_checkIndex 3 = .ok (.invokestatic 105, 3) := by decide +kernel
theorem d_Os_checkIndex_6 : decode b_Os_checkIndex 6 = .ok (.ireturn, 1) := by decide +kernel
abbrev b_Pre_checkIndex : ByteArray := prog_32_method_11_code
abbrev y_Pre_checkIndex : MethodName := ⟨"jdk/internal/util/Preconditions", "checkIndex", "(IILjava/util/function/BiFunction;)I"⟩
theorem d_Pre_checkIndex_0 : decode b_Pre_checkIndex 0 = .ok (.iload_n 0, 1) := by decide +kernel
theorem d_Pre_checkIndex_1 : decode b_Pre_checkIndex 1 = .ok (.ifCond .lt 8, 3) := by decide +kernel
theorem d_Pre_checkIndex_4 : decode b_Pre_checkIndex 4 = .ok (.iload_n 0, 1) := by decide +kernel
theorem d_Pre_checkIndex_5 : decode b_Pre_checkIndex 5 = .ok (.iload_n 1, 1) := by decide +kernel
theorem d_Pre_checkIndex_6 : decode b_Pre_checkIndex 6 = .ok (.if_icmp .lt 10, 3) := by decide +kernel
theorem d_Pre_checkIndex_9 : decode b_Pre_checkIndex 9 = .ok (.aload_n 2, 1) := by decide +kernel
theorem d_Pre_checkIndex_10 : decode b_Pre_checkIndex 10 = .ok (.iload_n 0, 1) := by decide +kernel
theorem d_Pre_checkIndex_11 : decode b_Pre_checkIndex 11 = .ok (.iload_n 1, 1) := by decide +kernel
theorem d_Pre_checkIndex_12 : decode b_Pre_checkIndex 12 = .ok (.invokestatic 95, 3) := by decide +kernel
theorem d_Pre_checkIndex_15 : decode b_Pre_checkIndex 15 = .ok (.athrow, 1) := by decide +kernel
theorem d_Pre_checkIndex_16 : decode b_Pre_checkIndex 16 = .ok (.iload_n 0, 1) := by decide +kernel
theorem d_Pre_checkIndex_17 : decode b_Pre_checkIndex 17 = .ok (.ireturn, 1) := by decide +kernel
abbrev b_AL_elementData : ByteArray := prog_24_method_18_code
abbrev y_AL_elementData : MethodName := ⟨"java/util/ArrayList", "elementData", "(I)Ljava/lang/Object;"⟩
theorem d_AL_elementData_0 : decode b_AL_elementData 0 = .ok (.aload_n 0, 1) := by decide +kernel
theorem d_AL_elementData_1 : decode b_AL_elementData 1 = .ok (.getfield 9, 3) := by decide +kernel
theorem d_AL_elementData_4 : decode b_AL_elementData 4 = .ok (.iload_n 1, 1) := by decide +kernel
theorem d_AL_elementData_5 : decode b_AL_elementData 5 = .ok (.aaload, 1) := by decide +kernel
theorem d_AL_elementData_6 : decode b_AL_elementData 6 = .ok (.areturn, 1) := by decide +kernel
abbrev b_AL_remove : ByteArray := prog_24_method_29_code
abbrev y_AL_remove : MethodName := ⟨"java/util/ArrayList", "remove", "(I)Ljava/lang/Object;"⟩
theorem d_AL_remove_0 : decode b_AL_remove 0 = .ok (.iload_n 1, 1) := by decide +kernel
theorem d_AL_remove_1 : decode b_AL_remove 1 = .ok (.aload_n 0, 1) := by decide +kernel
theorem d_AL_remove_2 : decode b_AL_remove 2 = .ok (.getfield 48, 3) := by decide +kernel
theorem d_AL_remove_5 : decode b_AL_remove 5 = .ok (.invokestatic 118, 3) := by decide +kernel
theorem d_AL_remove_8 : decode b_AL_remove 8 = .ok (.pop, 1) := by decide +kernel
theorem d_AL_remove_9 : decode b_AL_remove 9 = .ok (.aload_n 0, 1) := by decide +kernel
theorem d_AL_remove_10 : decode b_AL_remove 10 = .ok (.getfield 9, 3) := by decide +kernel
theorem d_AL_remove_13 : decode b_AL_remove 13 = .ok (.astore_n 2, 1) := by decide +kernel
theorem d_AL_remove_14 : decode b_AL_remove 14 = .ok (.aload_n 2, 1) := by decide +kernel
theorem d_AL_remove_15 : decode b_AL_remove 15 = .ok (.iload_n 1, 1) := by decide +kernel
theorem d_AL_remove_16 : decode b_AL_remove 16 = .ok (.aaload, 1) := by decide +kernel
theorem d_AL_remove_17 : decode b_AL_remove 17 = .ok (.astore_n 3, 1) := by decide +kernel
theorem d_AL_remove_18 : decode b_AL_remove 18 = .ok (.aload_n 0, 1) := by decide +kernel
theorem d_AL_remove_19 : decode b_AL_remove 19 = .ok (.aload_n 2, 1) := by decide +kernel
theorem d_AL_remove_20 : decode b_AL_remove 20 = .ok (.iload_n 1, 1) := by decide +kernel
theorem d_AL_remove_21 : decode b_AL_remove 21 = .ok (.invokevirtual 144, 3) := by decide +kernel
theorem d_AL_remove_24 : decode b_AL_remove 24 = .ok (.aload_n 3, 1) := by decide +kernel
theorem d_AL_remove_25 : decode b_AL_remove 25 = .ok (.areturn, 1) := by decide +kernel
abbrev b_AL_fastRemove : ByteArray := prog_24_method_39_code
abbrev y_AL_fastRemove : MethodName := ⟨"java/util/ArrayList", "fastRemove", "([Ljava/lang/Object;I)V"⟩
theorem d_AL_fastRemove_0 : decode b_AL_fastRemove 0 = .ok (.aload_n 0, 1) := by decide +kernel
theorem d_AL_fastRemove_1 : decode b_AL_fastRemove 1 = .ok (.dup, 1) := by decide +kernel
theorem d_AL_fastRemove_2 : decode b_AL_fastRemove 2 = .ok (.getfield 63, 3) := by decide +kernel
theorem d_AL_fastRemove_5 : decode b_AL_fastRemove 5 = .ok (.iconst 1, 1) := by decide +kernel
theorem d_AL_fastRemove_6 : decode b_AL_fastRemove 6 = .ok (.iadd, 1) := by decide +kernel
theorem d_AL_fastRemove_7 : decode b_AL_fastRemove 7 = .ok (.putfield 63, 3) := by decide +kernel
theorem d_AL_fastRemove_10 : decode b_AL_fastRemove 10 = .ok (.aload_n 0, 1) := by decide +kernel
theorem d_AL_fastRemove_11 : decode b_AL_fastRemove 11 = .ok (.getfield 48, 3) := by decide +kernel
theorem d_AL_fastRemove_14 : decode b_AL_fastRemove 14 = .ok (.iconst 1, 1) := by decide +kernel
theorem d_AL_fastRemove_15 : decode b_AL_fastRemove 15 = .ok (.isub, 1) := by decide +kernel
theorem d_AL_fastRemove_16 : decode b_AL_fastRemove 16 = .ok (.dup, 1) := by decide +kernel
theorem d_AL_fastRemove_17 : decode b_AL_fastRemove 17 = .ok (.istore_n 3, 1) := by decide +kernel
theorem d_AL_fastRemove_18 : decode b_AL_fastRemove 18 = .ok (.iload_n 2, 1) := by decide +kernel
theorem d_AL_fastRemove_19 : decode b_AL_fastRemove 19 = .ok (.if_icmp .le 15, 3) := by decide +kernel
theorem d_AL_fastRemove_22 : decode b_AL_fastRemove 22 = .ok (.aload_n 1, 1) := by decide +kernel
theorem d_AL_fastRemove_23 : decode b_AL_fastRemove 23 = .ok (.iload_n 2, 1) := by decide +kernel
theorem d_AL_fastRemove_24 : decode b_AL_fastRemove 24 = .ok (.iconst 1, 1) := by decide +kernel
theorem d_AL_fastRemove_25 : decode b_AL_fastRemove 25 = .ok (.iadd, 1) := by decide +kernel
theorem d_AL_fastRemove_26 : decode b_AL_fastRemove 26 = .ok (.aload_n 1, 1) := by decide +kernel
theorem d_AL_fastRemove_27 : decode b_AL_fastRemove 27 = .ok (.iload_n 2, 1) := by decide +kernel
theorem d_AL_fastRemove_28 : decode b_AL_fastRemove 28 = .ok (.iload_n 3, 1) := by decide +kernel
theorem d_AL_fastRemove_29 : decode b_AL_fastRemove 29 = .ok (.iload_n 2, 1) := by decide +kernel
theorem d_AL_fastRemove_30 : decode b_AL_fastRemove 30 = .ok (.isub, 1) := by decide +kernel
theorem d_AL_fastRemove_31 : decode b_AL_fastRemove 31 = .ok (.invokestatic 112, 3) := by decide +kernel
theorem d_AL_fastRemove_34 : decode b_AL_fastRemove 34 = .ok (.aload_n 1, 1) := by decide +kernel
theorem d_AL_fastRemove_35 : decode b_AL_fastRemove 35 = .ok (.aload_n 0, 1) := by decide +kernel
theorem d_AL_fastRemove_36 : decode b_AL_fastRemove 36 = .ok (.iload_n 3, 1) := by decide +kernel
theorem d_AL_fastRemove_37 : decode b_AL_fastRemove 37 = .ok (.dup_x1, 1) := by decide +kernel
theorem d_AL_fastRemove_38 : decode b_AL_fastRemove 38 = .ok (.putfield 48, 3) := by decide +kernel
theorem d_AL_fastRemove_41 : decode b_AL_fastRemove 41 = .ok (.aconst_null, 1) := by decide +kernel
theorem d_AL_fastRemove_42 : decode b_AL_fastRemove 42 = .ok (.aastore, 1) := by decide +kernel
theorem d_AL_fastRemove_43 : decode b_AL_fastRemove 43 = .ok (.return_, 1) := by decide +kernel
abbrev b_Throwable_init_V : ByteArray := prog_21_method_1_code
abbrev y_Throwable_init_V : MethodName := ⟨"java/lang/Throwable", "<init>", "()V"⟩
theorem d_Throwable_init_V_0 : decode b_Throwable_init_V 0 = .ok (.aload_n 0, 1) := by decide +kernel
theorem d_Throwable_init_V_1 : decode b_Throwable_init_V 1 = .ok (.invokespecial 1, 3) := by decide +kernel
theorem d_Throwable_init_V_4 : decode b_Throwable_init_V 4 = .ok (.aload_n 0, 1) := by decide +kernel
theorem d_Throwable_init_V_5 : decode b_Throwable_init_V 5 = .ok (.aload_n 0, 1) := by decide +kernel
theorem d_Throwable_init_V_6 : decode b_Throwable_init_V 6 = .ok (.putfield 7, 3) := by decide +kernel
theorem d_Throwable_init_V_9 : decode b_Throwable_init_V 9 = .ok (.aload_n 0, 1) := by decide +kernel
theorem d_Throwable_init_V_10 : decode b_Throwable_init_V 10 = .ok (.getstatic 13, 3) := by decide +kernel
theorem d_Throwable_init_V_13 : decode b_Throwable_init_V 13 = .ok (.putfield 17, 3) := by decide +kernel
theorem d_Throwable_init_V_16 : decode b_Throwable_init_V 16 = .ok (.aload_n 0, 1) := by decide +kernel
theorem d_Throwable_init_V_17 : decode b_Throwable_init_V 17 = .ok (.getstatic 20, 3) := by decide +kernel
theorem d_Throwable_init_V_20 : decode b_Throwable_init_V 20 = .ok (.putfield 24, 3) := by decide +kernel
theorem d_Throwable_init_V_23 : decode b_Throwable_init_V 23 = .ok (.aload_n 0, 1) := by decide +kernel
theorem d_Throwable_init_V_24 : decode b_Throwable_init_V 24 = .ok (.invokevirtual 27, 3) := by decide +kernel
theorem d_Throwable_init_V_27 : decode b_Throwable_init_V 27 = .ok (.pop, 1) := by decide +kernel
theorem d_Throwable_init_V_28 : decode b_Throwable_init_V 28 = .ok (.return_, 1) := by decide +kernel
abbrev b_Throwable_fillInStackTrace : ByteArray := prog_21_method_18_code
abbrev y_Throwable_fillInStackTrace : MethodName := ⟨"java/lang/Throwable", "fillInStackTrace", "()Ljava/lang/Throwable;"⟩
theorem d_Throwable_fillInStackTrace_0 : decode b_Throwable_fillInStackTrace 0 = .ok (.aload_n 0, 1) := by decide +kernel
theorem d_Throwable_fillInStackTrace_1 : decode b_Throwable_fillInStackTrace 1 = .ok (.getfield 17, 3) := by decide +kernel
theorem d_Throwable_fillInStackTrace_4 : decode b_Throwable_fillInStackTrace 4 = .ok (.ifnonnull 10, 3) := by decide +kernel
theorem d_Throwable_fillInStackTrace_7 : decode b_Throwable_fillInStackTrace 7 = .ok (.aload_n 0, 1) := by decide +kernel
theorem d_Throwable_fillInStackTrace_8 : decode b_Throwable_fillInStackTrace 8 = .ok (.getfield 198, 3) := by decide +kernel
theorem d_Throwable_fillInStackTrace_11 : decode b_Throwable_fillInStackTrace 11 = .ok (.ifnull 16, 3) := by decide +kernel
theorem d_Throwable_fillInStackTrace_14 : decode b_Throwable_fillInStackTrace 14 = .ok (.aload_n 0, 1) := by decide +kernel
theorem d_Throwable_fillInStackTrace_15 : decode b_Throwable_fillInStackTrace 15 = .ok (.iconst 0, 1) := by decide +kernel
theorem d_Throwable_fillInStackTrace_16 : decode b_Throwable_fillInStackTrace 16 = .ok (.invokevirtual 202, 3) := by decide +kernel
theorem d_Throwable_fillInStackTrace_19 : decode b_Throwable_fillInStackTrace 19 = .ok (.pop, 1) := by decide +kernel
theorem d_Throwable_fillInStackTrace_20 : decode b_Throwable_fillInStackTrace 20 = .ok (.aload_n 0, 1) := by decide +kernel
theorem d_Throwable_fillInStackTrace_21 : decode b_Throwable_fillInStackTrace 21 = .ok (.getstatic 13, 3) := by decide +kernel
theorem d_Throwable_fillInStackTrace_24 : decode b_Throwable_fillInStackTrace 24 = .ok (.putfield 17, 3) := by decide +kernel
theorem d_Throwable_fillInStackTrace_27 : decode b_Throwable_fillInStackTrace 27 = .ok (.aload_n 0, 1) := by decide +kernel
theorem d_Throwable_fillInStackTrace_28 : decode b_Throwable_fillInStackTrace 28 = .ok (.areturn, 1) := by decide +kernel
abbrev b_IllegalArgumentException_init : ByteArray := prog_13_method_2_code
abbrev y_IllegalArgumentException_init : MethodName := ⟨"java/lang/IllegalArgumentException", "<init>", "(Ljava/lang/String;)V"⟩
theorem d_IllegalArgumentException_init_0 : decode b_IllegalArgumentException_init 0 = .ok (.aload_n 0, 1) := by decide +kernel
theorem d_IllegalArgumentException_init_1 : decode b_IllegalArgumentException_init 1 = .ok (.aload_n 1, 1) := by decide +kernel
theorem d_IllegalArgumentException_init_2 : decode b_IllegalArgumentException_init 2 = .ok (.invokespecial 7, 3) := by decide +kernel
theorem d_IllegalArgumentException_init_5 : decode b_IllegalArgumentException_init 5 = .ok (.return_, 1) := by decide +kernel
abbrev b_RuntimeException_init : ByteArray := prog_18_method_2_code
abbrev y_RuntimeException_init : MethodName := ⟨"java/lang/RuntimeException", "<init>", "(Ljava/lang/String;)V"⟩
theorem d_RuntimeException_init_0 : decode b_RuntimeException_init 0 = .ok (.aload_n 0, 1) := by decide +kernel
theorem d_RuntimeException_init_1 : decode b_RuntimeException_init 1 = .ok (.aload_n 1, 1) := by decide +kernel
theorem d_RuntimeException_init_2 : decode b_RuntimeException_init 2 = .ok (.invokespecial 7, 3) := by decide +kernel
theorem d_RuntimeException_init_5 : decode b_RuntimeException_init 5 = .ok (.return_, 1) := by decide +kernel
abbrev b_Exception_init : ByteArray := prog_12_method_2_code
abbrev y_Exception_init : MethodName := ⟨"java/lang/Exception", "<init>", "(Ljava/lang/String;)V"⟩
theorem d_Exception_init_0 : decode b_Exception_init 0 = .ok (.aload_n 0, 1) := by decide +kernel
theorem d_Exception_init_1 : decode b_Exception_init 1 = .ok (.aload_n 1, 1) := by decide +kernel
theorem d_Exception_init_2 : decode b_Exception_init 2 = .ok (.invokespecial 7, 3) := by decide +kernel
theorem d_Exception_init_5 : decode b_Exception_init 5 = .ok (.return_, 1) := by decide +kernel
abbrev b_Throwable_init_LStringV : ByteArray := prog_21_method_2_code
abbrev y_Throwable_init_LStringV : MethodName := ⟨"java/lang/Throwable", "<init>", "(Ljava/lang/String;)V"⟩
theorem d_Throwable_init_LStringV_0 : decode b_Throwable_init_LStringV 0 = .ok (.aload_n 0, 1) := by decide +kernel
theorem d_Throwable_init_LStringV_1 : decode b_Throwable_init_LStringV 1 = .ok (.invokespecial 1, 3) := by decide +kernel
theorem d_Throwable_init_LStringV_4 : decode b_Throwable_init_LStringV 4 = .ok (.aload_n 0, 1) := by decide +kernel
theorem d_Throwable_init_LStringV_5 : decode b_Throwable_init_LStringV 5 = .ok (.aload_n 0, 1) := by decide +kernel
theorem d_Throwable_init_LStringV_6 : decode b_Throwable_init_LStringV 6 = .ok (.putfield 7, 3) := by decide +kernel
theorem d_Throwable_init_LStringV_9 : decode b_Throwable_init_LStringV 9 = .ok (.aload_n 0, 1) := by decide +kernel
theorem d_Throwable_init_LStringV_10 : decode b_Throwable_init_LStringV 10 = .ok (.getstatic 13, 3) := by decide +kernel
theorem d_Throwable_init_LStringV_13 : decode b_Throwable_init_LStringV 13 = .ok (.putfield 17, 3) := by decide +kernel
theorem d_Throwable_init_LStringV_16 : decode b_Throwable_init_LStringV 16 = .ok (.aload_n 0, 1) := by decide +kernel
theorem d_Throwable_init_LStringV_17 : decode b_Throwable_init_LStringV 17 = .ok (.getstatic 20, 3) := by decide +kernel
theorem d_Throwable_init_LStringV_20 : decode b_Throwable_init_LStringV 20 = .ok (.putfield 24, 3) := by decide +kernel
theorem d_Throwable_init_LStringV_23 : decode b_Throwable_init_LStringV 23 = .ok (.aload_n 0, 1) := by decide +kernel
theorem d_Throwable_init_LStringV_24 : decode b_Throwable_init_LStringV 24 = .ok (.invokevirtual 27, 3) := by decide +kernel
theorem d_Throwable_init_LStringV_27 : decode b_Throwable_init_LStringV 27 = .ok (.pop, 1) := by decide +kernel
theorem d_Throwable_init_LStringV_28 : decode b_Throwable_init_LStringV 28 = .ok (.aload_n 0, 1) := by decide +kernel
theorem d_Throwable_init_LStringV_29 : decode b_Throwable_init_LStringV 29 = .ok (.aload_n 1, 1) := by decide +kernel
theorem d_Throwable_init_LStringV_30 : decode b_Throwable_init_LStringV 30 = .ok (.putfield 31, 3) := by decide +kernel
theorem d_Throwable_init_LStringV_33 : decode b_Throwable_init_LStringV 33 = .ok (.return_, 1) := by decide +kernel
abbrev b_IllegalStateException_init : ByteArray := prog_14_method_2_code
abbrev y_IllegalStateException_init : MethodName := ⟨"java/lang/IllegalStateException", "<init>", "(Ljava/lang/String;)V"⟩
theorem d_IllegalStateException_init_0 : decode b_IllegalStateException_init 0 = .ok (.aload_n 0, 1) := by decide +kernel
theorem d_IllegalStateException_init_1 : decode b_IllegalStateException_init 1 = .ok (.aload_n 1, 1) := by decide +kernel
theorem d_IllegalStateException_init_2 : decode b_IllegalStateException_init 2 = .ok (.invokespecial 7, 3) := by decide +kernel
theorem d_IllegalStateException_init_5 : decode b_IllegalStateException_init 5 = .ok (.return_, 1) := by decide +kernel
abbrev b_Ar_copyOf_aIIaI : ByteArray := prog_25_method_123_code
abbrev y_Ar_copyOf_aIIaI : MethodName := ⟨"java/util/Arrays", "copyOf", "([II)[I"⟩
theorem d_Ar_copyOf_aIIaI_0 : decode b_Ar_copyOf_aIIaI 0 = .ok (.iload_n 1, 1) := by decide +kernel
theorem d_Ar_copyOf_aIIaI_1 : decode b_Ar_copyOf_aIIaI 1 = .ok (.aload_n 0, 1) := by decide +kernel
theorem d_Ar_copyOf_aIIaI_2 : decode b_Ar_copyOf_aIIaI 2 = .ok (.arraylength, 1) := by decide +kernel
theorem d_Ar_copyOf_aIIaI_3 : decode b_Ar_copyOf_aIIaI 3 = .ok (.if_icmp .ne 11, 3) := by decide +kernel
theorem d_Ar_copyOf_aIIaI_6 : decode b_Ar_copyOf_aIIaI 6 = .ok (.aload_n 0, 1) := by decide +kernel
theorem d_Ar_copyOf_aIIaI_7 : decode b_Ar_copyOf_aIIaI 7 = .ok (.invokevirtual 316, 3) := by decide +kernel
theorem d_Ar_copyOf_aIIaI_10 : decode b_Ar_copyOf_aIIaI 10 = .ok (.checkcast 317, 3) := by decide +kernel
theorem d_Ar_copyOf_aIIaI_13 : decode b_Ar_copyOf_aIIaI 13 = .ok (.areturn, 1) := by decide +kernel
theorem d_Ar_copyOf_aIIaI_14 : decode b_Ar_copyOf_aIIaI 14 = .ok (.iload_n 1, 1) := by decide +kernel
theorem d_Ar_copyOf_aIIaI_15 : decode b_Ar_copyOf_aIIaI 15 = .ok (.newarray .int, 2) := by decide +kernel
theorem d_Ar_copyOf_aIIaI_17 : decode b_Ar_copyOf_aIIaI 17 = .ok (.astore_n 2, 1) := by decide +kernel
theorem d_Ar_copyOf_aIIaI_18 : decode b_Ar_copyOf_aIIaI 18 = .ok (.aload_n 0, 1) := by decide +kernel
theorem d_Ar_copyOf_aIIaI_19 : decode b_Ar_copyOf_aIIaI 19 = .ok (.iconst 0, 1) := by decide +kernel
theorem d_Ar_copyOf_aIIaI_20 : decode b_Ar_copyOf_aIIaI 20 = .ok (.aload_n 2, 1) := by decide +kernel
theorem d_Ar_copyOf_aIIaI_21 : decode b_Ar_copyOf_aIIaI 21 = .ok (.iconst 0, 1) := by decide +kernel
theorem d_Ar_copyOf_aIIaI_22 : decode b_Ar_copyOf_aIIaI 22 = .ok (.aload_n 0, 1) := by decide +kernel
theorem d_Ar_copyOf_aIIaI_23 : decode b_Ar_copyOf_aIIaI 23 = .ok (.arraylength, 1) := by decide +kernel
theorem d_Ar_copyOf_aIIaI_24 : decode b_Ar_copyOf_aIIaI 24 = .ok (.iload_n 1, 1) := by decide +kernel
theorem d_Ar_copyOf_aIIaI_25 : decode b_Ar_copyOf_aIIaI 25 = .ok (.invokestatic 304, 3) := by decide +kernel
theorem d_Ar_copyOf_aIIaI_28 : decode b_Ar_copyOf_aIIaI 28 = .ok (.invokestatic 150, 3) := by decide +kernel
theorem d_Ar_copyOf_aIIaI_31 : decode b_Ar_copyOf_aIIaI 31 = .ok (.aload_n 2, 1) := by decide +kernel
theorem d_Ar_copyOf_aIIaI_32 : decode b_Ar_copyOf_aIIaI 32 = .ok (.areturn, 1) := by decide +kernel
abbrev b_IndexOutOfBoundsException_init : ByteArray := prog_15_method_2_code
abbrev y_IndexOutOfBoundsException_init : MethodName := ⟨"java/lang/IndexOutOfBoundsException", "<init>", "(Ljava/lang/String;)V"⟩
theorem d_IndexOutOfBoundsException_init_0 : decode b_IndexOutOfBoundsException_init 0 = .ok (.aload_n 0, 1) := by decide +kernel
theorem d_IndexOutOfBoundsException_init_1 : decode b_IndexOutOfBoundsException_init 1 = .ok (.aload_n 1, 1) := by decide +kernel
theorem d_IndexOutOfBoundsException_init_2 : decode b_IndexOutOfBoundsException_init 2 = .ok (.invokespecial 7, 3) := by decide +kernel
theorem d_IndexOutOfBoundsException_init_5 : decode b_IndexOutOfBoundsException_init 5 = .ok (.return_, 1) := by decide +kernel
theorem w_AL_init : MI y_AL_init b_AL_init 1 none 0 := ⟨gw_in (i := 114) (by decide +kernel) rfl, gw_in (i := 39) (by decide +kernel) rfl, gw_in (i := 115) (by decide +kernel) rfl, rfl, ⟨by decide, by decide, by decide +kernel⟩⟩
theorem w_AbL_init : MI y_AbL_init b_AbL_init 1 none 0 := ⟨gw_in (i := 117) (by decide +kernel) rfl, gw_in (i := 38) (by decide +kernel) rfl, gw_in (i := 118) (by decide +kernel) rfl, rfl, ⟨by decide, by decide, by decide +kernel⟩⟩
theorem w_AbC_init : MI y_AbC_init b_AbC_init 1 none 0 := ⟨gw_in (i := 120) (by decide +kernel) rfl, gw_in (i := 37) (by decide +kernel) rfl, gw_in (i := 121) (by decide +kernel) rfl, rfl, ⟨by decide, by decide, by decide +kernel⟩⟩
theorem w_Ar_copyOf_aJIaJ : MS y_Ar_copyOf_aJIaJ b_Ar_copyOf_aJIaJ 3 (some (.array .long)) 2 := ⟨gw_in (i := 238) (by decide +kernel) rfl, gw_in (i := 49) (by decide +kernel) rfl, gw_in (i := 239) (by decide +kernel) rfl, ⟨by decide, by decide, by decide +kernel⟩⟩
theorem w_Ma_min : MS y_Ma_min b_Ma_min 2 (some .int) 2 := ⟨gw_in (i := 248) (by decide +kernel) rfl, gw_in (i := 50) (by decide +kernel) rfl, gw_in (i := 249) (by decide +kernel) rfl, ⟨by decide, by decide, by decide +kernel⟩⟩
theorem w_AL_add_LObjectZ : MV y_AL_add_LObjectZ b_AL_add_LObjectZ 2 (some .boolean) 1 := ⟨gw_in (i := 293) (by decide +kernel) rfl, gw_in (i := 294) (by decide +kernel) rfl, gw_in (i := 39) (by decide +kernel) rfl, gw_in (i := 295) (by decide +kernel) rfl, ⟨by decide, by decide, by decide +kernel⟩⟩
theorem w_AL_add_LObjectaLObjectIV : MV y_AL_add_LObjectaLObjectIV b_AL_add_LObjectaLObjectIV 4 none 3 := ⟨gw_in (i := 298) (by decide +kernel) rfl, gw_in (i := 3) (by decide +kernel) rfl, gw_in (i := 39) (by decide +kernel) rfl, gw_in (i := 299) (by decide +kernel) rfl, ⟨by decide, by decide, by decide +kernel⟩⟩
theorem w_AL_grow_aLObject : MV y_AL_grow_aLObject b_AL_grow_aLObject 1 (some (.array (.object "java/lang/Object"))) 0 := ⟨gw_in (i := 302) (by decide +kernel) rfl, gw_in (i := 4) (by decide +kernel) rfl, gw_in (i := 39) (by decide +kernel) rfl, gw_in (i := 303) (by decide +kernel) rfl, ⟨by decide, by decide, by decide +kernel⟩⟩
theorem w_AL_grow_IaLObject : MV y_AL_grow_IaLObject b_AL_grow_IaLObject 4 (some (.array (.object "java/lang/Object"))) 1 := ⟨gw_in (i := 306) (by decide +kernel) rfl, gw_in (i := 5) (by decide +kernel) rfl, gw_in (i := 39) (by decide +kernel) rfl, gw_in (i := 307) (by decide +kernel) rfl, ⟨by decide, by decide, by decide +kernel⟩⟩
theorem w_AS_newLength : MS y_AS_newLength b_AS_newLength 4 (some .int) 3 := ⟨gw_in (i := 309) (by decide +kernel) rfl, gw_in (i := 53) (by decide +kernel) rfl, gw_in (i := 310) (by decide +kernel) rfl, ⟨by decide, by decide, by decide +kernel⟩⟩
theorem w_Ma_max : MS y_Ma_max b_Ma_max 2 (some .int) 2 := ⟨gw_in (i := 312) (by decide +kernel) rfl, gw_in (i := 50) (by decide +kernel) rfl, gw_in (i := 313) (by decide +kernel) rfl, ⟨by decide, by decide, by decide +kernel⟩⟩
theorem w_AS_hugeLength : MS y_AS_hugeLength b_AS_hugeLength 3 (some .int) 2 := ⟨gw_in (i := 316) (by decide +kernel) rfl, gw_in (i := 53) (by decide +kernel) rfl, gw_in (i := 317) (by decide +kernel) rfl, ⟨by decide, by decide, by decide +kernel⟩⟩
theorem w_Ar_copyOf_aLObjectIaLObject : MS y_Ar_copyOf_aLObjectIaLObject b_Ar_copyOf_aLObjectIaLObject 2 (some (.array (.object "java/lang/Object"))) 2 := ⟨gw_in (i := 319) (by decide +kernel) rfl, gw_in (i := 49) (by decide +kernel) rfl, gw_in (i := 320) (by decide +kernel) rfl, ⟨by decide, by decide, by decide +kernel⟩⟩
theorem w_Ar_copyOf_aLObjectILClassaLObject : MS y_Ar_copyOf_aLObjectILClassaLObject b_Ar_copyOf_aLObjectILClassaLObject 4 (some (.array (.object "java/lang/Object"))) 3 := ⟨gw_in (i := 338) (by decide +kernel) rfl, gw_in (i := 49) (by decide +kernel) rfl, gw_in (i := 339) (by decide +kernel) rfl, ⟨by decide, by decide, by decide +kernel⟩⟩
theorem w_AL_size : MV y_AL_size b_AL_size 1 (some .int) 0 := ⟨gw_in (i := 350) (by decide +kernel) rfl, gw_in (i := 351) (by decide +kernel) rfl, gw_in (i := 39) (by decide +kernel) rfl, gw_in (i := 352) (by decide +kernel) rfl, ⟨by decide, by decide, by decide +kernel⟩⟩
theorem w_AL_get : MV y_AL_get b_AL_get 2 (some (.object "java/lang/Object")) 1 := ⟨gw_in (i := 354) (by decide +kernel) rfl, gw_in (i := 355) (by decide +kernel) rfl, gw_in (i := 39) (by decide +kernel) rfl, gw_in (i := 356) (by decide +kernel) rfl, ⟨by decide, by decide, by decide +kernel⟩⟩
theorem w_Os_checkIndex : MS y_Os_checkIndex b_Os_checkIndex 2 (some .int) 2 := ⟨gw_in (i := 358) (by decide +kernel) rfl, gw_in (i := 54) (by decide +kernel) rfl, gw_in (i := 359) (by decide +kernel) rfl, ⟨by decide, by decide, by decide +kernel⟩⟩
theorem w_Pre_checkIndex : MS y_Pre_checkIndex b_Pre_checkIndex 3 (some .int) 3 := ⟨gw_in (i := 361) (by decide +kernel) rfl, gw_in (i := 55) (by decide +kernel) rfl, gw_in (i := 362) (by decide +kernel) rfl, ⟨by decide, by decide, by decide +kernel⟩⟩
theorem w_AL_elementData : MV y_AL_elementData b_AL_elementData 2 (some (.object "java/lang/Object")) 1 := ⟨gw_in (i := 364) (by decide +kernel) rfl, gw_in (i := 365) (by decide +kernel) rfl, gw_in (i := 39) (by decide +kernel) rfl, gw_in (i := 366) (by decide +kernel) rfl, ⟨by decide, by decide, by decide +kernel⟩⟩
theorem w_AL_remove : MV y_AL_remove b_AL_remove 4 (some (.object "java/lang/Object")) 1 := ⟨gw_in (i := 376) (by decide +kernel) rfl, gw_in (i := 377) (by decide +kernel) rfl, gw_in (i := 39) (by decide +kernel) rfl, gw_in (i := 378) (by decide +kernel) rfl, ⟨by decide, by decide, by decide +kernel⟩⟩
theorem w_AL_fastRemove : MV y_AL_fastRemove b_AL_fastRemove 4 none 2 := ⟨gw_in (i := 381) (by decide +kernel) rfl, gw_in (i := 9) (by decide +kernel) rfl, gw_in (i := 39) (by decide +kernel) rfl, gw_in (i := 382) (by decide +kernel) rfl, ⟨by decide, by decide, by decide +kernel⟩⟩
theorem w_Throwable_init_V : MI y_Throwable_init_V b_Throwable_init_V 1 none 0 := ⟨gw_in (i := 482) (by decide +kernel) rfl, gw_in (i := 44) (by decide +kernel) rfl, gw_in (i := 483) (by decide +kernel) rfl, rfl, ⟨by decide, by decide, by decide +kernel⟩⟩
theorem w_IllegalArgumentException_init : MI y_IllegalArgumentException_init b_IllegalArgumentException_init 2 none 1 := ⟨gw_in (i := 502) (by decide +kernel) rfl, gw_in (i := 47) (by decide +kernel) rfl, gw_in (i := 503) (by decide +kernel) rfl, rfl, ⟨by decide, by decide, by decide +kernel⟩⟩
theorem w_RuntimeException_init : MI y_RuntimeException_init b_RuntimeException_init 2 none 1 := ⟨gw_in (i := 505) (by decide +kernel) rfl, gw_in (i := 46) (by decide +kernel) rfl, gw_in (i := 506) (by decide +kernel) rfl, rfl, ⟨by decide, by decide, by decide +kernel⟩⟩
theorem w_Exception_init : MI y_Exception_init b_Exception_init 2 none 1 := ⟨gw_in (i := 508) (by decide +kernel) rfl, gw_in (i := 45) (by decide +kernel) rfl, gw_in (i := 509) (by decide +kernel) rfl, rfl, ⟨by decide, by decide, by decide +kernel⟩⟩
theorem w_Throwable_init_LStringV : MI y_Throwable_init_LStringV b_Throwable_init_LStringV 2 none 1 := ⟨gw_in (i := 511) (by decide +kernel) rfl, gw_in (i := 44) (by decide +kernel) rfl, gw_in (i := 512) (by decide +kernel) rfl, rfl, ⟨by decide, by decide, by decide +kernel⟩⟩
theorem w_IllegalStateException_init : MI y_IllegalStateException_init b_IllegalStateException_init 2 none 1 := ⟨gw_in (i := 557) (by decide +kernel) rfl, gw_in (i := 48) (by decide +kernel) rfl, gw_in (i := 558) (by decide +kernel) rfl, rfl, ⟨by decide, by decide, by decide +kernel⟩⟩
theorem w_Ar_copyOf_aIIaI : MS y_Ar_copyOf_aIIaI b_Ar_copyOf_aIIaI 3 (some (.array .int)) 2 := ⟨gw_in (i := 567) (by decide +kernel) rfl, gw_in (i := 49) (by decide +kernel) rfl, gw_in (i := 568) (by decide +kernel) rfl, ⟨by decide, by decide, by decide +kernel⟩⟩
theorem w_IndexOutOfBoundsException_init : MI y_IndexOutOfBoundsException_init b_IndexOutOfBoundsException_init 2 none 1 := ⟨gw_in (i := 611) (by decide +kernel) rfl, gw_in (i := 56) (by decide +kernel) rfl, gw_in (i := 612) (by decide +kernel) rfl, rfl, ⟨by decide, by decide, by decide +kernel⟩⟩
theorem fl_HS_9 : Cond.fieldLink "SegmentIndex$HitSet" 9 "SegmentIndex$HitSet" "hits" "[I" ∈ gw := gw_in (i := 150) (by decide +kernel) rfl
theorem fl_HS_15 : Cond.fieldLink "SegmentIndex$HitSet" 15 "SegmentIndex$HitSet" "size" "I" ∈ gw := gw_in (i := 152) (by decide +kernel) rfl
theorem ml_HS_3 : Cond.methodLink "SegmentIndex$HitSet" 3 y_Ob_init ∈ gw := gw_in (i := 149) (by decide +kernel) rfl
theorem ml_HS_19 : Cond.methodLink "SegmentIndex$HitSet" 19 y_Ar_copyOf_aIIaI ∈ gw := gw_in (i := 641) (by decide +kernel) rfl
theorem ml_HS_25 : Cond.methodLink "SegmentIndex$HitSet" 25 y_HS_clear ∈ gw := gw_in (i := 694) (by decide +kernel) rfl
theorem ml_HS_28 : Cond.methodLink "SegmentIndex$HitSet" 28 y_HS_put ∈ gw := gw_in (i := 695) (by decide +kernel) rfl
theorem ml_HS_32 : Cond.methodLinkNest "SegmentIndex$HitSet" 32 y_SI_documentOf "SegmentIndex" ∈ gw := gw_in (i := 426) (by decide +kernel) rfl
theorem ml_HS_36 : Cond.methodLinkNest "SegmentIndex$HitSet" 36 y_SI_hitOf "SegmentIndex" ∈ gw := gw_in (i := 704) (by decide +kernel) rfl
theorem ml_HS_40 : Cond.methodLink "SegmentIndex$HitSet" 40 y_HS_hasWithin ∈ gw := gw_in (i := 674) (by decide +kernel) rfl
theorem ml_HS_44 : Cond.methodLinkNest "SegmentIndex$HitSet" 44 y_SI_placeOf "SegmentIndex" ∈ gw := gw_in (i := 671) (by decide +kernel) rfl
theorem ml_HS_47 : Cond.methodLink "SegmentIndex$HitSet" 47 y_Ma_max ∈ gw := gw_in (i := 672) (by decide +kernel) rfl
theorem ml_HS_53 : Cond.methodLink "SegmentIndex$HitSet" 53 y_Ma_min ∈ gw := gw_in (i := 673) (by decide +kernel) rfl
theorem ml_HS_56 : Cond.methodLink "SegmentIndex$HitSet" 56 y_HS_hasDocument ∈ gw := gw_in (i := 700) (by decide +kernel) rfl
theorem ml_HS_60 : Cond.methodLink "SegmentIndex$HitSet" 60 y_HS_hasAtDistance ∈ gw := gw_in (i := 667) (by decide +kernel) rfl
theorem fl_Ks_9 : Cond.fieldLink "SegmentIndex$Keys" 9 "SegmentIndex$Keys" "row" "[J" ∈ gw := gw_in (i := 175) (by decide +kernel) rfl
theorem fl_Ks_15 : Cond.fieldLink "SegmentIndex$Keys" 15 "SegmentIndex$Keys" "size" "I" ∈ gw := gw_in (i := 177) (by decide +kernel) rfl
theorem ml_Ks_3 : Cond.methodLink "SegmentIndex$Keys" 3 y_Ob_init ∈ gw := gw_in (i := 174) (by decide +kernel) rfl
theorem ml_Ks_19 : Cond.methodLink "SegmentIndex$Keys" 19 y_Ar_copyOf_aJIaJ ∈ gw := gw_in (i := 237) (by decide +kernel) rfl
theorem ml_Ks_25 : Cond.methodLink "SegmentIndex$Keys" 25 y_Ks_sort ∈ gw := gw_in (i := 259) (by decide +kernel) rfl
theorem ml_Ks_28 : Cond.methodLink "SegmentIndex$Keys" 28 y_Ks_sink ∈ gw := gw_in (i := 263) (by decide +kernel) rfl
theorem fl_Pl_11 : Cond.fieldLink "SegmentIndex$Pile" 11 "SegmentIndex$Pile" "sets" "[LSegmentIndex$HitSet;" ∈ gw := gw_in (i := 160) (by decide +kernel) rfl
theorem fl_Pl_17 : Cond.fieldLink "SegmentIndex$Pile" 17 "SegmentIndex$Pile" "height" "I" ∈ gw := gw_in (i := 162) (by decide +kernel) rfl
theorem fl_Pl_29 : Cond.fieldLink "SegmentIndex$Pile" 29 "SegmentIndex$HitSet" "size" "I" ∈ gw := gw_in (i := 153) (by decide +kernel) rfl
theorem ml_Pl_3 : Cond.methodLink "SegmentIndex$Pile" 3 y_Ob_init ∈ gw := gw_in (i := 142) (by decide +kernel) rfl
theorem ml_Pl_21 : Cond.methodLinkNest "SegmentIndex$Pile" 21 y_HS_init "SegmentIndex" ∈ gw := gw_in (i := 146) (by decide +kernel) rfl
theorem ml_Pl_22 : Cond.methodLink "SegmentIndex$Pile" 22 y_HS_clear ∈ gw := gw_in (i := 405) (by decide +kernel) rfl
theorem ml_Pl_25 : Cond.methodLink "SegmentIndex$Pile" 25 y_Pl_spare ∈ gw := gw_in (i := 401) (by decide +kernel) rfl
theorem cl_Pl_9 : Cond.classLink "SegmentIndex$Pile" 9 "SegmentIndex$HitSet" ∈ gw := gw_in (i := 143) (by decide +kernel) rfl
theorem fl_Sg_7 : Cond.fieldLink "SegmentIndex$Segment" 7 "SegmentIndex$Segment" "first" "I" ∈ gw := gw_in (i := 271) (by decide +kernel) rfl
theorem fl_Sg_13 : Cond.fieldLink "SegmentIndex$Segment" 13 "SegmentIndex$Segment" "level" "I" ∈ gw := gw_in (i := 273) (by decide +kernel) rfl
theorem fl_Sg_16 : Cond.fieldLink "SegmentIndex$Segment" 16 "SegmentIndex$Segment" "held" "I" ∈ gw := gw_in (i := 275) (by decide +kernel) rfl
theorem fl_Sg_19 : Cond.fieldLink "SegmentIndex$Segment" 19 "SegmentIndex$Segment" "terms" "I" ∈ gw := gw_in (i := 277) (by decide +kernel) rfl
theorem fl_Sg_22 : Cond.fieldLink "SegmentIndex$Segment" 22 "SegmentIndex$Segment" "tokens" "I" ∈ gw := gw_in (i := 279) (by decide +kernel) rfl
theorem ml_Sg_1 : Cond.methodLink "SegmentIndex$Segment" 1 y_Ob_init ∈ gw := gw_in (i := 270) (by decide +kernel) rfl
theorem fl_Tk_9 : Cond.fieldLink "SegmentIndex$Tokens" 9 "SegmentIndex$Tokens" "hits" "[I" ∈ gw := gw_in (i := 77) (by decide +kernel) rfl
theorem fl_Tk_15 : Cond.fieldLink "SegmentIndex$Tokens" 15 "SegmentIndex$Tokens" "terms" "[J" ∈ gw := gw_in (i := 79) (by decide +kernel) rfl
theorem fl_Tk_19 : Cond.fieldLink "SegmentIndex$Tokens" 19 "SegmentIndex$Tokens" "size" "I" ∈ gw := gw_in (i := 81) (by decide +kernel) rfl
theorem ml_Tk_3 : Cond.methodLink "SegmentIndex$Tokens" 3 y_Ob_init ∈ gw := gw_in (i := 76) (by decide +kernel) rfl
theorem ml_Tk_23 : Cond.methodLink "SegmentIndex$Tokens" 23 y_Ar_copyOf_aIIaI ∈ gw := gw_in (i := 566) (by decide +kernel) rfl
theorem ml_Tk_29 : Cond.methodLink "SegmentIndex$Tokens" 29 y_Ar_copyOf_aJIaJ ∈ gw := gw_in (i := 574) (by decide +kernel) rfl
theorem ml_Tk_32 : Cond.methodLink "SegmentIndex$Tokens" 32 ⟨"java/lang/System", "arraycopy", "(Ljava/lang/Object;ILjava/lang/Object;II)V"⟩ ∈ gw := gw_in (i := 575) (by decide +kernel) rfl
theorem fl_Sh_12 : Cond.fieldLink "SegmentIndex$Shelf" 12 "SegmentIndex$Shelf" "tokens" "LSegmentIndex$Tokens;" ∈ gw := gw_in (i := 92) (by decide +kernel) rfl
theorem fl_Sh_18 : Cond.fieldLink "SegmentIndex$Shelf" 18 "SegmentIndex$Shelf" "states" "[I" ∈ gw := gw_in (i := 94) (by decide +kernel) rfl
theorem fl_Sh_22 : Cond.fieldLink "SegmentIndex$Shelf" 22 "SegmentIndex$Shelf" "starts" "[I" ∈ gw := gw_in (i := 95) (by decide +kernel) rfl
theorem fl_Sh_25 : Cond.fieldLink "SegmentIndex$Shelf" 25 "SegmentIndex$Shelf" "inState" "[I" ∈ gw := gw_in (i := 96) (by decide +kernel) rfl
theorem fl_Sh_28 : Cond.fieldLink "SegmentIndex$Shelf" 28 "SegmentIndex$Shelf" "came" "I" ∈ gw := gw_in (i := 98) (by decide +kernel) rfl
theorem fl_Sh_32 : Cond.fieldLink "SegmentIndex$Shelf" 32 "SegmentIndex$Tokens" "size" "I" ∈ gw := gw_in (i := 82) (by decide +kernel) rfl
theorem fl_Sh_39 : Cond.fieldLink "SegmentIndex$Shelf" 39 "SegmentIndex$Tokens" "hits" "[I" ∈ gw := gw_in (i := 78) (by decide +kernel) rfl
theorem fl_Sh_42 : Cond.fieldLink "SegmentIndex$Shelf" 42 "SegmentIndex$Tokens" "terms" "[J" ∈ gw := gw_in (i := 80) (by decide +kernel) rfl
theorem ml_Sh_3 : Cond.methodLink "SegmentIndex$Shelf" 3 y_Ob_init ∈ gw := gw_in (i := 70) (by decide +kernel) rfl
theorem ml_Sh_11 : Cond.methodLinkNest "SegmentIndex$Shelf" 11 y_Tk_init "SegmentIndex" ∈ gw := gw_in (i := 73) (by decide +kernel) rfl
theorem ml_Sh_35 : Cond.methodLink "SegmentIndex$Shelf" 35 y_Sh_comesAfter ∈ gw := gw_in (i := 538) (by decide +kernel) rfl
theorem ml_Sh_46 : Cond.methodLink "SegmentIndex$Shelf" 46 y_Sh_stateOf ∈ gw := gw_in (i := 220) (by decide +kernel) rfl
theorem ml_Sh_50 : Cond.methodLink "SegmentIndex$Shelf" 50 y_Sh_move ∈ gw := gw_in (i := 224) (by decide +kernel) rfl
theorem ml_Sh_54 : Cond.methodLink "SegmentIndex$Shelf" 54 y_Ks_put ∈ gw := gw_in (i := 233) (by decide +kernel) rfl
theorem ml_Sh_62 : Cond.methodLink "SegmentIndex$Shelf" 62 y_Sh_isThere ∈ gw := gw_in (i := 631) (by decide +kernel) rfl
theorem ml_Sh_66 : Cond.methodLink "SegmentIndex$Shelf" 66 y_Sh_gatherFrom ∈ gw := gw_in (i := 632) (by decide +kernel) rfl
theorem ml_Sh_70 : Cond.methodLinkNest "SegmentIndex$Shelf" 70 y_SI_fieldOf "SegmentIndex" ∈ gw := gw_in (i := 636) (by decide +kernel) rfl
theorem ml_Sh_73 : Cond.methodLink "SegmentIndex$Shelf" 73 y_HS_put ∈ gw := gw_in (i := 637) (by decide +kernel) rfl
theorem cl_Sh_9 : Cond.classLink "SegmentIndex$Shelf" 9 "SegmentIndex$Tokens" ∈ gw := gw_in (i := 71) (by decide +kernel) rfl
theorem cn_Sh_60 : Cond.constantLong "SegmentIndex$Shelf" 60 (-1) ∈ gw := gw_in (i := 630) (by decide +kernel) rfl
theorem fl_SI_10 : Cond.fieldLink "SegmentIndex" 10 "SegmentIndex" "shelf" "LSegmentIndex$Shelf;" ∈ gw := gw_in (i := 184) (by decide +kernel) rfl
theorem fl_SI_19 : Cond.fieldLink "SegmentIndex" 19 "SegmentIndex" "segments" "Ljava/util/ArrayList;" ∈ gw := gw_in (i := 185) (by decide +kernel) rfl
theorem fl_SI_26 : Cond.fieldLink "SegmentIndex" 26 "SegmentIndex" "pile" "LSegmentIndex$Pile;" ∈ gw := gw_in (i := 186) (by decide +kernel) rfl
theorem fl_SI_33 : Cond.fieldLink "SegmentIndex" 33 "SegmentIndex" "keys" "LSegmentIndex$Keys;" ∈ gw := gw_in (i := 187) (by decide +kernel) rfl
theorem fl_SI_37 : Cond.fieldLink "SegmentIndex" 37 "SegmentIndex" "bufferFirst" "I" ∈ gw := gw_in (i := 188) (by decide +kernel) rfl
theorem fl_SI_48 : Cond.fieldLink "SegmentIndex" 48 "SegmentIndex$Shelf" "came" "I" ∈ gw := gw_in (i := 99) (by decide +kernel) rfl
theorem fl_SI_76 : Cond.fieldLink "SegmentIndex" 76 "SegmentIndex$Shelf" "tokens" "LSegmentIndex$Tokens;" ∈ gw := gw_in (i := 93) (by decide +kernel) rfl
theorem fl_SI_91 : Cond.fieldLink "SegmentIndex" 91 "SegmentIndex$Shelf" "inState" "[I" ∈ gw := gw_in (i := 97) (by decide +kernel) rfl
theorem fl_SI_129 : Cond.fieldLink "SegmentIndex" 129 "SegmentIndex$Pile" "height" "I" ∈ gw := gw_in (i := 163) (by decide +kernel) rfl
theorem fl_SI_164 : Cond.fieldLink "SegmentIndex" 164 "SegmentIndex$Pile" "sets" "[LSegmentIndex$HitSet;" ∈ gw := gw_in (i := 161) (by decide +kernel) rfl
theorem fl_SI_172 : Cond.fieldLink "SegmentIndex" 172 "SegmentIndex$HitSet" "size" "I" ∈ gw := gw_in (i := 154) (by decide +kernel) rfl
theorem fl_SI_174 : Cond.fieldLink "SegmentIndex" 174 "SegmentIndex$HitSet" "hits" "[I" ∈ gw := gw_in (i := 151) (by decide +kernel) rfl
theorem fl_SI_193 : Cond.fieldLink "SegmentIndex" 193 "SegmentIndex$Keys" "size" "I" ∈ gw := gw_in (i := 178) (by decide +kernel) rfl
theorem fl_SI_194 : Cond.fieldLink "SegmentIndex" 194 "SegmentIndex$Keys" "row" "[J" ∈ gw := gw_in (i := 176) (by decide +kernel) rfl
theorem fl_SI_206 : Cond.fieldLink "SegmentIndex" 206 "SegmentIndex$Segment" "level" "I" ∈ gw := gw_in (i := 274) (by decide +kernel) rfl
theorem fl_SI_209 : Cond.fieldLink "SegmentIndex" 209 "SegmentIndex$Segment" "held" "I" ∈ gw := gw_in (i := 276) (by decide +kernel) rfl
theorem fl_SI_212 : Cond.fieldLink "SegmentIndex" 212 "SegmentIndex$Segment" "terms" "I" ∈ gw := gw_in (i := 278) (by decide +kernel) rfl
theorem fl_SI_215 : Cond.fieldLink "SegmentIndex" 215 "SegmentIndex$Segment" "tokens" "I" ∈ gw := gw_in (i := 280) (by decide +kernel) rfl
theorem fl_SI_224 : Cond.fieldLink "SegmentIndex" 224 "SegmentIndex$Segment" "first" "I" ∈ gw := gw_in (i := 272) (by decide +kernel) rfl
theorem ml_SI_1 : Cond.methodLink "SegmentIndex" 1 y_Ob_init ∈ gw := gw_in (i := 62) (by decide +kernel) rfl
theorem ml_SI_9 : Cond.methodLinkNest "SegmentIndex" 9 y_Sh_init "SegmentIndex" ∈ gw := gw_in (i := 67) (by decide +kernel) rfl
theorem ml_SI_18 : Cond.methodLink "SegmentIndex" 18 y_AL_init ∈ gw := gw_in (i := 113) (by decide +kernel) rfl
theorem ml_SI_25 : Cond.methodLink "SegmentIndex" 25 y_Pl_init ∈ gw := gw_in (i := 139) (by decide +kernel) rfl
theorem ml_SI_32 : Cond.methodLinkNest "SegmentIndex" 32 y_Ks_init "SegmentIndex" ∈ gw := gw_in (i := 171) (by decide +kernel) rfl
theorem ml_SI_45 : Cond.methodLink "SegmentIndex" 45 y_IllegalArgumentException_init ∈ gw := gw_in (i := 501) (by decide +kernel) rfl
theorem ml_SI_51 : Cond.methodLink "SegmentIndex" 51 y_SI_hitOf ∈ gw := gw_in (i := 527) (by decide +kernel) rfl
theorem ml_SI_55 : Cond.methodLink "SegmentIndex" 55 y_SI_termOf ∈ gw := gw_in (i := 530) (by decide +kernel) rfl
theorem ml_SI_59 : Cond.methodLink "SegmentIndex" 59 y_Sh_spotInHand ∈ gw := gw_in (i := 534) (by decide +kernel) rfl
theorem ml_SI_63 : Cond.methodLink "SegmentIndex" 63 y_Sh_handHasBefore ∈ gw := gw_in (i := 542) (by decide +kernel) rfl
theorem ml_SI_67 : Cond.methodLink "SegmentIndex" 67 y_Sh_inHand ∈ gw := gw_in (i := 446) (by decide +kernel) rfl
theorem ml_SI_75 : Cond.methodLink "SegmentIndex" 75 y_IllegalStateException_init ∈ gw := gw_in (i := 556) (by decide +kernel) rfl
theorem ml_SI_80 : Cond.methodLink "SegmentIndex" 80 y_Tk_insert ∈ gw := gw_in (i := 562) (by decide +kernel) rfl
theorem ml_SI_88 : Cond.methodLink "SegmentIndex" 88 y_Sh_bringHand ∈ gw := gw_in (i := 584) (by decide +kernel) rfl
theorem ml_SI_95 : Cond.methodLink "SegmentIndex" 95 y_SI_flushBuffer ∈ gw := gw_in (i := 204) (by decide +kernel) rfl
theorem ml_SI_98 : Cond.methodLink "SegmentIndex" 98 y_Sh_isThere ∈ gw := gw_in (i := 596) (by decide +kernel) rfl
theorem ml_SI_106 : Cond.methodLink "SegmentIndex" 106 y_IndexOutOfBoundsException_init ∈ gw := gw_in (i := 610) (by decide +kernel) rfl
theorem ml_SI_107 : Cond.methodLink "SegmentIndex" 107 y_Sh_stateOf ∈ gw := gw_in (i := 228) (by decide +kernel) rfl
theorem ml_SI_111 : Cond.methodLink "SegmentIndex" 111 y_Sh_move ∈ gw := gw_in (i := 616) (by decide +kernel) rfl
theorem ml_SI_115 : Cond.methodLink "SegmentIndex" 115 y_AL_size ∈ gw := gw_in (i := 349) (by decide +kernel) rfl
theorem ml_SI_118 : Cond.methodLink "SegmentIndex" 118 y_SI_highestLevel ∈ gw := gw_in (i := 388) (by decide +kernel) rfl
theorem ml_SI_121 : Cond.methodLink "SegmentIndex" 121 y_SI_cutSegments ∈ gw := gw_in (i := 371) (by decide +kernel) rfl
theorem ml_SI_125 : Cond.methodLink "SegmentIndex" 125 y_SI_putTogether ∈ gw := gw_in (i := 208) (by decide +kernel) rfl
theorem ml_SI_134 : Cond.methodLink "SegmentIndex" 134 y_Pl_spare ∈ gw := gw_in (i := 625) (by decide +kernel) rfl
theorem ml_SI_138 : Cond.methodLink "SegmentIndex" 138 y_Sh_gather ∈ gw := gw_in (i := 626) (by decide +kernel) rfl
theorem ml_SI_142 : Cond.methodLink "SegmentIndex" 142 y_Pl_settle ∈ gw := gw_in (i := 642) (by decide +kernel) rfl
theorem ml_SI_151 : Cond.methodLink "SegmentIndex" 151 y_Pl_uppermost ∈ gw := gw_in (i := 397) (by decide +kernel) rfl
theorem ml_SI_154 : Cond.methodLink "SegmentIndex" 154 y_HS_keepByDistance ∈ gw := gw_in (i := 663) (by decide +kernel) rfl
theorem ml_SI_168 : Cond.methodLink "SegmentIndex" 168 y_SI_joinInto ∈ gw := gw_in (i := 687) (by decide +kernel) rfl
theorem ml_SI_177 : Cond.methodLink "SegmentIndex" 177 y_SI_documentOf ∈ gw := gw_in (i := 409) (by decide +kernel) rfl
theorem ml_SI_180 : Cond.methodLink "SegmentIndex" 180 y_SI_fieldOf ∈ gw := gw_in (i := 412) (by decide +kernel) rfl
theorem ml_SI_183 : Cond.methodLink "SegmentIndex" 183 y_SI_placeOf ∈ gw := gw_in (i := 415) (by decide +kernel) rfl
theorem ml_SI_186 : Cond.methodLink "SegmentIndex" 186 y_HS_endsDocument ∈ gw := gw_in (i := 422) (by decide +kernel) rfl
theorem ml_SI_189 : Cond.methodLink "SegmentIndex" 189 y_SI_rankDocuments ∈ gw := gw_in (i := 431) (by decide +kernel) rfl
theorem ml_SI_200 : Cond.methodLink "SegmentIndex" 200 y_AL_get ∈ gw := gw_in (i := 353) (by decide +kernel) rfl
theorem ml_SI_217 : Cond.methodLink "SegmentIndex" 217 y_SI_lastFourAreAlike ∈ gw := gw_in (i := 345) (by decide +kernel) rfl
theorem ml_SI_221 : Cond.methodLink "SegmentIndex" 221 y_SI_mergeLastFour ∈ gw := gw_in (i := 367) (by decide +kernel) rfl
theorem ml_SI_227 : Cond.methodLink "SegmentIndex" 227 y_AL_remove ∈ gw := gw_in (i := 375) (by decide +kernel) rfl
theorem ml_SI_230 : Cond.methodLink "SegmentIndex" 230 y_Ma_max ∈ gw := gw_in (i := 392) (by decide +kernel) rfl
theorem ml_SI_235 : Cond.methodLink "SegmentIndex" 235 y_Ks_clear ∈ gw := gw_in (i := 212) (by decide +kernel) rfl
theorem ml_SI_238 : Cond.methodLink "SegmentIndex" 238 y_Sh_moveOn ∈ gw := gw_in (i := 216) (by decide +kernel) rfl
theorem ml_SI_241 : Cond.methodLink "SegmentIndex" 241 y_Sh_listTerms ∈ gw := gw_in (i := 229) (by decide +kernel) rfl
theorem ml_SI_245 : Cond.methodLink "SegmentIndex" 245 y_Ks_different ∈ gw := gw_in (i := 255) (by decide +kernel) rfl
theorem ml_SI_248 : Cond.methodLink "SegmentIndex" 248 y_Sg_init ∈ gw := gw_in (i := 267) (by decide +kernel) rfl
theorem ml_SI_251 : Cond.methodLink "SegmentIndex" 251 y_AL_add_LObjectZ ∈ gw := gw_in (i := 292) (by decide +kernel) rfl
theorem ml_SI_255 : Cond.methodLink "SegmentIndex" 255 y_HS_unite ∈ gw := gw_in (i := 690) (by decide +kernel) rfl
theorem ml_SI_259 : Cond.methodLink "SegmentIndex" 259 y_HS_keepByDocument ∈ gw := gw_in (i := 696) (by decide +kernel) rfl
theorem ml_SI_263 : Cond.methodLink "SegmentIndex" 263 y_HS_copy ∈ gw := gw_in (i := 705) (by decide +kernel) rfl
theorem ml_SI_266 : Cond.methodLink "SegmentIndex" 266 y_Ks_put ∈ gw := gw_in (i := 435) (by decide +kernel) rfl
theorem ml_SI_270 : Cond.methodLink "SegmentIndex" 270 y_Ks_sort ∈ gw := gw_in (i := 436) (by decide +kernel) rfl
theorem cl_SI_7 : Cond.classLink "SegmentIndex" 7 "SegmentIndex$Shelf" ∈ gw := gw_in (i := 65) (by decide +kernel) rfl
theorem cl_SI_16 : Cond.classLink "SegmentIndex" 16 "java/util/ArrayList" ∈ gw := gw_in (i := 111) (by decide +kernel) rfl
theorem cl_SI_23 : Cond.classLink "SegmentIndex" 23 "SegmentIndex$Pile" ∈ gw := gw_in (i := 137) (by decide +kernel) rfl
theorem cl_SI_30 : Cond.classLink "SegmentIndex" 30 "SegmentIndex$Keys" ∈ gw := gw_in (i := 169) (by decide +kernel) rfl
theorem cl_SI_41 : Cond.classLink "SegmentIndex" 41 "java/lang/IllegalArgumentException" ∈ gw := gw_in (i := 459) (by decide +kernel) rfl
theorem cl_SI_71 : Cond.classLink "SegmentIndex" 71 "java/lang/IllegalStateException" ∈ gw := gw_in (i := 546) (by decide +kernel) rfl
theorem cl_SI_102 : Cond.classLink "SegmentIndex" 102 "java/lang/IndexOutOfBoundsException" ∈ gw := gw_in (i := 600) (by decide +kernel) rfl
theorem cl_SI_204 : Cond.classLink "SegmentIndex" 204 "SegmentIndex$Segment" ∈ gw := gw_in (i := 253) (by decide +kernel) rfl
theorem cn_SI_198 : Cond.constantLong "SegmentIndex" 198 (1023) ∈ gw := gw_in (i := 437) (by decide +kernel) rfl
theorem cn_SI_273 : Cond.constantLong "SegmentIndex" 273 (4294967295) ∈ gw := gw_in (i := 533) (by decide +kernel) rfl
theorem fl_Mo_7 : Cond.fieldLink "SegmentIndexModel" 7 "SegmentIndexModel" "documentOf" "[I" ∈ gw := gw_in (i := 725) (by decide +kernel) rfl
theorem fl_Mo_13 : Cond.fieldLink "SegmentIndexModel" 13 "SegmentIndexModel" "spots" "[I" ∈ gw := gw_in (i := 726) (by decide +kernel) rfl
theorem fl_Mo_16 : Cond.fieldLink "SegmentIndexModel" 16 "SegmentIndexModel" "uppers" "[I" ∈ gw := gw_in (i := 727) (by decide +kernel) rfl
theorem fl_Mo_19 : Cond.fieldLink "SegmentIndexModel" 19 "SegmentIndexModel" "lowers" "[I" ∈ gw := gw_in (i := 728) (by decide +kernel) rfl
theorem fl_Mo_22 : Cond.fieldLink "SegmentIndexModel" 22 "SegmentIndexModel" "where" "[I" ∈ gw := gw_in (i := 730) (by decide +kernel) rfl
theorem fl_Mo_25 : Cond.fieldLink "SegmentIndexModel" 25 "SegmentIndexModel" "taken" "[Z" ∈ gw := gw_in (i := 731) (by decide +kernel) rfl
theorem fl_Mo_29 : Cond.fieldLink "SegmentIndexModel" 29 "SegmentIndexModel" "levels" "[I" ∈ gw := gw_in (i := 733) (by decide +kernel) rfl
theorem fl_Mo_32 : Cond.fieldLink "SegmentIndexModel" 32 "SegmentIndexModel" "hits" "[I" ∈ gw := gw_in (i := 735) (by decide +kernel) rfl
theorem fl_Mo_35 : Cond.fieldLink "SegmentIndexModel" 35 "SegmentIndexModel" "sizes" "[I" ∈ gw := gw_in (i := 736) (by decide +kernel) rfl
theorem fl_Mo_38 : Cond.fieldLink "SegmentIndexModel" 38 "SegmentIndexModel" "thrown" "I" ∈ gw := gw_in (i := 722) (by decide +kernel) rfl
theorem fl_Mo_42 : Cond.fieldLink "SegmentIndexModel" 42 "SegmentIndexModel" "hand" "I" ∈ gw := gw_in (i := 724) (by decide +kernel) rfl
theorem fl_Mo_45 : Cond.fieldLink "SegmentIndexModel" 45 "SegmentIndexModel" "tokens" "I" ∈ gw := gw_in (i := 723) (by decide +kernel) rfl
theorem fl_Mo_48 : Cond.fieldLink "SegmentIndexModel" 48 "SegmentIndexModel" "came" "I" ∈ gw := gw_in (i := 729) (by decide +kernel) rfl
theorem fl_Mo_58 : Cond.fieldLink "SegmentIndexModel" 58 "SegmentIndexModel" "segments" "I" ∈ gw := gw_in (i := 732) (by decide +kernel) rfl
theorem fl_Mo_73 : Cond.fieldLink "SegmentIndexModel" 73 "SegmentIndexModel" "sets" "I" ∈ gw := gw_in (i := 734) (by decide +kernel) rfl
theorem ml_Mo_1 : Cond.methodLink "SegmentIndexModel" 1 y_Ob_init ∈ gw := gw_in (i := 721) (by decide +kernel) rfl
theorem ml_Mo_51 : Cond.methodLink "SegmentIndexModel" 51 y_Mo_inside ∈ gw := gw_in (i := 781) (by decide +kernel) rfl
theorem ml_Mo_55 : Cond.methodLink "SegmentIndexModel" 55 y_Mo_settle ∈ gw := gw_in (i := 785) (by decide +kernel) rfl
theorem ml_Mo_61 : Cond.methodLink "SegmentIndexModel" 61 y_Mo_fourAlike ∈ gw := gw_in (i := 789) (by decide +kernel) rfl
theorem ml_Mo_65 : Cond.methodLink "SegmentIndexModel" 65 y_Mo_gather ∈ gw := gw_in (i := 793) (by decide +kernel) rfl
theorem ml_Mo_69 : Cond.methodLink "SegmentIndexModel" 69 y_Mo_byteAt ∈ gw := gw_in (i := 825) (by decide +kernel) rfl
theorem ml_Mo_76 : Cond.methodLink "SegmentIndexModel" 76 y_Mo_found ∈ gw := gw_in (i := 817) (by decide +kernel) rfl
theorem ml_Mo_80 : Cond.methodLink "SegmentIndexModel" 80 y_Mo_alike ∈ gw := gw_in (i := 821) (by decide +kernel) rfl
theorem ml_Mo_84 : Cond.methodLink "SegmentIndexModel" 84 y_Mo_hitOf ∈ gw := gw_in (i := 828) (by decide +kernel) rfl
theorem ml_Mo_87 : Cond.methodLink "SegmentIndexModel" 87 y_Mo_insert ∈ gw := gw_in (i := 832) (by decide +kernel) rfl
theorem ml_Mo_91 : Cond.methodLink "SegmentIndexModel" 91 y_Mo_push ∈ gw := gw_in (i := 813) (by decide +kernel) rfl
theorem ml_Mo_95 : Cond.methodLink "SegmentIndexModel" 95 y_Mo_has ∈ gw := gw_in (i := 844) (by decide +kernel) rfl
theorem ml_Mo_99 : Cond.methodLink "SegmentIndexModel" 99 y_Mo_place ∈ gw := gw_in (i := 848) (by decide +kernel) rfl
theorem ml_Mo_102 : Cond.methodLink "SegmentIndexModel" 102 y_Mo_many ∈ gw := gw_in (i := 856) (by decide +kernel) rfl
theorem ml_Mo_106 : Cond.methodLink "SegmentIndexModel" 106 y_Mo_near ∈ gw := gw_in (i := 860) (by decide +kernel) rfl
theorem ml_Mo_109 : Cond.methodLink "SegmentIndexModel" 109 y_Mo_ahead ∈ gw := gw_in (i := 880) (by decide +kernel) rfl
theorem ml_Mo_112 : Cond.methodLink "SegmentIndexModel" 112 y_Mo_firstAlike ∈ gw := gw_in (i := 888) (by decide +kernel) rfl
theorem fl_AL_9 : Cond.fieldLink "java/util/ArrayList" 9 "java/util/ArrayList" "elementData" "[Ljava/lang/Object;" ∈ gw := gw_in (i := 125) (by decide +kernel) rfl
theorem fl_AL_39 : Cond.fieldLink "java/util/ArrayList" 39 "java/util/ArrayList" "DEFAULTCAPACITY_EMPTY_ELEMENTDATA" "[Ljava/lang/Object;" ∈ gw := gw_in (i := 123) (by decide +kernel) rfl
theorem fl_AL_48 : Cond.fieldLink "java/util/ArrayList" 48 "java/util/ArrayList" "size" "I" ∈ gw := gw_in (i := 126) (by decide +kernel) rfl
theorem fl_AL_63 : Cond.fieldLink "java/util/ArrayList" 63 "java/util/ArrayList" "modCount" "I" ∈ gw := gw_in (i := 128) (by decide +kernel) rfl
theorem ml_AL_1 : Cond.methodLink "java/util/ArrayList" 1 y_AbL_init ∈ gw := gw_in (i := 116) (by decide +kernel) rfl
theorem ml_AL_66 : Cond.methodLink "java/util/ArrayList" 66 y_Ar_copyOf_aLObjectIaLObject ∈ gw := gw_in (i := 318) (by decide +kernel) rfl
theorem ml_AL_69 : Cond.methodLink "java/util/ArrayList" 69 y_AL_grow_IaLObject ∈ gw := gw_in (i := 304) (by decide +kernel) rfl
theorem ml_AL_73 : Cond.methodLink "java/util/ArrayList" 73 y_AS_newLength ∈ gw := gw_in (i := 308) (by decide +kernel) rfl
theorem ml_AL_79 : Cond.methodLink "java/util/ArrayList" 79 y_Ma_max ∈ gw := gw_in (i := 343) (by decide +kernel) rfl
theorem ml_AL_112 : Cond.methodLink "java/util/ArrayList" 112 ⟨"java/lang/System", "arraycopy", "(Ljava/lang/Object;ILjava/lang/Object;II)V"⟩ ∈ gw := gw_in (i := 383) (by decide +kernel) rfl
theorem ml_AL_118 : Cond.methodLink "java/util/ArrayList" 118 y_Os_checkIndex ∈ gw := gw_in (i := 357) (by decide +kernel) rfl
theorem ml_AL_123 : Cond.methodLink "java/util/ArrayList" 123 y_AL_elementData ∈ gw := gw_in (i := 363) (by decide +kernel) rfl
theorem ml_AL_129 : Cond.methodLink "java/util/ArrayList" 129 y_AL_grow_aLObject ∈ gw := gw_in (i := 300) (by decide +kernel) rfl
theorem ml_AL_131 : Cond.methodLink "java/util/ArrayList" 131 y_AL_add_LObjectaLObjectIV ∈ gw := gw_in (i := 296) (by decide +kernel) rfl
theorem ml_AL_144 : Cond.methodLink "java/util/ArrayList" 144 y_AL_fastRemove ∈ gw := gw_in (i := 379) (by decide +kernel) rfl
theorem cl_AL_7 : Cond.classLink "java/util/ArrayList" 7 "java/lang/Object" ∈ gw := gw_in (i := 344) (by decide +kernel) rfl
theorem fl_AbL_7 : Cond.fieldLink "java/util/AbstractList" 7 "java/util/AbstractList" "modCount" "I" ∈ gw := gw_in (i := 127) (by decide +kernel) rfl
theorem ml_AbL_1 : Cond.methodLink "java/util/AbstractList" 1 y_AbC_init ∈ gw := gw_in (i := 119) (by decide +kernel) rfl
theorem ml_Ar_86 : Cond.methodLink "java/util/Arrays" 86 ⟨"java/lang/Object", "getClass", "()Ljava/lang/Class;"⟩ ∈ gw := gw_in (i := 321) (by decide +kernel) rfl
theorem ml_Ar_150 : Cond.methodLink "java/util/Arrays" 150 ⟨"java/lang/System", "arraycopy", "(Ljava/lang/Object;ILjava/lang/Object;II)V"⟩ ∈ gw := gw_in (i := 250) (by decide +kernel) rfl
theorem ml_Ar_300 : Cond.methodLink "java/util/Arrays" 300 y_Ar_copyOf_aLObjectILClassaLObject ∈ gw := gw_in (i := 337) (by decide +kernel) rfl
theorem ml_Ar_304 : Cond.methodLink "java/util/Arrays" 304 y_Ma_min ∈ gw := gw_in (i := 247) (by decide +kernel) rfl
theorem ml_Ar_316 : Cond.methodLink "java/util/Arrays" 316 ⟨"[I", "clone", "()Ljava/lang/Object;"⟩ ∈ gw := gw_in (i := 569) (by decide +kernel) rfl
theorem ml_Ar_319 : Cond.methodLink "java/util/Arrays" 319 ⟨"[J", "clone", "()Ljava/lang/Object;"⟩ ∈ gw := gw_in (i := 240) (by decide +kernel) rfl
theorem cl_Ar_2 : Cond.classLink "java/util/Arrays" 2 "java/lang/Object" ∈ gw := gw_in (i := 342) (by decide +kernel) rfl
theorem cl_Ar_110 : Cond.classLink "java/util/Arrays" 110 "[Ljava/lang/Object;" ∈ gw := gw_in (i := 340) (by decide +kernel) rfl
theorem cl_Ar_317 : Cond.classLink "java/util/Arrays" 317 "[I" ∈ gw := gw_in (i := 573) (by decide +kernel) rfl
theorem cl_Ar_320 : Cond.classLink "java/util/Arrays" 320 "[J" ∈ gw := gw_in (i := 246) (by decide +kernel) rfl
theorem ml_AbC_1 : Cond.methodLink "java/util/AbstractCollection" 1 y_Ob_init ∈ gw := gw_in (i := 122) (by decide +kernel) rfl
theorem ml_Os_105 : Cond.methodLink "java/util/Objects" 105 y_Pre_checkIndex ∈ gw := gw_in (i := 360) (by decide +kernel) rfl
theorem ml_AS_194 : Cond.methodLink "jdk/internal/util/ArraysSupport" 194 y_Ma_max ∈ gw := gw_in (i := 311) (by decide +kernel) rfl
theorem ml_AS_201 : Cond.methodLink "jdk/internal/util/ArraysSupport" 201 y_AS_hugeLength ∈ gw := gw_in (i := 315) (by decide +kernel) rfl
theorem cn_AS_200 : Cond.constant "jdk/internal/util/ArraysSupport" 200 (2147483639) ∈ gw := gw_in (i := 314) (by decide +kernel) rfl
