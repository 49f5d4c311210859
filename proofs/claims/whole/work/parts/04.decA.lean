theorem dX0_init_0 : decode cX0_init 0 = .ok (.aload_n 0, 1) := by decide +kernel
theorem dX0_init_1 : decode cX0_init 1 = .ok (.invokespecial 3, 3) := by decide +kernel
theorem dX0_init_4 : decode cX0_init 4 = .ok (.aload_n 0, 1) := by decide +kernel
theorem dX0_init_5 : decode cX0_init 5 = .ok (.bipush 7, 2) := by decide +kernel
theorem dX0_init_7 : decode cX0_init 7 = .ok (.newarray .int, 2) := by decide +kernel
theorem dX0_init_9 : decode cX0_init 9 = .ok (.putfield 9, 3) := by decide +kernel
theorem dX0_init_12 : decode cX0_init 12 = .ok (.aload_n 0, 1) := by decide +kernel
theorem dX0_init_13 : decode cX0_init 13 = .ok (.bipush 7, 2) := by decide +kernel
theorem dX0_init_15 : decode cX0_init 15 = .ok (.newarray .int, 2) := by decide +kernel
theorem dX0_init_17 : decode cX0_init 17 = .ok (.putfield 15, 3) := by decide +kernel
theorem dX0_init_20 : decode cX0_init 20 = .ok (.aload_n 0, 1) := by decide +kernel
theorem dX0_init_21 : decode cX0_init 21 = .ok (.bipush 7, 2) := by decide +kernel
theorem dX0_init_23 : decode cX0_init 23 = .ok (.newarray .int, 2) := by decide +kernel
theorem dX0_init_25 : decode cX0_init 25 = .ok (.putfield 18, 3) := by decide +kernel
theorem dX0_init_28 : decode cX0_init 28 = .ok (.aload_n 0, 1) := by decide +kernel
theorem dX0_init_29 : decode cX0_init 29 = .ok (.bipush 7, 2) := by decide +kernel
theorem dX0_init_31 : decode cX0_init 31 = .ok (.newarray .int, 2) := by decide +kernel
theorem dX0_init_33 : decode cX0_init 33 = .ok (.putfield 21, 3) := by decide +kernel
theorem dX0_init_36 : decode cX0_init 36 = .ok (.return_, 1) := by decide +kernel
theorem dX0_has_0 : decode cX0_has 0 = .ok (.iload_n 1, 1) := by decide +kernel
theorem dX0_has_1 : decode cX0_has 1 = .ok (.iconst 0, 1) := by decide +kernel
theorem dX0_has_2 : decode cX0_has 2 = .ok (.aload_n 0, 1) := by decide +kernel
theorem dX0_has_3 : decode cX0_has 3 = .ok (.getfield 24, 3) := by decide +kernel
theorem dX0_has_6 : decode cX0_has 6 = .ok (.iconst 1, 1) := by decide +kernel
theorem dX0_has_7 : decode cX0_has 7 = .ok (.isub, 1) := by decide +kernel
theorem dX0_has_8 : decode cX0_has 8 = .ok (.invokestatic 28, 3) := by decide +kernel
theorem dX0_has_11 : decode cX0_has 11 = .ok (.ireturn, 1) := by decide +kernel
theorem dX0_add_0 : decode cX0_add 0 = .ok (.aload_n 0, 1) := by decide +kernel
theorem dX0_add_1 : decode cX0_add 1 = .ok (.getfield 24, 3) := by decide +kernel
theorem dX0_add_4 : decode cX0_add 4 = .ok (.bipush 7, 2) := by decide +kernel
theorem dX0_add_6 : decode cX0_add 6 = .ok (.if_icmp .lt 6, 3) := by decide +kernel
theorem dX0_add_9 : decode cX0_add 9 = .ok (.bipush (-4), 2) := by decide +kernel
theorem dX0_add_11 : decode cX0_add 11 = .ok (.ireturn, 1) := by decide +kernel
theorem dX0_add_12 : decode cX0_add 12 = .ok (.aload_n 0, 1) := by decide +kernel
theorem dX0_add_13 : decode cX0_add 13 = .ok (.getfield 9, 3) := by decide +kernel
theorem dX0_add_16 : decode cX0_add 16 = .ok (.aload_n 0, 1) := by decide +kernel
theorem dX0_add_17 : decode cX0_add 17 = .ok (.getfield 24, 3) := by decide +kernel
theorem dX0_add_20 : decode cX0_add 20 = .ok (.iload_n 1, 1) := by decide +kernel
theorem dX0_add_21 : decode cX0_add 21 = .ok (.iastore, 1) := by decide +kernel
theorem dX0_add_22 : decode cX0_add 22 = .ok (.aload_n 0, 1) := by decide +kernel
theorem dX0_add_23 : decode cX0_add 23 = .ok (.getfield 15, 3) := by decide +kernel
theorem dX0_add_26 : decode cX0_add 26 = .ok (.aload_n 0, 1) := by decide +kernel
theorem dX0_add_27 : decode cX0_add 27 = .ok (.getfield 24, 3) := by decide +kernel
theorem dX0_add_30 : decode cX0_add 30 = .ok (.iload_n 2, 1) := by decide +kernel
theorem dX0_add_31 : decode cX0_add 31 = .ok (.iastore, 1) := by decide +kernel
theorem dX0_add_32 : decode cX0_add 32 = .ok (.aload_n 0, 1) := by decide +kernel
theorem dX0_add_33 : decode cX0_add 33 = .ok (.getfield 18, 3) := by decide +kernel
theorem dX0_add_36 : decode cX0_add 36 = .ok (.aload_n 0, 1) := by decide +kernel
theorem dX0_add_37 : decode cX0_add 37 = .ok (.getfield 24, 3) := by decide +kernel
theorem dX0_add_40 : decode cX0_add 40 = .ok (.iload_n 3, 1) := by decide +kernel
theorem dX0_add_41 : decode cX0_add 41 = .ok (.iastore, 1) := by decide +kernel
theorem dX0_add_42 : decode cX0_add 42 = .ok (.aload_n 0, 1) := by decide +kernel
theorem dX0_add_43 : decode cX0_add 43 = .ok (.dup, 1) := by decide +kernel
theorem dX0_add_44 : decode cX0_add 44 = .ok (.getfield 24, 3) := by decide +kernel
theorem dX0_add_47 : decode cX0_add 47 = .ok (.iconst 1, 1) := by decide +kernel
theorem dX0_add_48 : decode cX0_add 48 = .ok (.iadd, 1) := by decide +kernel
theorem dX0_add_49 : decode cX0_add 49 = .ok (.putfield 24, 3) := by decide +kernel
theorem dX0_add_52 : decode cX0_add 52 = .ok (.aload_n 0, 1) := by decide +kernel
theorem dX0_add_53 : decode cX0_add 53 = .ok (.getfield 24, 3) := by decide +kernel
theorem dX0_add_56 : decode cX0_add 56 = .ok (.iconst 1, 1) := by decide +kernel
theorem dX0_add_57 : decode cX0_add 57 = .ok (.isub, 1) := by decide +kernel
theorem dX0_add_58 : decode cX0_add 58 = .ok (.ireturn, 1) := by decide +kernel
theorem dX0_far_0 : decode cX0_far 0 = .ok (.aload_n 0, 1) := by decide +kernel
theorem dX0_far_1 : decode cX0_far 1 = .ok (.getfield 9, 3) := by decide +kernel
theorem dX0_far_4 : decode cX0_far 4 = .ok (.iload_n 1, 1) := by decide +kernel
theorem dX0_far_5 : decode cX0_far 5 = .ok (.iaload, 1) := by decide +kernel
theorem dX0_far_6 : decode cX0_far 6 = .ok (.iload_n 2, 1) := by decide +kernel
theorem dX0_far_7 : decode cX0_far 7 = .ok (.isub, 1) := by decide +kernel
theorem dX0_far_8 : decode cX0_far 8 = .ok (.invokestatic 32, 3) := by decide +kernel
theorem dX0_far_11 : decode cX0_far 11 = .ok (.aload_n 0, 1) := by decide +kernel
theorem dX0_far_12 : decode cX0_far 12 = .ok (.getfield 15, 3) := by decide +kernel
theorem dX0_far_15 : decode cX0_far 15 = .ok (.iload_n 1, 1) := by decide +kernel
theorem dX0_far_16 : decode cX0_far 16 = .ok (.iaload, 1) := by decide +kernel
theorem dX0_far_17 : decode cX0_far 17 = .ok (.iload_n 3, 1) := by decide +kernel
theorem dX0_far_18 : decode cX0_far 18 = .ok (.isub, 1) := by decide +kernel
theorem dX0_far_19 : decode cX0_far 19 = .ok (.invokestatic 32, 3) := by decide +kernel
theorem dX0_far_22 : decode cX0_far 22 = .ok (.iadd, 1) := by decide +kernel
theorem dX0_far_23 : decode cX0_far 23 = .ok (.ireturn, 1) := by decide +kernel
theorem dX1_init_0 : decode cX1_init 0 = .ok (.aload_n 0, 1) := by decide +kernel
theorem dX1_init_1 : decode cX1_init 1 = .ok (.invokespecial 5, 3) := by decide +kernel
theorem dX1_init_4 : decode cX1_init 4 = .ok (.aload_n 0, 1) := by decide +kernel
theorem dX1_init_5 : decode cX1_init 5 = .ok (.iconst 3, 1) := by decide +kernel
theorem dX1_init_6 : decode cX1_init 6 = .ok (.newarray .int, 2) := by decide +kernel
theorem dX1_init_8 : decode cX1_init 8 = .ok (.putfield 11, 3) := by decide +kernel
theorem dX1_init_11 : decode cX1_init 11 = .ok (.aload_n 0, 1) := by decide +kernel
theorem dX1_init_12 : decode cX1_init 12 = .ok (.iconst 3, 1) := by decide +kernel
theorem dX1_init_13 : decode cX1_init 13 = .ok (.newarray .int, 2) := by decide +kernel
theorem dX1_init_15 : decode cX1_init 15 = .ok (.putfield 15, 3) := by decide +kernel
theorem dX1_init_18 : decode cX1_init 18 = .ok (.aload_n 0, 1) := by decide +kernel
theorem dX1_init_19 : decode cX1_init 19 = .ok (.iconst 3, 1) := by decide +kernel
theorem dX1_init_20 : decode cX1_init 20 = .ok (.newarray .int, 2) := by decide +kernel
theorem dX1_init_22 : decode cX1_init 22 = .ok (.putfield 18, 3) := by decide +kernel
theorem dX1_init_25 : decode cX1_init 25 = .ok (.aload_n 0, 1) := by decide +kernel
theorem dX1_init_26 : decode cX1_init 26 = .ok (.iconst 3, 1) := by decide +kernel
theorem dX1_init_27 : decode cX1_init 27 = .ok (.newarray .int, 2) := by decide +kernel
theorem dX1_init_29 : decode cX1_init 29 = .ok (.putfield 21, 3) := by decide +kernel
theorem dX1_init_32 : decode cX1_init 32 = .ok (.aload_n 0, 1) := by decide +kernel
theorem dX1_init_33 : decode cX1_init 33 = .ok (.bipush 7, 2) := by decide +kernel
theorem dX1_init_35 : decode cX1_init 35 = .ok (.newarray .int, 2) := by decide +kernel
theorem dX1_init_37 : decode cX1_init 37 = .ok (.putfield 24, 3) := by decide +kernel
theorem dX1_init_40 : decode cX1_init 40 = .ok (.aload_n 0, 1) := by decide +kernel
theorem dX1_init_41 : decode cX1_init 41 = .ok (.bipush 7, 2) := by decide +kernel
theorem dX1_init_43 : decode cX1_init 43 = .ok (.newarray .int, 2) := by decide +kernel
theorem dX1_init_45 : decode cX1_init 45 = .ok (.putfield 27, 3) := by decide +kernel
theorem dX1_init_48 : decode cX1_init 48 = .ok (.aload_n 0, 1) := by decide +kernel
theorem dX1_init_49 : decode cX1_init 49 = .ok (.sipush 128, 3) := by decide +kernel
theorem dX1_init_52 : decode cX1_init 52 = .ok (.newarray .long, 2) := by decide +kernel
theorem dX1_init_54 : decode cX1_init 54 = .ok (.putfield 30, 3) := by decide +kernel
theorem dX1_init_57 : decode cX1_init 57 = .ok (.aload_n 0, 1) := by decide +kernel
theorem dX1_init_58 : decode cX1_init 58 = .ok (.sipush 128, 3) := by decide +kernel
theorem dX1_init_61 : decode cX1_init 61 = .ok (.newarray .long, 2) := by decide +kernel
theorem dX1_init_63 : decode cX1_init 63 = .ok (.putfield 34, 3) := by decide +kernel
theorem dX1_init_66 : decode cX1_init 66 = .ok (.return_, 1) := by decide +kernel
theorem dX1_add_0 : decode cX1_add 0 = .ok (.aload_n 0, 1) := by decide +kernel
theorem dX1_add_1 : decode cX1_add 1 = .ok (.getfield 37, 3) := by decide +kernel
theorem dX1_add_4 : decode cX1_add 4 = .ok (.iconst 3, 1) := by decide +kernel
theorem dX1_add_5 : decode cX1_add 5 = .ok (.if_icmp .lt 6, 3) := by decide +kernel
theorem dX1_add_8 : decode cX1_add 8 = .ok (.bipush (-4), 2) := by decide +kernel
theorem dX1_add_10 : decode cX1_add 10 = .ok (.ireturn, 1) := by decide +kernel
theorem dX1_add_11 : decode cX1_add 11 = .ok (.aload_n 0, 1) := by decide +kernel
theorem dX1_add_12 : decode cX1_add 12 = .ok (.getfield 11, 3) := by decide +kernel
theorem dX1_add_15 : decode cX1_add 15 = .ok (.aload_n 0, 1) := by decide +kernel
theorem dX1_add_16 : decode cX1_add 16 = .ok (.getfield 37, 3) := by decide +kernel
theorem dX1_add_19 : decode cX1_add 19 = .ok (.iload_n 1, 1) := by decide +kernel
theorem dX1_add_20 : decode cX1_add 20 = .ok (.iastore, 1) := by decide +kernel
theorem dX1_add_21 : decode cX1_add 21 = .ok (.aload_n 0, 1) := by decide +kernel
theorem dX1_add_22 : decode cX1_add 22 = .ok (.getfield 15, 3) := by decide +kernel
theorem dX1_add_25 : decode cX1_add 25 = .ok (.aload_n 0, 1) := by decide +kernel
theorem dX1_add_26 : decode cX1_add 26 = .ok (.getfield 37, 3) := by decide +kernel
theorem dX1_add_29 : decode cX1_add 29 = .ok (.iload_n 2, 1) := by decide +kernel
theorem dX1_add_30 : decode cX1_add 30 = .ok (.iastore, 1) := by decide +kernel
theorem dX1_add_31 : decode cX1_add 31 = .ok (.aload_n 0, 1) := by decide +kernel
theorem dX1_add_32 : decode cX1_add 32 = .ok (.getfield 18, 3) := by decide +kernel
theorem dX1_add_35 : decode cX1_add 35 = .ok (.aload_n 0, 1) := by decide +kernel
theorem dX1_add_36 : decode cX1_add 36 = .ok (.getfield 37, 3) := by decide +kernel
theorem dX1_add_39 : decode cX1_add 39 = .ok (.iload_n 3, 1) := by decide +kernel
theorem dX1_add_40 : decode cX1_add 40 = .ok (.iastore, 1) := by decide +kernel
theorem dX1_add_41 : decode cX1_add 41 = .ok (.aload_n 0, 1) := by decide +kernel
theorem dX1_add_42 : decode cX1_add 42 = .ok (.getfield 21, 3) := by decide +kernel
theorem dX1_add_45 : decode cX1_add 45 = .ok (.aload_n 0, 1) := by decide +kernel
theorem dX1_add_46 : decode cX1_add 46 = .ok (.getfield 37, 3) := by decide +kernel
theorem dX1_add_49 : decode cX1_add 49 = .ok (.iload 4, 2) := by decide +kernel
theorem dX1_add_51 : decode cX1_add 51 = .ok (.iastore, 1) := by decide +kernel
theorem dX1_add_52 : decode cX1_add 52 = .ok (.aload_n 0, 1) := by decide +kernel
theorem dX1_add_53 : decode cX1_add 53 = .ok (.dup, 1) := by decide +kernel
theorem dX1_add_54 : decode cX1_add 54 = .ok (.getfield 37, 3) := by decide +kernel
theorem dX1_add_57 : decode cX1_add 57 = .ok (.iconst 1, 1) := by decide +kernel
theorem dX1_add_58 : decode cX1_add 58 = .ok (.iadd, 1) := by decide +kernel
theorem dX1_add_59 : decode cX1_add 59 = .ok (.putfield 37, 3) := by decide +kernel
theorem dX1_add_62 : decode cX1_add 62 = .ok (.aload_n 0, 1) := by decide +kernel
theorem dX1_add_63 : decode cX1_add 63 = .ok (.getfield 37, 3) := by decide +kernel
theorem dX1_add_66 : decode cX1_add 66 = .ok (.iconst 1, 1) := by decide +kernel
theorem dX1_add_67 : decode cX1_add 67 = .ok (.isub, 1) := by decide +kernel
theorem dX1_add_68 : decode cX1_add 68 = .ok (.ireturn, 1) := by decide +kernel
theorem dX1_isCall_0 : decode cX1_isCall 0 = .ok (.iconst 1, 1) := by decide +kernel
theorem dX1_isCall_1 : decode cX1_isCall 1 = .ok (.istore_n 3, 1) := by decide +kernel
theorem dX1_isCall_2 : decode cX1_isCall 2 = .ok (.iconst 0, 1) := by decide +kernel
theorem dX1_isCall_3 : decode cX1_isCall 3 = .ok (.istore 4, 2) := by decide +kernel
theorem dX1_isCall_5 : decode cX1_isCall 5 = .ok (.iload 4, 2) := by decide +kernel
theorem dX1_isCall_7 : decode cX1_isCall 7 = .ok (.aload_n 1, 1) := by decide +kernel
theorem dX1_isCall_8 : decode cX1_isCall 8 = .ok (.getfield 41, 3) := by decide +kernel
theorem dX1_isCall_11 : decode cX1_isCall 11 = .ok (.if_icmp .ge 18, 3) := by decide +kernel
theorem dX1_isCall_14 : decode cX1_isCall 14 = .ok (.iload_n 3, 1) := by decide +kernel
theorem dX1_isCall_15 : decode cX1_isCall 15 = .ok (.aload_n 0, 1) := by decide +kernel
theorem dX1_isCall_16 : decode cX1_isCall 16 = .ok (.getfield 37, 3) := by decide +kernel
theorem dX1_isCall_19 : decode cX1_isCall 19 = .ok (.iconst 1, 1) := by decide +kernel
theorem dX1_isCall_20 : decode cX1_isCall 20 = .ok (.iadd, 1) := by decide +kernel
theorem dX1_isCall_21 : decode cX1_isCall 21 = .ok (.imul, 1) := by decide +kernel
theorem dX1_isCall_22 : decode cX1_isCall 22 = .ok (.istore_n 3, 1) := by decide +kernel
theorem dX1_isCall_23 : decode cX1_isCall 23 = .ok (.iinc 4 1, 3) := by decide +kernel
theorem dX1_isCall_26 : decode cX1_isCall 26 = .ok (.goto (-21), 3) := by decide +kernel
theorem dX1_isCall_29 : decode cX1_isCall 29 = .ok (.iload_n 2, 1) := by decide +kernel
theorem dX1_isCall_30 : decode cX1_isCall 30 = .ok (.iconst 0, 1) := by decide +kernel
theorem dX1_isCall_31 : decode cX1_isCall 31 = .ok (.iload_n 3, 1) := by decide +kernel
theorem dX1_isCall_32 : decode cX1_isCall 32 = .ok (.iconst 1, 1) := by decide +kernel
theorem dX1_isCall_33 : decode cX1_isCall 33 = .ok (.isub, 1) := by decide +kernel
theorem dX1_isCall_34 : decode cX1_isCall 34 = .ok (.invokestatic 44, 3) := by decide +kernel
theorem dX1_isCall_37 : decode cX1_isCall 37 = .ok (.ireturn, 1) := by decide +kernel
theorem dX1_lostByCall_0 : decode cX1_lostByCall 0 = .ok (.iconst 0, 1) := by decide +kernel
theorem dX1_lostByCall_1 : decode cX1_lostByCall 1 = .ok (.istore_n 3, 1) := by decide +kernel
theorem dX1_lostByCall_2 : decode cX1_lostByCall 2 = .ok (.iconst 0, 1) := by decide +kernel
theorem dX1_lostByCall_3 : decode cX1_lostByCall 3 = .ok (.istore 4, 2) := by decide +kernel
theorem dX1_lostByCall_5 : decode cX1_lostByCall 5 = .ok (.iload 4, 2) := by decide +kernel
theorem dX1_lostByCall_7 : decode cX1_lostByCall 7 = .ok (.aload_n 0, 1) := by decide +kernel
theorem dX1_lostByCall_8 : decode cX1_lostByCall 8 = .ok (.getfield 37, 3) := by decide +kernel
theorem dX1_lostByCall_11 : decode cX1_lostByCall 11 = .ok (.if_icmp .ge 34, 3) := by decide +kernel
theorem dX1_lostByCall_14 : decode cX1_lostByCall 14 = .ok (.aload_n 0, 1) := by decide +kernel
theorem dX1_lostByCall_15 : decode cX1_lostByCall 15 = .ok (.aload_n 1, 1) := by decide +kernel
theorem dX1_lostByCall_16 : decode cX1_lostByCall 16 = .ok (.iload 4, 2) := by decide +kernel
theorem dX1_lostByCall_18 : decode cX1_lostByCall 18 = .ok (.invokevirtual 48, 3) := by decide +kernel
theorem dX1_lostByCall_21 : decode cX1_lostByCall 21 = .ok (.iload_n 3, 1) := by decide +kernel
theorem dX1_lostByCall_22 : decode cX1_lostByCall 22 = .ok (.aload_n 0, 1) := by decide +kernel
theorem dX1_lostByCall_23 : decode cX1_lostByCall 23 = .ok (.aload_n 1, 1) := by decide +kernel
theorem dX1_lostByCall_24 : decode cX1_lostByCall 24 = .ok (.iload 4, 2) := by decide +kernel
theorem dX1_lostByCall_26 : decode cX1_lostByCall 26 = .ok (.aload_n 0, 1) := by decide +kernel
theorem dX1_lostByCall_27 : decode cX1_lostByCall 27 = .ok (.aload_n 1, 1) := by decide +kernel
theorem dX1_lostByCall_28 : decode cX1_lostByCall 28 = .ok (.iload 4, 2) := by decide +kernel
theorem dX1_lostByCall_30 : decode cX1_lostByCall 30 = .ok (.iload_n 2, 1) := by decide +kernel
theorem dX1_lostByCall_31 : decode cX1_lostByCall 31 = .ok (.invokevirtual 52, 3) := by decide +kernel
theorem dX1_lostByCall_34 : decode cX1_lostByCall 34 = .ok (.invokevirtual 56, 3) := by decide +kernel
theorem dX1_lostByCall_37 : decode cX1_lostByCall 37 = .ok (.iadd, 1) := by decide +kernel
theorem dX1_lostByCall_38 : decode cX1_lostByCall 38 = .ok (.istore_n 3, 1) := by decide +kernel
theorem dX1_lostByCall_39 : decode cX1_lostByCall 39 = .ok (.iinc 4 1, 3) := by decide +kernel
theorem dX1_lostByCall_42 : decode cX1_lostByCall 42 = .ok (.goto (-37), 3) := by decide +kernel
theorem dX1_lostByCall_45 : decode cX1_lostByCall 45 = .ok (.iload_n 3, 1) := by decide +kernel
theorem dX1_lostByCall_46 : decode cX1_lostByCall 46 = .ok (.ireturn, 1) := by decide +kernel
theorem dX1_bestCall_0 : decode cX1_bestCall 0 = .ok (.iconst 1, 1) := by decide +kernel
theorem dX1_bestCall_1 : decode cX1_bestCall 1 = .ok (.aload_n 1, 1) := by decide +kernel
theorem dX1_bestCall_2 : decode cX1_bestCall 2 = .ok (.getfield 41, 3) := by decide +kernel
theorem dX1_bestCall_5 : decode cX1_bestCall 5 = .ok (.ishl, 1) := by decide +kernel
theorem dX1_bestCall_6 : decode cX1_bestCall 6 = .ok (.istore_n 2, 1) := by decide +kernel
theorem dX1_bestCall_7 : decode cX1_bestCall 7 = .ok (.aload_n 0, 1) := by decide +kernel
theorem dX1_bestCall_8 : decode cX1_bestCall 8 = .ok (.getfield 34, 3) := by decide +kernel
theorem dX1_bestCall_11 : decode cX1_bestCall 11 = .ok (.ldc2_w 59, 3) := by decide +kernel
theorem dX1_bestCall_14 : decode cX1_bestCall 14 = .ok (.invokestatic 61, 3) := by decide +kernel
theorem dX1_bestCall_17 : decode cX1_bestCall 17 = .ok (.aload_n 0, 1) := by decide +kernel
theorem dX1_bestCall_18 : decode cX1_bestCall 18 = .ok (.getfield 34, 3) := by decide +kernel
theorem dX1_bestCall_21 : decode cX1_bestCall 21 = .ok (.iconst 0, 1) := by decide +kernel
theorem dX1_bestCall_22 : decode cX1_bestCall 22 = .ok (.lconst 0, 1) := by decide +kernel
theorem dX1_bestCall_23 : decode cX1_bestCall 23 = .ok (.lastore, 1) := by decide +kernel
theorem dX1_bestCall_24 : decode cX1_bestCall 24 = .ok (.iconst 0, 1) := by decide +kernel
theorem dX1_bestCall_25 : decode cX1_bestCall 25 = .ok (.istore_n 3, 1) := by decide +kernel
theorem dX1_bestCall_26 : decode cX1_bestCall 26 = .ok (.iload_n 3, 1) := by decide +kernel
theorem dX1_bestCall_27 : decode cX1_bestCall 27 = .ok (.aload_n 0, 1) := by decide +kernel
theorem dX1_bestCall_28 : decode cX1_bestCall 28 = .ok (.getfield 37, 3) := by decide +kernel
theorem dX1_bestCall_31 : decode cX1_bestCall 31 = .ok (.if_icmp .ge 74, 3) := by decide +kernel
theorem dX1_bestCall_34 : decode cX1_bestCall 34 = .ok (.aload_n 0, 1) := by decide +kernel
theorem dX1_bestCall_35 : decode cX1_bestCall 35 = .ok (.aload_n 1, 1) := by decide +kernel
theorem dX1_bestCall_36 : decode cX1_bestCall 36 = .ok (.iload_n 3, 1) := by decide +kernel
theorem dX1_bestCall_37 : decode cX1_bestCall 37 = .ok (.invokevirtual 48, 3) := by decide +kernel
theorem dX1_bestCall_40 : decode cX1_bestCall 40 = .ok (.iconst 0, 1) := by decide +kernel
theorem dX1_bestCall_41 : decode cX1_bestCall 41 = .ok (.istore 4, 2) := by decide +kernel
theorem dX1_bestCall_43 : decode cX1_bestCall 43 = .ok (.iload 4, 2) := by decide +kernel
theorem dX1_bestCall_45 : decode cX1_bestCall 45 = .ok (.iload_n 2, 1) := by decide +kernel
theorem dX1_bestCall_46 : decode cX1_bestCall 46 = .ok (.if_icmp .ge 24, 3) := by decide +kernel
theorem dX1_bestCall_49 : decode cX1_bestCall 49 = .ok (.aload_n 0, 1) := by decide +kernel
theorem dX1_bestCall_50 : decode cX1_bestCall 50 = .ok (.getfield 30, 3) := by decide +kernel
theorem dX1_bestCall_53 : decode cX1_bestCall 53 = .ok (.iload 4, 2) := by decide +kernel
theorem dX1_bestCall_55 : decode cX1_bestCall 55 = .ok (.aload_n 0, 1) := by decide +kernel
theorem dX1_bestCall_56 : decode cX1_bestCall 56 = .ok (.aload_n 1, 1) := by decide +kernel
theorem dX1_bestCall_57 : decode cX1_bestCall 57 = .ok (.iload_n 3, 1) := by decide +kernel
theorem dX1_bestCall_58 : decode cX1_bestCall 58 = .ok (.iload 4, 2) := by decide +kernel
theorem dX1_bestCall_60 : decode cX1_bestCall 60 = .ok (.invokevirtual 67, 3) := by decide +kernel
theorem dX1_bestCall_63 : decode cX1_bestCall 63 = .ok (.lastore, 1) := by decide +kernel
theorem dX1_bestCall_64 : decode cX1_bestCall 64 = .ok (.iinc 4 1, 3) := by decide +kernel
theorem dX1_bestCall_67 : decode cX1_bestCall 67 = .ok (.goto (-24), 3) := by decide +kernel
theorem dX1_bestCall_70 : decode cX1_bestCall 70 = .ok (.iload_n 2, 1) := by decide +kernel
theorem dX1_bestCall_71 : decode cX1_bestCall 71 = .ok (.iconst 1, 1) := by decide +kernel
theorem dX1_bestCall_72 : decode cX1_bestCall 72 = .ok (.isub, 1) := by decide +kernel
theorem dX1_bestCall_73 : decode cX1_bestCall 73 = .ok (.istore 4, 2) := by decide +kernel
theorem dX1_bestCall_75 : decode cX1_bestCall 75 = .ok (.iload 4, 2) := by decide +kernel
theorem dX1_bestCall_77 : decode cX1_bestCall 77 = .ok (.ifCond .lt 22, 3) := by decide +kernel
theorem dX1_bestCall_80 : decode cX1_bestCall 80 = .ok (.aload_n 0, 1) := by decide +kernel
theorem dX1_bestCall_81 : decode cX1_bestCall 81 = .ok (.getfield 34, 3) := by decide +kernel
theorem dX1_bestCall_84 : decode cX1_bestCall 84 = .ok (.iload 4, 2) := by decide +kernel
theorem dX1_bestCall_86 : decode cX1_bestCall 86 = .ok (.aload_n 0, 1) := by decide +kernel
theorem dX1_bestCall_87 : decode cX1_bestCall 87 = .ok (.iload 4, 2) := by decide +kernel
theorem dX1_bestCall_89 : decode cX1_bestCall 89 = .ok (.invokevirtual 71, 3) := by decide +kernel
theorem dX1_bestCall_92 : decode cX1_bestCall 92 = .ok (.lastore, 1) := by decide +kernel
theorem dX1_bestCall_93 : decode cX1_bestCall 93 = .ok (.iinc 4 (-1), 3) := by decide +kernel
theorem dX1_bestCall_96 : decode cX1_bestCall 96 = .ok (.goto (-21), 3) := by decide +kernel
theorem dX1_bestCall_99 : decode cX1_bestCall 99 = .ok (.iinc 3 1, 3) := by decide +kernel
theorem dX1_bestCall_102 : decode cX1_bestCall 102 = .ok (.goto (-76), 3) := by decide +kernel
theorem dX1_bestCall_105 : decode cX1_bestCall 105 = .ok (.ldc2_w 59, 3) := by decide +kernel
theorem dX1_bestCall_108 : decode cX1_bestCall 108 = .ok (.lstore_n 3, 1) := by decide +kernel
theorem dX1_bestCall_109 : decode cX1_bestCall 109 = .ok (.iconst 0, 1) := by decide +kernel
theorem dX1_bestCall_110 : decode cX1_bestCall 110 = .ok (.istore 5, 2) := by decide +kernel
theorem dX1_bestCall_112 : decode cX1_bestCall 112 = .ok (.iload 5, 2) := by decide +kernel
theorem dX1_bestCall_114 : decode cX1_bestCall 114 = .ok (.iload_n 2, 1) := by decide +kernel
theorem dX1_bestCall_115 : decode cX1_bestCall 115 = .ok (.if_icmp .ge 21, 3) := by decide +kernel
theorem dX1_bestCall_118 : decode cX1_bestCall 118 = .ok (.lload_n 3, 1) := by decide +kernel
theorem dX1_bestCall_119 : decode cX1_bestCall 119 = .ok (.aload_n 0, 1) := by decide +kernel
theorem dX1_bestCall_120 : decode cX1_bestCall 120 = .ok (.getfield 34, 3) := by decide +kernel
theorem dX1_bestCall_123 : decode cX1_bestCall 123 = .ok (.iload 5, 2) := by decide +kernel
theorem dX1_bestCall_125 : decode cX1_bestCall 125 = .ok (.laload, 1) := by decide +kernel
theorem dX1_bestCall_126 : decode cX1_bestCall 126 = .ok (.invokestatic 75, 3) := by decide +kernel
theorem dX1_bestCall_129 : decode cX1_bestCall 129 = .ok (.lstore_n 3, 1) := by decide +kernel
theorem dX1_bestCall_130 : decode cX1_bestCall 130 = .ok (.iinc 5 1, 3) := by decide +kernel
theorem dX1_bestCall_133 : decode cX1_bestCall 133 = .ok (.goto (-21), 3) := by decide +kernel
theorem dX1_bestCall_136 : decode cX1_bestCall 136 = .ok (.lload_n 3, 1) := by decide +kernel
theorem dX1_bestCall_137 : decode cX1_bestCall 137 = .ok (.lreturn, 1) := by decide +kernel
theorem dX1_lostIn_0 : decode cX1_lostIn 0 = .ok (.lload_n 0, 1) := by decide +kernel
theorem dX1_lostIn_1 : decode cX1_lostIn 1 = .ok (.bipush 20, 2) := by decide +kernel
theorem dX1_lostIn_3 : decode cX1_lostIn 3 = .ok (.lshr, 1) := by decide +kernel
theorem dX1_lostIn_4 : decode cX1_lostIn 4 = .ok (.l2i, 1) := by decide +kernel
theorem dX1_lostIn_5 : decode cX1_lostIn 5 = .ok (.ireturn, 1) := by decide +kernel
theorem dX1_handsIn_0 : decode cX1_handsIn 0 = .ok (.lload_n 0, 1) := by decide +kernel
theorem dX1_handsIn_1 : decode cX1_handsIn 1 = .ok (.bipush 14, 2) := by decide +kernel
theorem dX1_handsIn_3 : decode cX1_handsIn 3 = .ok (.lshr, 1) := by decide +kernel
theorem dX1_handsIn_4 : decode cX1_handsIn 4 = .ok (.l2i, 1) := by decide +kernel
theorem dX1_handsIn_5 : decode cX1_handsIn 5 = .ok (.bipush 63, 2) := by decide +kernel
theorem dX1_handsIn_7 : decode cX1_handsIn 7 = .ok (.iand, 1) := by decide +kernel
theorem dX1_handsIn_8 : decode cX1_handsIn 8 = .ok (.ireturn, 1) := by decide +kernel
theorem dX1_goalIn_0 : decode cX1_goalIn 0 = .ok (.lload_n 0, 1) := by decide +kernel
theorem dX1_goalIn_1 : decode cX1_goalIn 1 = .ok (.iload_n 2, 1) := by decide +kernel
theorem dX1_goalIn_2 : decode cX1_goalIn 2 = .ok (.invokestatic 81, 3) := by decide +kernel
theorem dX1_goalIn_5 : decode cX1_goalIn 5 = .ok (.lshr, 1) := by decide +kernel
theorem dX1_goalIn_6 : decode cX1_goalIn 6 = .ok (.l2i, 1) := by decide +kernel
theorem dX1_goalIn_7 : decode cX1_goalIn 7 = .ok (.iconst 3, 1) := by decide +kernel
theorem dX1_goalIn_8 : decode cX1_goalIn 8 = .ok (.iand, 1) := by decide +kernel
theorem dX1_goalIn_9 : decode cX1_goalIn 9 = .ok (.ireturn, 1) := by decide +kernel
theorem dX1_rowBit_0 : decode cX1_rowBit 0 = .ok (.iconst 2, 1) := by decide +kernel
theorem dX1_rowBit_1 : decode cX1_rowBit 1 = .ok (.bipush 6, 2) := by decide +kernel
theorem dX1_rowBit_3 : decode cX1_rowBit 3 = .ok (.iload_n 0, 1) := by decide +kernel
theorem dX1_rowBit_4 : decode cX1_rowBit 4 = .ok (.isub, 1) := by decide +kernel
theorem dX1_rowBit_5 : decode cX1_rowBit 5 = .ok (.imul, 1) := by decide +kernel
theorem dX1_rowBit_6 : decode cX1_rowBit 6 = .ok (.ireturn, 1) := by decide +kernel
theorem dX1_lineUp_0 : decode cX1_lineUp 0 = .ok (.iconst 0, 1) := by decide +kernel
theorem dX1_lineUp_1 : decode cX1_lineUp 1 = .ok (.istore_n 3, 1) := by decide +kernel
theorem dX1_lineUp_2 : decode cX1_lineUp 2 = .ok (.iload_n 3, 1) := by decide +kernel
theorem dX1_lineUp_3 : decode cX1_lineUp 3 = .ok (.aload_n 1, 1) := by decide +kernel
theorem dX1_lineUp_4 : decode cX1_lineUp 4 = .ok (.getfield 41, 3) := by decide +kernel
theorem dX1_lineUp_7 : decode cX1_lineUp 7 = .ok (.if_icmp .ge 99, 3) := by decide +kernel
theorem dX1_lineUp_10 : decode cX1_lineUp 10 = .ok (.aload_n 0, 1) := by decide +kernel
theorem dX1_lineUp_11 : decode cX1_lineUp 11 = .ok (.getfield 24, 3) := by decide +kernel
theorem dX1_lineUp_14 : decode cX1_lineUp 14 = .ok (.iload_n 3, 1) := by decide +kernel
theorem dX1_lineUp_15 : decode cX1_lineUp 15 = .ok (.aload_n 1, 1) := by decide +kernel
theorem dX1_lineUp_16 : decode cX1_lineUp 16 = .ok (.iload_n 3, 1) := by decide +kernel
theorem dX1_lineUp_17 : decode cX1_lineUp 17 = .ok (.aload_n 0, 1) := by decide +kernel
theorem dX1_lineUp_18 : decode cX1_lineUp 18 = .ok (.getfield 11, 3) := by decide +kernel
theorem dX1_lineUp_21 : decode cX1_lineUp 21 = .ok (.iload_n 2, 1) := by decide +kernel
theorem dX1_lineUp_22 : decode cX1_lineUp 22 = .ok (.iaload, 1) := by decide +kernel
theorem dX1_lineUp_23 : decode cX1_lineUp 23 = .ok (.aload_n 0, 1) := by decide +kernel
theorem dX1_lineUp_24 : decode cX1_lineUp 24 = .ok (.getfield 15, 3) := by decide +kernel
theorem dX1_lineUp_27 : decode cX1_lineUp 27 = .ok (.iload_n 2, 1) := by decide +kernel
theorem dX1_lineUp_28 : decode cX1_lineUp 28 = .ok (.iaload, 1) := by decide +kernel
theorem dX1_lineUp_29 : decode cX1_lineUp 29 = .ok (.invokevirtual 85, 3) := by decide +kernel
theorem dX1_lineUp_32 : decode cX1_lineUp 32 = .ok (.bipush 7, 2) := by decide +kernel
theorem dX1_lineUp_34 : decode cX1_lineUp 34 = .ok (.iadd, 1) := by decide +kernel
theorem dX1_lineUp_35 : decode cX1_lineUp 35 = .ok (.bipush 8, 2) := by decide +kernel
theorem dX1_lineUp_37 : decode cX1_lineUp 37 = .ok (.idiv, 1) := by decide +kernel
theorem dX1_lineUp_38 : decode cX1_lineUp 38 = .ok (.iastore, 1) := by decide +kernel
theorem dX1_lineUp_39 : decode cX1_lineUp 39 = .ok (.iload_n 3, 1) := by decide +kernel
theorem dX1_lineUp_40 : decode cX1_lineUp 40 = .ok (.istore 4, 2) := by decide +kernel
theorem dX1_lineUp_42 : decode cX1_lineUp 42 = .ok (.iload 4, 2) := by decide +kernel
theorem dX1_lineUp_44 : decode cX1_lineUp 44 = .ok (.ifCond .le 48, 3) := by decide +kernel
theorem dX1_lineUp_47 : decode cX1_lineUp 47 = .ok (.aload_n 0, 1) := by decide +kernel
theorem dX1_lineUp_48 : decode cX1_lineUp 48 = .ok (.getfield 24, 3) := by decide +kernel
theorem dX1_lineUp_51 : decode cX1_lineUp 51 = .ok (.aload_n 0, 1) := by decide +kernel
theorem dX1_lineUp_52 : decode cX1_lineUp 52 = .ok (.getfield 27, 3) := by decide +kernel
theorem dX1_lineUp_55 : decode cX1_lineUp 55 = .ok (.iload 4, 2) := by decide +kernel
theorem dX1_lineUp_57 : decode cX1_lineUp 57 = .ok (.iconst 1, 1) := by decide +kernel
theorem dX1_lineUp_58 : decode cX1_lineUp 58 = .ok (.isub, 1) := by decide +kernel
theorem dX1_lineUp_59 : decode cX1_lineUp 59 = .ok (.iaload, 1) := by decide +kernel
theorem dX1_lineUp_60 : decode cX1_lineUp 60 = .ok (.iaload, 1) := by decide +kernel
theorem dX1_lineUp_61 : decode cX1_lineUp 61 = .ok (.aload_n 0, 1) := by decide +kernel
theorem dX1_lineUp_62 : decode cX1_lineUp 62 = .ok (.getfield 24, 3) := by decide +kernel
theorem dX1_lineUp_65 : decode cX1_lineUp 65 = .ok (.iload_n 3, 1) := by decide +kernel
theorem dX1_lineUp_66 : decode cX1_lineUp 66 = .ok (.iaload, 1) := by decide +kernel
theorem dX1_lineUp_67 : decode cX1_lineUp 67 = .ok (.if_icmp .le 25, 3) := by decide +kernel
theorem dX1_lineUp_70 : decode cX1_lineUp 70 = .ok (.aload_n 0, 1) := by decide +kernel
theorem dX1_lineUp_71 : decode cX1_lineUp 71 = .ok (.getfield 27, 3) := by decide +kernel
theorem dX1_lineUp_74 : decode cX1_lineUp 74 = .ok (.iload 4, 2) := by decide +kernel
theorem dX1_lineUp_76 : decode cX1_lineUp 76 = .ok (.aload_n 0, 1) := by decide +kernel
theorem dX1_lineUp_77 : decode cX1_lineUp 77 = .ok (.getfield 27, 3) := by decide +kernel
theorem dX1_lineUp_80 : decode cX1_lineUp 80 = .ok (.iload 4, 2) := by decide +kernel
theorem dX1_lineUp_82 : decode cX1_lineUp 82 = .ok (.iconst 1, 1) := by decide +kernel
theorem dX1_lineUp_83 : decode cX1_lineUp 83 = .ok (.isub, 1) := by decide +kernel
theorem dX1_lineUp_84 : decode cX1_lineUp 84 = .ok (.iaload, 1) := by decide +kernel
theorem dX1_lineUp_85 : decode cX1_lineUp 85 = .ok (.iastore, 1) := by decide +kernel
theorem dX1_lineUp_86 : decode cX1_lineUp 86 = .ok (.iinc 4 (-1), 3) := by decide +kernel
theorem dX1_lineUp_89 : decode cX1_lineUp 89 = .ok (.goto (-47), 3) := by decide +kernel
theorem dX1_lineUp_92 : decode cX1_lineUp 92 = .ok (.aload_n 0, 1) := by decide +kernel
theorem dX1_lineUp_93 : decode cX1_lineUp 93 = .ok (.getfield 27, 3) := by decide +kernel
theorem dX1_lineUp_96 : decode cX1_lineUp 96 = .ok (.iload 4, 2) := by decide +kernel
theorem dX1_lineUp_98 : decode cX1_lineUp 98 = .ok (.iload_n 3, 1) := by decide +kernel
theorem dX1_lineUp_99 : decode cX1_lineUp 99 = .ok (.iastore, 1) := by decide +kernel
theorem dX1_lineUp_100 : decode cX1_lineUp 100 = .ok (.iinc 3 1, 3) := by decide +kernel
theorem dX1_lineUp_103 : decode cX1_lineUp 103 = .ok (.goto (-101), 3) := by decide +kernel
theorem dX1_lineUp_106 : decode cX1_lineUp 106 = .ok (.return_, 1) := by decide +kernel
theorem dX1_lostAt_0 : decode cX1_lostAt 0 = .ok (.iconst 0, 1) := by decide +kernel
theorem dX1_lostAt_1 : decode cX1_lostAt 1 = .ok (.istore 4, 2) := by decide +kernel
theorem dX1_lostAt_3 : decode cX1_lostAt 3 = .ok (.iconst 0, 1) := by decide +kernel
theorem dX1_lostAt_4 : decode cX1_lostAt 4 = .ok (.istore 5, 2) := by decide +kernel
theorem dX1_lostAt_6 : decode cX1_lostAt 6 = .ok (.iload 5, 2) := by decide +kernel
theorem dX1_lostAt_8 : decode cX1_lostAt 8 = .ok (.aload_n 1, 1) := by decide +kernel
theorem dX1_lostAt_9 : decode cX1_lostAt 9 = .ok (.getfield 41, 3) := by decide +kernel
theorem dX1_lostAt_12 : decode cX1_lostAt 12 = .ok (.if_icmp .ge 70, 3) := by decide +kernel
theorem dX1_lostAt_15 : decode cX1_lostAt 15 = .ok (.aload_n 0, 1) := by decide +kernel
theorem dX1_lostAt_16 : decode cX1_lostAt 16 = .ok (.getfield 27, 3) := by decide +kernel
theorem dX1_lostAt_19 : decode cX1_lostAt 19 = .ok (.iload 5, 2) := by decide +kernel
theorem dX1_lostAt_21 : decode cX1_lostAt 21 = .ok (.iaload, 1) := by decide +kernel
theorem dX1_lostAt_22 : decode cX1_lostAt 22 = .ok (.istore 6, 2) := by decide +kernel
theorem dX1_lostAt_24 : decode cX1_lostAt 24 = .ok (.iload_n 3, 1) := by decide +kernel
theorem dX1_lostAt_25 : decode cX1_lostAt 25 = .ok (.iload 6, 2) := by decide +kernel
theorem dX1_lostAt_27 : decode cX1_lostAt 27 = .ok (.ishr, 1) := by decide +kernel
theorem dX1_lostAt_28 : decode cX1_lostAt 28 = .ok (.iconst 1, 1) := by decide +kernel
theorem dX1_lostAt_29 : decode cX1_lostAt 29 = .ok (.iand, 1) := by decide +kernel
theorem dX1_lostAt_30 : decode cX1_lostAt 30 = .ok (.ifCond .eq 46, 3) := by decide +kernel
theorem dX1_lostAt_33 : decode cX1_lostAt 33 = .ok (.iload 4, 2) := by decide +kernel
theorem dX1_lostAt_35 : decode cX1_lostAt 35 = .ok (.aload_n 1, 1) := by decide +kernel
theorem dX1_lostAt_36 : decode cX1_lostAt 36 = .ok (.getfield 89, 3) := by decide +kernel
theorem dX1_lostAt_39 : decode cX1_lostAt 39 = .ok (.iload 6, 2) := by decide +kernel
theorem dX1_lostAt_41 : decode cX1_lostAt 41 = .ok (.iaload, 1) := by decide +kernel
theorem dX1_lostAt_42 : decode cX1_lostAt 42 = .ok (.iadd, 1) := by decide +kernel
theorem dX1_lostAt_43 : decode cX1_lostAt 43 = .ok (.istore 4, 2) := by decide +kernel
theorem dX1_lostAt_45 : decode cX1_lostAt 45 = .ok (.iload 4, 2) := by decide +kernel
theorem dX1_lostAt_47 : decode cX1_lostAt 47 = .ok (.aload_n 0, 1) := by decide +kernel
theorem dX1_lostAt_48 : decode cX1_lostAt 48 = .ok (.getfield 18, 3) := by decide +kernel
theorem dX1_lostAt_51 : decode cX1_lostAt 51 = .ok (.iload_n 2, 1) := by decide +kernel
theorem dX1_lostAt_52 : decode cX1_lostAt 52 = .ok (.iaload, 1) := by decide +kernel
theorem dX1_lostAt_53 : decode cX1_lostAt 53 = .ok (.if_icmp .lt 23, 3) := by decide +kernel
theorem dX1_lostAt_56 : decode cX1_lostAt 56 = .ok (.aload_n 0, 1) := by decide +kernel
theorem dX1_lostAt_57 : decode cX1_lostAt 57 = .ok (.getfield 21, 3) := by decide +kernel
theorem dX1_lostAt_60 : decode cX1_lostAt 60 = .ok (.iload_n 2, 1) := by decide +kernel
theorem dX1_lostAt_61 : decode cX1_lostAt 61 = .ok (.iaload, 1) := by decide +kernel
theorem dX1_lostAt_62 : decode cX1_lostAt 62 = .ok (.aload_n 0, 1) := by decide +kernel
theorem dX1_lostAt_63 : decode cX1_lostAt 63 = .ok (.getfield 24, 3) := by decide +kernel
theorem dX1_lostAt_66 : decode cX1_lostAt 66 = .ok (.iload 6, 2) := by decide +kernel
theorem dX1_lostAt_68 : decode cX1_lostAt 68 = .ok (.iaload, 1) := by decide +kernel
theorem dX1_lostAt_69 : decode cX1_lostAt 69 = .ok (.bipush 24, 2) := by decide +kernel
theorem dX1_lostAt_71 : decode cX1_lostAt 71 = .ok (.invokestatic 92, 3) := by decide +kernel
theorem dX1_lostAt_74 : decode cX1_lostAt 74 = .ok (.imul, 1) := by decide +kernel
theorem dX1_lostAt_75 : decode cX1_lostAt 75 = .ok (.ireturn, 1) := by decide +kernel
theorem dX1_lostAt_76 : decode cX1_lostAt 76 = .ok (.iinc 5 1, 3) := by decide +kernel
theorem dX1_lostAt_79 : decode cX1_lostAt 79 = .ok (.goto (-73), 3) := by decide +kernel
theorem dX1_lostAt_82 : decode cX1_lostAt 82 = .ok (.aload_n 0, 1) := by decide +kernel
theorem dX1_lostAt_83 : decode cX1_lostAt 83 = .ok (.getfield 21, 3) := by decide +kernel
theorem dX1_lostAt_86 : decode cX1_lostAt 86 = .ok (.iload_n 2, 1) := by decide +kernel
theorem dX1_lostAt_87 : decode cX1_lostAt 87 = .ok (.iaload, 1) := by decide +kernel
theorem dX1_lostAt_88 : decode cX1_lostAt 88 = .ok (.bipush 24, 2) := by decide +kernel
theorem dX1_lostAt_90 : decode cX1_lostAt 90 = .ok (.imul, 1) := by decide +kernel
theorem dX1_lostAt_91 : decode cX1_lostAt 91 = .ok (.ireturn, 1) := by decide +kernel
theorem dX1_goersTo_0 : decode cX1_goersTo 0 = .ok (.iconst 0, 1) := by decide +kernel
theorem dX1_goersTo_1 : decode cX1_goersTo 1 = .ok (.istore 4, 2) := by decide +kernel
theorem dX1_goersTo_3 : decode cX1_goersTo 3 = .ok (.iload_n 3, 1) := by decide +kernel
theorem dX1_goersTo_4 : decode cX1_goersTo 4 = .ok (.istore 5, 2) := by decide +kernel
theorem dX1_goersTo_6 : decode cX1_goersTo 6 = .ok (.aload_n 1, 1) := by decide +kernel
theorem dX1_goersTo_7 : decode cX1_goersTo 7 = .ok (.getfield 41, 3) := by decide +kernel
theorem dX1_goersTo_10 : decode cX1_goersTo 10 = .ok (.iconst 1, 1) := by decide +kernel
theorem dX1_goersTo_11 : decode cX1_goersTo 11 = .ok (.isub, 1) := by decide +kernel
theorem dX1_goersTo_12 : decode cX1_goersTo 12 = .ok (.istore 6, 2) := by decide +kernel
theorem dX1_goersTo_14 : decode cX1_goersTo 14 = .ok (.iload 6, 2) := by decide +kernel
theorem dX1_goersTo_16 : decode cX1_goersTo 16 = .ok (.ifCond .lt 51, 3) := by decide +kernel
theorem dX1_goersTo_19 : decode cX1_goersTo 19 = .ok (.iload 5, 2) := by decide +kernel
theorem dX1_goersTo_21 : decode cX1_goersTo 21 = .ok (.aload_n 0, 1) := by decide +kernel
theorem dX1_goersTo_22 : decode cX1_goersTo 22 = .ok (.getfield 37, 3) := by decide +kernel
theorem dX1_goersTo_25 : decode cX1_goersTo 25 = .ok (.iconst 1, 1) := by decide +kernel
theorem dX1_goersTo_26 : decode cX1_goersTo 26 = .ok (.iadd, 1) := by decide +kernel
theorem dX1_goersTo_27 : decode cX1_goersTo 27 = .ok (.invokestatic 95, 3) := by decide +kernel
theorem dX1_goersTo_30 : decode cX1_goersTo 30 = .ok (.iload_n 2, 1) := by decide +kernel
theorem dX1_goersTo_31 : decode cX1_goersTo 31 = .ok (.iconst 1, 1) := by decide +kernel
theorem dX1_goersTo_32 : decode cX1_goersTo 32 = .ok (.iadd, 1) := by decide +kernel
theorem dX1_goersTo_33 : decode cX1_goersTo 33 = .ok (.if_icmp .ne 12, 3) := by decide +kernel
theorem dX1_goersTo_36 : decode cX1_goersTo 36 = .ok (.iload 4, 2) := by decide +kernel
theorem dX1_goersTo_38 : decode cX1_goersTo 38 = .ok (.iconst 1, 1) := by decide +kernel
theorem dX1_goersTo_39 : decode cX1_goersTo 39 = .ok (.iload 6, 2) := by decide +kernel
theorem dX1_goersTo_41 : decode cX1_goersTo 41 = .ok (.ishl, 1) := by decide +kernel
theorem dX1_goersTo_42 : decode cX1_goersTo 42 = .ok (.ior, 1) := by decide +kernel
theorem dX1_goersTo_43 : decode cX1_goersTo 43 = .ok (.istore 4, 2) := by decide +kernel
theorem dX1_goersTo_45 : decode cX1_goersTo 45 = .ok (.iload 5, 2) := by decide +kernel
theorem dX1_goersTo_47 : decode cX1_goersTo 47 = .ok (.i2l, 1) := by decide +kernel
theorem dX1_goersTo_48 : decode cX1_goersTo 48 = .ok (.aload_n 0, 1) := by decide +kernel
theorem dX1_goersTo_49 : decode cX1_goersTo 49 = .ok (.getfield 37, 3) := by decide +kernel
theorem dX1_goersTo_52 : decode cX1_goersTo 52 = .ok (.iconst 1, 1) := by decide +kernel
theorem dX1_goersTo_53 : decode cX1_goersTo 53 = .ok (.iadd, 1) := by decide +kernel
theorem dX1_goersTo_54 : decode cX1_goersTo 54 = .ok (.i2l, 1) := by decide +kernel
theorem dX1_goersTo_55 : decode cX1_goersTo 55 = .ok (.invokestatic 98, 3) := by decide +kernel
theorem dX1_goersTo_58 : decode cX1_goersTo 58 = .ok (.l2i, 1) := by decide +kernel
theorem dX1_goersTo_59 : decode cX1_goersTo 59 = .ok (.istore 5, 2) := by decide +kernel
theorem dX1_goersTo_61 : decode cX1_goersTo 61 = .ok (.iinc 6 (-1), 3) := by decide +kernel
theorem dX1_goersTo_64 : decode cX1_goersTo 64 = .ok (.goto (-50), 3) := by decide +kernel
theorem dX1_goersTo_67 : decode cX1_goersTo 67 = .ok (.iload 4, 2) := by decide +kernel
theorem dX1_goersTo_69 : decode cX1_goersTo 69 = .ok (.ireturn, 1) := by decide +kernel
theorem dX1_worthOf_0 : decode cX1_worthOf 0 = .ok (.aload_n 0, 1) := by decide +kernel
theorem dX1_worthOf_1 : decode cX1_worthOf 1 = .ok (.aload_n 1, 1) := by decide +kernel
theorem dX1_worthOf_2 : decode cX1_worthOf 2 = .ok (.iload_n 2, 1) := by decide +kernel
theorem dX1_worthOf_3 : decode cX1_worthOf 3 = .ok (.iload_n 3, 1) := by decide +kernel
theorem dX1_worthOf_4 : decode cX1_worthOf 4 = .ok (.invokevirtual 56, 3) := by decide +kernel
theorem dX1_worthOf_7 : decode cX1_worthOf 7 = .ok (.i2l, 1) := by decide +kernel
theorem dX1_worthOf_8 : decode cX1_worthOf 8 = .ok (.bipush 20, 2) := by decide +kernel
theorem dX1_worthOf_10 : decode cX1_worthOf 10 = .ok (.lshl, 1) := by decide +kernel
theorem dX1_worthOf_11 : decode cX1_worthOf 11 = .ok (.lstore 4, 2) := by decide +kernel
theorem dX1_worthOf_13 : decode cX1_worthOf 13 = .ok (.iconst 0, 1) := by decide +kernel
theorem dX1_worthOf_14 : decode cX1_worthOf 14 = .ok (.istore 6, 2) := by decide +kernel
theorem dX1_worthOf_16 : decode cX1_worthOf 16 = .ok (.iload 6, 2) := by decide +kernel
theorem dX1_worthOf_18 : decode cX1_worthOf 18 = .ok (.aload_n 1, 1) := by decide +kernel
theorem dX1_worthOf_19 : decode cX1_worthOf 19 = .ok (.getfield 41, 3) := by decide +kernel
theorem dX1_worthOf_22 : decode cX1_worthOf 22 = .ok (.if_icmp .ge 44, 3) := by decide +kernel
theorem dX1_worthOf_25 : decode cX1_worthOf 25 = .ok (.iload_n 3, 1) := by decide +kernel
theorem dX1_worthOf_26 : decode cX1_worthOf 26 = .ok (.iload 6, 2) := by decide +kernel
theorem dX1_worthOf_28 : decode cX1_worthOf 28 = .ok (.ishr, 1) := by decide +kernel
theorem dX1_worthOf_29 : decode cX1_worthOf 29 = .ok (.iconst 1, 1) := by decide +kernel
theorem dX1_worthOf_30 : decode cX1_worthOf 30 = .ok (.iand, 1) := by decide +kernel
theorem dX1_worthOf_31 : decode cX1_worthOf 31 = .ok (.ifCond .eq 29, 3) := by decide +kernel
theorem dX1_worthOf_34 : decode cX1_worthOf 34 = .ok (.lload 4, 2) := by decide +kernel
theorem dX1_worthOf_36 : decode cX1_worthOf 36 = .ok (.aload_n 1, 1) := by decide +kernel
theorem dX1_worthOf_37 : decode cX1_worthOf 37 = .ok (.getfield 89, 3) := by decide +kernel
theorem dX1_worthOf_40 : decode cX1_worthOf 40 = .ok (.iload 6, 2) := by decide +kernel
theorem dX1_worthOf_42 : decode cX1_worthOf 42 = .ok (.iaload, 1) := by decide +kernel
theorem dX1_worthOf_43 : decode cX1_worthOf 43 = .ok (.bipush 14, 2) := by decide +kernel
theorem dX1_worthOf_45 : decode cX1_worthOf 45 = .ok (.ishl, 1) := by decide +kernel
theorem dX1_worthOf_46 : decode cX1_worthOf 46 = .ok (.iload_n 2, 1) := by decide +kernel
theorem dX1_worthOf_47 : decode cX1_worthOf 47 = .ok (.iconst 1, 1) := by decide +kernel
theorem dX1_worthOf_48 : decode cX1_worthOf 48 = .ok (.iadd, 1) := by decide +kernel
theorem dX1_worthOf_49 : decode cX1_worthOf 49 = .ok (.iload 6, 2) := by decide +kernel
theorem dX1_worthOf_51 : decode cX1_worthOf 51 = .ok (.invokestatic 81, 3) := by decide +kernel
theorem dX1_worthOf_54 : decode cX1_worthOf 54 = .ok (.ishl, 1) := by decide +kernel
theorem dX1_worthOf_55 : decode cX1_worthOf 55 = .ok (.iadd, 1) := by decide +kernel
theorem dX1_worthOf_56 : decode cX1_worthOf 56 = .ok (.i2l, 1) := by decide +kernel
theorem dX1_worthOf_57 : decode cX1_worthOf 57 = .ok (.ladd, 1) := by decide +kernel
theorem dX1_worthOf_58 : decode cX1_worthOf 58 = .ok (.lstore 4, 2) := by decide +kernel
theorem dX1_worthOf_60 : decode cX1_worthOf 60 = .ok (.iinc 6 1, 3) := by decide +kernel
theorem dX1_worthOf_63 : decode cX1_worthOf 63 = .ok (.goto (-47), 3) := by decide +kernel
theorem dX1_worthOf_66 : decode cX1_worthOf 66 = .ok (.lload 4, 2) := by decide +kernel
theorem dX1_worthOf_68 : decode cX1_worthOf 68 = .ok (.lreturn, 1) := by decide +kernel
theorem dX1_bestSplit_0 : decode cX1_bestSplit 0 = .ok (.aload_n 0, 1) := by decide +kernel
theorem dX1_bestSplit_1 : decode cX1_bestSplit 1 = .ok (.getfield 34, 3) := by decide +kernel
theorem dX1_bestSplit_4 : decode cX1_bestSplit 4 = .ok (.iload_n 1, 1) := by decide +kernel
theorem dX1_bestSplit_5 : decode cX1_bestSplit 5 = .ok (.laload, 1) := by decide +kernel
theorem dX1_bestSplit_6 : decode cX1_bestSplit 6 = .ok (.aload_n 0, 1) := by decide +kernel
theorem dX1_bestSplit_7 : decode cX1_bestSplit 7 = .ok (.getfield 30, 3) := by decide +kernel
theorem dX1_bestSplit_10 : decode cX1_bestSplit 10 = .ok (.iconst 0, 1) := by decide +kernel
theorem dX1_bestSplit_11 : decode cX1_bestSplit 11 = .ok (.laload, 1) := by decide +kernel
theorem dX1_bestSplit_12 : decode cX1_bestSplit 12 = .ok (.ladd, 1) := by decide +kernel
theorem dX1_bestSplit_13 : decode cX1_bestSplit 13 = .ok (.lstore_n 2, 1) := by decide +kernel
theorem dX1_bestSplit_14 : decode cX1_bestSplit 14 = .ok (.iload_n 1, 1) := by decide +kernel
theorem dX1_bestSplit_15 : decode cX1_bestSplit 15 = .ok (.istore 4, 2) := by decide +kernel
theorem dX1_bestSplit_17 : decode cX1_bestSplit 17 = .ok (.iload 4, 2) := by decide +kernel
theorem dX1_bestSplit_19 : decode cX1_bestSplit 19 = .ok (.ifCond .le 36, 3) := by decide +kernel
theorem dX1_bestSplit_22 : decode cX1_bestSplit 22 = .ok (.lload_n 2, 1) := by decide +kernel
theorem dX1_bestSplit_23 : decode cX1_bestSplit 23 = .ok (.aload_n 0, 1) := by decide +kernel
theorem dX1_bestSplit_24 : decode cX1_bestSplit 24 = .ok (.getfield 34, 3) := by decide +kernel
theorem dX1_bestSplit_27 : decode cX1_bestSplit 27 = .ok (.iload_n 1, 1) := by decide +kernel
theorem dX1_bestSplit_28 : decode cX1_bestSplit 28 = .ok (.iload 4, 2) := by decide +kernel
theorem dX1_bestSplit_30 : decode cX1_bestSplit 30 = .ok (.isub, 1) := by decide +kernel
theorem dX1_bestSplit_31 : decode cX1_bestSplit 31 = .ok (.laload, 1) := by decide +kernel
theorem dX1_bestSplit_32 : decode cX1_bestSplit 32 = .ok (.aload_n 0, 1) := by decide +kernel
theorem dX1_bestSplit_33 : decode cX1_bestSplit 33 = .ok (.getfield 30, 3) := by decide +kernel
theorem dX1_bestSplit_36 : decode cX1_bestSplit 36 = .ok (.iload 4, 2) := by decide +kernel
theorem dX1_bestSplit_38 : decode cX1_bestSplit 38 = .ok (.laload, 1) := by decide +kernel
theorem dX1_bestSplit_39 : decode cX1_bestSplit 39 = .ok (.ladd, 1) := by decide +kernel
theorem dX1_bestSplit_40 : decode cX1_bestSplit 40 = .ok (.invokestatic 75, 3) := by decide +kernel
theorem dX1_bestSplit_43 : decode cX1_bestSplit 43 = .ok (.lstore_n 2, 1) := by decide +kernel
theorem dX1_bestSplit_44 : decode cX1_bestSplit 44 = .ok (.iload 4, 2) := by decide +kernel
theorem dX1_bestSplit_46 : decode cX1_bestSplit 46 = .ok (.iconst 1, 1) := by decide +kernel
theorem dX1_bestSplit_47 : decode cX1_bestSplit 47 = .ok (.isub, 1) := by decide +kernel
theorem dX1_bestSplit_48 : decode cX1_bestSplit 48 = .ok (.iload_n 1, 1) := by decide +kernel
theorem dX1_bestSplit_49 : decode cX1_bestSplit 49 = .ok (.iand, 1) := by decide +kernel
theorem dX1_bestSplit_50 : decode cX1_bestSplit 50 = .ok (.istore 4, 2) := by decide +kernel
theorem dX1_bestSplit_52 : decode cX1_bestSplit 52 = .ok (.goto (-35), 3) := by decide +kernel
theorem dX1_bestSplit_55 : decode cX1_bestSplit 55 = .ok (.lload_n 2, 1) := by decide +kernel
theorem dX1_bestSplit_56 : decode cX1_bestSplit 56 = .ok (.lreturn, 1) := by decide +kernel
theorem dX2_init_0 : decode cX2_init 0 = .ok (.aload_n 0, 1) := by decide +kernel
theorem dX2_init_1 : decode cX2_init 1 = .ok (.invokespecial 3, 3) := by decide +kernel
theorem dX2_init_4 : decode cX2_init 4 = .ok (.aload_n 0, 1) := by decide +kernel
theorem dX2_init_5 : decode cX2_init 5 = .ok (.aload_n 1, 1) := by decide +kernel
theorem dX2_init_6 : decode cX2_init 6 = .ok (.getfield 9, 3) := by decide +kernel
theorem dX2_init_9 : decode cX2_init 9 = .ok (.putfield 15, 3) := by decide +kernel
theorem dX2_init_12 : decode cX2_init 12 = .ok (.aload_n 0, 1) := by decide +kernel
theorem dX2_init_13 : decode cX2_init 13 = .ok (.aload_n 1, 1) := by decide +kernel
theorem dX2_init_14 : decode cX2_init 14 = .ok (.getfield 18, 3) := by decide +kernel
theorem dX2_init_17 : decode cX2_init 17 = .ok (.putfield 21, 3) := by decide +kernel
theorem dX2_init_20 : decode cX2_init 20 = .ok (.aload_n 0, 1) := by decide +kernel
theorem dX2_init_21 : decode cX2_init 21 = .ok (.aload_n 1, 1) := by decide +kernel
theorem dX2_init_22 : decode cX2_init 22 = .ok (.getfield 22, 3) := by decide +kernel
theorem dX2_init_25 : decode cX2_init 25 = .ok (.putfield 25, 3) := by decide +kernel
theorem dX2_init_28 : decode cX2_init 28 = .ok (.aload_n 0, 1) := by decide +kernel
theorem dX2_init_29 : decode cX2_init 29 = .ok (.aload_n 1, 1) := by decide +kernel
theorem dX2_init_30 : decode cX2_init 30 = .ok (.getfield 26, 3) := by decide +kernel
theorem dX2_init_33 : decode cX2_init 33 = .ok (.putfield 29, 3) := by decide +kernel
theorem dX2_init_36 : decode cX2_init 36 = .ok (.aload_n 0, 1) := by decide +kernel
theorem dX2_init_37 : decode cX2_init 37 = .ok (.aload_n 1, 1) := by decide +kernel
theorem dX2_init_38 : decode cX2_init 38 = .ok (.getfield 30, 3) := by decide +kernel
theorem dX2_init_41 : decode cX2_init 41 = .ok (.putfield 33, 3) := by decide +kernel
theorem dX2_init_44 : decode cX2_init 44 = .ok (.aload_n 0, 1) := by decide +kernel
theorem dX2_init_45 : decode cX2_init 45 = .ok (.aload_n 1, 1) := by decide +kernel
theorem dX2_init_46 : decode cX2_init 46 = .ok (.getfield 34, 3) := by decide +kernel
theorem dX2_init_49 : decode cX2_init 49 = .ok (.putfield 37, 3) := by decide +kernel
theorem dX2_init_52 : decode cX2_init 52 = .ok (.aload_n 0, 1) := by decide +kernel
theorem dX2_init_53 : decode cX2_init 53 = .ok (.iload_n 2, 1) := by decide +kernel
theorem dX2_init_54 : decode cX2_init 54 = .ok (.putfield 38, 3) := by decide +kernel
theorem dX2_init_57 : decode cX2_init 57 = .ok (.return_, 1) := by decide +kernel
theorem dX2_tellsOf_0 : decode cX2_tellsOf 0 = .ok (.iload_n 2, 1) := by decide +kernel
theorem dX2_tellsOf_1 : decode cX2_tellsOf 1 = .ok (.aload_n 0, 1) := by decide +kernel
theorem dX2_tellsOf_2 : decode cX2_tellsOf 2 = .ok (.getfield 21, 3) := by decide +kernel
theorem dX2_tellsOf_5 : decode cX2_tellsOf 5 = .ok (.aload_n 0, 1) := by decide +kernel
theorem dX2_tellsOf_6 : decode cX2_tellsOf 6 = .ok (.getfield 25, 3) := by decide +kernel
theorem dX2_tellsOf_9 : decode cX2_tellsOf 9 = .ok (.invokestatic 41, 3) := by decide +kernel
theorem dX2_tellsOf_12 : decode cX2_tellsOf 12 = .ok (.ifCond .eq 33, 3) := by decide +kernel
theorem dX2_tellsOf_15 : decode cX2_tellsOf 15 = .ok (.iload_n 3, 1) := by decide +kernel
theorem dX2_tellsOf_16 : decode cX2_tellsOf 16 = .ok (.aload_n 0, 1) := by decide +kernel
theorem dX2_tellsOf_17 : decode cX2_tellsOf 17 = .ok (.getfield 29, 3) := by decide +kernel
theorem dX2_tellsOf_20 : decode cX2_tellsOf 20 = .ok (.aload_n 0, 1) := by decide +kernel
theorem dX2_tellsOf_21 : decode cX2_tellsOf 21 = .ok (.getfield 33, 3) := by decide +kernel
theorem dX2_tellsOf_24 : decode cX2_tellsOf 24 = .ok (.invokestatic 41, 3) := by decide +kernel
theorem dX2_tellsOf_27 : decode cX2_tellsOf 27 = .ok (.ifCond .eq 18, 3) := by decide +kernel
theorem dX2_tellsOf_30 : decode cX2_tellsOf 30 = .ok (.aload_n 0, 1) := by decide +kernel
theorem dX2_tellsOf_31 : decode cX2_tellsOf 31 = .ok (.getfield 37, 3) := by decide +kernel
theorem dX2_tellsOf_34 : decode cX2_tellsOf 34 = .ok (.iload_n 1, 1) := by decide +kernel
theorem dX2_tellsOf_35 : decode cX2_tellsOf 35 = .ok (.ishr, 1) := by decide +kernel
theorem dX2_tellsOf_36 : decode cX2_tellsOf 36 = .ok (.iconst 1, 1) := by decide +kernel
theorem dX2_tellsOf_37 : decode cX2_tellsOf 37 = .ok (.iand, 1) := by decide +kernel
theorem dX2_tellsOf_38 : decode cX2_tellsOf 38 = .ok (.ifCond .ne 7, 3) := by decide +kernel
theorem dX2_tellsOf_41 : decode cX2_tellsOf 41 = .ok (.iconst 1, 1) := by decide +kernel
theorem dX2_tellsOf_42 : decode cX2_tellsOf 42 = .ok (.goto 4, 3) := by decide +kernel
theorem dX2_tellsOf_45 : decode cX2_tellsOf 45 = .ok (.iconst 0, 1) := by decide +kernel
theorem dX2_tellsOf_46 : decode cX2_tellsOf 46 = .ok (.ireturn, 1) := by decide +kernel
theorem dX2_fact_0 : decode cX2_fact 0 = .ok (.iload_n 1, 1) := by decide +kernel
theorem dX2_fact_1 : decode cX2_fact 1 = .ok (.tableswitch 78 0 6 #[43, 48, 53, 58, 63, 68, 73], 43) := by decide +kernel
theorem dX2_fact_44 : decode cX2_fact 44 = .ok (.aload_n 0, 1) := by decide +kernel
theorem dX2_fact_45 : decode cX2_fact 45 = .ok (.getfield 15, 3) := by decide +kernel
theorem dX2_fact_48 : decode cX2_fact 48 = .ok (.ireturn, 1) := by decide +kernel
theorem dX2_fact_49 : decode cX2_fact 49 = .ok (.aload_n 0, 1) := by decide +kernel
theorem dX2_fact_50 : decode cX2_fact 50 = .ok (.getfield 21, 3) := by decide +kernel
theorem dX2_fact_53 : decode cX2_fact 53 = .ok (.ireturn, 1) := by decide +kernel
theorem dX2_fact_54 : decode cX2_fact 54 = .ok (.aload_n 0, 1) := by decide +kernel
theorem dX2_fact_55 : decode cX2_fact 55 = .ok (.getfield 25, 3) := by decide +kernel
theorem dX2_fact_58 : decode cX2_fact 58 = .ok (.ireturn, 1) := by decide +kernel
theorem dX2_fact_59 : decode cX2_fact 59 = .ok (.aload_n 0, 1) := by decide +kernel
theorem dX2_fact_60 : decode cX2_fact 60 = .ok (.getfield 29, 3) := by decide +kernel
theorem dX2_fact_63 : decode cX2_fact 63 = .ok (.ireturn, 1) := by decide +kernel
theorem dX2_fact_64 : decode cX2_fact 64 = .ok (.aload_n 0, 1) := by decide +kernel
theorem dX2_fact_65 : decode cX2_fact 65 = .ok (.getfield 33, 3) := by decide +kernel
theorem dX2_fact_68 : decode cX2_fact 68 = .ok (.ireturn, 1) := by decide +kernel
theorem dX2_fact_69 : decode cX2_fact 69 = .ok (.aload_n 0, 1) := by decide +kernel
theorem dX2_fact_70 : decode cX2_fact 70 = .ok (.getfield 37, 3) := by decide +kernel
theorem dX2_fact_73 : decode cX2_fact 73 = .ok (.ireturn, 1) := by decide +kernel
theorem dX2_fact_74 : decode cX2_fact 74 = .ok (.aload_n 0, 1) := by decide +kernel
theorem dX2_fact_75 : decode cX2_fact 75 = .ok (.getfield 38, 3) := by decide +kernel
theorem dX2_fact_78 : decode cX2_fact 78 = .ok (.ireturn, 1) := by decide +kernel
theorem dX2_fact_79 : decode cX2_fact 79 = .ok (.bipush (-2), 2) := by decide +kernel
theorem dX2_fact_81 : decode cX2_fact 81 = .ok (.ireturn, 1) := by decide +kernel
theorem dX3_init_0 : decode cX3_init 0 = .ok (.aload_n 0, 1) := by decide +kernel
theorem dX3_init_1 : decode cX3_init 1 = .ok (.invokespecial 3, 3) := by decide +kernel
theorem dX3_init_4 : decode cX3_init 4 = .ok (.aload_n 0, 1) := by decide +kernel
theorem dX3_init_5 : decode cX3_init 5 = .ok (.iconst (-1), 1) := by decide +kernel
theorem dX3_init_6 : decode cX3_init 6 = .ok (.putfield 11, 3) := by decide +kernel
theorem dX3_init_9 : decode cX3_init 9 = .ok (.aload_n 0, 1) := by decide +kernel
theorem dX3_init_10 : decode cX3_init 10 = .ok (.aload_n 1, 1) := by decide +kernel
theorem dX3_init_11 : decode cX3_init 11 = .ok (.putfield 15, 3) := by decide +kernel
theorem dX3_init_14 : decode cX3_init 14 = .ok (.aload_n 0, 1) := by decide +kernel
theorem dX3_init_15 : decode cX3_init 15 = .ok (.iload_n 2, 1) := by decide +kernel
theorem dX3_init_16 : decode cX3_init 16 = .ok (.putfield 19, 3) := by decide +kernel
theorem dX3_init_19 : decode cX3_init 19 = .ok (.aload_n 0, 1) := by decide +kernel
theorem dX3_init_20 : decode cX3_init 20 = .ok (.iload_n 3, 1) := by decide +kernel
theorem dX3_init_21 : decode cX3_init 21 = .ok (.putfield 22, 3) := by decide +kernel
theorem dX3_init_24 : decode cX3_init 24 = .ok (.aload_n 0, 1) := by decide +kernel
theorem dX3_init_25 : decode cX3_init 25 = .ok (.iload 4, 2) := by decide +kernel
theorem dX3_init_27 : decode cX3_init 27 = .ok (.putfield 25, 3) := by decide +kernel
theorem dX3_init_30 : decode cX3_init 30 = .ok (.return_, 1) := by decide +kernel
theorem dX3_isFaulty_0 : decode cX3_isFaulty 0 = .ok (.aload_n 0, 1) := by decide +kernel
theorem dX3_isFaulty_1 : decode cX3_isFaulty 1 = .ok (.getfield 11, 3) := by decide +kernel
theorem dX3_isFaulty_4 : decode cX3_isFaulty 4 = .ok (.iconst (-1), 1) := by decide +kernel
theorem dX3_isFaulty_5 : decode cX3_isFaulty 5 = .ok (.if_icmp .eq 7, 3) := by decide +kernel
theorem dX3_isFaulty_8 : decode cX3_isFaulty 8 = .ok (.iconst 1, 1) := by decide +kernel
theorem dX3_isFaulty_9 : decode cX3_isFaulty 9 = .ok (.goto 4, 3) := by decide +kernel
theorem dX3_isFaulty_12 : decode cX3_isFaulty 12 = .ok (.iconst 0, 1) := by decide +kernel
theorem dX3_isFaulty_13 : decode cX3_isFaulty 13 = .ok (.ireturn, 1) := by decide +kernel
theorem dX3_readAll_0 : decode cX3_readAll 0 = .ok (.aload_n 0, 1) := by decide +kernel
theorem dX3_readAll_1 : decode cX3_readAll 1 = .ok (.bipush 111, 2) := by decide +kernel
theorem dX3_readAll_3 : decode cX3_readAll 3 = .ok (.invokevirtual 28, 3) := by decide +kernel
theorem dX3_readAll_6 : decode cX3_readAll 6 = .ok (.aload_n 0, 1) := by decide +kernel
theorem dX3_readAll_7 : decode cX3_readAll 7 = .ok (.aload_n 0, 1) := by decide +kernel
theorem dX3_readAll_8 : decode cX3_readAll 8 = .ok (.iconst 1, 1) := by decide +kernel
theorem dX3_readAll_9 : decode cX3_readAll 9 = .ok (.iconst 0, 1) := by decide +kernel
theorem dX3_readAll_10 : decode cX3_readAll 10 = .ok (.iconst 4, 1) := by decide +kernel
theorem dX3_readAll_11 : decode cX3_readAll 11 = .ok (.invokevirtual 32, 3) := by decide +kernel
theorem dX3_readAll_14 : decode cX3_readAll 14 = .ok (.putfield 36, 3) := by decide +kernel
theorem dX3_readAll_17 : decode cX3_readAll 17 = .ok (.aload_n 0, 1) := by decide +kernel
theorem dX3_readAll_18 : decode cX3_readAll 18 = .ok (.bipush 104, 2) := by decide +kernel
theorem dX3_readAll_20 : decode cX3_readAll 20 = .ok (.invokevirtual 28, 3) := by decide +kernel
theorem dX3_readAll_23 : decode cX3_readAll 23 = .ok (.aload_n 0, 1) := by decide +kernel
theorem dX3_readAll_24 : decode cX3_readAll 24 = .ok (.aload_n 0, 1) := by decide +kernel
theorem dX3_readAll_25 : decode cX3_readAll 25 = .ok (.iconst 2, 1) := by decide +kernel
theorem dX3_readAll_26 : decode cX3_readAll 26 = .ok (.iconst 0, 1) := by decide +kernel
theorem dX3_readAll_27 : decode cX3_readAll 27 = .ok (.bipush 23, 2) := by decide +kernel
theorem dX3_readAll_29 : decode cX3_readAll 29 = .ok (.invokevirtual 32, 3) := by decide +kernel
theorem dX3_readAll_32 : decode cX3_readAll 32 = .ok (.putfield 39, 3) := by decide +kernel
theorem dX3_readAll_35 : decode cX3_readAll 35 = .ok (.aload_n 0, 1) := by decide +kernel
theorem dX3_readAll_36 : decode cX3_readAll 36 = .ok (.bipush 45, 2) := by decide +kernel
theorem dX3_readAll_38 : decode cX3_readAll 38 = .ok (.invokevirtual 28, 3) := by decide +kernel
theorem dX3_readAll_41 : decode cX3_readAll 41 = .ok (.aload_n 0, 1) := by decide +kernel
theorem dX3_readAll_42 : decode cX3_readAll 42 = .ok (.aload_n 0, 1) := by decide +kernel
theorem dX3_readAll_43 : decode cX3_readAll 43 = .ok (.iconst 2, 1) := by decide +kernel
theorem dX3_readAll_44 : decode cX3_readAll 44 = .ok (.aload_n 0, 1) := by decide +kernel
theorem dX3_readAll_45 : decode cX3_readAll 45 = .ok (.getfield 39, 3) := by decide +kernel
theorem dX3_readAll_48 : decode cX3_readAll 48 = .ok (.bipush 23, 2) := by decide +kernel
theorem dX3_readAll_50 : decode cX3_readAll 50 = .ok (.invokevirtual 32, 3) := by decide +kernel
theorem dX3_readAll_53 : decode cX3_readAll 53 = .ok (.putfield 42, 3) := by decide +kernel
theorem dX3_readAll_56 : decode cX3_readAll 56 = .ok (.aload_n 0, 1) := by decide +kernel
theorem dX3_readAll_57 : decode cX3_readAll 57 = .ok (.bipush 64, 2) := by decide +kernel
theorem dX3_readAll_59 : decode cX3_readAll 59 = .ok (.invokevirtual 28, 3) := by decide +kernel
theorem dX3_readAll_62 : decode cX3_readAll 62 = .ok (.aload_n 0, 1) := by decide +kernel
theorem dX3_readAll_63 : decode cX3_readAll 63 = .ok (.aload_n 0, 1) := by decide +kernel
theorem dX3_readAll_64 : decode cX3_readAll 64 = .ok (.iconst 3, 1) := by decide +kernel
theorem dX3_readAll_65 : decode cX3_readAll 65 = .ok (.iconst 0, 1) := by decide +kernel
theorem dX3_readAll_66 : decode cX3_readAll 66 = .ok (.sipush 399, 3) := by decide +kernel
theorem dX3_readAll_69 : decode cX3_readAll 69 = .ok (.invokevirtual 32, 3) := by decide +kernel
theorem dX3_readAll_72 : decode cX3_readAll 72 = .ok (.putfield 45, 3) := by decide +kernel
theorem dX3_readAll_75 : decode cX3_readAll 75 = .ok (.aload_n 0, 1) := by decide +kernel
theorem dX3_readAll_76 : decode cX3_readAll 76 = .ok (.bipush 45, 2) := by decide +kernel
theorem dX3_readAll_78 : decode cX3_readAll 78 = .ok (.invokevirtual 28, 3) := by decide +kernel
theorem dX3_readAll_81 : decode cX3_readAll 81 = .ok (.aload_n 0, 1) := by decide +kernel
theorem dX3_readAll_82 : decode cX3_readAll 82 = .ok (.aload_n 0, 1) := by decide +kernel
theorem dX3_readAll_83 : decode cX3_readAll 83 = .ok (.iconst 3, 1) := by decide +kernel
theorem dX3_readAll_84 : decode cX3_readAll 84 = .ok (.aload_n 0, 1) := by decide +kernel
theorem dX3_readAll_85 : decode cX3_readAll 85 = .ok (.getfield 45, 3) := by decide +kernel
theorem dX3_readAll_88 : decode cX3_readAll 88 = .ok (.sipush 399, 3) := by decide +kernel
theorem dX3_readAll_91 : decode cX3_readAll 91 = .ok (.invokevirtual 32, 3) := by decide +kernel
theorem dX3_readAll_94 : decode cX3_readAll 94 = .ok (.putfield 48, 3) := by decide +kernel
theorem dX3_readAll_97 : decode cX3_readAll 97 = .ok (.aload_n 0, 1) := by decide +kernel
theorem dX3_readAll_98 : decode cX3_readAll 98 = .ok (.getfield 51, 3) := by decide +kernel
theorem dX3_readAll_101 : decode cX3_readAll 101 = .ok (.aload_n 0, 1) := by decide +kernel
theorem dX3_readAll_102 : decode cX3_readAll 102 = .ok (.getfield 22, 3) := by decide +kernel
theorem dX3_readAll_105 : decode cX3_readAll 105 = .ok (.if_icmp .ge 7, 3) := by decide +kernel
theorem dX3_readAll_108 : decode cX3_readAll 108 = .ok (.aload_n 0, 1) := by decide +kernel
theorem dX3_readAll_109 : decode cX3_readAll 109 = .ok (.invokevirtual 54, 3) := by decide +kernel
theorem dX3_readAll_112 : decode cX3_readAll 112 = .ok (.return_, 1) := by decide +kernel
theorem dX3_readLeftOut_0 : decode cX3_readLeftOut 0 = .ok (.aload_n 0, 1) := by decide +kernel
theorem dX3_readLeftOut_1 : decode cX3_readLeftOut 1 = .ok (.bipush 33, 2) := by decide +kernel
theorem dX3_readLeftOut_3 : decode cX3_readLeftOut 3 = .ok (.invokevirtual 28, 3) := by decide +kernel
theorem dX3_readLeftOut_6 : decode cX3_readLeftOut 6 = .ok (.iconst 0, 1) := by decide +kernel
theorem dX3_readLeftOut_7 : decode cX3_readLeftOut 7 = .ok (.istore_n 1, 1) := by decide +kernel
theorem dX3_readLeftOut_8 : decode cX3_readLeftOut 8 = .ok (.iload_n 1, 1) := by decide +kernel
theorem dX3_readLeftOut_9 : decode cX3_readLeftOut 9 = .ok (.bipush 7, 2) := by decide +kernel
theorem dX3_readLeftOut_11 : decode cX3_readLeftOut 11 = .ok (.if_icmp .gt 84, 3) := by decide +kernel
theorem dX3_readLeftOut_14 : decode cX3_readLeftOut 14 = .ok (.aload_n 0, 1) := by decide +kernel
theorem dX3_readLeftOut_15 : decode cX3_readLeftOut 15 = .ok (.invokevirtual 57, 3) := by decide +kernel
theorem dX3_readLeftOut_18 : decode cX3_readLeftOut 18 = .ok (.ifCond .ne 77, 3) := by decide +kernel
theorem dX3_readLeftOut_21 : decode cX3_readLeftOut 21 = .ok (.iload_n 1, 1) := by decide +kernel
theorem dX3_readLeftOut_22 : decode cX3_readLeftOut 22 = .ok (.ifCond .eq 14, 3) := by decide +kernel
theorem dX3_readLeftOut_25 : decode cX3_readLeftOut 25 = .ok (.aload_n 0, 1) := by decide +kernel
theorem dX3_readLeftOut_26 : decode cX3_readLeftOut 26 = .ok (.getfield 51, 3) := by decide +kernel
theorem dX3_readLeftOut_29 : decode cX3_readLeftOut 29 = .ok (.aload_n 0, 1) := by decide +kernel
theorem dX3_readLeftOut_30 : decode cX3_readLeftOut 30 = .ok (.getfield 22, 3) := by decide +kernel
theorem dX3_readLeftOut_33 : decode cX3_readLeftOut 33 = .ok (.if_icmp .ge 62, 3) := by decide +kernel
theorem dX3_readLeftOut_36 : decode cX3_readLeftOut 36 = .ok (.aload_n 0, 1) := by decide +kernel
theorem dX3_readLeftOut_37 : decode cX3_readLeftOut 37 = .ok (.getfield 51, 3) := by decide +kernel
theorem dX3_readLeftOut_40 : decode cX3_readLeftOut 40 = .ok (.istore_n 2, 1) := by decide +kernel
theorem dX3_readLeftOut_41 : decode cX3_readLeftOut 41 = .ok (.aload_n 0, 1) := by decide +kernel
theorem dX3_readLeftOut_42 : decode cX3_readLeftOut 42 = .ok (.iconst 1, 1) := by decide +kernel
theorem dX3_readLeftOut_43 : decode cX3_readLeftOut 43 = .ok (.iconst 0, 1) := by decide +kernel
theorem dX3_readLeftOut_44 : decode cX3_readLeftOut 44 = .ok (.aload_n 0, 1) := by decide +kernel
theorem dX3_readLeftOut_45 : decode cX3_readLeftOut 45 = .ok (.getfield 25, 3) := by decide +kernel
theorem dX3_readLeftOut_48 : decode cX3_readLeftOut 48 = .ok (.iconst 1, 1) := by decide +kernel
theorem dX3_readLeftOut_49 : decode cX3_readLeftOut 49 = .ok (.isub, 1) := by decide +kernel
theorem dX3_readLeftOut_50 : decode cX3_readLeftOut 50 = .ok (.invokevirtual 32, 3) := by decide +kernel
theorem dX3_readLeftOut_53 : decode cX3_readLeftOut 53 = .ok (.istore_n 3, 1) := by decide +kernel
theorem dX3_readLeftOut_54 : decode cX3_readLeftOut 54 = .ok (.aload_n 0, 1) := by decide +kernel
theorem dX3_readLeftOut_55 : decode cX3_readLeftOut 55 = .ok (.invokevirtual 57, 3) := by decide +kernel
theorem dX3_readLeftOut_58 : decode cX3_readLeftOut 58 = .ok (.ifCond .ne 19, 3) := by decide +kernel
theorem dX3_readLeftOut_61 : decode cX3_readLeftOut 61 = .ok (.aload_n 0, 1) := by decide +kernel
theorem dX3_readLeftOut_62 : decode cX3_readLeftOut 62 = .ok (.getfield 61, 3) := by decide +kernel
theorem dX3_readLeftOut_65 : decode cX3_readLeftOut 65 = .ok (.iload_n 3, 1) := by decide +kernel
theorem dX3_readLeftOut_66 : decode cX3_readLeftOut 66 = .ok (.ishr, 1) := by decide +kernel
theorem dX3_readLeftOut_67 : decode cX3_readLeftOut 67 = .ok (.iconst 1, 1) := by decide +kernel
theorem dX3_readLeftOut_68 : decode cX3_readLeftOut 68 = .ok (.iand, 1) := by decide +kernel
theorem dX3_readLeftOut_69 : decode cX3_readLeftOut 69 = .ok (.ifCond .eq 8, 3) := by decide +kernel
theorem dX3_readLeftOut_72 : decode cX3_readLeftOut 72 = .ok (.aload_n 0, 1) := by decide +kernel
theorem dX3_readLeftOut_73 : decode cX3_readLeftOut 73 = .ok (.iload_n 2, 1) := by decide +kernel
theorem dX3_readLeftOut_74 : decode cX3_readLeftOut 74 = .ok (.putfield 11, 3) := by decide +kernel
theorem dX3_readLeftOut_77 : decode cX3_readLeftOut 77 = .ok (.aload_n 0, 1) := by decide +kernel
theorem dX3_readLeftOut_78 : decode cX3_readLeftOut 78 = .ok (.dup, 1) := by decide +kernel
theorem dX3_readLeftOut_79 : decode cX3_readLeftOut 79 = .ok (.getfield 61, 3) := by decide +kernel
theorem dX3_readLeftOut_82 : decode cX3_readLeftOut 82 = .ok (.iconst 1, 1) := by decide +kernel
theorem dX3_readLeftOut_83 : decode cX3_readLeftOut 83 = .ok (.iload_n 3, 1) := by decide +kernel
theorem dX3_readLeftOut_84 : decode cX3_readLeftOut 84 = .ok (.ishl, 1) := by decide +kernel
theorem dX3_readLeftOut_85 : decode cX3_readLeftOut 85 = .ok (.ior, 1) := by decide +kernel
theorem dX3_readLeftOut_86 : decode cX3_readLeftOut 86 = .ok (.putfield 61, 3) := by decide +kernel
theorem dX3_readLeftOut_89 : decode cX3_readLeftOut 89 = .ok (.iinc 1 1, 3) := by decide +kernel
theorem dX3_readLeftOut_92 : decode cX3_readLeftOut 92 = .ok (.goto (-84), 3) := by decide +kernel
theorem dX3_readLeftOut_95 : decode cX3_readLeftOut 95 = .ok (.return_, 1) := by decide +kernel
theorem dX3_readSign_0 : decode cX3_readSign 0 = .ok (.aload_n 0, 1) := by decide +kernel
theorem dX3_readSign_1 : decode cX3_readSign 1 = .ok (.invokevirtual 57, 3) := by decide +kernel
theorem dX3_readSign_4 : decode cX3_readSign 4 = .ok (.ifCond .eq 4, 3) := by decide +kernel
theorem dX3_readSign_7 : decode cX3_readSign 7 = .ok (.return_, 1) := by decide +kernel
theorem dX3_readSign_8 : decode cX3_readSign 8 = .ok (.aload_n 0, 1) := by decide +kernel
theorem dX3_readSign_9 : decode cX3_readSign 9 = .ok (.getfield 51, 3) := by decide +kernel
theorem dX3_readSign_12 : decode cX3_readSign 12 = .ok (.aload_n 0, 1) := by decide +kernel
theorem dX3_readSign_13 : decode cX3_readSign 13 = .ok (.getfield 22, 3) := by decide +kernel
theorem dX3_readSign_16 : decode cX3_readSign 16 = .ok (.if_icmp .ge 24, 3) := by decide +kernel
theorem dX3_readSign_19 : decode cX3_readSign 19 = .ok (.aload_n 0, 1) := by decide +kernel
theorem dX3_readSign_20 : decode cX3_readSign 20 = .ok (.invokevirtual 64, 3) := by decide +kernel
theorem dX3_readSign_23 : decode cX3_readSign 23 = .ok (.iload_n 1, 1) := by decide +kernel
theorem dX3_readSign_24 : decode cX3_readSign 24 = .ok (.if_icmp .ne 16, 3) := by decide +kernel
theorem dX3_readSign_27 : decode cX3_readSign 27 = .ok (.aload_n 0, 1) := by decide +kernel
theorem dX3_readSign_28 : decode cX3_readSign 28 = .ok (.dup, 1) := by decide +kernel
theorem dX3_readSign_29 : decode cX3_readSign 29 = .ok (.getfield 51, 3) := by decide +kernel
theorem dX3_readSign_32 : decode cX3_readSign 32 = .ok (.iconst 1, 1) := by decide +kernel
theorem dX3_readSign_33 : decode cX3_readSign 33 = .ok (.iadd, 1) := by decide +kernel
theorem dX3_readSign_34 : decode cX3_readSign 34 = .ok (.putfield 51, 3) := by decide +kernel
theorem dX3_readSign_37 : decode cX3_readSign 37 = .ok (.goto 11, 3) := by decide +kernel
theorem dX3_readSign_40 : decode cX3_readSign 40 = .ok (.aload_n 0, 1) := by decide +kernel
theorem dX3_readSign_41 : decode cX3_readSign 41 = .ok (.aload_n 0, 1) := by decide +kernel
theorem dX3_readSign_42 : decode cX3_readSign 42 = .ok (.getfield 51, 3) := by decide +kernel
theorem dX3_readSign_45 : decode cX3_readSign 45 = .ok (.putfield 11, 3) := by decide +kernel
theorem dX3_readSign_48 : decode cX3_readSign 48 = .ok (.return_, 1) := by decide +kernel
theorem dX3_readNumber_0 : decode cX3_readNumber 0 = .ok (.aload_n 0, 1) := by decide +kernel
theorem dX3_readNumber_1 : decode cX3_readNumber 1 = .ok (.invokevirtual 57, 3) := by decide +kernel
theorem dX3_readNumber_4 : decode cX3_readNumber 4 = .ok (.ifCond .eq 5, 3) := by decide +kernel
theorem dX3_readNumber_7 : decode cX3_readNumber 7 = .ok (.iconst 0, 1) := by decide +kernel
theorem dX3_readNumber_8 : decode cX3_readNumber 8 = .ok (.ireturn, 1) := by decide +kernel
theorem dX3_readNumber_9 : decode cX3_readNumber 9 = .ok (.aload_n 0, 1) := by decide +kernel
theorem dX3_readNumber_10 : decode cX3_readNumber 10 = .ok (.getfield 51, 3) := by decide +kernel
theorem dX3_readNumber_13 : decode cX3_readNumber 13 = .ok (.istore 4, 2) := by decide +kernel
theorem dX3_readNumber_15 : decode cX3_readNumber 15 = .ok (.iconst 0, 1) := by decide +kernel
theorem dX3_readNumber_16 : decode cX3_readNumber 16 = .ok (.istore 5, 2) := by decide +kernel
theorem dX3_readNumber_18 : decode cX3_readNumber 18 = .ok (.aload_n 0, 1) := by decide +kernel
theorem dX3_readNumber_19 : decode cX3_readNumber 19 = .ok (.getfield 51, 3) := by decide +kernel
theorem dX3_readNumber_22 : decode cX3_readNumber 22 = .ok (.aload_n 0, 1) := by decide +kernel
theorem dX3_readNumber_23 : decode cX3_readNumber 23 = .ok (.getfield 22, 3) := by decide +kernel
theorem dX3_readNumber_26 : decode cX3_readNumber 26 = .ok (.if_icmp .ge 56, 3) := by decide +kernel
theorem dX3_readNumber_29 : decode cX3_readNumber 29 = .ok (.aload_n 0, 1) := by decide +kernel
theorem dX3_readNumber_30 : decode cX3_readNumber 30 = .ok (.getfield 51, 3) := by decide +kernel
theorem dX3_readNumber_33 : decode cX3_readNumber 33 = .ok (.iload 4, 2) := by decide +kernel
theorem dX3_readNumber_35 : decode cX3_readNumber 35 = .ok (.isub, 1) := by decide +kernel
theorem dX3_readNumber_36 : decode cX3_readNumber 36 = .ok (.iload_n 1, 1) := by decide +kernel
theorem dX3_readNumber_37 : decode cX3_readNumber 37 = .ok (.if_icmp .ge 45, 3) := by decide +kernel
theorem dX3_readNumber_40 : decode cX3_readNumber 40 = .ok (.aload_n 0, 1) := by decide +kernel
theorem dX3_readNumber_41 : decode cX3_readNumber 41 = .ok (.invokevirtual 64, 3) := by decide +kernel
theorem dX3_readNumber_44 : decode cX3_readNumber 44 = .ok (.bipush 48, 2) := by decide +kernel
theorem dX3_readNumber_46 : decode cX3_readNumber 46 = .ok (.bipush 57, 2) := by decide +kernel
theorem dX3_readNumber_48 : decode cX3_readNumber 48 = .ok (.invokestatic 68, 3) := by decide +kernel
theorem dX3_readNumber_51 : decode cX3_readNumber 51 = .ok (.ifCond .eq 31, 3) := by decide +kernel
theorem dX3_readNumber_54 : decode cX3_readNumber 54 = .ok (.bipush 10, 2) := by decide +kernel
theorem dX3_readNumber_56 : decode cX3_readNumber 56 = .ok (.iload 5, 2) := by decide +kernel
theorem dX3_readNumber_58 : decode cX3_readNumber 58 = .ok (.imul, 1) := by decide +kernel
theorem dX3_readNumber_59 : decode cX3_readNumber 59 = .ok (.aload_n 0, 1) := by decide +kernel
theorem dX3_readNumber_60 : decode cX3_readNumber 60 = .ok (.invokevirtual 64, 3) := by decide +kernel
theorem dX3_readNumber_63 : decode cX3_readNumber 63 = .ok (.iadd, 1) := by decide +kernel
theorem dX3_readNumber_64 : decode cX3_readNumber 64 = .ok (.bipush 48, 2) := by decide +kernel
theorem dX3_readNumber_66 : decode cX3_readNumber 66 = .ok (.isub, 1) := by decide +kernel
theorem dX3_readNumber_67 : decode cX3_readNumber 67 = .ok (.istore 5, 2) := by decide +kernel
theorem dX3_readNumber_69 : decode cX3_readNumber 69 = .ok (.aload_n 0, 1) := by decide +kernel
theorem dX3_readNumber_70 : decode cX3_readNumber 70 = .ok (.dup, 1) := by decide +kernel
theorem dX3_readNumber_71 : decode cX3_readNumber 71 = .ok (.getfield 51, 3) := by decide +kernel
theorem dX3_readNumber_74 : decode cX3_readNumber 74 = .ok (.iconst 1, 1) := by decide +kernel
theorem dX3_readNumber_75 : decode cX3_readNumber 75 = .ok (.iadd, 1) := by decide +kernel
theorem dX3_readNumber_76 : decode cX3_readNumber 76 = .ok (.putfield 51, 3) := by decide +kernel
theorem dX3_readNumber_79 : decode cX3_readNumber 79 = .ok (.goto (-61), 3) := by decide +kernel
theorem dX3_readNumber_82 : decode cX3_readNumber 82 = .ok (.aload_n 0, 1) := by decide +kernel
theorem dX3_readNumber_83 : decode cX3_readNumber 83 = .ok (.getfield 51, 3) := by decide +kernel
theorem dX3_readNumber_86 : decode cX3_readNumber 86 = .ok (.iload 4, 2) := by decide +kernel
theorem dX3_readNumber_88 : decode cX3_readNumber 88 = .ok (.if_icmp .eq 13, 3) := by decide +kernel
theorem dX3_readNumber_91 : decode cX3_readNumber 91 = .ok (.iload 5, 2) := by decide +kernel
theorem dX3_readNumber_93 : decode cX3_readNumber 93 = .ok (.iload_n 2, 1) := by decide +kernel
theorem dX3_readNumber_94 : decode cX3_readNumber 94 = .ok (.iload_n 3, 1) := by decide +kernel
theorem dX3_readNumber_95 : decode cX3_readNumber 95 = .ok (.invokestatic 68, 3) := by decide +kernel
theorem dX3_readNumber_98 : decode cX3_readNumber 98 = .ok (.ifCond .ne 9, 3) := by decide +kernel
theorem dX3_readNumber_101 : decode cX3_readNumber 101 = .ok (.aload_n 0, 1) := by decide +kernel
theorem dX3_readNumber_102 : decode cX3_readNumber 102 = .ok (.iload 4, 2) := by decide +kernel
theorem dX3_readNumber_104 : decode cX3_readNumber 104 = .ok (.putfield 11, 3) := by decide +kernel
theorem dX3_readNumber_107 : decode cX3_readNumber 107 = .ok (.iload 5, 2) := by decide +kernel
theorem dX3_readNumber_109 : decode cX3_readNumber 109 = .ok (.ireturn, 1) := by decide +kernel
theorem dX3_code_0 : decode cX3_code 0 = .ok (.aload_n 0, 1) := by decide +kernel
theorem dX3_code_1 : decode cX3_code 1 = .ok (.getfield 15, 3) := by decide +kernel
theorem dX3_code_4 : decode cX3_code 4 = .ok (.aload_n 0, 1) := by decide +kernel
theorem dX3_code_5 : decode cX3_code 5 = .ok (.getfield 19, 3) := by decide +kernel
theorem dX3_code_8 : decode cX3_code 8 = .ok (.aload_n 0, 1) := by decide +kernel
theorem dX3_code_9 : decode cX3_code 9 = .ok (.getfield 51, 3) := by decide +kernel
theorem dX3_code_12 : decode cX3_code 12 = .ok (.iadd, 1) := by decide +kernel
theorem dX3_code_13 : decode cX3_code 13 = .ok (.invokevirtual 72, 3) := by decide +kernel
theorem dX3_code_16 : decode cX3_code 16 = .ok (.ireturn, 1) := by decide +kernel
theorem dX4_init_0 : decode cX4_init 0 = .ok (.aload_n 0, 1) := by decide +kernel
theorem dX4_init_1 : decode cX4_init 1 = .ok (.invokespecial 3, 3) := by decide +kernel
theorem dX4_init_4 : decode cX4_init 4 = .ok (.aload_n 0, 1) := by decide +kernel
theorem dX4_init_5 : decode cX4_init 5 = .ok (.iconst 3, 1) := by decide +kernel
theorem dX4_init_6 : decode cX4_init 6 = .ok (.newarray .int, 2) := by decide +kernel
theorem dX4_init_8 : decode cX4_init 8 = .ok (.dup, 1) := by decide +kernel
theorem dX4_init_9 : decode cX4_init 9 = .ok (.iconst 0, 1) := by decide +kernel
theorem dX4_init_10 : decode cX4_init 10 = .ok (.bipush 100, 2) := by decide +kernel
theorem dX4_init_12 : decode cX4_init 12 = .ok (.iastore, 1) := by decide +kernel
theorem dX4_init_13 : decode cX4_init 13 = .ok (.dup, 1) := by decide +kernel
theorem dX4_init_14 : decode cX4_init 14 = .ok (.iconst 1, 1) := by decide +kernel
theorem dX4_init_15 : decode cX4_init 15 = .ok (.bipush 120, 2) := by decide +kernel
theorem dX4_init_17 : decode cX4_init 17 = .ok (.iastore, 1) := by decide +kernel
theorem dX4_init_18 : decode cX4_init 18 = .ok (.dup, 1) := by decide +kernel
theorem dX4_init_19 : decode cX4_init 19 = .ok (.iconst 2, 1) := by decide +kernel
theorem dX4_init_20 : decode cX4_init 20 = .ok (.sipush 150, 3) := by decide +kernel
theorem dX4_init_23 : decode cX4_init 23 = .ok (.iastore, 1) := by decide +kernel
theorem dX4_init_24 : decode cX4_init 24 = .ok (.putfield 9, 3) := by decide +kernel
theorem dX4_init_27 : decode cX4_init 27 = .ok (.aload_n 0, 1) := by decide +kernel
theorem dX4_init_28 : decode cX4_init 28 = .ok (.bipush 25, 2) := by decide +kernel
theorem dX4_init_30 : decode cX4_init 30 = .ok (.putfield 15, 3) := by decide +kernel
theorem dX4_init_33 : decode cX4_init 33 = .ok (.aload_n 0, 1) := by decide +kernel
theorem dX4_init_34 : decode cX4_init 34 = .ok (.bipush 30, 2) := by decide +kernel
theorem dX4_init_36 : decode cX4_init 36 = .ok (.putfield 19, 3) := by decide +kernel
theorem dX4_init_39 : decode cX4_init 39 = .ok (.aload_n 0, 1) := by decide +kernel
theorem dX4_init_40 : decode cX4_init 40 = .ok (.bipush 30, 2) := by decide +kernel
theorem dX4_init_42 : decode cX4_init 42 = .ok (.newarray .int, 2) := by decide +kernel
theorem dX4_init_44 : decode cX4_init 44 = .ok (.putfield 22, 3) := by decide +kernel
theorem dX4_init_47 : decode cX4_init 47 = .ok (.aload_n 0, 1) := by decide +kernel
theorem dX4_init_48 : decode cX4_init 48 = .ok (.bipush 30, 2) := by decide +kernel
theorem dX4_init_50 : decode cX4_init 50 = .ok (.newarray .int, 2) := by decide +kernel
theorem dX4_init_52 : decode cX4_init 52 = .ok (.putfield 25, 3) := by decide +kernel
theorem dX4_init_55 : decode cX4_init 55 = .ok (.aload_n 0, 1) := by decide +kernel
theorem dX4_init_56 : decode cX4_init 56 = .ok (.bipush 30, 2) := by decide +kernel
theorem dX4_init_58 : decode cX4_init 58 = .ok (.newarray .int, 2) := by decide +kernel
theorem dX4_init_60 : decode cX4_init 60 = .ok (.putfield 28, 3) := by decide +kernel
theorem dX4_init_63 : decode cX4_init 63 = .ok (.return_, 1) := by decide +kernel
theorem dX4_changeHome_0 : decode cX4_changeHome 0 = .ok (.iload_n 1, 1) := by decide +kernel
theorem dX4_changeHome_1 : decode cX4_changeHome 1 = .ok (.aload_n 0, 1) := by decide +kernel
theorem dX4_changeHome_2 : decode cX4_changeHome 2 = .ok (.getfield 15, 3) := by decide +kernel
theorem dX4_changeHome_5 : decode cX4_changeHome 5 = .ok (.if_icmp .ne 11, 3) := by decide +kernel
theorem dX4_changeHome_8 : decode cX4_changeHome 8 = .ok (.iload_n 2, 1) := by decide +kernel
theorem dX4_changeHome_9 : decode cX4_changeHome 9 = .ok (.aload_n 0, 1) := by decide +kernel
theorem dX4_changeHome_10 : decode cX4_changeHome 10 = .ok (.getfield 19, 3) := by decide +kernel
theorem dX4_changeHome_13 : decode cX4_changeHome 13 = .ok (.if_icmp .eq 7, 3) := by decide +kernel
theorem dX4_changeHome_16 : decode cX4_changeHome 16 = .ok (.iconst 1, 1) := by decide +kernel
theorem dX4_changeHome_17 : decode cX4_changeHome 17 = .ok (.goto 4, 3) := by decide +kernel
theorem dX4_changeHome_20 : decode cX4_changeHome 20 = .ok (.iconst 0, 1) := by decide +kernel
theorem dX4_changeHome_21 : decode cX4_changeHome 21 = .ok (.istore_n 3, 1) := by decide +kernel
theorem dX4_changeHome_22 : decode cX4_changeHome 22 = .ok (.aload_n 0, 1) := by decide +kernel
theorem dX4_changeHome_23 : decode cX4_changeHome 23 = .ok (.iload_n 1, 1) := by decide +kernel
theorem dX4_changeHome_24 : decode cX4_changeHome 24 = .ok (.putfield 15, 3) := by decide +kernel
theorem dX4_changeHome_27 : decode cX4_changeHome 27 = .ok (.aload_n 0, 1) := by decide +kernel
theorem dX4_changeHome_28 : decode cX4_changeHome 28 = .ok (.iload_n 2, 1) := by decide +kernel
theorem dX4_changeHome_29 : decode cX4_changeHome 29 = .ok (.putfield 19, 3) := by decide +kernel
theorem dX4_changeHome_32 : decode cX4_changeHome 32 = .ok (.iload_n 3, 1) := by decide +kernel
theorem dX4_changeHome_33 : decode cX4_changeHome 33 = .ok (.ireturn, 1) := by decide +kernel
theorem dX4_addFine_0 : decode cX4_addFine 0 = .ok (.aload_n 0, 1) := by decide +kernel
theorem dX4_addFine_1 : decode cX4_addFine 1 = .ok (.getfield 31, 3) := by decide +kernel
theorem dX4_addFine_4 : decode cX4_addFine 4 = .ok (.bipush 30, 2) := by decide +kernel
theorem dX4_addFine_6 : decode cX4_addFine 6 = .ok (.if_icmp .lt 6, 3) := by decide +kernel
theorem dX4_addFine_9 : decode cX4_addFine 9 = .ok (.bipush (-4), 2) := by decide +kernel
theorem dX4_addFine_11 : decode cX4_addFine 11 = .ok (.ireturn, 1) := by decide +kernel
theorem dX4_addFine_12 : decode cX4_addFine 12 = .ok (.aload_n 0, 1) := by decide +kernel
theorem dX4_addFine_13 : decode cX4_addFine 13 = .ok (.getfield 22, 3) := by decide +kernel
theorem dX4_addFine_16 : decode cX4_addFine 16 = .ok (.aload_n 0, 1) := by decide +kernel
theorem dX4_addFine_17 : decode cX4_addFine 17 = .ok (.getfield 31, 3) := by decide +kernel
theorem dX4_addFine_20 : decode cX4_addFine 20 = .ok (.iload_n 1, 1) := by decide +kernel
theorem dX4_addFine_21 : decode cX4_addFine 21 = .ok (.iastore, 1) := by decide +kernel
theorem dX4_addFine_22 : decode cX4_addFine 22 = .ok (.aload_n 0, 1) := by decide +kernel
theorem dX4_addFine_23 : decode cX4_addFine 23 = .ok (.getfield 25, 3) := by decide +kernel
theorem dX4_addFine_26 : decode cX4_addFine 26 = .ok (.aload_n 0, 1) := by decide +kernel
theorem dX4_addFine_27 : decode cX4_addFine 27 = .ok (.getfield 31, 3) := by decide +kernel
theorem dX4_addFine_30 : decode cX4_addFine 30 = .ok (.iload_n 2, 1) := by decide +kernel
theorem dX4_addFine_31 : decode cX4_addFine 31 = .ok (.iastore, 1) := by decide +kernel
theorem dX4_addFine_32 : decode cX4_addFine 32 = .ok (.aload_n 0, 1) := by decide +kernel
theorem dX4_addFine_33 : decode cX4_addFine 33 = .ok (.getfield 28, 3) := by decide +kernel
theorem dX4_addFine_36 : decode cX4_addFine 36 = .ok (.aload_n 0, 1) := by decide +kernel
theorem dX4_addFine_37 : decode cX4_addFine 37 = .ok (.getfield 31, 3) := by decide +kernel
theorem dX4_addFine_40 : decode cX4_addFine 40 = .ok (.iload_n 3, 1) := by decide +kernel
theorem dX4_addFine_41 : decode cX4_addFine 41 = .ok (.iastore, 1) := by decide +kernel
theorem dX4_addFine_42 : decode cX4_addFine 42 = .ok (.aload_n 0, 1) := by decide +kernel
theorem dX4_addFine_43 : decode cX4_addFine 43 = .ok (.dup, 1) := by decide +kernel
theorem dX4_addFine_44 : decode cX4_addFine 44 = .ok (.getfield 31, 3) := by decide +kernel
theorem dX4_addFine_47 : decode cX4_addFine 47 = .ok (.iconst 1, 1) := by decide +kernel
theorem dX4_addFine_48 : decode cX4_addFine 48 = .ok (.iadd, 1) := by decide +kernel
theorem dX4_addFine_49 : decode cX4_addFine 49 = .ok (.putfield 31, 3) := by decide +kernel
theorem dX4_addFine_52 : decode cX4_addFine 52 = .ok (.aload_n 0, 1) := by decide +kernel
theorem dX4_addFine_53 : decode cX4_addFine 53 = .ok (.getfield 31, 3) := by decide +kernel
theorem dX4_addFine_56 : decode cX4_addFine 56 = .ok (.ireturn, 1) := by decide +kernel
theorem dX4_finesOf_0 : decode cX4_finesOf 0 = .ok (.iconst 0, 1) := by decide +kernel
theorem dX4_finesOf_1 : decode cX4_finesOf 1 = .ok (.istore 4, 2) := by decide +kernel
theorem dX4_finesOf_3 : decode cX4_finesOf 3 = .ok (.iconst 0, 1) := by decide +kernel
theorem dX4_finesOf_4 : decode cX4_finesOf 4 = .ok (.istore 5, 2) := by decide +kernel
theorem dX4_finesOf_6 : decode cX4_finesOf 6 = .ok (.iload 5, 2) := by decide +kernel
theorem dX4_finesOf_8 : decode cX4_finesOf 8 = .ok (.aload_n 0, 1) := by decide +kernel
theorem dX4_finesOf_9 : decode cX4_finesOf 9 = .ok (.getfield 31, 3) := by decide +kernel
theorem dX4_finesOf_12 : decode cX4_finesOf 12 = .ok (.if_icmp .ge 47, 3) := by decide +kernel
theorem dX4_finesOf_15 : decode cX4_finesOf 15 = .ok (.aload_n 0, 1) := by decide +kernel
theorem dX4_finesOf_16 : decode cX4_finesOf 16 = .ok (.getfield 22, 3) := by decide +kernel
theorem dX4_finesOf_19 : decode cX4_finesOf 19 = .ok (.iload 5, 2) := by decide +kernel
theorem dX4_finesOf_21 : decode cX4_finesOf 21 = .ok (.iaload, 1) := by decide +kernel
theorem dX4_finesOf_22 : decode cX4_finesOf 22 = .ok (.iload_n 1, 1) := by decide +kernel
theorem dX4_finesOf_23 : decode cX4_finesOf 23 = .ok (.if_icmp .ne 30, 3) := by decide +kernel
theorem dX4_finesOf_26 : decode cX4_finesOf 26 = .ok (.aload_n 0, 1) := by decide +kernel
theorem dX4_finesOf_27 : decode cX4_finesOf 27 = .ok (.getfield 25, 3) := by decide +kernel
theorem dX4_finesOf_30 : decode cX4_finesOf 30 = .ok (.iload 5, 2) := by decide +kernel
theorem dX4_finesOf_32 : decode cX4_finesOf 32 = .ok (.iaload, 1) := by decide +kernel
theorem dX4_finesOf_33 : decode cX4_finesOf 33 = .ok (.iload_n 2, 1) := by decide +kernel
theorem dX4_finesOf_34 : decode cX4_finesOf 34 = .ok (.iload_n 3, 1) := by decide +kernel
theorem dX4_finesOf_35 : decode cX4_finesOf 35 = .ok (.invokestatic 34, 3) := by decide +kernel
theorem dX4_finesOf_38 : decode cX4_finesOf 38 = .ok (.ifCond .eq 15, 3) := by decide +kernel
theorem dX4_finesOf_41 : decode cX4_finesOf 41 = .ok (.iload 4, 2) := by decide +kernel
theorem dX4_finesOf_43 : decode cX4_finesOf 43 = .ok (.aload_n 0, 1) := by decide +kernel
theorem dX4_finesOf_44 : decode cX4_finesOf 44 = .ok (.getfield 28, 3) := by decide +kernel
theorem dX4_finesOf_47 : decode cX4_finesOf 47 = .ok (.iload 5, 2) := by decide +kernel
theorem dX4_finesOf_49 : decode cX4_finesOf 49 = .ok (.iaload, 1) := by decide +kernel
theorem dX4_finesOf_50 : decode cX4_finesOf 50 = .ok (.iadd, 1) := by decide +kernel
theorem dX4_finesOf_51 : decode cX4_finesOf 51 = .ok (.istore 4, 2) := by decide +kernel
theorem dX4_finesOf_53 : decode cX4_finesOf 53 = .ok (.iinc 5 1, 3) := by decide +kernel
theorem dX4_finesOf_56 : decode cX4_finesOf 56 = .ok (.goto (-50), 3) := by decide +kernel
theorem dX4_finesOf_59 : decode cX4_finesOf 59 = .ok (.iload 4, 2) := by decide +kernel
theorem dX4_finesOf_61 : decode cX4_finesOf 61 = .ok (.ireturn, 1) := by decide +kernel
theorem dX4_earnedOn_0 : decode cX4_earnedOn 0 = .ok (.iconst 0, 1) := by decide +kernel
theorem dX4_earnedOn_1 : decode cX4_earnedOn 1 = .ok (.istore 5, 2) := by decide +kernel
theorem dX4_earnedOn_3 : decode cX4_earnedOn 3 = .ok (.aload_n 1, 1) := by decide +kernel
theorem dX4_earnedOn_4 : decode cX4_earnedOn 4 = .ok (.astore 6, 2) := by decide +kernel
theorem dX4_earnedOn_6 : decode cX4_earnedOn 6 = .ok (.aload 6, 2) := by decide +kernel
theorem dX4_earnedOn_8 : decode cX4_earnedOn 8 = .ok (.arraylength, 1) := by decide +kernel
theorem dX4_earnedOn_9 : decode cX4_earnedOn 9 = .ok (.istore 7, 2) := by decide +kernel
theorem dX4_earnedOn_11 : decode cX4_earnedOn 11 = .ok (.iconst 0, 1) := by decide +kernel
theorem dX4_earnedOn_12 : decode cX4_earnedOn 12 = .ok (.istore 8, 2) := by decide +kernel
theorem dX4_earnedOn_14 : decode cX4_earnedOn 14 = .ok (.iload 8, 2) := by decide +kernel
theorem dX4_earnedOn_16 : decode cX4_earnedOn 16 = .ok (.iload 7, 2) := by decide +kernel
theorem dX4_earnedOn_18 : decode cX4_earnedOn 18 = .ok (.if_icmp .ge 54, 3) := by decide +kernel
theorem dX4_earnedOn_21 : decode cX4_earnedOn 21 = .ok (.aload 6, 2) := by decide +kernel
theorem dX4_earnedOn_23 : decode cX4_earnedOn 23 = .ok (.iload 8, 2) := by decide +kernel
theorem dX4_earnedOn_25 : decode cX4_earnedOn 25 = .ok (.aaload, 1) := by decide +kernel
theorem dX4_earnedOn_26 : decode cX4_earnedOn 26 = .ok (.astore 9, 2) := by decide +kernel
theorem dX4_earnedOn_28 : decode cX4_earnedOn 28 = .ok (.aload 9, 2) := by decide +kernel
theorem dX4_earnedOn_30 : decode cX4_earnedOn 30 = .ok (.ifnull 36, 3) := by decide +kernel
theorem dX4_earnedOn_33 : decode cX4_earnedOn 33 = .ok (.aload 9, 2) := by decide +kernel
theorem dX4_earnedOn_35 : decode cX4_earnedOn 35 = .ok (.getfield 38, 3) := by decide +kernel
theorem dX4_earnedOn_38 : decode cX4_earnedOn 38 = .ok (.iload_n 2, 1) := by decide +kernel
theorem dX4_earnedOn_39 : decode cX4_earnedOn 39 = .ok (.if_icmp .ne 27, 3) := by decide +kernel
theorem dX4_earnedOn_42 : decode cX4_earnedOn 42 = .ok (.iload 5, 2) := by decide +kernel
theorem dX4_earnedOn_44 : decode cX4_earnedOn 44 = .ok (.aload 9, 2) := by decide +kernel
theorem dX4_earnedOn_46 : decode cX4_earnedOn 46 = .ok (.iload_n 3, 1) := by decide +kernel
theorem dX4_earnedOn_47 : decode cX4_earnedOn 47 = .ok (.iload 4, 2) := by decide +kernel
theorem dX4_earnedOn_49 : decode cX4_earnedOn 49 = .ok (.invokevirtual 43, 3) := by decide +kernel
theorem dX4_earnedOn_52 : decode cX4_earnedOn 52 = .ok (.aload_n 0, 1) := by decide +kernel
theorem dX4_earnedOn_53 : decode cX4_earnedOn 53 = .ok (.getfield 9, 3) := by decide +kernel
theorem dX4_earnedOn_56 : decode cX4_earnedOn 56 = .ok (.aload 9, 2) := by decide +kernel
theorem dX4_earnedOn_58 : decode cX4_earnedOn 58 = .ok (.getfield 47, 3) := by decide +kernel
theorem dX4_earnedOn_61 : decode cX4_earnedOn 61 = .ok (.iaload, 1) := by decide +kernel
theorem dX4_earnedOn_62 : decode cX4_earnedOn 62 = .ok (.imul, 1) := by decide +kernel
theorem dX4_earnedOn_63 : decode cX4_earnedOn 63 = .ok (.iadd, 1) := by decide +kernel
theorem dX4_earnedOn_64 : decode cX4_earnedOn 64 = .ok (.istore 5, 2) := by decide +kernel
theorem dX4_earnedOn_66 : decode cX4_earnedOn 66 = .ok (.iinc 8 1, 3) := by decide +kernel
theorem dX4_earnedOn_69 : decode cX4_earnedOn 69 = .ok (.goto (-55), 3) := by decide +kernel
theorem dX4_earnedOn_72 : decode cX4_earnedOn 72 = .ok (.iload 5, 2) := by decide +kernel
theorem dX4_earnedOn_74 : decode cX4_earnedOn 74 = .ok (.ireturn, 1) := by decide +kernel
theorem dX4_sentHome_0 : decode cX4_sentHome 0 = .ok (.iload_n 1, 1) := by decide +kernel
theorem dX4_sentHome_1 : decode cX4_sentHome 1 = .ok (.i2l, 1) := by decide +kernel
theorem dX4_sentHome_2 : decode cX4_sentHome 2 = .ok (.aload_n 0, 1) := by decide +kernel
theorem dX4_sentHome_3 : decode cX4_sentHome 3 = .ok (.getfield 15, 3) := by decide +kernel
theorem dX4_sentHome_6 : decode cX4_sentHome 6 = .ok (.i2l, 1) := by decide +kernel
theorem dX4_sentHome_7 : decode cX4_sentHome 7 = .ok (.lmul, 1) := by decide +kernel
theorem dX4_sentHome_8 : decode cX4_sentHome 8 = .ok (.aload_n 0, 1) := by decide +kernel
theorem dX4_sentHome_9 : decode cX4_sentHome 9 = .ok (.getfield 19, 3) := by decide +kernel
theorem dX4_sentHome_12 : decode cX4_sentHome 12 = .ok (.i2l, 1) := by decide +kernel
theorem dX4_sentHome_13 : decode cX4_sentHome 13 = .ok (.invokestatic 50, 3) := by decide +kernel
theorem dX4_sentHome_16 : decode cX4_sentHome 16 = .ok (.l2i, 1) := by decide +kernel
theorem dX4_sentHome_17 : decode cX4_sentHome 17 = .ok (.ireturn, 1) := by decide +kernel
theorem dX5_init_0 : decode cX5_init 0 = .ok (.aload_n 0, 1) := by decide +kernel
theorem dX5_init_1 : decode cX5_init 1 = .ok (.invokespecial 5, 3) := by decide +kernel
theorem dX5_init_4 : decode cX5_init 4 = .ok (.aload_n 0, 1) := by decide +kernel
theorem dX5_init_5 : decode cX5_init 5 = .ok (.bipush 8, 2) := by decide +kernel
theorem dX5_init_7 : decode cX5_init 7 = .ok (.newarray .int, 2) := by decide +kernel
theorem dX5_init_9 : decode cX5_init 9 = .ok (.putfield 13, 3) := by decide +kernel
theorem dX5_init_12 : decode cX5_init 12 = .ok (.aload_n 0, 1) := by decide +kernel
theorem dX5_init_13 : decode cX5_init 13 = .ok (.bipush 8, 2) := by decide +kernel
theorem dX5_init_15 : decode cX5_init 15 = .ok (.newarray .int, 2) := by decide +kernel
theorem dX5_init_17 : decode cX5_init 17 = .ok (.putfield 17, 3) := by decide +kernel
theorem dX5_init_20 : decode cX5_init 20 = .ok (.aload_n 0, 1) := by decide +kernel
theorem dX5_init_21 : decode cX5_init 21 = .ok (.bipush 8, 2) := by decide +kernel
theorem dX5_init_23 : decode cX5_init 23 = .ok (.newarray .int, 2) := by decide +kernel
theorem dX5_init_25 : decode cX5_init 25 = .ok (.putfield 20, 3) := by decide +kernel
theorem dX5_init_28 : decode cX5_init 28 = .ok (.aload_n 0, 1) := by decide +kernel
theorem dX5_init_29 : decode cX5_init 29 = .ok (.bipush 8, 2) := by decide +kernel
theorem dX5_init_31 : decode cX5_init 31 = .ok (.newarray .boolean, 2) := by decide +kernel
theorem dX5_init_33 : decode cX5_init 33 = .ok (.putfield 23, 3) := by decide +kernel
theorem dX5_init_36 : decode cX5_init 36 = .ok (.aload_n 0, 1) := by decide +kernel
theorem dX5_init_37 : decode cX5_init 37 = .ok (.sipush 256, 3) := by decide +kernel
theorem dX5_init_40 : decode cX5_init 40 = .ok (.newarray .int, 2) := by decide +kernel
theorem dX5_init_42 : decode cX5_init 42 = .ok (.putfield 27, 3) := by decide +kernel
theorem dX5_init_45 : decode cX5_init 45 = .ok (.aload_n 0, 1) := by decide +kernel
theorem dX5_init_46 : decode cX5_init 46 = .ok (.bipush 7, 2) := by decide +kernel
theorem dX5_init_48 : decode cX5_init 48 = .ok (.newarray .int, 2) := by decide +kernel
theorem dX5_init_50 : decode cX5_init 50 = .ok (.putfield 30, 3) := by decide +kernel
theorem dX5_init_53 : decode cX5_init 53 = .ok (.return_, 1) := by decide +kernel
theorem dX5_add_0 : decode cX5_add 0 = .ok (.aload_n 0, 1) := by decide +kernel
theorem dX5_add_1 : decode cX5_add 1 = .ok (.getfield 33, 3) := by decide +kernel
theorem dX5_add_4 : decode cX5_add 4 = .ok (.bipush 8, 2) := by decide +kernel
theorem dX5_add_6 : decode cX5_add 6 = .ok (.if_icmp .lt 6, 3) := by decide +kernel
theorem dX5_add_9 : decode cX5_add 9 = .ok (.bipush (-4), 2) := by decide +kernel
theorem dX5_add_11 : decode cX5_add 11 = .ok (.ireturn, 1) := by decide +kernel
theorem dX5_add_12 : decode cX5_add 12 = .ok (.aload_n 0, 1) := by decide +kernel
theorem dX5_add_13 : decode cX5_add 13 = .ok (.getfield 13, 3) := by decide +kernel
theorem dX5_add_16 : decode cX5_add 16 = .ok (.aload_n 0, 1) := by decide +kernel
theorem dX5_add_17 : decode cX5_add 17 = .ok (.getfield 33, 3) := by decide +kernel
theorem dX5_add_20 : decode cX5_add 20 = .ok (.iload_n 1, 1) := by decide +kernel
theorem dX5_add_21 : decode cX5_add 21 = .ok (.iastore, 1) := by decide +kernel
theorem dX5_add_22 : decode cX5_add 22 = .ok (.aload_n 0, 1) := by decide +kernel
theorem dX5_add_23 : decode cX5_add 23 = .ok (.getfield 17, 3) := by decide +kernel
theorem dX5_add_26 : decode cX5_add 26 = .ok (.aload_n 0, 1) := by decide +kernel
theorem dX5_add_27 : decode cX5_add 27 = .ok (.getfield 33, 3) := by decide +kernel
theorem dX5_add_30 : decode cX5_add 30 = .ok (.iload_n 2, 1) := by decide +kernel
theorem dX5_add_31 : decode cX5_add 31 = .ok (.iastore, 1) := by decide +kernel
theorem dX5_add_32 : decode cX5_add 32 = .ok (.aload_n 0, 1) := by decide +kernel
theorem dX5_add_33 : decode cX5_add 33 = .ok (.getfield 20, 3) := by decide +kernel
theorem dX5_add_36 : decode cX5_add 36 = .ok (.aload_n 0, 1) := by decide +kernel
theorem dX5_add_37 : decode cX5_add 37 = .ok (.getfield 33, 3) := by decide +kernel
theorem dX5_add_40 : decode cX5_add 40 = .ok (.iload_n 3, 1) := by decide +kernel
theorem dX5_add_41 : decode cX5_add 41 = .ok (.iastore, 1) := by decide +kernel
theorem dX5_add_42 : decode cX5_add 42 = .ok (.aload_n 0, 1) := by decide +kernel
theorem dX5_add_43 : decode cX5_add 43 = .ok (.getfield 23, 3) := by decide +kernel
theorem dX5_add_46 : decode cX5_add 46 = .ok (.aload_n 0, 1) := by decide +kernel
theorem dX5_add_47 : decode cX5_add 47 = .ok (.getfield 33, 3) := by decide +kernel
theorem dX5_add_50 : decode cX5_add 50 = .ok (.iload 4, 2) := by decide +kernel
theorem dX5_add_52 : decode cX5_add 52 = .ok (.bastore, 1) := by decide +kernel
theorem dX5_add_53 : decode cX5_add 53 = .ok (.aload_n 0, 1) := by decide +kernel
theorem dX5_add_54 : decode cX5_add 54 = .ok (.dup, 1) := by decide +kernel
theorem dX5_add_55 : decode cX5_add 55 = .ok (.getfield 33, 3) := by decide +kernel
theorem dX5_add_58 : decode cX5_add 58 = .ok (.iconst 1, 1) := by decide +kernel
theorem dX5_add_59 : decode cX5_add 59 = .ok (.iadd, 1) := by decide +kernel
theorem dX5_add_60 : decode cX5_add 60 = .ok (.putfield 33, 3) := by decide +kernel
theorem dX5_add_63 : decode cX5_add 63 = .ok (.aload_n 0, 1) := by decide +kernel
theorem dX5_add_64 : decode cX5_add 64 = .ok (.getfield 33, 3) := by decide +kernel
theorem dX5_add_67 : decode cX5_add 67 = .ok (.iconst 1, 1) := by decide +kernel
theorem dX5_add_68 : decode cX5_add 68 = .ok (.isub, 1) := by decide +kernel
theorem dX5_add_69 : decode cX5_add 69 = .ok (.ireturn, 1) := by decide +kernel
theorem dX5_findBestMove_0 : decode cX5_findBestMove 0 = .ok (.iconst 1, 1) := by decide +kernel
theorem dX5_findBestMove_1 : decode cX5_findBestMove 1 = .ok (.aload_n 0, 1) := by decide +kernel
theorem dX5_findBestMove_2 : decode cX5_findBestMove 2 = .ok (.getfield 33, 3) := by decide +kernel
theorem dX5_findBestMove_5 : decode cX5_findBestMove 5 = .ok (.ishl, 1) := by decide +kernel
theorem dX5_findBestMove_6 : decode cX5_findBestMove 6 = .ok (.iconst 1, 1) := by decide +kernel
theorem dX5_findBestMove_7 : decode cX5_findBestMove 7 = .ok (.isub, 1) := by decide +kernel
theorem dX5_findBestMove_8 : decode cX5_findBestMove 8 = .ok (.istore_n 2, 1) := by decide +kernel
theorem dX5_findBestMove_9 : decode cX5_findBestMove 9 = .ok (.iload_n 2, 1) := by decide +kernel
theorem dX5_findBestMove_10 : decode cX5_findBestMove 10 = .ok (.ifCond .lt 21, 3) := by decide +kernel
theorem dX5_findBestMove_13 : decode cX5_findBestMove 13 = .ok (.aload_n 0, 1) := by decide +kernel
theorem dX5_findBestMove_14 : decode cX5_findBestMove 14 = .ok (.getfield 27, 3) := by decide +kernel
theorem dX5_findBestMove_17 : decode cX5_findBestMove 17 = .ok (.iload_n 2, 1) := by decide +kernel
theorem dX5_findBestMove_18 : decode cX5_findBestMove 18 = .ok (.aload_n 0, 1) := by decide +kernel
theorem dX5_findBestMove_19 : decode cX5_findBestMove 19 = .ok (.aload_n 1, 1) := by decide +kernel
theorem dX5_findBestMove_20 : decode cX5_findBestMove 20 = .ok (.iload_n 2, 1) := by decide +kernel
theorem dX5_findBestMove_21 : decode cX5_findBestMove 21 = .ok (.invokevirtual 37, 3) := by decide +kernel
theorem dX5_findBestMove_24 : decode cX5_findBestMove 24 = .ok (.iastore, 1) := by decide +kernel
theorem dX5_findBestMove_25 : decode cX5_findBestMove 25 = .ok (.iinc 2 (-1), 3) := by decide +kernel
theorem dX5_findBestMove_28 : decode cX5_findBestMove 28 = .ok (.goto (-19), 3) := by decide +kernel
theorem dX5_findBestMove_31 : decode cX5_findBestMove 31 = .ok (.aload_n 0, 1) := by decide +kernel
theorem dX5_findBestMove_32 : decode cX5_findBestMove 32 = .ok (.getfield 27, 3) := by decide +kernel
theorem dX5_findBestMove_35 : decode cX5_findBestMove 35 = .ok (.iconst 0, 1) := by decide +kernel
theorem dX5_findBestMove_36 : decode cX5_findBestMove 36 = .ok (.iaload, 1) := by decide +kernel
theorem dX5_findBestMove_37 : decode cX5_findBestMove 37 = .ok (.ldc 41, 2) := by decide +kernel
theorem dX5_findBestMove_39 : decode cX5_findBestMove 39 = .ok (.if_icmp .ne 5, 3) := by decide +kernel
theorem dX5_findBestMove_42 : decode cX5_findBestMove 42 = .ok (.iconst 0, 1) := by decide +kernel
theorem dX5_findBestMove_43 : decode cX5_findBestMove 43 = .ok (.ireturn, 1) := by decide +kernel
theorem dX5_findBestMove_44 : decode cX5_findBestMove 44 = .ok (.iconst 0, 1) := by decide +kernel
theorem dX5_findBestMove_45 : decode cX5_findBestMove 45 = .ok (.istore_n 2, 1) := by decide +kernel
theorem dX5_findBestMove_46 : decode cX5_findBestMove 46 = .ok (.iconst 0, 1) := by decide +kernel
theorem dX5_findBestMove_47 : decode cX5_findBestMove 47 = .ok (.istore_n 3, 1) := by decide +kernel
theorem dX5_findBestMove_48 : decode cX5_findBestMove 48 = .ok (.iload_n 3, 1) := by decide +kernel
theorem dX5_findBestMove_49 : decode cX5_findBestMove 49 = .ok (.aload_n 1, 1) := by decide +kernel
theorem dX5_findBestMove_50 : decode cX5_findBestMove 50 = .ok (.getfield 42, 3) := by decide +kernel
theorem dX5_findBestMove_53 : decode cX5_findBestMove 53 = .ok (.if_icmp .ge 33, 3) := by decide +kernel
theorem dX5_findBestMove_56 : decode cX5_findBestMove 56 = .ok (.aload_n 0, 1) := by decide +kernel
theorem dX5_findBestMove_57 : decode cX5_findBestMove 57 = .ok (.getfield 30, 3) := by decide +kernel
theorem dX5_findBestMove_60 : decode cX5_findBestMove 60 = .ok (.iload_n 3, 1) := by decide +kernel
theorem dX5_findBestMove_61 : decode cX5_findBestMove 61 = .ok (.aload_n 0, 1) := by decide +kernel
theorem dX5_findBestMove_62 : decode cX5_findBestMove 62 = .ok (.aload_n 1, 1) := by decide +kernel
theorem dX5_findBestMove_63 : decode cX5_findBestMove 63 = .ok (.iload_n 3, 1) := by decide +kernel
theorem dX5_findBestMove_64 : decode cX5_findBestMove 64 = .ok (.iload_n 2, 1) := by decide +kernel
theorem dX5_findBestMove_65 : decode cX5_findBestMove 65 = .ok (.invokevirtual 45, 3) := by decide +kernel
theorem dX5_findBestMove_68 : decode cX5_findBestMove 68 = .ok (.iastore, 1) := by decide +kernel
theorem dX5_findBestMove_69 : decode cX5_findBestMove 69 = .ok (.iload_n 2, 1) := by decide +kernel
theorem dX5_findBestMove_70 : decode cX5_findBestMove 70 = .ok (.iconst 1, 1) := by decide +kernel
theorem dX5_findBestMove_71 : decode cX5_findBestMove 71 = .ok (.aload_n 0, 1) := by decide +kernel
theorem dX5_findBestMove_72 : decode cX5_findBestMove 72 = .ok (.getfield 30, 3) := by decide +kernel
theorem dX5_findBestMove_75 : decode cX5_findBestMove 75 = .ok (.iload_n 3, 1) := by decide +kernel
theorem dX5_findBestMove_76 : decode cX5_findBestMove 76 = .ok (.iaload, 1) := by decide +kernel
theorem dX5_findBestMove_77 : decode cX5_findBestMove 77 = .ok (.ishl, 1) := by decide +kernel
theorem dX5_findBestMove_78 : decode cX5_findBestMove 78 = .ok (.ior, 1) := by decide +kernel
theorem dX5_findBestMove_79 : decode cX5_findBestMove 79 = .ok (.istore_n 2, 1) := by decide +kernel
theorem dX5_findBestMove_80 : decode cX5_findBestMove 80 = .ok (.iinc 3 1, 3) := by decide +kernel
theorem dX5_findBestMove_83 : decode cX5_findBestMove 83 = .ok (.goto (-35), 3) := by decide +kernel
theorem dX5_findBestMove_86 : decode cX5_findBestMove 86 = .ok (.iconst 1, 1) := by decide +kernel
theorem dX5_findBestMove_87 : decode cX5_findBestMove 87 = .ok (.ireturn, 1) := by decide +kernel
theorem dX5_bestGain_0 : decode cX5_bestGain 0 = .ok (.aload_n 0, 1) := by decide +kernel
theorem dX5_bestGain_1 : decode cX5_bestGain 1 = .ok (.getfield 27, 3) := by decide +kernel
theorem dX5_bestGain_4 : decode cX5_bestGain 4 = .ok (.iconst 0, 1) := by decide +kernel
theorem dX5_bestGain_5 : decode cX5_bestGain 5 = .ok (.iaload, 1) := by decide +kernel
theorem dX5_bestGain_6 : decode cX5_bestGain 6 = .ok (.ireturn, 1) := by decide +kernel
theorem dX5_moveCamps_0 : decode cX5_moveCamps 0 = .ok (.iconst 0, 1) := by decide +kernel
theorem dX5_moveCamps_1 : decode cX5_moveCamps 1 = .ok (.istore_n 2, 1) := by decide +kernel
theorem dX5_moveCamps_2 : decode cX5_moveCamps 2 = .ok (.iload_n 2, 1) := by decide +kernel
theorem dX5_moveCamps_3 : decode cX5_moveCamps 3 = .ok (.aload_n 1, 1) := by decide +kernel
theorem dX5_moveCamps_4 : decode cX5_moveCamps 4 = .ok (.getfield 42, 3) := by decide +kernel
theorem dX5_moveCamps_7 : decode cX5_moveCamps 7 = .ok (.if_icmp .ge 43, 3) := by decide +kernel
theorem dX5_moveCamps_10 : decode cX5_moveCamps 10 = .ok (.aload_n 1, 1) := by decide +kernel
theorem dX5_moveCamps_11 : decode cX5_moveCamps 11 = .ok (.getfield 49, 3) := by decide +kernel
theorem dX5_moveCamps_14 : decode cX5_moveCamps 14 = .ok (.iload_n 2, 1) := by decide +kernel
theorem dX5_moveCamps_15 : decode cX5_moveCamps 15 = .ok (.aload_n 0, 1) := by decide +kernel
theorem dX5_moveCamps_16 : decode cX5_moveCamps 16 = .ok (.getfield 13, 3) := by decide +kernel
theorem dX5_moveCamps_19 : decode cX5_moveCamps 19 = .ok (.aload_n 0, 1) := by decide +kernel
theorem dX5_moveCamps_20 : decode cX5_moveCamps 20 = .ok (.getfield 30, 3) := by decide +kernel
theorem dX5_moveCamps_23 : decode cX5_moveCamps 23 = .ok (.iload_n 2, 1) := by decide +kernel
theorem dX5_moveCamps_24 : decode cX5_moveCamps 24 = .ok (.iaload, 1) := by decide +kernel
theorem dX5_moveCamps_25 : decode cX5_moveCamps 25 = .ok (.iaload, 1) := by decide +kernel
theorem dX5_moveCamps_26 : decode cX5_moveCamps 26 = .ok (.iastore, 1) := by decide +kernel
theorem dX5_moveCamps_27 : decode cX5_moveCamps 27 = .ok (.aload_n 1, 1) := by decide +kernel
theorem dX5_moveCamps_28 : decode cX5_moveCamps 28 = .ok (.getfield 50, 3) := by decide +kernel
theorem dX5_moveCamps_31 : decode cX5_moveCamps 31 = .ok (.iload_n 2, 1) := by decide +kernel
theorem dX5_moveCamps_32 : decode cX5_moveCamps 32 = .ok (.aload_n 0, 1) := by decide +kernel
theorem dX5_moveCamps_33 : decode cX5_moveCamps 33 = .ok (.getfield 17, 3) := by decide +kernel
theorem dX5_moveCamps_36 : decode cX5_moveCamps 36 = .ok (.aload_n 0, 1) := by decide +kernel
theorem dX5_moveCamps_37 : decode cX5_moveCamps 37 = .ok (.getfield 30, 3) := by decide +kernel
theorem dX5_moveCamps_40 : decode cX5_moveCamps 40 = .ok (.iload_n 2, 1) := by decide +kernel
theorem dX5_moveCamps_41 : decode cX5_moveCamps 41 = .ok (.iaload, 1) := by decide +kernel
theorem dX5_moveCamps_42 : decode cX5_moveCamps 42 = .ok (.iaload, 1) := by decide +kernel
theorem dX5_moveCamps_43 : decode cX5_moveCamps 43 = .ok (.iastore, 1) := by decide +kernel
theorem dX5_moveCamps_44 : decode cX5_moveCamps 44 = .ok (.iinc 2 1, 3) := by decide +kernel
theorem dX5_moveCamps_47 : decode cX5_moveCamps 47 = .ok (.goto (-45), 3) := by decide +kernel
theorem dX5_moveCamps_50 : decode cX5_moveCamps 50 = .ok (.return_, 1) := by decide +kernel
theorem dX5_gainBy_0 : decode cX5_gainBy 0 = .ok (.lconst 0, 1) := by decide +kernel
theorem dX5_gainBy_1 : decode cX5_gainBy 1 = .ok (.lstore 4, 2) := by decide +kernel
theorem dX5_gainBy_3 : decode cX5_gainBy 3 = .ok (.iconst 0, 1) := by decide +kernel
theorem dX5_gainBy_4 : decode cX5_gainBy 4 = .ok (.istore 6, 2) := by decide +kernel
theorem dX5_gainBy_6 : decode cX5_gainBy 6 = .ok (.iconst 0, 1) := by decide +kernel
theorem dX5_gainBy_7 : decode cX5_gainBy 7 = .ok (.istore 7, 2) := by decide +kernel
theorem dX5_gainBy_9 : decode cX5_gainBy 9 = .ok (.iload 7, 2) := by decide +kernel
theorem dX5_gainBy_11 : decode cX5_gainBy 11 = .ok (.aload_n 1, 1) := by decide +kernel
theorem dX5_gainBy_12 : decode cX5_gainBy 12 = .ok (.getfield 42, 3) := by decide +kernel
theorem dX5_gainBy_15 : decode cX5_gainBy 15 = .ok (.if_icmp .ge 73, 3) := by decide +kernel
theorem dX5_gainBy_18 : decode cX5_gainBy 18 = .ok (.aload_n 2, 1) := by decide +kernel
theorem dX5_gainBy_19 : decode cX5_gainBy 19 = .ok (.iload_n 3, 1) := by decide +kernel
theorem dX5_gainBy_20 : decode cX5_gainBy 20 = .ok (.iload 7, 2) := by decide +kernel
theorem dX5_gainBy_22 : decode cX5_gainBy 22 = .ok (.iadd, 1) := by decide +kernel
theorem dX5_gainBy_23 : decode cX5_gainBy 23 = .ok (.invokevirtual 51, 3) := by decide +kernel
theorem dX5_gainBy_26 : decode cX5_gainBy 26 = .ok (.istore 8, 2) := by decide +kernel
theorem dX5_gainBy_28 : decode cX5_gainBy 28 = .ok (.iload 8, 2) := by decide +kernel
theorem dX5_gainBy_30 : decode cX5_gainBy 30 = .ok (.iconst 0, 1) := by decide +kernel
theorem dX5_gainBy_31 : decode cX5_gainBy 31 = .ok (.aload_n 0, 1) := by decide +kernel
theorem dX5_gainBy_32 : decode cX5_gainBy 32 = .ok (.getfield 33, 3) := by decide +kernel
theorem dX5_gainBy_35 : decode cX5_gainBy 35 = .ok (.iconst 1, 1) := by decide +kernel
theorem dX5_gainBy_36 : decode cX5_gainBy 36 = .ok (.isub, 1) := by decide +kernel
theorem dX5_gainBy_37 : decode cX5_gainBy 37 = .ok (.invokestatic 57, 3) := by decide +kernel
theorem dX5_gainBy_40 : decode cX5_gainBy 40 = .ok (.ifCond .eq 14, 3) := by decide +kernel
theorem dX5_gainBy_43 : decode cX5_gainBy 43 = .ok (.aload_n 0, 1) := by decide +kernel
theorem dX5_gainBy_44 : decode cX5_gainBy 44 = .ok (.iload 8, 2) := by decide +kernel
theorem dX5_gainBy_46 : decode cX5_gainBy 46 = .ok (.iload 6, 2) := by decide +kernel
theorem dX5_gainBy_48 : decode cX5_gainBy 48 = .ok (.invokevirtual 61, 3) := by decide +kernel
theorem dX5_gainBy_51 : decode cX5_gainBy 51 = .ok (.ifCond .ne 7, 3) := by decide +kernel
theorem dX5_gainBy_54 : decode cX5_gainBy 54 = .ok (.ldc2_w 65, 3) := by decide +kernel
theorem dX5_gainBy_57 : decode cX5_gainBy 57 = .ok (.lreturn, 1) := by decide +kernel
theorem dX5_gainBy_58 : decode cX5_gainBy 58 = .ok (.lload 4, 2) := by decide +kernel
theorem dX5_gainBy_60 : decode cX5_gainBy 60 = .ok (.aload_n 0, 1) := by decide +kernel
theorem dX5_gainBy_61 : decode cX5_gainBy 61 = .ok (.aload_n 1, 1) := by decide +kernel
theorem dX5_gainBy_62 : decode cX5_gainBy 62 = .ok (.iload 7, 2) := by decide +kernel
theorem dX5_gainBy_64 : decode cX5_gainBy 64 = .ok (.iload 8, 2) := by decide +kernel
theorem dX5_gainBy_66 : decode cX5_gainBy 66 = .ok (.invokevirtual 67, 3) := by decide +kernel
theorem dX5_gainBy_69 : decode cX5_gainBy 69 = .ok (.i2l, 1) := by decide +kernel
theorem dX5_gainBy_70 : decode cX5_gainBy 70 = .ok (.ladd, 1) := by decide +kernel
theorem dX5_gainBy_71 : decode cX5_gainBy 71 = .ok (.lstore 4, 2) := by decide +kernel
theorem dX5_gainBy_73 : decode cX5_gainBy 73 = .ok (.iload 6, 2) := by decide +kernel
theorem dX5_gainBy_75 : decode cX5_gainBy 75 = .ok (.iconst 1, 1) := by decide +kernel
theorem dX5_gainBy_76 : decode cX5_gainBy 76 = .ok (.iload 8, 2) := by decide +kernel
theorem dX5_gainBy_78 : decode cX5_gainBy 78 = .ok (.ishl, 1) := by decide +kernel
theorem dX5_gainBy_79 : decode cX5_gainBy 79 = .ok (.ior, 1) := by decide +kernel
theorem dX5_gainBy_80 : decode cX5_gainBy 80 = .ok (.istore 6, 2) := by decide +kernel
theorem dX5_gainBy_82 : decode cX5_gainBy 82 = .ok (.iinc 7 1, 3) := by decide +kernel
theorem dX5_gainBy_85 : decode cX5_gainBy 85 = .ok (.goto (-76), 3) := by decide +kernel
theorem dX5_gainBy_88 : decode cX5_gainBy 88 = .ok (.lload 4, 2) := by decide +kernel
theorem dX5_gainBy_90 : decode cX5_gainBy 90 = .ok (.lreturn, 1) := by decide +kernel
theorem dX5_isFree_0 : decode cX5_isFree 0 = .ok (.aload_n 0, 1) := by decide +kernel
theorem dX5_isFree_1 : decode cX5_isFree 1 = .ok (.getfield 23, 3) := by decide +kernel
theorem dX5_isFree_4 : decode cX5_isFree 4 = .ok (.iload_n 1, 1) := by decide +kernel
theorem dX5_isFree_5 : decode cX5_isFree 5 = .ok (.baload, 1) := by decide +kernel
theorem dX5_isFree_6 : decode cX5_isFree 6 = .ok (.ifCond .eq 15, 3) := by decide +kernel
theorem dX5_isFree_9 : decode cX5_isFree 9 = .ok (.iload_n 2, 1) := by decide +kernel
theorem dX5_isFree_10 : decode cX5_isFree 10 = .ok (.iload_n 1, 1) := by decide +kernel
theorem dX5_isFree_11 : decode cX5_isFree 11 = .ok (.ishr, 1) := by decide +kernel
theorem dX5_isFree_12 : decode cX5_isFree 12 = .ok (.iconst 1, 1) := by decide +kernel
theorem dX5_isFree_13 : decode cX5_isFree 13 = .ok (.iand, 1) := by decide +kernel
theorem dX5_isFree_14 : decode cX5_isFree 14 = .ok (.ifCond .ne 7, 3) := by decide +kernel
theorem dX5_isFree_17 : decode cX5_isFree 17 = .ok (.iconst 1, 1) := by decide +kernel
theorem dX5_isFree_18 : decode cX5_isFree 18 = .ok (.goto 4, 3) := by decide +kernel
theorem dX5_isFree_21 : decode cX5_isFree 21 = .ok (.iconst 0, 1) := by decide +kernel
theorem dX5_isFree_22 : decode cX5_isFree 22 = .ok (.ireturn, 1) := by decide +kernel
theorem dX5_gainOf_0 : decode cX5_gainOf 0 = .ok (.aload_n 0, 1) := by decide +kernel
theorem dX5_gainOf_1 : decode cX5_gainOf 1 = .ok (.getfield 20, 3) := by decide +kernel
theorem dX5_gainOf_4 : decode cX5_gainOf 4 = .ok (.iload_n 3, 1) := by decide +kernel
theorem dX5_gainOf_5 : decode cX5_gainOf 5 = .ok (.iaload, 1) := by decide +kernel
theorem dX5_gainOf_6 : decode cX5_gainOf 6 = .ok (.aload_n 1, 1) := by decide +kernel
theorem dX5_gainOf_7 : decode cX5_gainOf 7 = .ok (.iload_n 2, 1) := by decide +kernel
theorem dX5_gainOf_8 : decode cX5_gainOf 8 = .ok (.aload_n 0, 1) := by decide +kernel
theorem dX5_gainOf_9 : decode cX5_gainOf 9 = .ok (.getfield 13, 3) := by decide +kernel
theorem dX5_gainOf_12 : decode cX5_gainOf 12 = .ok (.iload_n 3, 1) := by decide +kernel
theorem dX5_gainOf_13 : decode cX5_gainOf 13 = .ok (.iaload, 1) := by decide +kernel
theorem dX5_gainOf_14 : decode cX5_gainOf 14 = .ok (.aload_n 0, 1) := by decide +kernel
theorem dX5_gainOf_15 : decode cX5_gainOf 15 = .ok (.getfield 17, 3) := by decide +kernel
theorem dX5_gainOf_18 : decode cX5_gainOf 18 = .ok (.iload_n 3, 1) := by decide +kernel
theorem dX5_gainOf_19 : decode cX5_gainOf 19 = .ok (.iaload, 1) := by decide +kernel
theorem dX5_gainOf_20 : decode cX5_gainOf 20 = .ok (.invokevirtual 70, 3) := by decide +kernel
theorem dX5_gainOf_23 : decode cX5_gainOf 23 = .ok (.isub, 1) := by decide +kernel
theorem dX5_gainOf_24 : decode cX5_gainOf 24 = .ok (.ireturn, 1) := by decide +kernel
theorem dX5_mostBehind_0 : decode cX5_mostBehind 0 = .ok (.iload_n 2, 1) := by decide +kernel
theorem dX5_mostBehind_1 : decode cX5_mostBehind 1 = .ok (.invokestatic 74, 3) := by decide +kernel
theorem dX5_mostBehind_4 : decode cX5_mostBehind 4 = .ok (.istore_n 3, 1) := by decide +kernel
theorem dX5_mostBehind_5 : decode cX5_mostBehind 5 = .ok (.iload_n 3, 1) := by decide +kernel
theorem dX5_mostBehind_6 : decode cX5_mostBehind 6 = .ok (.aload_n 1, 1) := by decide +kernel
theorem dX5_mostBehind_7 : decode cX5_mostBehind 7 = .ok (.getfield 42, 3) := by decide +kernel
theorem dX5_mostBehind_10 : decode cX5_mostBehind 10 = .ok (.if_icmp .lt 5, 3) := by decide +kernel
theorem dX5_mostBehind_13 : decode cX5_mostBehind 13 = .ok (.iconst 0, 1) := by decide +kernel
theorem dX5_mostBehind_14 : decode cX5_mostBehind 14 = .ok (.ireturn, 1) := by decide +kernel
theorem dX5_mostBehind_15 : decode cX5_mostBehind 15 = .ok (.ldc 41, 2) := by decide +kernel
theorem dX5_mostBehind_17 : decode cX5_mostBehind 17 = .ok (.istore 4, 2) := by decide +kernel
theorem dX5_mostBehind_19 : decode cX5_mostBehind 19 = .ok (.iconst 0, 1) := by decide +kernel
theorem dX5_mostBehind_20 : decode cX5_mostBehind 20 = .ok (.istore 5, 2) := by decide +kernel
theorem dX5_mostBehind_22 : decode cX5_mostBehind 22 = .ok (.iload 5, 2) := by decide +kernel
theorem dX5_mostBehind_24 : decode cX5_mostBehind 24 = .ok (.aload_n 0, 1) := by decide +kernel
theorem dX5_mostBehind_25 : decode cX5_mostBehind 25 = .ok (.getfield 33, 3) := by decide +kernel
theorem dX5_mostBehind_28 : decode cX5_mostBehind 28 = .ok (.if_icmp .ge 25, 3) := by decide +kernel
theorem dX5_mostBehind_31 : decode cX5_mostBehind 31 = .ok (.iload 4, 2) := by decide +kernel
theorem dX5_mostBehind_33 : decode cX5_mostBehind 33 = .ok (.aload_n 0, 1) := by decide +kernel
theorem dX5_mostBehind_34 : decode cX5_mostBehind 34 = .ok (.aload_n 1, 1) := by decide +kernel
theorem dX5_mostBehind_35 : decode cX5_mostBehind 35 = .ok (.iload_n 3, 1) := by decide +kernel
theorem dX5_mostBehind_36 : decode cX5_mostBehind 36 = .ok (.iload 5, 2) := by decide +kernel
theorem dX5_mostBehind_38 : decode cX5_mostBehind 38 = .ok (.iload_n 2, 1) := by decide +kernel
theorem dX5_mostBehind_39 : decode cX5_mostBehind 39 = .ok (.invokevirtual 77, 3) := by decide +kernel
theorem dX5_mostBehind_42 : decode cX5_mostBehind 42 = .ok (.invokestatic 81, 3) := by decide +kernel
theorem dX5_mostBehind_45 : decode cX5_mostBehind 45 = .ok (.istore 4, 2) := by decide +kernel
theorem dX5_mostBehind_47 : decode cX5_mostBehind 47 = .ok (.iinc 5 1, 3) := by decide +kernel
theorem dX5_mostBehind_50 : decode cX5_mostBehind 50 = .ok (.goto (-28), 3) := by decide +kernel
theorem dX5_mostBehind_53 : decode cX5_mostBehind 53 = .ok (.iload 4, 2) := by decide +kernel
theorem dX5_mostBehind_55 : decode cX5_mostBehind 55 = .ok (.ireturn, 1) := by decide +kernel
theorem dX5_gainFrom_0 : decode cX5_gainFrom 0 = .ok (.aload_n 0, 1) := by decide +kernel
theorem dX5_gainFrom_1 : decode cX5_gainFrom 1 = .ok (.iload_n 3, 1) := by decide +kernel
theorem dX5_gainFrom_2 : decode cX5_gainFrom 2 = .ok (.iload 4, 2) := by decide +kernel
theorem dX5_gainFrom_4 : decode cX5_gainFrom 4 = .ok (.invokevirtual 61, 3) := by decide +kernel
theorem dX5_gainFrom_7 : decode cX5_gainFrom 7 = .ok (.ifCond .eq 19, 3) := by decide +kernel
theorem dX5_gainFrom_10 : decode cX5_gainFrom 10 = .ok (.aload_n 0, 1) := by decide +kernel
theorem dX5_gainFrom_11 : decode cX5_gainFrom 11 = .ok (.getfield 27, 3) := by decide +kernel
theorem dX5_gainFrom_14 : decode cX5_gainFrom 14 = .ok (.iload 4, 2) := by decide +kernel
theorem dX5_gainFrom_16 : decode cX5_gainFrom 16 = .ok (.iconst 1, 1) := by decide +kernel
theorem dX5_gainFrom_17 : decode cX5_gainFrom 17 = .ok (.iload_n 3, 1) := by decide +kernel
theorem dX5_gainFrom_18 : decode cX5_gainFrom 18 = .ok (.ishl, 1) := by decide +kernel
theorem dX5_gainFrom_19 : decode cX5_gainFrom 19 = .ok (.ior, 1) := by decide +kernel
theorem dX5_gainFrom_20 : decode cX5_gainFrom 20 = .ok (.iaload, 1) := by decide +kernel
theorem dX5_gainFrom_21 : decode cX5_gainFrom 21 = .ok (.ldc 41, 2) := by decide +kernel
theorem dX5_gainFrom_23 : decode cX5_gainFrom 23 = .ok (.if_icmp .ne 6, 3) := by decide +kernel
theorem dX5_gainFrom_26 : decode cX5_gainFrom 26 = .ok (.ldc 41, 2) := by decide +kernel
theorem dX5_gainFrom_28 : decode cX5_gainFrom 28 = .ok (.ireturn, 1) := by decide +kernel
theorem dX5_gainFrom_29 : decode cX5_gainFrom 29 = .ok (.aload_n 0, 1) := by decide +kernel
theorem dX5_gainFrom_30 : decode cX5_gainFrom 30 = .ok (.aload_n 1, 1) := by decide +kernel
theorem dX5_gainFrom_31 : decode cX5_gainFrom 31 = .ok (.iload_n 2, 1) := by decide +kernel
theorem dX5_gainFrom_32 : decode cX5_gainFrom 32 = .ok (.iload_n 3, 1) := by decide +kernel
theorem dX5_gainFrom_33 : decode cX5_gainFrom 33 = .ok (.invokevirtual 67, 3) := by decide +kernel
theorem dX5_gainFrom_36 : decode cX5_gainFrom 36 = .ok (.aload_n 0, 1) := by decide +kernel
theorem dX5_gainFrom_37 : decode cX5_gainFrom 37 = .ok (.getfield 27, 3) := by decide +kernel
theorem dX5_gainFrom_40 : decode cX5_gainFrom 40 = .ok (.iload 4, 2) := by decide +kernel
theorem dX5_gainFrom_42 : decode cX5_gainFrom 42 = .ok (.iconst 1, 1) := by decide +kernel
theorem dX5_gainFrom_43 : decode cX5_gainFrom 43 = .ok (.iload_n 3, 1) := by decide +kernel
theorem dX5_gainFrom_44 : decode cX5_gainFrom 44 = .ok (.ishl, 1) := by decide +kernel
theorem dX5_gainFrom_45 : decode cX5_gainFrom 45 = .ok (.ior, 1) := by decide +kernel
theorem dX5_gainFrom_46 : decode cX5_gainFrom 46 = .ok (.iaload, 1) := by decide +kernel
theorem dX5_gainFrom_47 : decode cX5_gainFrom 47 = .ok (.iadd, 1) := by decide +kernel
theorem dX5_gainFrom_48 : decode cX5_gainFrom 48 = .ok (.ireturn, 1) := by decide +kernel
theorem dX5_firstOfMost_0 : decode cX5_firstOfMost 0 = .ok (.iconst 0, 1) := by decide +kernel
theorem dX5_firstOfMost_1 : decode cX5_firstOfMost 1 = .ok (.istore 4, 2) := by decide +kernel
theorem dX5_firstOfMost_3 : decode cX5_firstOfMost 3 = .ok (.iload 4, 2) := by decide +kernel
theorem dX5_firstOfMost_5 : decode cX5_firstOfMost 5 = .ok (.aload_n 0, 1) := by decide +kernel
theorem dX5_firstOfMost_6 : decode cX5_firstOfMost 6 = .ok (.getfield 33, 3) := by decide +kernel
theorem dX5_firstOfMost_9 : decode cX5_firstOfMost 9 = .ok (.if_icmp .ge 30, 3) := by decide +kernel
theorem dX5_firstOfMost_12 : decode cX5_firstOfMost 12 = .ok (.aload_n 0, 1) := by decide +kernel
theorem dX5_firstOfMost_13 : decode cX5_firstOfMost 13 = .ok (.aload_n 1, 1) := by decide +kernel
theorem dX5_firstOfMost_14 : decode cX5_firstOfMost 14 = .ok (.iload_n 2, 1) := by decide +kernel
theorem dX5_firstOfMost_15 : decode cX5_firstOfMost 15 = .ok (.iload 4, 2) := by decide +kernel
theorem dX5_firstOfMost_17 : decode cX5_firstOfMost 17 = .ok (.iload_n 3, 1) := by decide +kernel
theorem dX5_firstOfMost_18 : decode cX5_firstOfMost 18 = .ok (.invokevirtual 77, 3) := by decide +kernel
theorem dX5_firstOfMost_21 : decode cX5_firstOfMost 21 = .ok (.aload_n 0, 1) := by decide +kernel
theorem dX5_firstOfMost_22 : decode cX5_firstOfMost 22 = .ok (.getfield 27, 3) := by decide +kernel
theorem dX5_firstOfMost_25 : decode cX5_firstOfMost 25 = .ok (.iload_n 3, 1) := by decide +kernel
theorem dX5_firstOfMost_26 : decode cX5_firstOfMost 26 = .ok (.iaload, 1) := by decide +kernel
theorem dX5_firstOfMost_27 : decode cX5_firstOfMost 27 = .ok (.if_icmp .ne 6, 3) := by decide +kernel
theorem dX5_firstOfMost_30 : decode cX5_firstOfMost 30 = .ok (.iload 4, 2) := by decide +kernel
theorem dX5_firstOfMost_32 : decode cX5_firstOfMost 32 = .ok (.ireturn, 1) := by decide +kernel
theorem dX5_firstOfMost_33 : decode cX5_firstOfMost 33 = .ok (.iinc 4 1, 3) := by decide +kernel
theorem dX5_firstOfMost_36 : decode cX5_firstOfMost 36 = .ok (.goto (-33), 3) := by decide +kernel
theorem dX5_firstOfMost_39 : decode cX5_firstOfMost 39 = .ok (.iconst 0, 1) := by decide +kernel
theorem dX5_firstOfMost_40 : decode cX5_firstOfMost 40 = .ok (.ireturn, 1) := by decide +kernel
theorem dX6_init_0 : decode cX6_init 0 = .ok (.aload_n 0, 1) := by decide +kernel
theorem dX6_init_1 : decode cX6_init 1 = .ok (.invokespecial 1, 3) := by decide +kernel
theorem dX6_init_4 : decode cX6_init 4 = .ok (.aload_n 0, 1) := by decide +kernel
theorem dX6_init_5 : decode cX6_init 5 = .ok (.iload_n 1, 1) := by decide +kernel
theorem dX6_init_6 : decode cX6_init 6 = .ok (.putfield 7, 3) := by decide +kernel
theorem dX6_init_9 : decode cX6_init 9 = .ok (.aload_n 0, 1) := by decide +kernel
theorem dX6_init_10 : decode cX6_init 10 = .ok (.iload_n 2, 1) := by decide +kernel
theorem dX6_init_11 : decode cX6_init 11 = .ok (.putfield 13, 3) := by decide +kernel
theorem dX6_init_14 : decode cX6_init 14 = .ok (.aload_n 0, 1) := by decide +kernel
theorem dX6_init_15 : decode cX6_init 15 = .ok (.iload_n 3, 1) := by decide +kernel
theorem dX6_init_16 : decode cX6_init 16 = .ok (.putfield 16, 3) := by decide +kernel
theorem dX6_init_19 : decode cX6_init 19 = .ok (.aload_n 0, 1) := by decide +kernel
theorem dX6_init_20 : decode cX6_init 20 = .ok (.iload 4, 2) := by decide +kernel
theorem dX6_init_22 : decode cX6_init 22 = .ok (.putfield 19, 3) := by decide +kernel
theorem dX6_init_25 : decode cX6_init 25 = .ok (.aload_n 0, 1) := by decide +kernel
theorem dX6_init_26 : decode cX6_init 26 = .ok (.iload 5, 2) := by decide +kernel
theorem dX6_init_28 : decode cX6_init 28 = .ok (.putfield 22, 3) := by decide +kernel
theorem dX6_init_31 : decode cX6_init 31 = .ok (.return_, 1) := by decide +kernel
theorem dX6_holdsOn_0 : decode cX6_holdsOn 0 = .ok (.iload_n 1, 1) := by decide +kernel
theorem dX6_holdsOn_1 : decode cX6_holdsOn 1 = .ok (.aload_n 0, 1) := by decide +kernel
theorem dX6_holdsOn_2 : decode cX6_holdsOn 2 = .ok (.getfield 19, 3) := by decide +kernel
theorem dX6_holdsOn_5 : decode cX6_holdsOn 5 = .ok (.aload_n 0, 1) := by decide +kernel
theorem dX6_holdsOn_6 : decode cX6_holdsOn 6 = .ok (.getfield 22, 3) := by decide +kernel
theorem dX6_holdsOn_9 : decode cX6_holdsOn 9 = .ok (.invokestatic 25, 3) := by decide +kernel
theorem dX6_holdsOn_12 : decode cX6_holdsOn 12 = .ok (.ireturn, 1) := by decide +kernel
theorem dX6_daysIn_0 : decode cX6_daysIn 0 = .ok (.iconst 0, 1) := by decide +kernel
theorem dX6_daysIn_1 : decode cX6_daysIn 1 = .ok (.aload_n 0, 1) := by decide +kernel
theorem dX6_daysIn_2 : decode cX6_daysIn 2 = .ok (.getfield 22, 3) := by decide +kernel
theorem dX6_daysIn_5 : decode cX6_daysIn 5 = .ok (.iload_n 2, 1) := by decide +kernel
theorem dX6_daysIn_6 : decode cX6_daysIn 6 = .ok (.invokestatic 31, 3) := by decide +kernel
theorem dX6_daysIn_9 : decode cX6_daysIn 9 = .ok (.aload_n 0, 1) := by decide +kernel
theorem dX6_daysIn_10 : decode cX6_daysIn 10 = .ok (.getfield 19, 3) := by decide +kernel
theorem dX6_daysIn_13 : decode cX6_daysIn 13 = .ok (.iload_n 1, 1) := by decide +kernel
theorem dX6_daysIn_14 : decode cX6_daysIn 14 = .ok (.invokestatic 37, 3) := by decide +kernel
theorem dX6_daysIn_17 : decode cX6_daysIn 17 = .ok (.isub, 1) := by decide +kernel
theorem dX6_daysIn_18 : decode cX6_daysIn 18 = .ok (.iconst 1, 1) := by decide +kernel
theorem dX6_daysIn_19 : decode cX6_daysIn 19 = .ok (.iadd, 1) := by decide +kernel
theorem dX6_daysIn_20 : decode cX6_daysIn 20 = .ok (.invokestatic 37, 3) := by decide +kernel
theorem dX6_daysIn_23 : decode cX6_daysIn 23 = .ok (.ireturn, 1) := by decide +kernel
theorem dX7_init_0 : decode cX7_init 0 = .ok (.aload_n 0, 1) := by decide +kernel
theorem dX7_init_1 : decode cX7_init 1 = .ok (.invokespecial 3, 3) := by decide +kernel
theorem dX7_init_4 : decode cX7_init 4 = .ok (.aload_n 0, 1) := by decide +kernel
theorem dX7_init_5 : decode cX7_init 5 = .ok (.bipush 60, 2) := by decide +kernel
theorem dX7_init_7 : decode cX7_init 7 = .ok (.newarray .int, 2) := by decide +kernel
theorem dX7_init_9 : decode cX7_init 9 = .ok (.putfield 11, 3) := by decide +kernel
theorem dX7_init_12 : decode cX7_init 12 = .ok (.aload_n 0, 1) := by decide +kernel
theorem dX7_init_13 : decode cX7_init 13 = .ok (.iconst (-1), 1) := by decide +kernel
theorem dX7_init_14 : decode cX7_init 14 = .ok (.putfield 15, 3) := by decide +kernel
theorem dX7_init_17 : decode cX7_init 17 = .ok (.return_, 1) := by decide +kernel
theorem dX7_renew_0 : decode cX7_renew 0 = .ok (.aload_n 0, 1) := by decide +kernel
theorem dX7_renew_1 : decode cX7_renew 1 = .ok (.getfield 11, 3) := by decide +kernel
theorem dX7_renew_4 : decode cX7_renew 4 = .ok (.iconst 0, 1) := by decide +kernel
theorem dX7_renew_5 : decode cX7_renew 5 = .ok (.invokestatic 19, 3) := by decide +kernel
theorem dX7_renew_8 : decode cX7_renew 8 = .ok (.aload_n 0, 1) := by decide +kernel
theorem dX7_renew_9 : decode cX7_renew 9 = .ok (.iload_n 1, 1) := by decide +kernel
theorem dX7_renew_10 : decode cX7_renew 10 = .ok (.putfield 15, 3) := by decide +kernel
theorem dX7_renew_13 : decode cX7_renew 13 = .ok (.aload_n 0, 1) := by decide +kernel
theorem dX7_renew_14 : decode cX7_renew 14 = .ok (.iload_n 2, 1) := by decide +kernel
theorem dX7_renew_15 : decode cX7_renew 15 = .ok (.putfield 25, 3) := by decide +kernel
theorem dX7_renew_18 : decode cX7_renew 18 = .ok (.return_, 1) := by decide +kernel
theorem dX7_drop_0 : decode cX7_drop 0 = .ok (.aload_n 0, 1) := by decide +kernel
theorem dX7_drop_1 : decode cX7_drop 1 = .ok (.getfield 15, 3) := by decide +kernel
theorem dX7_drop_4 : decode cX7_drop 4 = .ok (.iconst (-1), 1) := by decide +kernel
theorem dX7_drop_5 : decode cX7_drop 5 = .ok (.if_icmp .eq 7, 3) := by decide +kernel
theorem dX7_drop_8 : decode cX7_drop 8 = .ok (.iconst 1, 1) := by decide +kernel
theorem dX7_drop_9 : decode cX7_drop 9 = .ok (.goto 4, 3) := by decide +kernel
theorem dX7_drop_12 : decode cX7_drop 12 = .ok (.iconst 0, 1) := by decide +kernel
theorem dX7_drop_13 : decode cX7_drop 13 = .ok (.istore_n 1, 1) := by decide +kernel
theorem dX7_drop_14 : decode cX7_drop 14 = .ok (.aload_n 0, 1) := by decide +kernel
theorem dX7_drop_15 : decode cX7_drop 15 = .ok (.iconst (-1), 1) := by decide +kernel
theorem dX7_drop_16 : decode cX7_drop 16 = .ok (.putfield 15, 3) := by decide +kernel
theorem dX7_drop_19 : decode cX7_drop 19 = .ok (.aload_n 0, 1) := by decide +kernel
theorem dX7_drop_20 : decode cX7_drop 20 = .ok (.iconst 0, 1) := by decide +kernel
theorem dX7_drop_21 : decode cX7_drop 21 = .ok (.putfield 25, 3) := by decide +kernel
theorem dX7_drop_24 : decode cX7_drop 24 = .ok (.iload_n 1, 1) := by decide +kernel
theorem dX7_drop_25 : decode cX7_drop 25 = .ok (.ireturn, 1) := by decide +kernel
theorem dX7_faultOf_0 : decode cX7_faultOf 0 = .ok (.aload_n 0, 1) := by decide +kernel
theorem dX7_faultOf_1 : decode cX7_faultOf 1 = .ok (.getfield 15, 3) := by decide +kernel
theorem dX7_faultOf_4 : decode cX7_faultOf 4 = .ok (.iconst (-1), 1) := by decide +kernel
theorem dX7_faultOf_5 : decode cX7_faultOf 5 = .ok (.if_icmp .ne 5, 3) := by decide +kernel
theorem dX7_faultOf_8 : decode cX7_faultOf 8 = .ok (.iconst 1, 1) := by decide +kernel
theorem dX7_faultOf_9 : decode cX7_faultOf 9 = .ok (.ireturn, 1) := by decide +kernel
theorem dX7_faultOf_10 : decode cX7_faultOf 10 = .ok (.aload_n 0, 1) := by decide +kernel
theorem dX7_faultOf_11 : decode cX7_faultOf 11 = .ok (.getfield 15, 3) := by decide +kernel
theorem dX7_faultOf_14 : decode cX7_faultOf 14 = .ok (.iload_n 1, 1) := by decide +kernel
theorem dX7_faultOf_15 : decode cX7_faultOf 15 = .ok (.if_icmp .eq 5, 3) := by decide +kernel
theorem dX7_faultOf_18 : decode cX7_faultOf 18 = .ok (.iconst 2, 1) := by decide +kernel
theorem dX7_faultOf_19 : decode cX7_faultOf 19 = .ok (.ireturn, 1) := by decide +kernel
theorem dX7_faultOf_20 : decode cX7_faultOf 20 = .ok (.iload_n 3, 1) := by decide +kernel
theorem dX7_faultOf_21 : decode cX7_faultOf 21 = .ok (.ifCond .ge 5, 3) := by decide +kernel
theorem dX7_faultOf_24 : decode cX7_faultOf 24 = .ok (.iconst 4, 1) := by decide +kernel
theorem dX7_faultOf_25 : decode cX7_faultOf 25 = .ok (.ireturn, 1) := by decide +kernel
theorem dX7_faultOf_26 : decode cX7_faultOf 26 = .ok (.iload_n 2, 1) := by decide +kernel
theorem dX7_faultOf_27 : decode cX7_faultOf 27 = .ok (.iconst 0, 1) := by decide +kernel
theorem dX7_faultOf_28 : decode cX7_faultOf 28 = .ok (.aload_n 0, 1) := by decide +kernel
theorem dX7_faultOf_29 : decode cX7_faultOf 29 = .ok (.getfield 25, 3) := by decide +kernel
theorem dX7_faultOf_32 : decode cX7_faultOf 32 = .ok (.invokestatic 28, 3) := by decide +kernel
theorem dX7_faultOf_35 : decode cX7_faultOf 35 = .ok (.ifCond .eq 17, 3) := by decide +kernel
theorem dX7_faultOf_38 : decode cX7_faultOf 38 = .ok (.iload_n 3, 1) := by decide +kernel
theorem dX7_faultOf_39 : decode cX7_faultOf 39 = .ok (.aload_n 0, 1) := by decide +kernel
theorem dX7_faultOf_40 : decode cX7_faultOf 40 = .ok (.getfield 25, 3) := by decide +kernel
theorem dX7_faultOf_43 : decode cX7_faultOf 43 = .ok (.iload_n 2, 1) := by decide +kernel
theorem dX7_faultOf_44 : decode cX7_faultOf 44 = .ok (.isub, 1) := by decide +kernel
theorem dX7_faultOf_45 : decode cX7_faultOf 45 = .ok (.if_icmp .gt 7, 3) := by decide +kernel
theorem dX7_faultOf_48 : decode cX7_faultOf 48 = .ok (.iconst 0, 1) := by decide +kernel
theorem dX7_faultOf_49 : decode cX7_faultOf 49 = .ok (.goto 4, 3) := by decide +kernel
theorem dX7_faultOf_52 : decode cX7_faultOf 52 = .ok (.iconst 3, 1) := by decide +kernel
theorem dX7_faultOf_53 : decode cX7_faultOf 53 = .ok (.ireturn, 1) := by decide +kernel
theorem dX7_read_0 : decode cX7_read 0 = .ok (.iload_n 1, 1) := by decide +kernel
theorem dX7_read_1 : decode cX7_read 1 = .ok (.iconst 0, 1) := by decide +kernel
theorem dX7_read_2 : decode cX7_read 2 = .ok (.bipush 59, 2) := by decide +kernel
theorem dX7_read_4 : decode cX7_read 4 = .ok (.invokestatic 28, 3) := by decide +kernel
theorem dX7_read_7 : decode cX7_read 7 = .ok (.ifCond .eq 12, 3) := by decide +kernel
theorem dX7_read_10 : decode cX7_read 10 = .ok (.aload_n 0, 1) := by decide +kernel
theorem dX7_read_11 : decode cX7_read 11 = .ok (.getfield 11, 3) := by decide +kernel
theorem dX7_read_14 : decode cX7_read 14 = .ok (.iload_n 1, 1) := by decide +kernel
theorem dX7_read_15 : decode cX7_read 15 = .ok (.iaload, 1) := by decide +kernel
theorem dX7_read_16 : decode cX7_read 16 = .ok (.goto 4, 3) := by decide +kernel
theorem dX7_read_19 : decode cX7_read 19 = .ok (.iconst 0, 1) := by decide +kernel
theorem dX7_read_20 : decode cX7_read 20 = .ok (.ireturn, 1) := by decide +kernel
theorem dX7_write_0 : decode cX7_write 0 = .ok (.iload_n 1, 1) := by decide +kernel
theorem dX7_write_1 : decode cX7_write 1 = .ok (.iconst 0, 1) := by decide +kernel
theorem dX7_write_2 : decode cX7_write 2 = .ok (.bipush 59, 2) := by decide +kernel
theorem dX7_write_4 : decode cX7_write 4 = .ok (.invokestatic 28, 3) := by decide +kernel
theorem dX7_write_7 : decode cX7_write 7 = .ok (.ifCond .eq 14, 3) := by decide +kernel
theorem dX7_write_10 : decode cX7_write 10 = .ok (.aload_n 0, 1) := by decide +kernel
theorem dX7_write_11 : decode cX7_write 11 = .ok (.getfield 11, 3) := by decide +kernel
theorem dX7_write_14 : decode cX7_write 14 = .ok (.iload_n 1, 1) := by decide +kernel
theorem dX7_write_15 : decode cX7_write 15 = .ok (.aload_n 0, 1) := by decide +kernel
theorem dX7_write_16 : decode cX7_write 16 = .ok (.iload_n 2, 1) := by decide +kernel
theorem dX7_write_17 : decode cX7_write 17 = .ok (.invokevirtual 32, 3) := by decide +kernel
theorem dX7_write_20 : decode cX7_write 20 = .ok (.iastore, 1) := by decide +kernel
theorem dX7_write_21 : decode cX7_write 21 = .ok (.return_, 1) := by decide +kernel
theorem dX7_cutToLane_0 : decode cX7_cutToLane 0 = .ok (.aload_n 0, 1) := by decide +kernel
theorem dX7_cutToLane_1 : decode cX7_cutToLane 1 = .ok (.getfield 15, 3) := by decide +kernel
theorem dX7_cutToLane_4 : decode cX7_cutToLane 4 = .ok (.lookupswitch 34 #[(0, 28), (1, 31)], 28) := by decide +kernel
theorem dX7_cutToLane_32 : decode cX7_cutToLane 32 = .ok (.iload_n 1, 1) := by decide +kernel
theorem dX7_cutToLane_33 : decode cX7_cutToLane 33 = .ok (.i2b, 1) := by decide +kernel
theorem dX7_cutToLane_34 : decode cX7_cutToLane 34 = .ok (.ireturn, 1) := by decide +kernel
theorem dX7_cutToLane_35 : decode cX7_cutToLane 35 = .ok (.iload_n 1, 1) := by decide +kernel
theorem dX7_cutToLane_36 : decode cX7_cutToLane 36 = .ok (.i2s, 1) := by decide +kernel
theorem dX7_cutToLane_37 : decode cX7_cutToLane 37 = .ok (.ireturn, 1) := by decide +kernel
theorem dX7_cutToLane_38 : decode cX7_cutToLane 38 = .ok (.iload_n 1, 1) := by decide +kernel
theorem dX7_cutToLane_39 : decode cX7_cutToLane 39 = .ok (.ireturn, 1) := by decide +kernel
theorem dX7_areWithin_0 : decode cX7_areWithin 0 = .ok (.iconst 0, 1) := by decide +kernel
theorem dX7_areWithin_1 : decode cX7_areWithin 1 = .ok (.istore 4, 2) := by decide +kernel
theorem dX7_areWithin_3 : decode cX7_areWithin 3 = .ok (.iload 4, 2) := by decide +kernel
theorem dX7_areWithin_5 : decode cX7_areWithin 5 = .ok (.iload_n 2, 1) := by decide +kernel
theorem dX7_areWithin_6 : decode cX7_areWithin 6 = .ok (.if_icmp .ge 27, 3) := by decide +kernel
theorem dX7_areWithin_9 : decode cX7_areWithin 9 = .ok (.aload_n 0, 1) := by decide +kernel
theorem dX7_areWithin_10 : decode cX7_areWithin 10 = .ok (.iload_n 1, 1) := by decide +kernel
theorem dX7_areWithin_11 : decode cX7_areWithin 11 = .ok (.iload 4, 2) := by decide +kernel
theorem dX7_areWithin_13 : decode cX7_areWithin 13 = .ok (.iadd, 1) := by decide +kernel
theorem dX7_areWithin_14 : decode cX7_areWithin 14 = .ok (.invokevirtual 36, 3) := by decide +kernel
theorem dX7_areWithin_17 : decode cX7_areWithin 17 = .ok (.iconst 0, 1) := by decide +kernel
theorem dX7_areWithin_18 : decode cX7_areWithin 18 = .ok (.iload_n 3, 1) := by decide +kernel
theorem dX7_areWithin_19 : decode cX7_areWithin 19 = .ok (.invokestatic 28, 3) := by decide +kernel
theorem dX7_areWithin_22 : decode cX7_areWithin 22 = .ok (.ifCond .ne 5, 3) := by decide +kernel
theorem dX7_areWithin_25 : decode cX7_areWithin 25 = .ok (.iconst 0, 1) := by decide +kernel
theorem dX7_areWithin_26 : decode cX7_areWithin 26 = .ok (.ireturn, 1) := by decide +kernel
theorem dX7_areWithin_27 : decode cX7_areWithin 27 = .ok (.iinc 4 1, 3) := by decide +kernel
theorem dX7_areWithin_30 : decode cX7_areWithin 30 = .ok (.goto (-27), 3) := by decide +kernel
theorem dX7_areWithin_33 : decode cX7_areWithin 33 = .ok (.iconst 1, 1) := by decide +kernel
theorem dX7_areWithin_34 : decode cX7_areWithin 34 = .ok (.ireturn, 1) := by decide +kernel
theorem dX7_copyTo_0 : decode cX7_copyTo 0 = .ok (.iconst 0, 1) := by decide +kernel
theorem dX7_copyTo_1 : decode cX7_copyTo 1 = .ok (.istore 4, 2) := by decide +kernel
theorem dX7_copyTo_3 : decode cX7_copyTo 3 = .ok (.iload 4, 2) := by decide +kernel
theorem dX7_copyTo_5 : decode cX7_copyTo 5 = .ok (.iload_n 3, 1) := by decide +kernel
theorem dX7_copyTo_6 : decode cX7_copyTo 6 = .ok (.if_icmp .ge 28, 3) := by decide +kernel
theorem dX7_copyTo_9 : decode cX7_copyTo 9 = .ok (.iload 4, 2) := by decide +kernel
theorem dX7_copyTo_11 : decode cX7_copyTo 11 = .ok (.aload_n 1, 1) := by decide +kernel
theorem dX7_copyTo_12 : decode cX7_copyTo 12 = .ok (.arraylength, 1) := by decide +kernel
theorem dX7_copyTo_13 : decode cX7_copyTo 13 = .ok (.if_icmp .ge 21, 3) := by decide +kernel
theorem dX7_copyTo_16 : decode cX7_copyTo 16 = .ok (.aload_n 1, 1) := by decide +kernel
theorem dX7_copyTo_17 : decode cX7_copyTo 17 = .ok (.iload 4, 2) := by decide +kernel
theorem dX7_copyTo_19 : decode cX7_copyTo 19 = .ok (.aload_n 0, 1) := by decide +kernel
theorem dX7_copyTo_20 : decode cX7_copyTo 20 = .ok (.iload_n 2, 1) := by decide +kernel
theorem dX7_copyTo_21 : decode cX7_copyTo 21 = .ok (.iload 4, 2) := by decide +kernel
theorem dX7_copyTo_23 : decode cX7_copyTo 23 = .ok (.iadd, 1) := by decide +kernel
theorem dX7_copyTo_24 : decode cX7_copyTo 24 = .ok (.invokevirtual 36, 3) := by decide +kernel
theorem dX7_copyTo_27 : decode cX7_copyTo 27 = .ok (.iastore, 1) := by decide +kernel
theorem dX7_copyTo_28 : decode cX7_copyTo 28 = .ok (.iinc 4 1, 3) := by decide +kernel
theorem dX7_copyTo_31 : decode cX7_copyTo 31 = .ok (.goto (-28), 3) := by decide +kernel
theorem dX7_copyTo_34 : decode cX7_copyTo 34 = .ok (.return_, 1) := by decide +kernel
theorem dX8_init_0 : decode cX8_init 0 = .ok (.aload_n 0, 1) := by decide +kernel
theorem dX8_init_1 : decode cX8_init 1 = .ok (.invokespecial 3, 3) := by decide +kernel
theorem dX8_init_4 : decode cX8_init 4 = .ok (.aload_n 0, 1) := by decide +kernel
theorem dX8_init_5 : decode cX8_init 5 = .ok (.bipush 12, 2) := by decide +kernel
theorem dX8_init_7 : decode cX8_init 7 = .ok (.newarray .int, 2) := by decide +kernel
theorem dX8_init_9 : decode cX8_init 9 = .ok (.putfield 11, 3) := by decide +kernel
theorem dX8_init_12 : decode cX8_init 12 = .ok (.aload_n 0, 1) := by decide +kernel
theorem dX8_init_13 : decode cX8_init 13 = .ok (.bipush 12, 2) := by decide +kernel
theorem dX8_init_15 : decode cX8_init 15 = .ok (.newarray .int, 2) := by decide +kernel
theorem dX8_init_17 : decode cX8_init 17 = .ok (.putfield 15, 3) := by decide +kernel
theorem dX8_init_20 : decode cX8_init 20 = .ok (.aload_n 0, 1) := by decide +kernel
theorem dX8_init_21 : decode cX8_init 21 = .ok (.bipush 12, 2) := by decide +kernel
theorem dX8_init_23 : decode cX8_init 23 = .ok (.newarray .int, 2) := by decide +kernel
theorem dX8_init_25 : decode cX8_init 25 = .ok (.putfield 18, 3) := by decide +kernel
theorem dX8_init_28 : decode cX8_init 28 = .ok (.aload_n 0, 1) := by decide +kernel
theorem dX8_init_29 : decode cX8_init 29 = .ok (.bipush 12, 2) := by decide +kernel
theorem dX8_init_31 : decode cX8_init 31 = .ok (.newarray .int, 2) := by decide +kernel
theorem dX8_init_33 : decode cX8_init 33 = .ok (.putfield 21, 3) := by decide +kernel
theorem dX8_init_36 : decode cX8_init 36 = .ok (.aload_n 0, 1) := by decide +kernel
theorem dX8_init_37 : decode cX8_init 37 = .ok (.bipush 24, 2) := by decide +kernel
theorem dX8_init_39 : decode cX8_init 39 = .ok (.newarray .int, 2) := by decide +kernel
theorem dX8_init_41 : decode cX8_init 41 = .ok (.putfield 24, 3) := by decide +kernel
theorem dX8_init_44 : decode cX8_init 44 = .ok (.aload_n 0, 1) := by decide +kernel
theorem dX8_init_45 : decode cX8_init 45 = .ok (.getfield 24, 3) := by decide +kernel
theorem dX8_init_48 : decode cX8_init 48 = .ok (.bipush 100, 2) := by decide +kernel
theorem dX8_init_50 : decode cX8_init 50 = .ok (.invokestatic 27, 3) := by decide +kernel
theorem dX8_init_53 : decode cX8_init 53 = .ok (.return_, 1) := by decide +kernel
theorem dX8_has_0 : decode cX8_has 0 = .ok (.iload_n 1, 1) := by decide +kernel
theorem dX8_has_1 : decode cX8_has 1 = .ok (.iconst 0, 1) := by decide +kernel
theorem dX8_has_2 : decode cX8_has 2 = .ok (.aload_n 0, 1) := by decide +kernel
theorem dX8_has_3 : decode cX8_has 3 = .ok (.getfield 33, 3) := by decide +kernel
theorem dX8_has_6 : decode cX8_has 6 = .ok (.iconst 1, 1) := by decide +kernel
theorem dX8_has_7 : decode cX8_has 7 = .ok (.isub, 1) := by decide +kernel
theorem dX8_has_8 : decode cX8_has 8 = .ok (.invokestatic 37, 3) := by decide +kernel
theorem dX8_has_11 : decode cX8_has 11 = .ok (.ireturn, 1) := by decide +kernel
theorem dX8_add_0 : decode cX8_add 0 = .ok (.aload_n 0, 1) := by decide +kernel
theorem dX8_add_1 : decode cX8_add 1 = .ok (.getfield 33, 3) := by decide +kernel
theorem dX8_add_4 : decode cX8_add 4 = .ok (.bipush 12, 2) := by decide +kernel
theorem dX8_add_6 : decode cX8_add 6 = .ok (.if_icmp .lt 6, 3) := by decide +kernel
theorem dX8_add_9 : decode cX8_add 9 = .ok (.bipush (-4), 2) := by decide +kernel
theorem dX8_add_11 : decode cX8_add 11 = .ok (.ireturn, 1) := by decide +kernel
theorem dX8_add_12 : decode cX8_add 12 = .ok (.aload_n 0, 1) := by decide +kernel
theorem dX8_add_13 : decode cX8_add 13 = .ok (.getfield 11, 3) := by decide +kernel
theorem dX8_add_16 : decode cX8_add 16 = .ok (.aload_n 0, 1) := by decide +kernel
theorem dX8_add_17 : decode cX8_add 17 = .ok (.getfield 33, 3) := by decide +kernel
theorem dX8_add_20 : decode cX8_add 20 = .ok (.iload_n 1, 1) := by decide +kernel
theorem dX8_add_21 : decode cX8_add 21 = .ok (.iastore, 1) := by decide +kernel
theorem dX8_add_22 : decode cX8_add 22 = .ok (.aload_n 0, 1) := by decide +kernel
theorem dX8_add_23 : decode cX8_add 23 = .ok (.getfield 15, 3) := by decide +kernel
theorem dX8_add_26 : decode cX8_add 26 = .ok (.aload_n 0, 1) := by decide +kernel
theorem dX8_add_27 : decode cX8_add 27 = .ok (.getfield 33, 3) := by decide +kernel
theorem dX8_add_30 : decode cX8_add 30 = .ok (.iload_n 2, 1) := by decide +kernel
theorem dX8_add_31 : decode cX8_add 31 = .ok (.iastore, 1) := by decide +kernel
theorem dX8_add_32 : decode cX8_add 32 = .ok (.aload_n 0, 1) := by decide +kernel
theorem dX8_add_33 : decode cX8_add 33 = .ok (.getfield 18, 3) := by decide +kernel
theorem dX8_add_36 : decode cX8_add 36 = .ok (.aload_n 0, 1) := by decide +kernel
theorem dX8_add_37 : decode cX8_add 37 = .ok (.getfield 33, 3) := by decide +kernel
theorem dX8_add_40 : decode cX8_add 40 = .ok (.iload_n 3, 1) := by decide +kernel
theorem dX8_add_41 : decode cX8_add 41 = .ok (.iastore, 1) := by decide +kernel
theorem dX8_add_42 : decode cX8_add 42 = .ok (.aload_n 0, 1) := by decide +kernel
theorem dX8_add_43 : decode cX8_add 43 = .ok (.getfield 21, 3) := by decide +kernel
theorem dX8_add_46 : decode cX8_add 46 = .ok (.aload_n 0, 1) := by decide +kernel
theorem dX8_add_47 : decode cX8_add 47 = .ok (.getfield 33, 3) := by decide +kernel
theorem dX8_add_50 : decode cX8_add 50 = .ok (.iload 4, 2) := by decide +kernel
theorem dX8_add_52 : decode cX8_add 52 = .ok (.iastore, 1) := by decide +kernel
theorem dX8_add_53 : decode cX8_add 53 = .ok (.aload_n 0, 1) := by decide +kernel
theorem dX8_add_54 : decode cX8_add 54 = .ok (.dup, 1) := by decide +kernel
theorem dX8_add_55 : decode cX8_add 55 = .ok (.getfield 33, 3) := by decide +kernel
theorem dX8_add_58 : decode cX8_add 58 = .ok (.iconst 1, 1) := by decide +kernel
theorem dX8_add_59 : decode cX8_add 59 = .ok (.iadd, 1) := by decide +kernel
theorem dX8_add_60 : decode cX8_add 60 = .ok (.putfield 33, 3) := by decide +kernel
theorem dX8_add_63 : decode cX8_add 63 = .ok (.aload_n 0, 1) := by decide +kernel
theorem dX8_add_64 : decode cX8_add 64 = .ok (.getfield 33, 3) := by decide +kernel
theorem dX8_add_67 : decode cX8_add 67 = .ok (.iconst 1, 1) := by decide +kernel
theorem dX8_add_68 : decode cX8_add 68 = .ok (.isub, 1) := by decide +kernel
theorem dX8_add_69 : decode cX8_add 69 = .ok (.ireturn, 1) := by decide +kernel
theorem dX8_takeTable_0 : decode cX8_takeTable 0 = .ok (.iload_n 3, 1) := by decide +kernel
theorem dX8_takeTable_1 : decode cX8_takeTable 1 = .ok (.bipush 24, 2) := by decide +kernel
theorem dX8_takeTable_3 : decode cX8_takeTable 3 = .ok (.if_icmp .ne 14, 3) := by decide +kernel
theorem dX8_takeTable_6 : decode cX8_takeTable 6 = .ok (.aload_n 1, 1) := by decide +kernel
theorem dX8_takeTable_7 : decode cX8_takeTable 7 = .ok (.iload_n 2, 1) := by decide +kernel
theorem dX8_takeTable_8 : decode cX8_takeTable 8 = .ok (.iload_n 3, 1) := by decide +kernel
theorem dX8_takeTable_9 : decode cX8_takeTable 9 = .ok (.bipush 100, 2) := by decide +kernel
theorem dX8_takeTable_11 : decode cX8_takeTable 11 = .ok (.invokevirtual 41, 3) := by decide +kernel
theorem dX8_takeTable_14 : decode cX8_takeTable 14 = .ok (.ifCond .ne 5, 3) := by decide +kernel
theorem dX8_takeTable_17 : decode cX8_takeTable 17 = .ok (.iconst 0, 1) := by decide +kernel
theorem dX8_takeTable_18 : decode cX8_takeTable 18 = .ok (.ireturn, 1) := by decide +kernel
theorem dX8_takeTable_19 : decode cX8_takeTable 19 = .ok (.aload_n 1, 1) := by decide +kernel
theorem dX8_takeTable_20 : decode cX8_takeTable 20 = .ok (.aload_n 0, 1) := by decide +kernel
theorem dX8_takeTable_21 : decode cX8_takeTable 21 = .ok (.getfield 24, 3) := by decide +kernel
theorem dX8_takeTable_24 : decode cX8_takeTable 24 = .ok (.iload_n 2, 1) := by decide +kernel
theorem dX8_takeTable_25 : decode cX8_takeTable 25 = .ok (.iload_n 3, 1) := by decide +kernel
theorem dX8_takeTable_26 : decode cX8_takeTable 26 = .ok (.invokevirtual 46, 3) := by decide +kernel
theorem dX8_takeTable_29 : decode cX8_takeTable 29 = .ok (.iconst 1, 1) := by decide +kernel
theorem dX8_takeTable_30 : decode cX8_takeTable 30 = .ok (.ireturn, 1) := by decide +kernel
theorem dX8_liveIn_0 : decode cX8_liveIn 0 = .ok (.iload_n 2, 1) := by decide +kernel
theorem dX8_liveIn_1 : decode cX8_liveIn 1 = .ok (.aload_n 0, 1) := by decide +kernel
theorem dX8_liveIn_2 : decode cX8_liveIn 2 = .ok (.getfield 21, 3) := by decide +kernel
theorem dX8_liveIn_5 : decode cX8_liveIn 5 = .ok (.iload_n 1, 1) := by decide +kernel
theorem dX8_liveIn_6 : decode cX8_liveIn 6 = .ok (.iaload, 1) := by decide +kernel
theorem dX8_liveIn_7 : decode cX8_liveIn 7 = .ok (.if_icmp .ge 5, 3) := by decide +kernel
theorem dX8_liveIn_10 : decode cX8_liveIn 10 = .ok (.iconst 0, 1) := by decide +kernel
theorem dX8_liveIn_11 : decode cX8_liveIn 11 = .ok (.ireturn, 1) := by decide +kernel
theorem dX8_liveIn_12 : decode cX8_liveIn 12 = .ok (.aload_n 0, 1) := by decide +kernel
theorem dX8_liveIn_13 : decode cX8_liveIn 13 = .ok (.getfield 18, 3) := by decide +kernel
theorem dX8_liveIn_16 : decode cX8_liveIn 16 = .ok (.iload_n 1, 1) := by decide +kernel
theorem dX8_liveIn_17 : decode cX8_liveIn 17 = .ok (.iaload, 1) := by decide +kernel
theorem dX8_liveIn_18 : decode cX8_liveIn 18 = .ok (.istore_n 3, 1) := by decide +kernel
theorem dX8_liveIn_19 : decode cX8_liveIn 19 = .ok (.bipush 6, 2) := by decide +kernel
theorem dX8_liveIn_21 : decode cX8_liveIn 21 = .ok (.aload_n 0, 1) := by decide +kernel
theorem dX8_liveIn_22 : decode cX8_liveIn 22 = .ok (.getfield 11, 3) := by decide +kernel
theorem dX8_liveIn_25 : decode cX8_liveIn 25 = .ok (.iload_n 1, 1) := by decide +kernel
theorem dX8_liveIn_26 : decode cX8_liveIn 26 = .ok (.iaload, 1) := by decide +kernel
theorem dX8_liveIn_27 : decode cX8_liveIn 27 = .ok (.imul, 1) := by decide +kernel
theorem dX8_liveIn_28 : decode cX8_liveIn 28 = .ok (.iconst 2, 1) := by decide +kernel
theorem dX8_liveIn_29 : decode cX8_liveIn 29 = .ok (.aload_n 0, 1) := by decide +kernel
theorem dX8_liveIn_30 : decode cX8_liveIn 30 = .ok (.getfield 15, 3) := by decide +kernel
theorem dX8_liveIn_33 : decode cX8_liveIn 33 = .ok (.iload_n 1, 1) := by decide +kernel
theorem dX8_liveIn_34 : decode cX8_liveIn 34 = .ok (.iaload, 1) := by decide +kernel
theorem dX8_liveIn_35 : decode cX8_liveIn 35 = .ok (.imul, 1) := by decide +kernel
theorem dX8_liveIn_36 : decode cX8_liveIn 36 = .ok (.iadd, 1) := by decide +kernel
theorem dX8_liveIn_37 : decode cX8_liveIn 37 = .ok (.istore 4, 2) := by decide +kernel
theorem dX8_liveIn_39 : decode cX8_liveIn 39 = .ok (.iconst 1, 1) := by decide +kernel
theorem dX8_liveIn_40 : decode cX8_liveIn 40 = .ok (.istore 5, 2) := by decide +kernel
theorem dX8_liveIn_42 : decode cX8_liveIn 42 = .ok (.iload 5, 2) := by decide +kernel
theorem dX8_liveIn_44 : decode cX8_liveIn 44 = .ok (.iload_n 2, 1) := by decide +kernel
theorem dX8_liveIn_45 : decode cX8_liveIn 45 = .ok (.aload_n 0, 1) := by decide +kernel
theorem dX8_liveIn_46 : decode cX8_liveIn 46 = .ok (.getfield 21, 3) := by decide +kernel
theorem dX8_liveIn_49 : decode cX8_liveIn 49 = .ok (.iload_n 1, 1) := by decide +kernel
theorem dX8_liveIn_50 : decode cX8_liveIn 50 = .ok (.iaload, 1) := by decide +kernel
theorem dX8_liveIn_51 : decode cX8_liveIn 51 = .ok (.isub, 1) := by decide +kernel
theorem dX8_liveIn_52 : decode cX8_liveIn 52 = .ok (.if_icmp .gt 35, 3) := by decide +kernel
theorem dX8_liveIn_55 : decode cX8_liveIn 55 = .ok (.iload_n 3, 1) := by decide +kernel
theorem dX8_liveIn_56 : decode cX8_liveIn 56 = .ok (.aload_n 0, 1) := by decide +kernel
theorem dX8_liveIn_57 : decode cX8_liveIn 57 = .ok (.getfield 24, 3) := by decide +kernel
theorem dX8_liveIn_60 : decode cX8_liveIn 60 = .ok (.iload 5, 2) := by decide +kernel
theorem dX8_liveIn_62 : decode cX8_liveIn 62 = .ok (.iconst 1, 1) := by decide +kernel
theorem dX8_liveIn_63 : decode cX8_liveIn 63 = .ok (.if_icmp .ne 8, 3) := by decide +kernel
theorem dX8_liveIn_66 : decode cX8_liveIn 66 = .ok (.iload 4, 2) := by decide +kernel
theorem dX8_liveIn_68 : decode cX8_liveIn 68 = .ok (.goto 7, 3) := by decide +kernel
theorem dX8_liveIn_71 : decode cX8_liveIn 71 = .ok (.iload 4, 2) := by decide +kernel
theorem dX8_liveIn_73 : decode cX8_liveIn 73 = .ok (.iconst 1, 1) := by decide +kernel
theorem dX8_liveIn_74 : decode cX8_liveIn 74 = .ok (.iadd, 1) := by decide +kernel
theorem dX8_liveIn_75 : decode cX8_liveIn 75 = .ok (.iaload, 1) := by decide +kernel
theorem dX8_liveIn_76 : decode cX8_liveIn 76 = .ok (.imul, 1) := by decide +kernel
theorem dX8_liveIn_77 : decode cX8_liveIn 77 = .ok (.bipush 100, 2) := by decide +kernel
theorem dX8_liveIn_79 : decode cX8_liveIn 79 = .ok (.idiv, 1) := by decide +kernel
theorem dX8_liveIn_80 : decode cX8_liveIn 80 = .ok (.istore_n 3, 1) := by decide +kernel
theorem dX8_liveIn_81 : decode cX8_liveIn 81 = .ok (.iinc 5 1, 3) := by decide +kernel
theorem dX8_liveIn_84 : decode cX8_liveIn 84 = .ok (.goto (-42), 3) := by decide +kernel
theorem dX8_liveIn_87 : decode cX8_liveIn 87 = .ok (.iload_n 3, 1) := by decide +kernel
theorem dX8_liveIn_88 : decode cX8_liveIn 88 = .ok (.ireturn, 1) := by decide +kernel
theorem dX8_liveOfKind_0 : decode cX8_liveOfKind 0 = .ok (.lconst 0, 1) := by decide +kernel
theorem dX8_liveOfKind_1 : decode cX8_liveOfKind 1 = .ok (.lstore_n 3, 1) := by decide +kernel
theorem dX8_liveOfKind_2 : decode cX8_liveOfKind 2 = .ok (.iconst 0, 1) := by decide +kernel
theorem dX8_liveOfKind_3 : decode cX8_liveOfKind 3 = .ok (.istore 5, 2) := by decide +kernel
theorem dX8_liveOfKind_5 : decode cX8_liveOfKind 5 = .ok (.iload 5, 2) := by decide +kernel
theorem dX8_liveOfKind_7 : decode cX8_liveOfKind 7 = .ok (.aload_n 0, 1) := by decide +kernel
theorem dX8_liveOfKind_8 : decode cX8_liveOfKind 8 = .ok (.getfield 33, 3) := by decide +kernel
theorem dX8_liveOfKind_11 : decode cX8_liveOfKind 11 = .ok (.if_icmp .ge 36, 3) := by decide +kernel
theorem dX8_liveOfKind_14 : decode cX8_liveOfKind 14 = .ok (.iload_n 1, 1) := by decide +kernel
theorem dX8_liveOfKind_15 : decode cX8_liveOfKind 15 = .ok (.iconst 4, 1) := by decide +kernel
theorem dX8_liveOfKind_16 : decode cX8_liveOfKind 16 = .ok (.if_icmp .eq 14, 3) := by decide +kernel
theorem dX8_liveOfKind_19 : decode cX8_liveOfKind 19 = .ok (.aload_n 0, 1) := by decide +kernel
theorem dX8_liveOfKind_20 : decode cX8_liveOfKind 20 = .ok (.getfield 11, 3) := by decide +kernel
theorem dX8_liveOfKind_23 : decode cX8_liveOfKind 23 = .ok (.iload 5, 2) := by decide +kernel
theorem dX8_liveOfKind_25 : decode cX8_liveOfKind 25 = .ok (.iaload, 1) := by decide +kernel
theorem dX8_liveOfKind_26 : decode cX8_liveOfKind 26 = .ok (.iload_n 1, 1) := by decide +kernel
theorem dX8_liveOfKind_27 : decode cX8_liveOfKind 27 = .ok (.if_icmp .ne 14, 3) := by decide +kernel
theorem dX8_liveOfKind_30 : decode cX8_liveOfKind 30 = .ok (.lload_n 3, 1) := by decide +kernel
theorem dX8_liveOfKind_31 : decode cX8_liveOfKind 31 = .ok (.aload_n 0, 1) := by decide +kernel
theorem dX8_liveOfKind_32 : decode cX8_liveOfKind 32 = .ok (.iload 5, 2) := by decide +kernel
theorem dX8_liveOfKind_34 : decode cX8_liveOfKind 34 = .ok (.iload_n 2, 1) := by decide +kernel
theorem dX8_liveOfKind_35 : decode cX8_liveOfKind 35 = .ok (.invokevirtual 50, 3) := by decide +kernel
theorem dX8_liveOfKind_38 : decode cX8_liveOfKind 38 = .ok (.i2l, 1) := by decide +kernel
theorem dX8_liveOfKind_39 : decode cX8_liveOfKind 39 = .ok (.ladd, 1) := by decide +kernel
theorem dX8_liveOfKind_40 : decode cX8_liveOfKind 40 = .ok (.lstore_n 3, 1) := by decide +kernel
theorem dX8_liveOfKind_41 : decode cX8_liveOfKind 41 = .ok (.iinc 5 1, 3) := by decide +kernel
theorem dX8_liveOfKind_44 : decode cX8_liveOfKind 44 = .ok (.goto (-39), 3) := by decide +kernel
theorem dX8_liveOfKind_47 : decode cX8_liveOfKind 47 = .ok (.lload_n 3, 1) := by decide +kernel
theorem dX8_liveOfKind_48 : decode cX8_liveOfKind 48 = .ok (.lreturn, 1) := by decide +kernel
theorem dX9_init_0 : decode cX9_init 0 = .ok (.aload_n 0, 1) := by decide +kernel
theorem dX9_init_1 : decode cX9_init 1 = .ok (.invokespecial 3, 3) := by decide +kernel
theorem dX9_init_4 : decode cX9_init 4 = .ok (.aload_n 0, 1) := by decide +kernel
theorem dX9_init_5 : decode cX9_init 5 = .ok (.iload_n 1, 1) := by decide +kernel
theorem dX9_init_6 : decode cX9_init 6 = .ok (.putfield 9, 3) := by decide +kernel
theorem dX9_init_9 : decode cX9_init 9 = .ok (.aload_n 0, 1) := by decide +kernel
theorem dX9_init_10 : decode cX9_init 10 = .ok (.iload_n 2, 1) := by decide +kernel
theorem dX9_init_11 : decode cX9_init 11 = .ok (.putfield 15, 3) := by decide +kernel
theorem dX9_init_14 : decode cX9_init 14 = .ok (.aload_n 0, 1) := by decide +kernel
theorem dX9_init_15 : decode cX9_init 15 = .ok (.iload_n 3, 1) := by decide +kernel
theorem dX9_init_16 : decode cX9_init 16 = .ok (.putfield 18, 3) := by decide +kernel
theorem dX9_init_19 : decode cX9_init 19 = .ok (.return_, 1) := by decide +kernel
theorem dX9_changeHands_0 : decode cX9_changeHands 0 = .ok (.aload_n 0, 1) := by decide +kernel
theorem dX9_changeHands_1 : decode cX9_changeHands 1 = .ok (.getfield 21, 3) := by decide +kernel
theorem dX9_changeHands_4 : decode cX9_changeHands 4 = .ok (.istore_n 2, 1) := by decide +kernel
theorem dX9_changeHands_5 : decode cX9_changeHands 5 = .ok (.aload_n 0, 1) := by decide +kernel
theorem dX9_changeHands_6 : decode cX9_changeHands 6 = .ok (.iload_n 1, 1) := by decide +kernel
theorem dX9_changeHands_7 : decode cX9_changeHands 7 = .ok (.putfield 21, 3) := by decide +kernel
theorem dX9_changeHands_10 : decode cX9_changeHands 10 = .ok (.iload_n 2, 1) := by decide +kernel
theorem dX9_changeHands_11 : decode cX9_changeHands 11 = .ok (.ireturn, 1) := by decide +kernel
theorem dX9_changeTools_0 : decode cX9_changeTools 0 = .ok (.aload_n 0, 1) := by decide +kernel
theorem dX9_changeTools_1 : decode cX9_changeTools 1 = .ok (.getfield 18, 3) := by decide +kernel
theorem dX9_changeTools_4 : decode cX9_changeTools 4 = .ok (.istore_n 2, 1) := by decide +kernel
theorem dX9_changeTools_5 : decode cX9_changeTools 5 = .ok (.aload_n 0, 1) := by decide +kernel
theorem dX9_changeTools_6 : decode cX9_changeTools 6 = .ok (.iload_n 1, 1) := by decide +kernel
theorem dX9_changeTools_7 : decode cX9_changeTools 7 = .ok (.putfield 18, 3) := by decide +kernel
theorem dX9_changeTools_10 : decode cX9_changeTools 10 = .ok (.iload_n 2, 1) := by decide +kernel
theorem dX9_changeTools_11 : decode cX9_changeTools 11 = .ok (.ireturn, 1) := by decide +kernel
theorem dX9_passWeek_0 : decode cX9_passWeek 0 = .ok (.aload_n 0, 1) := by decide +kernel
theorem dX9_passWeek_1 : decode cX9_passWeek 1 = .ok (.getfield 24, 3) := by decide +kernel
theorem dX9_passWeek_4 : decode cX9_passWeek 4 = .ok (.aload_n 0, 1) := by decide +kernel
theorem dX9_passWeek_5 : decode cX9_passWeek 5 = .ok (.getfield 15, 3) := by decide +kernel
theorem dX9_passWeek_8 : decode cX9_passWeek 8 = .ok (.if_icmp .lt 5, 3) := by decide +kernel
theorem dX9_passWeek_11 : decode cX9_passWeek 11 = .ok (.iconst 0, 1) := by decide +kernel
theorem dX9_passWeek_12 : decode cX9_passWeek 12 = .ok (.ireturn, 1) := by decide +kernel
theorem dX9_passWeek_13 : decode cX9_passWeek 13 = .ok (.aload_n 0, 1) := by decide +kernel
theorem dX9_passWeek_14 : decode cX9_passWeek 14 = .ok (.getfield 21, 3) := by decide +kernel
theorem dX9_passWeek_17 : decode cX9_passWeek 17 = .ok (.aload_n 0, 1) := by decide +kernel
theorem dX9_passWeek_18 : decode cX9_passWeek 18 = .ok (.getfield 18, 3) := by decide +kernel
theorem dX9_passWeek_21 : decode cX9_passWeek 21 = .ok (.invokestatic 27, 3) := by decide +kernel
theorem dX9_passWeek_24 : decode cX9_passWeek 24 = .ok (.istore_n 2, 1) := by decide +kernel
theorem dX9_passWeek_25 : decode cX9_passWeek 25 = .ok (.iconst 4, 1) := by decide +kernel
theorem dX9_passWeek_26 : decode cX9_passWeek 26 = .ok (.iconst 2, 1) := by decide +kernel
theorem dX9_passWeek_27 : decode cX9_passWeek 27 = .ok (.iload_n 1, 1) := by decide +kernel
theorem dX9_passWeek_28 : decode cX9_passWeek 28 = .ok (.imul, 1) := by decide +kernel
theorem dX9_passWeek_29 : decode cX9_passWeek 29 = .ok (.isub, 1) := by decide +kernel
theorem dX9_passWeek_30 : decode cX9_passWeek 30 = .ok (.istore_n 3, 1) := by decide +kernel
theorem dX9_passWeek_31 : decode cX9_passWeek 31 = .ok (.iload_n 2, 1) := by decide +kernel
theorem dX9_passWeek_32 : decode cX9_passWeek 32 = .ok (.iload_n 3, 1) := by decide +kernel
theorem dX9_passWeek_33 : decode cX9_passWeek 33 = .ok (.imul, 1) := by decide +kernel
theorem dX9_passWeek_34 : decode cX9_passWeek 34 = .ok (.aload_n 0, 1) := by decide +kernel
theorem dX9_passWeek_35 : decode cX9_passWeek 35 = .ok (.getfield 15, 3) := by decide +kernel
theorem dX9_passWeek_38 : decode cX9_passWeek 38 = .ok (.aload_n 0, 1) := by decide +kernel
theorem dX9_passWeek_39 : decode cX9_passWeek 39 = .ok (.getfield 24, 3) := by decide +kernel
theorem dX9_passWeek_42 : decode cX9_passWeek 42 = .ok (.isub, 1) := by decide +kernel
theorem dX9_passWeek_43 : decode cX9_passWeek 43 = .ok (.invokestatic 27, 3) := by decide +kernel
theorem dX9_passWeek_46 : decode cX9_passWeek 46 = .ok (.istore 4, 2) := by decide +kernel
theorem dX9_passWeek_48 : decode cX9_passWeek 48 = .ok (.aload_n 0, 1) := by decide +kernel
theorem dX9_passWeek_49 : decode cX9_passWeek 49 = .ok (.dup, 1) := by decide +kernel
theorem dX9_passWeek_50 : decode cX9_passWeek 50 = .ok (.getfield 24, 3) := by decide +kernel
theorem dX9_passWeek_53 : decode cX9_passWeek 53 = .ok (.iload 4, 2) := by decide +kernel
theorem dX9_passWeek_55 : decode cX9_passWeek 55 = .ok (.iadd, 1) := by decide +kernel
theorem dX9_passWeek_56 : decode cX9_passWeek 56 = .ok (.putfield 24, 3) := by decide +kernel
theorem dX9_passWeek_59 : decode cX9_passWeek 59 = .ok (.aload_n 0, 1) := by decide +kernel
theorem dX9_passWeek_60 : decode cX9_passWeek 60 = .ok (.dup, 1) := by decide +kernel
theorem dX9_passWeek_61 : decode cX9_passWeek 61 = .ok (.getfield 33, 3) := by decide +kernel
theorem dX9_passWeek_64 : decode cX9_passWeek 64 = .ok (.aload_n 0, 1) := by decide +kernel
theorem dX9_passWeek_65 : decode cX9_passWeek 65 = .ok (.getfield 21, 3) := by decide +kernel
theorem dX9_passWeek_68 : decode cX9_passWeek 68 = .ok (.iload_n 2, 1) := by decide +kernel
theorem dX9_passWeek_69 : decode cX9_passWeek 69 = .ok (.isub, 1) := by decide +kernel
theorem dX9_passWeek_70 : decode cX9_passWeek 70 = .ok (.iconst 4, 1) := by decide +kernel
theorem dX9_passWeek_71 : decode cX9_passWeek 71 = .ok (.imul, 1) := by decide +kernel
theorem dX9_passWeek_72 : decode cX9_passWeek 72 = .ok (.iadd, 1) := by decide +kernel
theorem dX9_passWeek_73 : decode cX9_passWeek 73 = .ok (.putfield 33, 3) := by decide +kernel
theorem dX9_passWeek_76 : decode cX9_passWeek 76 = .ok (.aload_n 0, 1) := by decide +kernel
theorem dX9_passWeek_77 : decode cX9_passWeek 77 = .ok (.dup, 1) := by decide +kernel
theorem dX9_passWeek_78 : decode cX9_passWeek 78 = .ok (.getfield 36, 3) := by decide +kernel
theorem dX9_passWeek_81 : decode cX9_passWeek 81 = .ok (.iload_n 2, 1) := by decide +kernel
theorem dX9_passWeek_82 : decode cX9_passWeek 82 = .ok (.iconst 4, 1) := by decide +kernel
theorem dX9_passWeek_83 : decode cX9_passWeek 83 = .ok (.iload_n 3, 1) := by decide +kernel
theorem dX9_passWeek_84 : decode cX9_passWeek 84 = .ok (.isub, 1) := by decide +kernel
theorem dX9_passWeek_85 : decode cX9_passWeek 85 = .ok (.imul, 1) := by decide +kernel
theorem dX9_passWeek_86 : decode cX9_passWeek 86 = .ok (.iadd, 1) := by decide +kernel
theorem dX9_passWeek_87 : decode cX9_passWeek 87 = .ok (.putfield 36, 3) := by decide +kernel
theorem dX9_passWeek_90 : decode cX9_passWeek 90 = .ok (.aload_n 0, 1) := by decide +kernel
theorem dX9_passWeek_91 : decode cX9_passWeek 91 = .ok (.dup, 1) := by decide +kernel
theorem dX9_passWeek_92 : decode cX9_passWeek 92 = .ok (.getfield 39, 3) := by decide +kernel
theorem dX9_passWeek_95 : decode cX9_passWeek 95 = .ok (.iload 4, 2) := by decide +kernel
theorem dX9_passWeek_97 : decode cX9_passWeek 97 = .ok (.bipush 9, 2) := by decide +kernel
theorem dX9_passWeek_99 : decode cX9_passWeek 99 = .ok (.iadd, 1) := by decide +kernel
theorem dX9_passWeek_100 : decode cX9_passWeek 100 = .ok (.bipush 10, 2) := by decide +kernel
theorem dX9_passWeek_102 : decode cX9_passWeek 102 = .ok (.idiv, 1) := by decide +kernel
theorem dX9_passWeek_103 : decode cX9_passWeek 103 = .ok (.bipush 10, 2) := by decide +kernel
theorem dX9_passWeek_105 : decode cX9_passWeek 105 = .ok (.imul, 1) := by decide +kernel
theorem dX9_passWeek_106 : decode cX9_passWeek 106 = .ok (.iadd, 1) := by decide +kernel
theorem dX9_passWeek_107 : decode cX9_passWeek 107 = .ok (.putfield 39, 3) := by decide +kernel
theorem dX9_passWeek_110 : decode cX9_passWeek 110 = .ok (.iload 4, 2) := by decide +kernel
theorem dX9_passWeek_112 : decode cX9_passWeek 112 = .ok (.ireturn, 1) := by decide +kernel
theorem dX9_fact_0 : decode cX9_fact 0 = .ok (.iload_n 1, 1) := by decide +kernel
theorem dX9_fact_1 : decode cX9_fact 1 = .ok (.tableswitch 69 0 5 #[39, 44, 49, 54, 59, 64], 39) := by decide +kernel
theorem dX9_fact_40 : decode cX9_fact 40 = .ok (.aload_n 0, 1) := by decide +kernel
theorem dX9_fact_41 : decode cX9_fact 41 = .ok (.getfield 9, 3) := by decide +kernel
theorem dX9_fact_44 : decode cX9_fact 44 = .ok (.ireturn, 1) := by decide +kernel
theorem dX9_fact_45 : decode cX9_fact 45 = .ok (.aload_n 0, 1) := by decide +kernel
theorem dX9_fact_46 : decode cX9_fact 46 = .ok (.getfield 15, 3) := by decide +kernel
theorem dX9_fact_49 : decode cX9_fact 49 = .ok (.ireturn, 1) := by decide +kernel
theorem dX9_fact_50 : decode cX9_fact 50 = .ok (.aload_n 0, 1) := by decide +kernel
theorem dX9_fact_51 : decode cX9_fact 51 = .ok (.getfield 24, 3) := by decide +kernel
theorem dX9_fact_54 : decode cX9_fact 54 = .ok (.ireturn, 1) := by decide +kernel
theorem dX9_fact_55 : decode cX9_fact 55 = .ok (.aload_n 0, 1) := by decide +kernel
theorem dX9_fact_56 : decode cX9_fact 56 = .ok (.getfield 33, 3) := by decide +kernel
theorem dX9_fact_59 : decode cX9_fact 59 = .ok (.ireturn, 1) := by decide +kernel
theorem dX9_fact_60 : decode cX9_fact 60 = .ok (.aload_n 0, 1) := by decide +kernel
theorem dX9_fact_61 : decode cX9_fact 61 = .ok (.getfield 36, 3) := by decide +kernel
theorem dX9_fact_64 : decode cX9_fact 64 = .ok (.ireturn, 1) := by decide +kernel
theorem dX9_fact_65 : decode cX9_fact 65 = .ok (.aload_n 0, 1) := by decide +kernel
theorem dX9_fact_66 : decode cX9_fact 66 = .ok (.getfield 39, 3) := by decide +kernel
theorem dX9_fact_69 : decode cX9_fact 69 = .ok (.ireturn, 1) := by decide +kernel
theorem dX9_fact_70 : decode cX9_fact 70 = .ok (.bipush (-2), 2) := by decide +kernel
theorem dX9_fact_72 : decode cX9_fact 72 = .ok (.ireturn, 1) := by decide +kernel
theorem dX10_init_0 : decode cX10_init 0 = .ok (.aload_n 0, 1) := by decide +kernel
theorem dX10_init_1 : decode cX10_init 1 = .ok (.invokespecial 3, 3) := by decide +kernel
theorem dX10_init_4 : decode cX10_init 4 = .ok (.aload_n 0, 1) := by decide +kernel
theorem dX10_init_5 : decode cX10_init 5 = .ok (.bipush 8, 2) := by decide +kernel
theorem dX10_init_7 : decode cX10_init 7 = .ok (.anewarray 11, 3) := by decide +kernel
theorem dX10_init_10 : decode cX10_init 10 = .ok (.putfield 13, 3) := by decide +kernel
theorem dX10_init_13 : decode cX10_init 13 = .ok (.aload_n 0, 1) := by decide +kernel
theorem dX10_init_14 : decode cX10_init 14 = .ok (.bipush 8, 2) := by decide +kernel
theorem dX10_init_16 : decode cX10_init 16 = .ok (.newarray .int, 2) := by decide +kernel
theorem dX10_init_18 : decode cX10_init 18 = .ok (.putfield 17, 3) := by decide +kernel
theorem dX10_init_21 : decode cX10_init 21 = .ok (.aload_n 0, 1) := by decide +kernel
theorem dX10_init_22 : decode cX10_init 22 = .ok (.iconst 1, 1) := by decide +kernel
theorem dX10_init_23 : decode cX10_init 23 = .ok (.putfield 21, 3) := by decide +kernel
theorem dX10_init_26 : decode cX10_init 26 = .ok (.aload_n 0, 1) := by decide +kernel
theorem dX10_init_27 : decode cX10_init 27 = .ok (.iconst 5, 1) := by decide +kernel
theorem dX10_init_28 : decode cX10_init 28 = .ok (.newarray .int, 2) := by decide +kernel
theorem dX10_init_30 : decode cX10_init 30 = .ok (.dup, 1) := by decide +kernel
theorem dX10_init_31 : decode cX10_init 31 = .ok (.iconst 0, 1) := by decide +kernel
theorem dX10_init_32 : decode cX10_init 32 = .ok (.iconst 1, 1) := by decide +kernel
theorem dX10_init_33 : decode cX10_init 33 = .ok (.iastore, 1) := by decide +kernel
theorem dX10_init_34 : decode cX10_init 34 = .ok (.dup, 1) := by decide +kernel
theorem dX10_init_35 : decode cX10_init 35 = .ok (.iconst 1, 1) := by decide +kernel
theorem dX10_init_36 : decode cX10_init 36 = .ok (.iconst 1, 1) := by decide +kernel
theorem dX10_init_37 : decode cX10_init 37 = .ok (.iastore, 1) := by decide +kernel
theorem dX10_init_38 : decode cX10_init 38 = .ok (.dup, 1) := by decide +kernel
theorem dX10_init_39 : decode cX10_init 39 = .ok (.iconst 2, 1) := by decide +kernel
theorem dX10_init_40 : decode cX10_init 40 = .ok (.iconst 1, 1) := by decide +kernel
theorem dX10_init_41 : decode cX10_init 41 = .ok (.iastore, 1) := by decide +kernel
theorem dX10_init_42 : decode cX10_init 42 = .ok (.dup, 1) := by decide +kernel
theorem dX10_init_43 : decode cX10_init 43 = .ok (.iconst 3, 1) := by decide +kernel
theorem dX10_init_44 : decode cX10_init 44 = .ok (.iconst 1, 1) := by decide +kernel
theorem dX10_init_45 : decode cX10_init 45 = .ok (.iastore, 1) := by decide +kernel
theorem dX10_init_46 : decode cX10_init 46 = .ok (.dup, 1) := by decide +kernel
theorem dX10_init_47 : decode cX10_init 47 = .ok (.iconst 4, 1) := by decide +kernel
theorem dX10_init_48 : decode cX10_init 48 = .ok (.iconst 1, 1) := by decide +kernel
theorem dX10_init_49 : decode cX10_init 49 = .ok (.iastore, 1) := by decide +kernel
theorem dX10_init_50 : decode cX10_init 50 = .ok (.putfield 25, 3) := by decide +kernel
theorem dX10_init_53 : decode cX10_init 53 = .ok (.aload_n 0, 1) := by decide +kernel
theorem dX10_init_54 : decode cX10_init 54 = .ok (.iconst 5, 1) := by decide +kernel
theorem dX10_init_55 : decode cX10_init 55 = .ok (.newarray .int, 2) := by decide +kernel
theorem dX10_init_57 : decode cX10_init 57 = .ok (.dup, 1) := by decide +kernel
theorem dX10_init_58 : decode cX10_init 58 = .ok (.iconst 0, 1) := by decide +kernel
theorem dX10_init_59 : decode cX10_init 59 = .ok (.iconst 1, 1) := by decide +kernel
theorem dX10_init_60 : decode cX10_init 60 = .ok (.iastore, 1) := by decide +kernel
theorem dX10_init_61 : decode cX10_init 61 = .ok (.dup, 1) := by decide +kernel
theorem dX10_init_62 : decode cX10_init 62 = .ok (.iconst 1, 1) := by decide +kernel
theorem dX10_init_63 : decode cX10_init 63 = .ok (.iconst 1, 1) := by decide +kernel
theorem dX10_init_64 : decode cX10_init 64 = .ok (.iastore, 1) := by decide +kernel
theorem dX10_init_65 : decode cX10_init 65 = .ok (.dup, 1) := by decide +kernel
theorem dX10_init_66 : decode cX10_init 66 = .ok (.iconst 2, 1) := by decide +kernel
theorem dX10_init_67 : decode cX10_init 67 = .ok (.iconst 1, 1) := by decide +kernel
theorem dX10_init_68 : decode cX10_init 68 = .ok (.iastore, 1) := by decide +kernel
theorem dX10_init_69 : decode cX10_init 69 = .ok (.dup, 1) := by decide +kernel
theorem dX10_init_70 : decode cX10_init 70 = .ok (.iconst 3, 1) := by decide +kernel
theorem dX10_init_71 : decode cX10_init 71 = .ok (.iconst 1, 1) := by decide +kernel
theorem dX10_init_72 : decode cX10_init 72 = .ok (.iastore, 1) := by decide +kernel
theorem dX10_init_73 : decode cX10_init 73 = .ok (.dup, 1) := by decide +kernel
theorem dX10_init_74 : decode cX10_init 74 = .ok (.iconst 4, 1) := by decide +kernel
theorem dX10_init_75 : decode cX10_init 75 = .ok (.iconst 1, 1) := by decide +kernel
theorem dX10_init_76 : decode cX10_init 76 = .ok (.iastore, 1) := by decide +kernel
theorem dX10_init_77 : decode cX10_init 77 = .ok (.putfield 28, 3) := by decide +kernel
theorem dX10_init_80 : decode cX10_init 80 = .ok (.return_, 1) := by decide +kernel
theorem dX10_at_0 : decode cX10_at 0 = .ok (.iload_n 1, 1) := by decide +kernel
theorem dX10_at_1 : decode cX10_at 1 = .ok (.iconst 0, 1) := by decide +kernel
theorem dX10_at_2 : decode cX10_at 2 = .ok (.bipush 7, 2) := by decide +kernel
theorem dX10_at_4 : decode cX10_at 4 = .ok (.invokestatic 31, 3) := by decide +kernel
theorem dX10_at_7 : decode cX10_at 7 = .ok (.ifCond .eq 12, 3) := by decide +kernel
theorem dX10_at_10 : decode cX10_at 10 = .ok (.aload_n 0, 1) := by decide +kernel
theorem dX10_at_11 : decode cX10_at 11 = .ok (.getfield 13, 3) := by decide +kernel
theorem dX10_at_14 : decode cX10_at 14 = .ok (.iload_n 1, 1) := by decide +kernel
theorem dX10_at_15 : decode cX10_at 15 = .ok (.aaload, 1) := by decide +kernel
theorem dX10_at_16 : decode cX10_at 16 = .ok (.goto 4, 3) := by decide +kernel
theorem dX10_at_19 : decode cX10_at 19 = .ok (.aconst_null, 1) := by decide +kernel
theorem dX10_at_20 : decode cX10_at 20 = .ok (.areturn, 1) := by decide +kernel
theorem dX10_add_0 : decode cX10_add 0 = .ok (.aload_n 0, 1) := by decide +kernel
theorem dX10_add_1 : decode cX10_add 1 = .ok (.getfield 35, 3) := by decide +kernel
theorem dX10_add_4 : decode cX10_add 4 = .ok (.bipush 8, 2) := by decide +kernel
theorem dX10_add_6 : decode cX10_add 6 = .ok (.if_icmp .lt 6, 3) := by decide +kernel
theorem dX10_add_9 : decode cX10_add 9 = .ok (.bipush (-4), 2) := by decide +kernel
theorem dX10_add_11 : decode cX10_add 11 = .ok (.ireturn, 1) := by decide +kernel
theorem dX10_add_12 : decode cX10_add 12 = .ok (.aload_n 0, 1) := by decide +kernel
theorem dX10_add_13 : decode cX10_add 13 = .ok (.getfield 13, 3) := by decide +kernel
theorem dX10_add_16 : decode cX10_add 16 = .ok (.aload_n 0, 1) := by decide +kernel
theorem dX10_add_17 : decode cX10_add 17 = .ok (.getfield 35, 3) := by decide +kernel
theorem dX10_add_20 : decode cX10_add 20 = .ok (.new 11, 3) := by decide +kernel
theorem dX10_add_23 : decode cX10_add 23 = .ok (.dup, 1) := by decide +kernel
theorem dX10_add_24 : decode cX10_add 24 = .ok (.iload_n 1, 1) := by decide +kernel
theorem dX10_add_25 : decode cX10_add 25 = .ok (.iload_n 2, 1) := by decide +kernel
theorem dX10_add_26 : decode cX10_add 26 = .ok (.iload_n 3, 1) := by decide +kernel
theorem dX10_add_27 : decode cX10_add 27 = .ok (.invokespecial 38, 3) := by decide +kernel
theorem dX10_add_30 : decode cX10_add 30 = .ok (.aastore, 1) := by decide +kernel
theorem dX10_add_31 : decode cX10_add 31 = .ok (.aload_n 0, 1) := by decide +kernel
theorem dX10_add_32 : decode cX10_add 32 = .ok (.dup, 1) := by decide +kernel
theorem dX10_add_33 : decode cX10_add 33 = .ok (.getfield 35, 3) := by decide +kernel
theorem dX10_add_36 : decode cX10_add 36 = .ok (.iconst 1, 1) := by decide +kernel
theorem dX10_add_37 : decode cX10_add 37 = .ok (.iadd, 1) := by decide +kernel
theorem dX10_add_38 : decode cX10_add 38 = .ok (.putfield 35, 3) := by decide +kernel
theorem dX10_add_41 : decode cX10_add 41 = .ok (.aload_n 0, 1) := by decide +kernel
theorem dX10_add_42 : decode cX10_add 42 = .ok (.getfield 35, 3) := by decide +kernel
theorem dX10_add_45 : decode cX10_add 45 = .ok (.iconst 1, 1) := by decide +kernel
theorem dX10_add_46 : decode cX10_add 46 = .ok (.isub, 1) := by decide +kernel
theorem dX10_add_47 : decode cX10_add 47 = .ok (.ireturn, 1) := by decide +kernel
theorem dX10_takeWeather_0 : decode cX10_takeWeather 0 = .ok (.iload_n 3, 1) := by decide +kernel
theorem dX10_takeWeather_1 : decode cX10_takeWeather 1 = .ok (.iconst 1, 1) := by decide +kernel
theorem dX10_takeWeather_2 : decode cX10_takeWeather 2 = .ok (.bipush 8, 2) := by decide +kernel
theorem dX10_takeWeather_4 : decode cX10_takeWeather 4 = .ok (.invokestatic 31, 3) := by decide +kernel
theorem dX10_takeWeather_7 : decode cX10_takeWeather 7 = .ok (.ifCond .eq 13, 3) := by decide +kernel
theorem dX10_takeWeather_10 : decode cX10_takeWeather 10 = .ok (.aload_n 1, 1) := by decide +kernel
theorem dX10_takeWeather_11 : decode cX10_takeWeather 11 = .ok (.iload_n 2, 1) := by decide +kernel
theorem dX10_takeWeather_12 : decode cX10_takeWeather 12 = .ok (.iload_n 3, 1) := by decide +kernel
theorem dX10_takeWeather_13 : decode cX10_takeWeather 13 = .ok (.iconst 2, 1) := by decide +kernel
theorem dX10_takeWeather_14 : decode cX10_takeWeather 14 = .ok (.invokevirtual 41, 3) := by decide +kernel
theorem dX10_takeWeather_17 : decode cX10_takeWeather 17 = .ok (.ifCond .ne 5, 3) := by decide +kernel
theorem dX10_takeWeather_20 : decode cX10_takeWeather 20 = .ok (.iconst 0, 1) := by decide +kernel
theorem dX10_takeWeather_21 : decode cX10_takeWeather 21 = .ok (.ireturn, 1) := by decide +kernel
theorem dX10_takeWeather_22 : decode cX10_takeWeather 22 = .ok (.aload_n 1, 1) := by decide +kernel
theorem dX10_takeWeather_23 : decode cX10_takeWeather 23 = .ok (.aload_n 0, 1) := by decide +kernel
theorem dX10_takeWeather_24 : decode cX10_takeWeather 24 = .ok (.getfield 17, 3) := by decide +kernel
theorem dX10_takeWeather_27 : decode cX10_takeWeather 27 = .ok (.iload_n 2, 1) := by decide +kernel
theorem dX10_takeWeather_28 : decode cX10_takeWeather 28 = .ok (.iload_n 3, 1) := by decide +kernel
theorem dX10_takeWeather_29 : decode cX10_takeWeather 29 = .ok (.invokevirtual 46, 3) := by decide +kernel
theorem dX10_takeWeather_32 : decode cX10_takeWeather 32 = .ok (.aload_n 0, 1) := by decide +kernel
theorem dX10_takeWeather_33 : decode cX10_takeWeather 33 = .ok (.iload_n 3, 1) := by decide +kernel
theorem dX10_takeWeather_34 : decode cX10_takeWeather 34 = .ok (.putfield 21, 3) := by decide +kernel
theorem dX10_takeWeather_37 : decode cX10_takeWeather 37 = .ok (.iconst 1, 1) := by decide +kernel
theorem dX10_takeWeather_38 : decode cX10_takeWeather 38 = .ok (.ireturn, 1) := by decide +kernel
theorem dX10_passWeek_0 : decode cX10_passWeek 0 = .ok (.aload_n 0, 1) := by decide +kernel
theorem dX10_passWeek_1 : decode cX10_passWeek 1 = .ok (.getfield 17, 3) := by decide +kernel
theorem dX10_passWeek_4 : decode cX10_passWeek 4 = .ok (.aload_n 0, 1) := by decide +kernel
theorem dX10_passWeek_5 : decode cX10_passWeek 5 = .ok (.getfield 50, 3) := by decide +kernel
theorem dX10_passWeek_8 : decode cX10_passWeek 8 = .ok (.aload_n 0, 1) := by decide +kernel
theorem dX10_passWeek_9 : decode cX10_passWeek 9 = .ok (.getfield 21, 3) := by decide +kernel
theorem dX10_passWeek_12 : decode cX10_passWeek 12 = .ok (.invokestatic 53, 3) := by decide +kernel
theorem dX10_passWeek_15 : decode cX10_passWeek 15 = .ok (.iaload, 1) := by decide +kernel
theorem dX10_passWeek_16 : decode cX10_passWeek 16 = .ok (.istore_n 1, 1) := by decide +kernel
theorem dX10_passWeek_17 : decode cX10_passWeek 17 = .ok (.aload_n 0, 1) := by decide +kernel
theorem dX10_passWeek_18 : decode cX10_passWeek 18 = .ok (.dup, 1) := by decide +kernel
theorem dX10_passWeek_19 : decode cX10_passWeek 19 = .ok (.getfield 50, 3) := by decide +kernel
theorem dX10_passWeek_22 : decode cX10_passWeek 22 = .ok (.iconst 1, 1) := by decide +kernel
theorem dX10_passWeek_23 : decode cX10_passWeek 23 = .ok (.iadd, 1) := by decide +kernel
theorem dX10_passWeek_24 : decode cX10_passWeek 24 = .ok (.putfield 50, 3) := by decide +kernel
theorem dX10_passWeek_27 : decode cX10_passWeek 27 = .ok (.iconst 0, 1) := by decide +kernel
theorem dX10_passWeek_28 : decode cX10_passWeek 28 = .ok (.istore_n 2, 1) := by decide +kernel
theorem dX10_passWeek_29 : decode cX10_passWeek 29 = .ok (.aload_n 0, 1) := by decide +kernel
theorem dX10_passWeek_30 : decode cX10_passWeek 30 = .ok (.getfield 13, 3) := by decide +kernel
theorem dX10_passWeek_33 : decode cX10_passWeek 33 = .ok (.astore_n 3, 1) := by decide +kernel
theorem dX10_passWeek_34 : decode cX10_passWeek 34 = .ok (.aload_n 3, 1) := by decide +kernel
theorem dX10_passWeek_35 : decode cX10_passWeek 35 = .ok (.arraylength, 1) := by decide +kernel
theorem dX10_passWeek_36 : decode cX10_passWeek 36 = .ok (.istore 4, 2) := by decide +kernel
theorem dX10_passWeek_38 : decode cX10_passWeek 38 = .ok (.iconst 0, 1) := by decide +kernel
theorem dX10_passWeek_39 : decode cX10_passWeek 39 = .ok (.istore 5, 2) := by decide +kernel
theorem dX10_passWeek_41 : decode cX10_passWeek 41 = .ok (.iload 5, 2) := by decide +kernel
theorem dX10_passWeek_43 : decode cX10_passWeek 43 = .ok (.iload 4, 2) := by decide +kernel
theorem dX10_passWeek_45 : decode cX10_passWeek 45 = .ok (.if_icmp .ge 29, 3) := by decide +kernel
theorem dX10_passWeek_48 : decode cX10_passWeek 48 = .ok (.aload_n 3, 1) := by decide +kernel
theorem dX10_passWeek_49 : decode cX10_passWeek 49 = .ok (.iload 5, 2) := by decide +kernel
theorem dX10_passWeek_51 : decode cX10_passWeek 51 = .ok (.aaload, 1) := by decide +kernel
theorem dX10_passWeek_52 : decode cX10_passWeek 52 = .ok (.astore 6, 2) := by decide +kernel
theorem dX10_passWeek_54 : decode cX10_passWeek 54 = .ok (.aload 6, 2) := by decide +kernel
theorem dX10_passWeek_56 : decode cX10_passWeek 56 = .ok (.ifnull 12, 3) := by decide +kernel
theorem dX10_passWeek_59 : decode cX10_passWeek 59 = .ok (.iload_n 2, 1) := by decide +kernel
theorem dX10_passWeek_60 : decode cX10_passWeek 60 = .ok (.aload 6, 2) := by decide +kernel
theorem dX10_passWeek_62 : decode cX10_passWeek 62 = .ok (.iload_n 1, 1) := by decide +kernel
theorem dX10_passWeek_63 : decode cX10_passWeek 63 = .ok (.invokevirtual 57, 3) := by decide +kernel
theorem dX10_passWeek_66 : decode cX10_passWeek 66 = .ok (.iadd, 1) := by decide +kernel
theorem dX10_passWeek_67 : decode cX10_passWeek 67 = .ok (.istore_n 2, 1) := by decide +kernel
theorem dX10_passWeek_68 : decode cX10_passWeek 68 = .ok (.iinc 5 1, 3) := by decide +kernel
theorem dX10_passWeek_71 : decode cX10_passWeek 71 = .ok (.goto (-30), 3) := by decide +kernel
theorem dX10_passWeek_74 : decode cX10_passWeek 74 = .ok (.iload_n 2, 1) := by decide +kernel
theorem dX10_passWeek_75 : decode cX10_passWeek 75 = .ok (.ireturn, 1) := by decide +kernel
theorem dX10_changeLevel_0 : decode cX10_changeLevel 0 = .ok (.iload_n 2, 1) := by decide +kernel
theorem dX10_changeLevel_1 : decode cX10_changeLevel 1 = .ok (.aload_n 0, 1) := by decide +kernel
theorem dX10_changeLevel_2 : decode cX10_changeLevel 2 = .ok (.getfield 25, 3) := by decide +kernel
theorem dX10_changeLevel_5 : decode cX10_changeLevel 5 = .ok (.iload_n 1, 1) := by decide +kernel
theorem dX10_changeLevel_6 : decode cX10_changeLevel 6 = .ok (.iaload, 1) := by decide +kernel
theorem dX10_changeLevel_7 : decode cX10_changeLevel 7 = .ok (.if_icmp .ne 13, 3) := by decide +kernel
theorem dX10_changeLevel_10 : decode cX10_changeLevel 10 = .ok (.iload_n 3, 1) := by decide +kernel
theorem dX10_changeLevel_11 : decode cX10_changeLevel 11 = .ok (.aload_n 0, 1) := by decide +kernel
theorem dX10_changeLevel_12 : decode cX10_changeLevel 12 = .ok (.getfield 28, 3) := by decide +kernel
theorem dX10_changeLevel_15 : decode cX10_changeLevel 15 = .ok (.iload_n 1, 1) := by decide +kernel
theorem dX10_changeLevel_16 : decode cX10_changeLevel 16 = .ok (.iaload, 1) := by decide +kernel
theorem dX10_changeLevel_17 : decode cX10_changeLevel 17 = .ok (.if_icmp .eq 7, 3) := by decide +kernel
theorem dX10_changeLevel_20 : decode cX10_changeLevel 20 = .ok (.iconst 1, 1) := by decide +kernel
theorem dX10_changeLevel_21 : decode cX10_changeLevel 21 = .ok (.goto 4, 3) := by decide +kernel
theorem dX10_changeLevel_24 : decode cX10_changeLevel 24 = .ok (.iconst 0, 1) := by decide +kernel
theorem dX10_changeLevel_25 : decode cX10_changeLevel 25 = .ok (.istore 4, 2) := by decide +kernel
theorem dX10_changeLevel_27 : decode cX10_changeLevel 27 = .ok (.aload_n 0, 1) := by decide +kernel
theorem dX10_changeLevel_28 : decode cX10_changeLevel 28 = .ok (.getfield 25, 3) := by decide +kernel
theorem dX10_changeLevel_31 : decode cX10_changeLevel 31 = .ok (.iload_n 1, 1) := by decide +kernel
theorem dX10_changeLevel_32 : decode cX10_changeLevel 32 = .ok (.iload_n 2, 1) := by decide +kernel
theorem dX10_changeLevel_33 : decode cX10_changeLevel 33 = .ok (.iastore, 1) := by decide +kernel
theorem dX10_changeLevel_34 : decode cX10_changeLevel 34 = .ok (.aload_n 0, 1) := by decide +kernel
theorem dX10_changeLevel_35 : decode cX10_changeLevel 35 = .ok (.getfield 28, 3) := by decide +kernel
theorem dX10_changeLevel_38 : decode cX10_changeLevel 38 = .ok (.iload_n 1, 1) := by decide +kernel
theorem dX10_changeLevel_39 : decode cX10_changeLevel 39 = .ok (.iload_n 3, 1) := by decide +kernel
theorem dX10_changeLevel_40 : decode cX10_changeLevel 40 = .ok (.iastore, 1) := by decide +kernel
theorem dX10_changeLevel_41 : decode cX10_changeLevel 41 = .ok (.iload 4, 2) := by decide +kernel
theorem dX10_changeLevel_43 : decode cX10_changeLevel 43 = .ok (.ireturn, 1) := by decide +kernel
theorem dX10_toldOnBy_0 : decode cX10_toldOnBy 0 = .ok (.lload_n 2, 1) := by decide +kernel
theorem dX10_toldOnBy_1 : decode cX10_toldOnBy 1 = .ok (.aload_n 0, 1) := by decide +kernel
theorem dX10_toldOnBy_2 : decode cX10_toldOnBy 2 = .ok (.getfield 25, 3) := by decide +kernel
theorem dX10_toldOnBy_5 : decode cX10_toldOnBy 5 = .ok (.iload_n 1, 1) := by decide +kernel
theorem dX10_toldOnBy_6 : decode cX10_toldOnBy 6 = .ok (.iaload, 1) := by decide +kernel
theorem dX10_toldOnBy_7 : decode cX10_toldOnBy 7 = .ok (.i2l, 1) := by decide +kernel
theorem dX10_toldOnBy_8 : decode cX10_toldOnBy 8 = .ok (.lmul, 1) := by decide +kernel
theorem dX10_toldOnBy_9 : decode cX10_toldOnBy 9 = .ok (.aload_n 0, 1) := by decide +kernel
theorem dX10_toldOnBy_10 : decode cX10_toldOnBy 10 = .ok (.getfield 28, 3) := by decide +kernel
theorem dX10_toldOnBy_13 : decode cX10_toldOnBy 13 = .ok (.iload_n 1, 1) := by decide +kernel
theorem dX10_toldOnBy_14 : decode cX10_toldOnBy 14 = .ok (.iaload, 1) := by decide +kernel
theorem dX10_toldOnBy_15 : decode cX10_toldOnBy 15 = .ok (.i2l, 1) := by decide +kernel
theorem dX10_toldOnBy_16 : decode cX10_toldOnBy 16 = .ok (.ladd, 1) := by decide +kernel
theorem dX10_toldOnBy_17 : decode cX10_toldOnBy 17 = .ok (.lconst 1, 1) := by decide +kernel
theorem dX10_toldOnBy_18 : decode cX10_toldOnBy 18 = .ok (.lsub, 1) := by decide +kernel
theorem dX10_toldOnBy_19 : decode cX10_toldOnBy 19 = .ok (.aload_n 0, 1) := by decide +kernel
theorem dX10_toldOnBy_20 : decode cX10_toldOnBy 20 = .ok (.getfield 28, 3) := by decide +kernel
theorem dX10_toldOnBy_23 : decode cX10_toldOnBy 23 = .ok (.iload_n 1, 1) := by decide +kernel
theorem dX10_toldOnBy_24 : decode cX10_toldOnBy 24 = .ok (.iaload, 1) := by decide +kernel
theorem dX10_toldOnBy_25 : decode cX10_toldOnBy 25 = .ok (.i2l, 1) := by decide +kernel
theorem dX10_toldOnBy_26 : decode cX10_toldOnBy 26 = .ok (.invokestatic 61, 3) := by decide +kernel
theorem dX10_toldOnBy_29 : decode cX10_toldOnBy 29 = .ok (.lreturn, 1) := by decide +kernel
theorem dX10_toldBehind_0 : decode cX10_toldBehind 0 = .ok (.aload_n 1, 1) := by decide +kernel
theorem dX10_toldBehind_1 : decode cX10_toldBehind 1 = .ok (.getfield 65, 3) := by decide +kernel
theorem dX10_toldBehind_4 : decode cX10_toldBehind 4 = .ok (.i2l, 1) := by decide +kernel
theorem dX10_toldBehind_5 : decode cX10_toldBehind 5 = .ok (.lstore_n 3, 1) := by decide +kernel
theorem dX10_toldBehind_6 : decode cX10_toldBehind 6 = .ok (.iconst 0, 1) := by decide +kernel
theorem dX10_toldBehind_7 : decode cX10_toldBehind 7 = .ok (.istore 5, 2) := by decide +kernel
theorem dX10_toldBehind_9 : decode cX10_toldBehind 9 = .ok (.iload 5, 2) := by decide +kernel
theorem dX10_toldBehind_11 : decode cX10_toldBehind 11 = .ok (.iload_n 2, 1) := by decide +kernel
theorem dX10_toldBehind_12 : decode cX10_toldBehind 12 = .ok (.if_icmp .gt 17, 3) := by decide +kernel
theorem dX10_toldBehind_15 : decode cX10_toldBehind 15 = .ok (.aload_n 0, 1) := by decide +kernel
theorem dX10_toldBehind_16 : decode cX10_toldBehind 16 = .ok (.iload 5, 2) := by decide +kernel
theorem dX10_toldBehind_18 : decode cX10_toldBehind 18 = .ok (.lload_n 3, 1) := by decide +kernel
theorem dX10_toldBehind_19 : decode cX10_toldBehind 19 = .ok (.invokevirtual 68, 3) := by decide +kernel
theorem dX10_toldBehind_22 : decode cX10_toldBehind 22 = .ok (.lstore_n 3, 1) := by decide +kernel
theorem dX10_toldBehind_23 : decode cX10_toldBehind 23 = .ok (.iinc 5 1, 3) := by decide +kernel
theorem dX10_toldBehind_26 : decode cX10_toldBehind 26 = .ok (.goto (-17), 3) := by decide +kernel
theorem dX10_toldBehind_29 : decode cX10_toldBehind 29 = .ok (.lload_n 3, 1) := by decide +kernel
theorem dX10_toldBehind_30 : decode cX10_toldBehind 30 = .ok (.lreturn, 1) := by decide +kernel
theorem dX10_greatestGrowth_0 : decode cX10_greatestGrowth 0 = .ok (.bipush (-9), 2) := by decide +kernel
theorem dX10_greatestGrowth_2 : decode cX10_greatestGrowth 2 = .ok (.istore_n 2, 1) := by decide +kernel
theorem dX10_greatestGrowth_3 : decode cX10_greatestGrowth 3 = .ok (.lconst 0, 1) := by decide +kernel
theorem dX10_greatestGrowth_4 : decode cX10_greatestGrowth 4 = .ok (.lstore_n 3, 1) := by decide +kernel
theorem dX10_greatestGrowth_5 : decode cX10_greatestGrowth 5 = .ok (.aload_n 1, 1) := by decide +kernel
theorem dX10_greatestGrowth_6 : decode cX10_greatestGrowth 6 = .ok (.getfield 65, 3) := by decide +kernel
theorem dX10_greatestGrowth_9 : decode cX10_greatestGrowth 9 = .ok (.i2l, 1) := by decide +kernel
theorem dX10_greatestGrowth_10 : decode cX10_greatestGrowth 10 = .ok (.lstore 5, 2) := by decide +kernel
theorem dX10_greatestGrowth_12 : decode cX10_greatestGrowth 12 = .ok (.iconst 0, 1) := by decide +kernel
theorem dX10_greatestGrowth_13 : decode cX10_greatestGrowth 13 = .ok (.istore 7, 2) := by decide +kernel
theorem dX10_greatestGrowth_15 : decode cX10_greatestGrowth 15 = .ok (.iload 7, 2) := by decide +kernel
theorem dX10_greatestGrowth_17 : decode cX10_greatestGrowth 17 = .ok (.iconst 5, 1) := by decide +kernel
theorem dX10_greatestGrowth_18 : decode cX10_greatestGrowth 18 = .ok (.if_icmp .ge 42, 3) := by decide +kernel
theorem dX10_greatestGrowth_21 : decode cX10_greatestGrowth 21 = .ok (.aload_n 0, 1) := by decide +kernel
theorem dX10_greatestGrowth_22 : decode cX10_greatestGrowth 22 = .ok (.iload 7, 2) := by decide +kernel
theorem dX10_greatestGrowth_24 : decode cX10_greatestGrowth 24 = .ok (.lload 5, 2) := by decide +kernel
theorem dX10_greatestGrowth_26 : decode cX10_greatestGrowth 26 = .ok (.invokevirtual 68, 3) := by decide +kernel
theorem dX10_greatestGrowth_29 : decode cX10_greatestGrowth 29 = .ok (.lstore 8, 2) := by decide +kernel
theorem dX10_greatestGrowth_31 : decode cX10_greatestGrowth 31 = .ok (.lload 8, 2) := by decide +kernel
theorem dX10_greatestGrowth_33 : decode cX10_greatestGrowth 33 = .ok (.lload 5, 2) := by decide +kernel
theorem dX10_greatestGrowth_35 : decode cX10_greatestGrowth 35 = .ok (.lsub, 1) := by decide +kernel
theorem dX10_greatestGrowth_36 : decode cX10_greatestGrowth 36 = .ok (.lload_n 3, 1) := by decide +kernel
theorem dX10_greatestGrowth_37 : decode cX10_greatestGrowth 37 = .ok (.lcmp, 1) := by decide +kernel
theorem dX10_greatestGrowth_38 : decode cX10_greatestGrowth 38 = .ok (.ifCond .le 12, 3) := by decide +kernel
theorem dX10_greatestGrowth_41 : decode cX10_greatestGrowth 41 = .ok (.lload 8, 2) := by decide +kernel
theorem dX10_greatestGrowth_43 : decode cX10_greatestGrowth 43 = .ok (.lload 5, 2) := by decide +kernel
theorem dX10_greatestGrowth_45 : decode cX10_greatestGrowth 45 = .ok (.lsub, 1) := by decide +kernel
theorem dX10_greatestGrowth_46 : decode cX10_greatestGrowth 46 = .ok (.lstore_n 3, 1) := by decide +kernel
theorem dX10_greatestGrowth_47 : decode cX10_greatestGrowth 47 = .ok (.iload 7, 2) := by decide +kernel
theorem dX10_greatestGrowth_49 : decode cX10_greatestGrowth 49 = .ok (.istore_n 2, 1) := by decide +kernel
theorem dX10_greatestGrowth_50 : decode cX10_greatestGrowth 50 = .ok (.lload 8, 2) := by decide +kernel
theorem dX10_greatestGrowth_52 : decode cX10_greatestGrowth 52 = .ok (.lstore 5, 2) := by decide +kernel
theorem dX10_greatestGrowth_54 : decode cX10_greatestGrowth 54 = .ok (.iinc 7 1, 3) := by decide +kernel
theorem dX10_greatestGrowth_57 : decode cX10_greatestGrowth 57 = .ok (.goto (-42), 3) := by decide +kernel
theorem dX10_greatestGrowth_60 : decode cX10_greatestGrowth 60 = .ok (.iload_n 2, 1) := by decide +kernel
theorem dX10_greatestGrowth_61 : decode cX10_greatestGrowth 61 = .ok (.ireturn, 1) := by decide +kernel
theorem dJ6_bitCount_0f7a4_0 : decode cJ6_bitCount_0f7a4 0 = .ok (.iload_n 0, 1) := by decide +kernel
theorem dJ6_bitCount_0f7a4_1 : decode cJ6_bitCount_0f7a4 1 = .ok (.iload_n 0, 1) := by decide +kernel
theorem dJ6_bitCount_0f7a4_2 : decode cJ6_bitCount_0f7a4 2 = .ok (.iconst 1, 1) := by decide +kernel
theorem dJ6_bitCount_0f7a4_3 : decode cJ6_bitCount_0f7a4 3 = .ok (.iushr, 1) := by decide +kernel
theorem dJ6_bitCount_0f7a4_4 : decode cJ6_bitCount_0f7a4 4 = .ok (.ldc_w 265, 3) := by decide +kernel
theorem dJ6_bitCount_0f7a4_7 : decode cJ6_bitCount_0f7a4 7 = .ok (.iand, 1) := by decide +kernel
theorem dJ6_bitCount_0f7a4_8 : decode cJ6_bitCount_0f7a4 8 = .ok (.isub, 1) := by decide +kernel
theorem dJ6_bitCount_0f7a4_9 : decode cJ6_bitCount_0f7a4 9 = .ok (.istore_n 0, 1) := by decide +kernel
theorem dJ6_bitCount_0f7a4_10 : decode cJ6_bitCount_0f7a4 10 = .ok (.iload_n 0, 1) := by decide +kernel
theorem dJ6_bitCount_0f7a4_11 : decode cJ6_bitCount_0f7a4 11 = .ok (.ldc_w 266, 3) := by decide +kernel
theorem dJ6_bitCount_0f7a4_14 : decode cJ6_bitCount_0f7a4 14 = .ok (.iand, 1) := by decide +kernel
theorem dJ6_bitCount_0f7a4_15 : decode cJ6_bitCount_0f7a4 15 = .ok (.iload_n 0, 1) := by decide +kernel
theorem dJ6_bitCount_0f7a4_16 : decode cJ6_bitCount_0f7a4 16 = .ok (.iconst 2, 1) := by decide +kernel
theorem dJ6_bitCount_0f7a4_17 : decode cJ6_bitCount_0f7a4 17 = .ok (.iushr, 1) := by decide +kernel
theorem dJ6_bitCount_0f7a4_18 : decode cJ6_bitCount_0f7a4 18 = .ok (.ldc_w 266, 3) := by decide +kernel
theorem dJ6_bitCount_0f7a4_21 : decode cJ6_bitCount_0f7a4 21 = .ok (.iand, 1) := by decide +kernel
theorem dJ6_bitCount_0f7a4_22 : decode cJ6_bitCount_0f7a4 22 = .ok (.iadd, 1) := by decide +kernel
theorem dJ6_bitCount_0f7a4_23 : decode cJ6_bitCount_0f7a4 23 = .ok (.istore_n 0, 1) := by decide +kernel
theorem dJ6_bitCount_0f7a4_24 : decode cJ6_bitCount_0f7a4 24 = .ok (.iload_n 0, 1) := by decide +kernel
theorem dJ6_bitCount_0f7a4_25 : decode cJ6_bitCount_0f7a4 25 = .ok (.iload_n 0, 1) := by decide +kernel
theorem dJ6_bitCount_0f7a4_26 : decode cJ6_bitCount_0f7a4 26 = .ok (.iconst 4, 1) := by decide +kernel
theorem dJ6_bitCount_0f7a4_27 : decode cJ6_bitCount_0f7a4 27 = .ok (.iushr, 1) := by decide +kernel
theorem dJ6_bitCount_0f7a4_28 : decode cJ6_bitCount_0f7a4 28 = .ok (.iadd, 1) := by decide +kernel
theorem dJ6_bitCount_0f7a4_29 : decode cJ6_bitCount_0f7a4 29 = .ok (.ldc_w 267, 3) := by decide +kernel
theorem dJ6_bitCount_0f7a4_32 : decode cJ6_bitCount_0f7a4 32 = .ok (.iand, 1) := by decide +kernel
theorem dJ6_bitCount_0f7a4_33 : decode cJ6_bitCount_0f7a4 33 = .ok (.istore_n 0, 1) := by decide +kernel
theorem dJ6_bitCount_0f7a4_34 : decode cJ6_bitCount_0f7a4 34 = .ok (.iload_n 0, 1) := by decide +kernel
theorem dJ6_bitCount_0f7a4_35 : decode cJ6_bitCount_0f7a4 35 = .ok (.iload_n 0, 1) := by decide +kernel
theorem dJ6_bitCount_0f7a4_36 : decode cJ6_bitCount_0f7a4 36 = .ok (.bipush 8, 2) := by decide +kernel
theorem dJ6_bitCount_0f7a4_38 : decode cJ6_bitCount_0f7a4 38 = .ok (.iushr, 1) := by decide +kernel
theorem dJ6_bitCount_0f7a4_39 : decode cJ6_bitCount_0f7a4 39 = .ok (.iadd, 1) := by decide +kernel
theorem dJ6_bitCount_0f7a4_40 : decode cJ6_bitCount_0f7a4 40 = .ok (.istore_n 0, 1) := by decide +kernel
theorem dJ6_bitCount_0f7a4_41 : decode cJ6_bitCount_0f7a4 41 = .ok (.iload_n 0, 1) := by decide +kernel
theorem dJ6_bitCount_0f7a4_42 : decode cJ6_bitCount_0f7a4 42 = .ok (.iload_n 0, 1) := by decide +kernel
theorem dJ6_bitCount_0f7a4_43 : decode cJ6_bitCount_0f7a4 43 = .ok (.bipush 16, 2) := by decide +kernel
theorem dJ6_bitCount_0f7a4_45 : decode cJ6_bitCount_0f7a4 45 = .ok (.iushr, 1) := by decide +kernel
theorem dJ6_bitCount_0f7a4_46 : decode cJ6_bitCount_0f7a4 46 = .ok (.iadd, 1) := by decide +kernel
theorem dJ6_bitCount_0f7a4_47 : decode cJ6_bitCount_0f7a4 47 = .ok (.istore_n 0, 1) := by decide +kernel
theorem dJ6_bitCount_0f7a4_48 : decode cJ6_bitCount_0f7a4 48 = .ok (.iload_n 0, 1) := by decide +kernel
theorem dJ6_bitCount_0f7a4_49 : decode cJ6_bitCount_0f7a4 49 = .ok (.bipush 63, 2) := by decide +kernel
theorem dJ6_bitCount_0f7a4_51 : decode cJ6_bitCount_0f7a4 51 = .ok (.iand, 1) := by decide +kernel
theorem dJ6_bitCount_0f7a4_52 : decode cJ6_bitCount_0f7a4 52 = .ok (.ireturn, 1) := by decide +kernel
theorem dJ9_floorMod_7cf53_0 : decode cJ9_floorMod_7cf53 0 = .ok (.iload_n 0, 1) := by decide +kernel
theorem dJ9_floorMod_7cf53_1 : decode cJ9_floorMod_7cf53 1 = .ok (.iload_n 1, 1) := by decide +kernel
theorem dJ9_floorMod_7cf53_2 : decode cJ9_floorMod_7cf53 2 = .ok (.irem, 1) := by decide +kernel
theorem dJ9_floorMod_7cf53_3 : decode cJ9_floorMod_7cf53 3 = .ok (.istore_n 2, 1) := by decide +kernel
theorem dJ9_floorMod_7cf53_4 : decode cJ9_floorMod_7cf53 4 = .ok (.iload_n 0, 1) := by decide +kernel
theorem dJ9_floorMod_7cf53_5 : decode cJ9_floorMod_7cf53 5 = .ok (.iload_n 1, 1) := by decide +kernel
theorem dJ9_floorMod_7cf53_6 : decode cJ9_floorMod_7cf53 6 = .ok (.ixor, 1) := by decide +kernel
theorem dJ9_floorMod_7cf53_7 : decode cJ9_floorMod_7cf53 7 = .ok (.ifCond .ge 11, 3) := by decide +kernel
theorem dJ9_floorMod_7cf53_10 : decode cJ9_floorMod_7cf53 10 = .ok (.iload_n 2, 1) := by decide +kernel
theorem dJ9_floorMod_7cf53_11 : decode cJ9_floorMod_7cf53 11 = .ok (.ifCond .eq 7, 3) := by decide +kernel
theorem dJ9_floorMod_7cf53_14 : decode cJ9_floorMod_7cf53 14 = .ok (.iload_n 2, 1) := by decide +kernel
theorem dJ9_floorMod_7cf53_15 : decode cJ9_floorMod_7cf53 15 = .ok (.iload_n 1, 1) := by decide +kernel
theorem dJ9_floorMod_7cf53_16 : decode cJ9_floorMod_7cf53 16 = .ok (.iadd, 1) := by decide +kernel
theorem dJ9_floorMod_7cf53_17 : decode cJ9_floorMod_7cf53 17 = .ok (.ireturn, 1) := by decide +kernel
theorem dJ9_floorMod_7cf53_18 : decode cJ9_floorMod_7cf53 18 = .ok (.iload_n 2, 1) := by decide +kernel
theorem dJ9_floorMod_7cf53_19 : decode cJ9_floorMod_7cf53 19 = .ok (.ireturn, 1) := by decide +kernel
theorem dJ9_abs_0f7a4_0 : decode cJ9_abs_0f7a4 0 = .ok (.iload_n 0, 1) := by decide +kernel
theorem dJ9_abs_0f7a4_1 : decode cJ9_abs_0f7a4 1 = .ok (.ifCond .ge 8, 3) := by decide +kernel
theorem dJ9_abs_0f7a4_4 : decode cJ9_abs_0f7a4 4 = .ok (.iload_n 0, 1) := by decide +kernel
theorem dJ9_abs_0f7a4_5 : decode cJ9_abs_0f7a4 5 = .ok (.ineg, 1) := by decide +kernel
theorem dJ9_abs_0f7a4_6 : decode cJ9_abs_0f7a4 6 = .ok (.goto 4, 3) := by decide +kernel
theorem dJ9_abs_0f7a4_9 : decode cJ9_abs_0f7a4 9 = .ok (.iload_n 0, 1) := by decide +kernel
theorem dJ9_abs_0f7a4_10 : decode cJ9_abs_0f7a4 10 = .ok (.ireturn, 1) := by decide +kernel
theorem dJ9_max_7cf53_0 : decode cJ9_max_7cf53 0 = .ok (.iload_n 0, 1) := by decide +kernel
theorem dJ9_max_7cf53_1 : decode cJ9_max_7cf53 1 = .ok (.iload_n 1, 1) := by decide +kernel
theorem dJ9_max_7cf53_2 : decode cJ9_max_7cf53 2 = .ok (.if_icmp .lt 7, 3) := by decide +kernel
theorem dJ9_max_7cf53_5 : decode cJ9_max_7cf53 5 = .ok (.iload_n 0, 1) := by decide +kernel
theorem dJ9_max_7cf53_6 : decode cJ9_max_7cf53 6 = .ok (.goto 4, 3) := by decide +kernel
theorem dJ9_max_7cf53_9 : decode cJ9_max_7cf53 9 = .ok (.iload_n 1, 1) := by decide +kernel
theorem dJ9_max_7cf53_10 : decode cJ9_max_7cf53 10 = .ok (.ireturn, 1) := by decide +kernel
theorem dJ9_min_7cf53_0 : decode cJ9_min_7cf53 0 = .ok (.iload_n 0, 1) := by decide +kernel
theorem dJ9_min_7cf53_1 : decode cJ9_min_7cf53 1 = .ok (.iload_n 1, 1) := by decide +kernel
theorem dJ9_min_7cf53_2 : decode cJ9_min_7cf53 2 = .ok (.if_icmp .gt 7, 3) := by decide +kernel
theorem dJ9_min_7cf53_5 : decode cJ9_min_7cf53 5 = .ok (.iload_n 0, 1) := by decide +kernel
theorem dJ9_min_7cf53_6 : decode cJ9_min_7cf53 6 = .ok (.goto 4, 3) := by decide +kernel
theorem dJ9_min_7cf53_9 : decode cJ9_min_7cf53 9 = .ok (.iload_n 1, 1) := by decide +kernel
theorem dJ9_min_7cf53_10 : decode cJ9_min_7cf53 10 = .ok (.ireturn, 1) := by decide +kernel
theorem dJ9_min_f86c9_0 : decode cJ9_min_f86c9 0 = .ok (.lload_n 0, 1) := by decide +kernel
theorem dJ9_min_f86c9_1 : decode cJ9_min_f86c9 1 = .ok (.lload_n 2, 1) := by decide +kernel
theorem dJ9_min_f86c9_2 : decode cJ9_min_f86c9 2 = .ok (.lcmp, 1) := by decide +kernel
theorem dJ9_min_f86c9_3 : decode cJ9_min_f86c9 3 = .ok (.ifCond .gt 7, 3) := by decide +kernel
theorem dJ9_min_f86c9_6 : decode cJ9_min_f86c9 6 = .ok (.lload_n 0, 1) := by decide +kernel
theorem dJ9_min_f86c9_7 : decode cJ9_min_f86c9 7 = .ok (.goto 4, 3) := by decide +kernel
theorem dJ9_min_f86c9_10 : decode cJ9_min_f86c9 10 = .ok (.lload_n 2, 1) := by decide +kernel
theorem dJ9_min_f86c9_11 : decode cJ9_min_f86c9 11 = .ok (.lreturn, 1) := by decide +kernel
theorem dJ7_fill_d0a16_0 : decode cJ7_fill_d0a16 0 = .ok (.iconst 0, 1) := by decide +kernel
theorem dJ7_fill_d0a16_1 : decode cJ7_fill_d0a16 1 = .ok (.istore_n 3, 1) := by decide +kernel
theorem dJ7_fill_d0a16_2 : decode cJ7_fill_d0a16 2 = .ok (.aload_n 0, 1) := by decide +kernel
theorem dJ7_fill_d0a16_3 : decode cJ7_fill_d0a16 3 = .ok (.arraylength, 1) := by decide +kernel
theorem dJ7_fill_d0a16_4 : decode cJ7_fill_d0a16 4 = .ok (.istore 4, 2) := by decide +kernel
theorem dJ7_fill_d0a16_6 : decode cJ7_fill_d0a16 6 = .ok (.iload_n 3, 1) := by decide +kernel
theorem dJ7_fill_d0a16_7 : decode cJ7_fill_d0a16 7 = .ok (.iload 4, 2) := by decide +kernel
theorem dJ7_fill_d0a16_9 : decode cJ7_fill_d0a16 9 = .ok (.if_icmp .ge 13, 3) := by decide +kernel
theorem dJ7_fill_d0a16_12 : decode cJ7_fill_d0a16 12 = .ok (.aload_n 0, 1) := by decide +kernel
theorem dJ7_fill_d0a16_13 : decode cJ7_fill_d0a16 13 = .ok (.iload_n 3, 1) := by decide +kernel
theorem dJ7_fill_d0a16_14 : decode cJ7_fill_d0a16 14 = .ok (.lload_n 1, 1) := by decide +kernel
theorem dJ7_fill_d0a16_15 : decode cJ7_fill_d0a16 15 = .ok (.lastore, 1) := by decide +kernel
theorem dJ7_fill_d0a16_16 : decode cJ7_fill_d0a16 16 = .ok (.iinc 3 1, 3) := by decide +kernel
theorem dJ7_fill_d0a16_19 : decode cJ7_fill_d0a16 19 = .ok (.goto (-13), 3) := by decide +kernel
theorem dJ7_fill_d0a16_22 : decode cJ7_fill_d0a16 22 = .ok (.return_, 1) := by decide +kernel
theorem dJ7_fill_53178_0 : decode cJ7_fill_53178 0 = .ok (.iconst 0, 1) := by decide +kernel
theorem dJ7_fill_53178_1 : decode cJ7_fill_53178 1 = .ok (.istore_n 2, 1) := by decide +kernel
theorem dJ7_fill_53178_2 : decode cJ7_fill_53178 2 = .ok (.aload_n 0, 1) := by decide +kernel
theorem dJ7_fill_53178_3 : decode cJ7_fill_53178 3 = .ok (.arraylength, 1) := by decide +kernel
theorem dJ7_fill_53178_4 : decode cJ7_fill_53178 4 = .ok (.istore_n 3, 1) := by decide +kernel
theorem dJ7_fill_53178_5 : decode cJ7_fill_53178 5 = .ok (.iload_n 2, 1) := by decide +kernel
theorem dJ7_fill_53178_6 : decode cJ7_fill_53178 6 = .ok (.iload_n 3, 1) := by decide +kernel
theorem dJ7_fill_53178_7 : decode cJ7_fill_53178 7 = .ok (.if_icmp .ge 13, 3) := by decide +kernel
theorem dJ7_fill_53178_10 : decode cJ7_fill_53178 10 = .ok (.aload_n 0, 1) := by decide +kernel
theorem dJ7_fill_53178_11 : decode cJ7_fill_53178 11 = .ok (.iload_n 2, 1) := by decide +kernel
theorem dJ7_fill_53178_12 : decode cJ7_fill_53178 12 = .ok (.iload_n 1, 1) := by decide +kernel
theorem dJ7_fill_53178_13 : decode cJ7_fill_53178 13 = .ok (.iastore, 1) := by decide +kernel
theorem dJ7_fill_53178_14 : decode cJ7_fill_53178 14 = .ok (.iinc 2 1, 3) := by decide +kernel
theorem dJ7_fill_53178_17 : decode cJ7_fill_53178 17 = .ok (.goto (-12), 3) := by decide +kernel
theorem dJ7_fill_53178_20 : decode cJ7_fill_53178 20 = .ok (.return_, 1) := by decide +kernel
