theorem dX11_init_0 : decode cX11_init 0 = .ok (.aload_n 0, 1) := by decide +kernel
theorem dX11_init_1 : decode cX11_init 1 = .ok (.invokespecial 3, 3) := by decide +kernel
theorem dX11_init_4 : decode cX11_init 4 = .ok (.aload_n 0, 1) := by decide +kernel
theorem dX11_init_5 : decode cX11_init 5 = .ok (.new 9, 3) := by decide +kernel
theorem dX11_init_8 : decode cX11_init 8 = .ok (.dup, 1) := by decide +kernel
theorem dX11_init_9 : decode cX11_init 9 = .ok (.invokespecial 11, 3) := by decide +kernel
theorem dX11_init_12 : decode cX11_init 12 = .ok (.putfield 12, 3) := by decide +kernel
theorem dX11_init_15 : decode cX11_init 15 = .ok (.aload_n 0, 1) := by decide +kernel
theorem dX11_init_16 : decode cX11_init 16 = .ok (.bipush 30, 2) := by decide +kernel
theorem dX11_init_18 : decode cX11_init 18 = .ok (.anewarray 18, 3) := by decide +kernel
theorem dX11_init_21 : decode cX11_init 21 = .ok (.putfield 20, 3) := by decide +kernel
theorem dX11_init_24 : decode cX11_init 24 = .ok (.aload_n 0, 1) := by decide +kernel
theorem dX11_init_25 : decode cX11_init 25 = .ok (.iconst 5, 1) := by decide +kernel
theorem dX11_init_26 : decode cX11_init 26 = .ok (.newarray .int, 2) := by decide +kernel
theorem dX11_init_28 : decode cX11_init 28 = .ok (.putfield 24, 3) := by decide +kernel
theorem dX11_init_31 : decode cX11_init 31 = .ok (.aload_n 0, 1) := by decide +kernel
theorem dX11_init_32 : decode cX11_init 32 = .ok (.bipush 12, 2) := by decide +kernel
theorem dX11_init_34 : decode cX11_init 34 = .ok (.anewarray 28, 3) := by decide +kernel
theorem dX11_init_37 : decode cX11_init 37 = .ok (.putfield 30, 3) := by decide +kernel
theorem dX11_init_40 : decode cX11_init 40 = .ok (.aload_n 0, 1) := by decide +kernel
theorem dX11_init_41 : decode cX11_init 41 = .ok (.new 34, 3) := by decide +kernel
theorem dX11_init_44 : decode cX11_init 44 = .ok (.dup, 1) := by decide +kernel
theorem dX11_init_45 : decode cX11_init 45 = .ok (.invokespecial 36, 3) := by decide +kernel
theorem dX11_init_48 : decode cX11_init 48 = .ok (.putfield 37, 3) := by decide +kernel
theorem dX11_init_51 : decode cX11_init 51 = .ok (.aload_n 0, 1) := by decide +kernel
theorem dX11_init_52 : decode cX11_init 52 = .ok (.new 41, 3) := by decide +kernel
theorem dX11_init_55 : decode cX11_init 55 = .ok (.dup, 1) := by decide +kernel
theorem dX11_init_56 : decode cX11_init 56 = .ok (.invokespecial 43, 3) := by decide +kernel
theorem dX11_init_59 : decode cX11_init 59 = .ok (.putfield 44, 3) := by decide +kernel
theorem dX11_init_62 : decode cX11_init 62 = .ok (.aload_n 0, 1) := by decide +kernel
theorem dX11_init_63 : decode cX11_init 63 = .ok (.new 48, 3) := by decide +kernel
theorem dX11_init_66 : decode cX11_init 66 = .ok (.dup, 1) := by decide +kernel
theorem dX11_init_67 : decode cX11_init 67 = .ok (.invokespecial 50, 3) := by decide +kernel
theorem dX11_init_70 : decode cX11_init 70 = .ok (.putfield 51, 3) := by decide +kernel
theorem dX11_init_73 : decode cX11_init 73 = .ok (.aload_n 0, 1) := by decide +kernel
theorem dX11_init_74 : decode cX11_init 74 = .ok (.new 55, 3) := by decide +kernel
theorem dX11_init_77 : decode cX11_init 77 = .ok (.dup, 1) := by decide +kernel
theorem dX11_init_78 : decode cX11_init 78 = .ok (.invokespecial 57, 3) := by decide +kernel
theorem dX11_init_81 : decode cX11_init 81 = .ok (.putfield 58, 3) := by decide +kernel
theorem dX11_init_84 : decode cX11_init 84 = .ok (.aload_n 0, 1) := by decide +kernel
theorem dX11_init_85 : decode cX11_init 85 = .ok (.new 62, 3) := by decide +kernel
theorem dX11_init_88 : decode cX11_init 88 = .ok (.dup, 1) := by decide +kernel
theorem dX11_init_89 : decode cX11_init 89 = .ok (.invokespecial 64, 3) := by decide +kernel
theorem dX11_init_92 : decode cX11_init 92 = .ok (.putfield 65, 3) := by decide +kernel
theorem dX11_init_95 : decode cX11_init 95 = .ok (.aload_n 0, 1) := by decide +kernel
theorem dX11_init_96 : decode cX11_init 96 = .ok (.iconst 4, 1) := by decide +kernel
theorem dX11_init_97 : decode cX11_init 97 = .ok (.anewarray 69, 3) := by decide +kernel
theorem dX11_init_100 : decode cX11_init 100 = .ok (.putfield 71, 3) := by decide +kernel
theorem dX11_init_103 : decode cX11_init 103 = .ok (.iconst 0, 1) := by decide +kernel
theorem dX11_init_104 : decode cX11_init 104 = .ok (.istore_n 1, 1) := by decide +kernel
theorem dX11_init_105 : decode cX11_init 105 = .ok (.iload_n 1, 1) := by decide +kernel
theorem dX11_init_106 : decode cX11_init 106 = .ok (.iconst 4, 1) := by decide +kernel
theorem dX11_init_107 : decode cX11_init 107 = .ok (.if_icmp .ge 22, 3) := by decide +kernel
theorem dX11_init_110 : decode cX11_init 110 = .ok (.aload_n 0, 1) := by decide +kernel
theorem dX11_init_111 : decode cX11_init 111 = .ok (.getfield 71, 3) := by decide +kernel
theorem dX11_init_114 : decode cX11_init 114 = .ok (.iload_n 1, 1) := by decide +kernel
theorem dX11_init_115 : decode cX11_init 115 = .ok (.new 69, 3) := by decide +kernel
theorem dX11_init_118 : decode cX11_init 118 = .ok (.dup, 1) := by decide +kernel
theorem dX11_init_119 : decode cX11_init 119 = .ok (.invokespecial 75, 3) := by decide +kernel
theorem dX11_init_122 : decode cX11_init 122 = .ok (.aastore, 1) := by decide +kernel
theorem dX11_init_123 : decode cX11_init 123 = .ok (.iinc 1 1, 3) := by decide +kernel
theorem dX11_init_126 : decode cX11_init 126 = .ok (.goto (-21), 3) := by decide +kernel
theorem dX11_init_129 : decode cX11_init 129 = .ok (.return_, 1) := by decide +kernel
theorem dX11_camp_0 : decode cX11_camp 0 = .ok (.iload_n 1, 1) := by decide +kernel
theorem dX11_camp_1 : decode cX11_camp 1 = .ok (.iload_n 2, 1) := by decide +kernel
theorem dX11_camp_2 : decode cX11_camp 2 = .ok (.invokestatic 76, 3) := by decide +kernel
theorem dX11_camp_5 : decode cX11_camp 5 = .ok (.ifCond .eq 13, 3) := by decide +kernel
theorem dX11_camp_8 : decode cX11_camp 8 = .ok (.iload_n 3, 1) := by decide +kernel
theorem dX11_camp_9 : decode cX11_camp 9 = .ok (.iconst 1, 1) := by decide +kernel
theorem dX11_camp_10 : decode cX11_camp 10 = .ok (.bipush 9, 2) := by decide +kernel
theorem dX11_camp_12 : decode cX11_camp 12 = .ok (.invokestatic 80, 3) := by decide +kernel
theorem dX11_camp_15 : decode cX11_camp 15 = .ok (.ifCond .ne 6, 3) := by decide +kernel
theorem dX11_camp_18 : decode cX11_camp 18 = .ok (.bipush (-2), 2) := by decide +kernel
theorem dX11_camp_20 : decode cX11_camp 20 = .ok (.ireturn, 1) := by decide +kernel
theorem dX11_camp_21 : decode cX11_camp 21 = .ok (.aload_n 0, 1) := by decide +kernel
theorem dX11_camp_22 : decode cX11_camp 22 = .ok (.getfield 12, 3) := by decide +kernel
theorem dX11_camp_25 : decode cX11_camp 25 = .ok (.iload_n 1, 1) := by decide +kernel
theorem dX11_camp_26 : decode cX11_camp 26 = .ok (.iload_n 2, 1) := by decide +kernel
theorem dX11_camp_27 : decode cX11_camp 27 = .ok (.iload_n 3, 1) := by decide +kernel
theorem dX11_camp_28 : decode cX11_camp 28 = .ok (.invokevirtual 84, 3) := by decide +kernel
theorem dX11_camp_31 : decode cX11_camp 31 = .ok (.ireturn, 1) := by decide +kernel
theorem dX11_man_0 : decode cX11_man 0 = .ok (.aload_n 0, 1) := by decide +kernel
theorem dX11_man_1 : decode cX11_man 1 = .ok (.getfield 88, 3) := by decide +kernel
theorem dX11_man_4 : decode cX11_man 4 = .ok (.bipush 20, 2) := by decide +kernel
theorem dX11_man_6 : decode cX11_man 6 = .ok (.if_icmp .lt 6, 3) := by decide +kernel
theorem dX11_man_9 : decode cX11_man 9 = .ok (.bipush (-4), 2) := by decide +kernel
theorem dX11_man_11 : decode cX11_man 11 = .ok (.ireturn, 1) := by decide +kernel
theorem dX11_man_12 : decode cX11_man 12 = .ok (.aload_n 0, 1) := by decide +kernel
theorem dX11_man_13 : decode cX11_man 13 = .ok (.dup, 1) := by decide +kernel
theorem dX11_man_14 : decode cX11_man 14 = .ok (.getfield 88, 3) := by decide +kernel
theorem dX11_man_17 : decode cX11_man 17 = .ok (.iconst 1, 1) := by decide +kernel
theorem dX11_man_18 : decode cX11_man 18 = .ok (.iadd, 1) := by decide +kernel
theorem dX11_man_19 : decode cX11_man 19 = .ok (.putfield 88, 3) := by decide +kernel
theorem dX11_man_22 : decode cX11_man 22 = .ok (.aload_n 0, 1) := by decide +kernel
theorem dX11_man_23 : decode cX11_man 23 = .ok (.getfield 88, 3) := by decide +kernel
theorem dX11_man_26 : decode cX11_man 26 = .ok (.iconst 1, 1) := by decide +kernel
theorem dX11_man_27 : decode cX11_man 27 = .ok (.isub, 1) := by decide +kernel
theorem dX11_man_28 : decode cX11_man 28 = .ok (.ireturn, 1) := by decide +kernel
theorem dX11_post_0 : decode cX11_post 0 = .ok (.aload_n 0, 1) := by decide +kernel
theorem dX11_post_1 : decode cX11_post 1 = .ok (.iload_n 2, 1) := by decide +kernel
theorem dX11_post_2 : decode cX11_post 2 = .ok (.invokevirtual 92, 3) := by decide +kernel
theorem dX11_post_5 : decode cX11_post 5 = .ok (.ifCond .eq 14, 3) := by decide +kernel
theorem dX11_post_8 : decode cX11_post 8 = .ok (.aload_n 0, 1) := by decide +kernel
theorem dX11_post_9 : decode cX11_post 9 = .ok (.getfield 12, 3) := by decide +kernel
theorem dX11_post_12 : decode cX11_post 12 = .ok (.iload_n 3, 1) := by decide +kernel
theorem dX11_post_13 : decode cX11_post 13 = .ok (.invokevirtual 96, 3) := by decide +kernel
theorem dX11_post_16 : decode cX11_post 16 = .ok (.ifCond .ne 5, 3) := by decide +kernel
theorem dX11_post_19 : decode cX11_post 19 = .ok (.iconst (-1), 1) := by decide +kernel
theorem dX11_post_20 : decode cX11_post 20 = .ok (.ireturn, 1) := by decide +kernel
theorem dX11_post_21 : decode cX11_post 21 = .ok (.iload_n 1, 1) := by decide +kernel
theorem dX11_post_22 : decode cX11_post 22 = .ok (.invokestatic 99, 3) := by decide +kernel
theorem dX11_post_25 : decode cX11_post 25 = .ok (.ifCond .eq 13, 3) := by decide +kernel
theorem dX11_post_28 : decode cX11_post 28 = .ok (.iload 4, 2) := by decide +kernel
theorem dX11_post_30 : decode cX11_post 30 = .ok (.iload 5, 2) := by decide +kernel
theorem dX11_post_32 : decode cX11_post 32 = .ok (.invokestatic 102, 3) := by decide +kernel
theorem dX11_post_35 : decode cX11_post 35 = .ok (.ifCond .ne 6, 3) := by decide +kernel
theorem dX11_post_38 : decode cX11_post 38 = .ok (.bipush (-2), 2) := by decide +kernel
theorem dX11_post_40 : decode cX11_post 40 = .ok (.ireturn, 1) := by decide +kernel
theorem dX11_post_41 : decode cX11_post 41 = .ok (.aload_n 0, 1) := by decide +kernel
theorem dX11_post_42 : decode cX11_post 42 = .ok (.iload_n 2, 1) := by decide +kernel
theorem dX11_post_43 : decode cX11_post 43 = .ok (.iload 4, 2) := by decide +kernel
theorem dX11_post_45 : decode cX11_post 45 = .ok (.iload 5, 2) := by decide +kernel
theorem dX11_post_47 : decode cX11_post 47 = .ok (.invokevirtual 105, 3) := by decide +kernel
theorem dX11_post_50 : decode cX11_post 50 = .ok (.ifCond .le 6, 3) := by decide +kernel
theorem dX11_post_53 : decode cX11_post 53 = .ok (.bipush (-3), 2) := by decide +kernel
theorem dX11_post_55 : decode cX11_post 55 = .ok (.ireturn, 1) := by decide +kernel
theorem dX11_post_56 : decode cX11_post 56 = .ok (.aload_n 0, 1) := by decide +kernel
theorem dX11_post_57 : decode cX11_post 57 = .ok (.getfield 108, 3) := by decide +kernel
theorem dX11_post_60 : decode cX11_post 60 = .ok (.bipush 30, 2) := by decide +kernel
theorem dX11_post_62 : decode cX11_post 62 = .ok (.if_icmp .lt 6, 3) := by decide +kernel
theorem dX11_post_65 : decode cX11_post 65 = .ok (.bipush (-4), 2) := by decide +kernel
theorem dX11_post_67 : decode cX11_post 67 = .ok (.ireturn, 1) := by decide +kernel
theorem dX11_post_68 : decode cX11_post 68 = .ok (.aload_n 0, 1) := by decide +kernel
theorem dX11_post_69 : decode cX11_post 69 = .ok (.getfield 20, 3) := by decide +kernel
theorem dX11_post_72 : decode cX11_post 72 = .ok (.aload_n 0, 1) := by decide +kernel
theorem dX11_post_73 : decode cX11_post 73 = .ok (.getfield 108, 3) := by decide +kernel
theorem dX11_post_76 : decode cX11_post 76 = .ok (.new 18, 3) := by decide +kernel
theorem dX11_post_79 : decode cX11_post 79 = .ok (.dup, 1) := by decide +kernel
theorem dX11_post_80 : decode cX11_post 80 = .ok (.iload_n 1, 1) := by decide +kernel
theorem dX11_post_81 : decode cX11_post 81 = .ok (.iload_n 2, 1) := by decide +kernel
theorem dX11_post_82 : decode cX11_post 82 = .ok (.iload_n 3, 1) := by decide +kernel
theorem dX11_post_83 : decode cX11_post 83 = .ok (.iload 4, 2) := by decide +kernel
theorem dX11_post_85 : decode cX11_post 85 = .ok (.iload 5, 2) := by decide +kernel
theorem dX11_post_87 : decode cX11_post 87 = .ok (.invokespecial 111, 3) := by decide +kernel
theorem dX11_post_90 : decode cX11_post 90 = .ok (.aastore, 1) := by decide +kernel
theorem dX11_post_91 : decode cX11_post 91 = .ok (.aload_n 0, 1) := by decide +kernel
theorem dX11_post_92 : decode cX11_post 92 = .ok (.dup, 1) := by decide +kernel
theorem dX11_post_93 : decode cX11_post 93 = .ok (.getfield 108, 3) := by decide +kernel
theorem dX11_post_96 : decode cX11_post 96 = .ok (.iconst 1, 1) := by decide +kernel
theorem dX11_post_97 : decode cX11_post 97 = .ok (.iadd, 1) := by decide +kernel
theorem dX11_post_98 : decode cX11_post 98 = .ok (.putfield 108, 3) := by decide +kernel
theorem dX11_post_101 : decode cX11_post 101 = .ok (.aload_n 0, 1) := by decide +kernel
theorem dX11_post_102 : decode cX11_post 102 = .ok (.getfield 108, 3) := by decide +kernel
theorem dX11_post_105 : decode cX11_post 105 = .ok (.iconst 1, 1) := by decide +kernel
theorem dX11_post_106 : decode cX11_post 106 = .ok (.isub, 1) := by decide +kernel
theorem dX11_post_107 : decode cX11_post 107 = .ok (.ireturn, 1) := by decide +kernel
theorem dX11_day_0 : decode cX11_day 0 = .ok (.aload_n 0, 1) := by decide +kernel
theorem dX11_day_1 : decode cX11_day 1 = .ok (.iload_n 1, 1) := by decide +kernel
theorem dX11_day_2 : decode cX11_day 2 = .ok (.invokevirtual 92, 3) := by decide +kernel
theorem dX11_day_5 : decode cX11_day 5 = .ok (.ifCond .ne 5, 3) := by decide +kernel
theorem dX11_day_8 : decode cX11_day 8 = .ok (.iconst (-1), 1) := by decide +kernel
theorem dX11_day_9 : decode cX11_day 9 = .ok (.ireturn, 1) := by decide +kernel
theorem dX11_day_10 : decode cX11_day 10 = .ok (.iload_n 2, 1) := by decide +kernel
theorem dX11_day_11 : decode cX11_day 11 = .ok (.invokestatic 114, 3) := by decide +kernel
theorem dX11_day_14 : decode cX11_day 14 = .ok (.ifCond .ne 6, 3) := by decide +kernel
theorem dX11_day_17 : decode cX11_day 17 = .ok (.bipush (-2), 2) := by decide +kernel
theorem dX11_day_19 : decode cX11_day 19 = .ok (.ireturn, 1) := by decide +kernel
theorem dX11_day_20 : decode cX11_day 20 = .ok (.iconst 0, 1) := by decide +kernel
theorem dX11_day_21 : decode cX11_day 21 = .ok (.istore_n 3, 1) := by decide +kernel
theorem dX11_day_22 : decode cX11_day 22 = .ok (.iload_n 3, 1) := by decide +kernel
theorem dX11_day_23 : decode cX11_day 23 = .ok (.bipush 30, 2) := by decide +kernel
theorem dX11_day_25 : decode cX11_day 25 = .ok (.if_icmp .ge 42, 3) := by decide +kernel
theorem dX11_day_28 : decode cX11_day 28 = .ok (.aload_n 0, 1) := by decide +kernel
theorem dX11_day_29 : decode cX11_day 29 = .ok (.getfield 20, 3) := by decide +kernel
theorem dX11_day_32 : decode cX11_day 32 = .ok (.iload_n 3, 1) := by decide +kernel
theorem dX11_day_33 : decode cX11_day 33 = .ok (.aaload, 1) := by decide +kernel
theorem dX11_day_34 : decode cX11_day 34 = .ok (.astore 4, 2) := by decide +kernel
theorem dX11_day_36 : decode cX11_day 36 = .ok (.aload 4, 2) := by decide +kernel
theorem dX11_day_38 : decode cX11_day 38 = .ok (.ifnull 23, 3) := by decide +kernel
theorem dX11_day_41 : decode cX11_day 41 = .ok (.aload 4, 2) := by decide +kernel
theorem dX11_day_43 : decode cX11_day 43 = .ok (.getfield 117, 3) := by decide +kernel
theorem dX11_day_46 : decode cX11_day 46 = .ok (.iload_n 1, 1) := by decide +kernel
theorem dX11_day_47 : decode cX11_day 47 = .ok (.if_icmp .ne 14, 3) := by decide +kernel
theorem dX11_day_50 : decode cX11_day 50 = .ok (.aload 4, 2) := by decide +kernel
theorem dX11_day_52 : decode cX11_day 52 = .ok (.iload_n 2, 1) := by decide +kernel
theorem dX11_day_53 : decode cX11_day 53 = .ok (.invokevirtual 120, 3) := by decide +kernel
theorem dX11_day_56 : decode cX11_day 56 = .ok (.ifCond .eq 5, 3) := by decide +kernel
theorem dX11_day_59 : decode cX11_day 59 = .ok (.iload_n 3, 1) := by decide +kernel
theorem dX11_day_60 : decode cX11_day 60 = .ok (.ireturn, 1) := by decide +kernel
theorem dX11_day_61 : decode cX11_day 61 = .ok (.iinc 3 1, 3) := by decide +kernel
theorem dX11_day_64 : decode cX11_day 64 = .ok (.goto (-42), 3) := by decide +kernel
theorem dX11_day_67 : decode cX11_day 67 = .ok (.bipush (-9), 2) := by decide +kernel
theorem dX11_day_69 : decode cX11_day 69 = .ok (.ireturn, 1) := by decide +kernel
theorem dX11_beds_0 : decode cX11_beds 0 = .ok (.aload_n 0, 1) := by decide +kernel
theorem dX11_beds_1 : decode cX11_beds 1 = .ok (.getfield 12, 3) := by decide +kernel
theorem dX11_beds_4 : decode cX11_beds 4 = .ok (.iload_n 1, 1) := by decide +kernel
theorem dX11_beds_5 : decode cX11_beds 5 = .ok (.invokevirtual 96, 3) := by decide +kernel
theorem dX11_beds_8 : decode cX11_beds 8 = .ok (.ifCond .ne 5, 3) := by decide +kernel
theorem dX11_beds_11 : decode cX11_beds 11 = .ok (.iconst (-1), 1) := by decide +kernel
theorem dX11_beds_12 : decode cX11_beds 12 = .ok (.ireturn, 1) := by decide +kernel
theorem dX11_beds_13 : decode cX11_beds 13 = .ok (.iload_n 2, 1) := by decide +kernel
theorem dX11_beds_14 : decode cX11_beds 14 = .ok (.invokestatic 114, 3) := by decide +kernel
theorem dX11_beds_17 : decode cX11_beds 17 = .ok (.ifCond .ne 6, 3) := by decide +kernel
theorem dX11_beds_20 : decode cX11_beds 20 = .ok (.bipush (-2), 2) := by decide +kernel
theorem dX11_beds_22 : decode cX11_beds 22 = .ok (.ireturn, 1) := by decide +kernel
theorem dX11_beds_23 : decode cX11_beds 23 = .ok (.aload_n 0, 1) := by decide +kernel
theorem dX11_beds_24 : decode cX11_beds 24 = .ok (.iload_n 1, 1) := by decide +kernel
theorem dX11_beds_25 : decode cX11_beds 25 = .ok (.iload_n 2, 1) := by decide +kernel
theorem dX11_beds_26 : decode cX11_beds 26 = .ok (.invokevirtual 123, 3) := by decide +kernel
theorem dX11_beds_29 : decode cX11_beds 29 = .ok (.ireturn, 1) := by decide +kernel
theorem dX11_over_0 : decode cX11_over 0 = .ok (.aload_n 0, 1) := by decide +kernel
theorem dX11_over_1 : decode cX11_over 1 = .ok (.getfield 12, 3) := by decide +kernel
theorem dX11_over_4 : decode cX11_over 4 = .ok (.iload_n 1, 1) := by decide +kernel
theorem dX11_over_5 : decode cX11_over 5 = .ok (.invokevirtual 96, 3) := by decide +kernel
theorem dX11_over_8 : decode cX11_over 8 = .ok (.ifCond .ne 5, 3) := by decide +kernel
theorem dX11_over_11 : decode cX11_over 11 = .ok (.iconst (-1), 1) := by decide +kernel
theorem dX11_over_12 : decode cX11_over 12 = .ok (.ireturn, 1) := by decide +kernel
theorem dX11_over_13 : decode cX11_over 13 = .ok (.bipush (-9), 2) := by decide +kernel
theorem dX11_over_15 : decode cX11_over 15 = .ok (.istore_n 2, 1) := by decide +kernel
theorem dX11_over_16 : decode cX11_over 16 = .ok (.aload_n 0, 1) := by decide +kernel
theorem dX11_over_17 : decode cX11_over 17 = .ok (.getfield 20, 3) := by decide +kernel
theorem dX11_over_20 : decode cX11_over 20 = .ok (.astore_n 3, 1) := by decide +kernel
theorem dX11_over_21 : decode cX11_over 21 = .ok (.aload_n 3, 1) := by decide +kernel
theorem dX11_over_22 : decode cX11_over 22 = .ok (.arraylength, 1) := by decide +kernel
theorem dX11_over_23 : decode cX11_over 23 = .ok (.istore 4, 2) := by decide +kernel
theorem dX11_over_25 : decode cX11_over 25 = .ok (.iconst 0, 1) := by decide +kernel
theorem dX11_over_26 : decode cX11_over 26 = .ok (.istore 5, 2) := by decide +kernel
theorem dX11_over_28 : decode cX11_over 28 = .ok (.iload 5, 2) := by decide +kernel
theorem dX11_over_30 : decode cX11_over 30 = .ok (.iload 4, 2) := by decide +kernel
theorem dX11_over_32 : decode cX11_over 32 = .ok (.if_icmp .ge 72, 3) := by decide +kernel
theorem dX11_over_35 : decode cX11_over 35 = .ok (.aload_n 3, 1) := by decide +kernel
theorem dX11_over_36 : decode cX11_over 36 = .ok (.iload 5, 2) := by decide +kernel
theorem dX11_over_38 : decode cX11_over 38 = .ok (.aaload, 1) := by decide +kernel
theorem dX11_over_39 : decode cX11_over 39 = .ok (.astore 6, 2) := by decide +kernel
theorem dX11_over_41 : decode cX11_over 41 = .ok (.aload 6, 2) := by decide +kernel
theorem dX11_over_43 : decode cX11_over 43 = .ok (.ifnull 55, 3) := by decide +kernel
theorem dX11_over_46 : decode cX11_over 46 = .ok (.aload 6, 2) := by decide +kernel
theorem dX11_over_48 : decode cX11_over 48 = .ok (.getfield 127, 3) := by decide +kernel
theorem dX11_over_51 : decode cX11_over 51 = .ok (.iload_n 1, 1) := by decide +kernel
theorem dX11_over_52 : decode cX11_over 52 = .ok (.if_icmp .ne 46, 3) := by decide +kernel
theorem dX11_over_55 : decode cX11_over 55 = .ok (.iload_n 2, 1) := by decide +kernel
theorem dX11_over_56 : decode cX11_over 56 = .ok (.bipush (-9), 2) := by decide +kernel
theorem dX11_over_58 : decode cX11_over 58 = .ok (.if_icmp .eq 12, 3) := by decide +kernel
theorem dX11_over_61 : decode cX11_over 61 = .ok (.aload 6, 2) := by decide +kernel
theorem dX11_over_63 : decode cX11_over 63 = .ok (.getfield 130, 3) := by decide +kernel
theorem dX11_over_66 : decode cX11_over 66 = .ok (.iload_n 2, 1) := by decide +kernel
theorem dX11_over_67 : decode cX11_over 67 = .ok (.if_icmp .ge 31, 3) := by decide +kernel
theorem dX11_over_70 : decode cX11_over 70 = .ok (.aload_n 0, 1) := by decide +kernel
theorem dX11_over_71 : decode cX11_over 71 = .ok (.iload_n 1, 1) := by decide +kernel
theorem dX11_over_72 : decode cX11_over 72 = .ok (.aload 6, 2) := by decide +kernel
theorem dX11_over_74 : decode cX11_over 74 = .ok (.getfield 130, 3) := by decide +kernel
theorem dX11_over_77 : decode cX11_over 77 = .ok (.invokevirtual 123, 3) := by decide +kernel
theorem dX11_over_80 : decode cX11_over 80 = .ok (.aload_n 0, 1) := by decide +kernel
theorem dX11_over_81 : decode cX11_over 81 = .ok (.getfield 12, 3) := by decide +kernel
theorem dX11_over_84 : decode cX11_over 84 = .ok (.getfield 133, 3) := by decide +kernel
theorem dX11_over_87 : decode cX11_over 87 = .ok (.iload_n 1, 1) := by decide +kernel
theorem dX11_over_88 : decode cX11_over 88 = .ok (.iaload, 1) := by decide +kernel
theorem dX11_over_89 : decode cX11_over 89 = .ok (.if_icmp .le 9, 3) := by decide +kernel
theorem dX11_over_92 : decode cX11_over 92 = .ok (.aload 6, 2) := by decide +kernel
theorem dX11_over_94 : decode cX11_over 94 = .ok (.getfield 130, 3) := by decide +kernel
theorem dX11_over_97 : decode cX11_over 97 = .ok (.istore_n 2, 1) := by decide +kernel
theorem dX11_over_98 : decode cX11_over 98 = .ok (.iinc 5 1, 3) := by decide +kernel
theorem dX11_over_101 : decode cX11_over 101 = .ok (.goto (-73), 3) := by decide +kernel
theorem dX11_over_104 : decode cX11_over 104 = .ok (.iload_n 2, 1) := by decide +kernel
theorem dX11_over_105 : decode cX11_over 105 = .ok (.ireturn, 1) := by decide +kernel
theorem dX11_order_0 : decode cX11_order 0 = .ok (.aload_n 0, 1) := by decide +kernel
theorem dX11_order_1 : decode cX11_order 1 = .ok (.iconst 0, 1) := by decide +kernel
theorem dX11_order_2 : decode cX11_order 2 = .ok (.putfield 136, 3) := by decide +kernel
theorem dX11_order_5 : decode cX11_order 5 = .ok (.aload_n 0, 1) := by decide +kernel
theorem dX11_order_6 : decode cX11_order 6 = .ok (.iload_n 2, 1) := by decide +kernel
theorem dX11_order_7 : decode cX11_order 7 = .ok (.invokevirtual 139, 3) := by decide +kernel
theorem dX11_order_10 : decode cX11_order 10 = .ok (.astore 6, 2) := by decide +kernel
theorem dX11_order_12 : decode cX11_order 12 = .ok (.aload 6, 2) := by decide +kernel
theorem dX11_order_14 : decode cX11_order 14 = .ok (.ifnonnull 5, 3) := by decide +kernel
theorem dX11_order_17 : decode cX11_order 17 = .ok (.iconst (-1), 1) := by decide +kernel
theorem dX11_order_18 : decode cX11_order 18 = .ok (.ireturn, 1) := by decide +kernel
theorem dX11_order_19 : decode cX11_order 19 = .ok (.iload_n 1, 1) := by decide +kernel
theorem dX11_order_20 : decode cX11_order 20 = .ok (.invokestatic 114, 3) := by decide +kernel
theorem dX11_order_23 : decode cX11_order 23 = .ok (.ifCond .eq 10, 3) := by decide +kernel
theorem dX11_order_26 : decode cX11_order 26 = .ok (.iload_n 3, 1) := by decide +kernel
theorem dX11_order_27 : decode cX11_order 27 = .ok (.invokestatic 143, 3) := by decide +kernel
theorem dX11_order_30 : decode cX11_order 30 = .ok (.ifCond .ne 6, 3) := by decide +kernel
theorem dX11_order_33 : decode cX11_order 33 = .ok (.bipush (-2), 2) := by decide +kernel
theorem dX11_order_35 : decode cX11_order 35 = .ok (.ireturn, 1) := by decide +kernel
theorem dX11_order_36 : decode cX11_order 36 = .ok (.aload_n 0, 1) := by decide +kernel
theorem dX11_order_37 : decode cX11_order 37 = .ok (.aload 6, 2) := by decide +kernel
theorem dX11_order_39 : decode cX11_order 39 = .ok (.iload_n 3, 1) := by decide +kernel
theorem dX11_order_40 : decode cX11_order 40 = .ok (.iload 4, 2) := by decide +kernel
theorem dX11_order_42 : decode cX11_order 42 = .ok (.iload 5, 2) := by decide +kernel
theorem dX11_order_44 : decode cX11_order 44 = .ok (.invokevirtual 146, 3) := by decide +kernel
theorem dX11_order_47 : decode cX11_order 47 = .ok (.invokevirtual 149, 3) := by decide +kernel
theorem dX11_order_50 : decode cX11_order 50 = .ok (.istore 7, 2) := by decide +kernel
theorem dX11_order_52 : decode cX11_order 52 = .ok (.iload 7, 2) := by decide +kernel
theorem dX11_order_54 : decode cX11_order 54 = .ok (.ifCond .eq 6, 3) := by decide +kernel
theorem dX11_order_57 : decode cX11_order 57 = .ok (.iload 7, 2) := by decide +kernel
theorem dX11_order_59 : decode cX11_order 59 = .ok (.ireturn, 1) := by decide +kernel
theorem dX11_order_60 : decode cX11_order 60 = .ok (.new 153, 3) := by decide +kernel
theorem dX11_order_63 : decode cX11_order 63 = .ok (.dup, 1) := by decide +kernel
theorem dX11_order_64 : decode cX11_order 64 = .ok (.aload 6, 2) := by decide +kernel
theorem dX11_order_66 : decode cX11_order 66 = .ok (.iload 4, 2) := by decide +kernel
theorem dX11_order_68 : decode cX11_order 68 = .ok (.iload 5, 2) := by decide +kernel
theorem dX11_order_70 : decode cX11_order 70 = .ok (.aload_n 0, 1) := by decide +kernel
theorem dX11_order_71 : decode cX11_order 71 = .ok (.getfield 12, 3) := by decide +kernel
theorem dX11_order_74 : decode cX11_order 74 = .ok (.getfield 155, 3) := by decide +kernel
theorem dX11_order_77 : decode cX11_order 77 = .ok (.invokespecial 158, 3) := by decide +kernel
theorem dX11_order_80 : decode cX11_order 80 = .ok (.astore 8, 2) := by decide +kernel
theorem dX11_order_82 : decode cX11_order 82 = .ok (.aload 8, 2) := by decide +kernel
theorem dX11_order_84 : decode cX11_order 84 = .ok (.invokevirtual 161, 3) := by decide +kernel
theorem dX11_order_87 : decode cX11_order 87 = .ok (.aload 8, 2) := by decide +kernel
theorem dX11_order_89 : decode cX11_order 89 = .ok (.invokevirtual 164, 3) := by decide +kernel
theorem dX11_order_92 : decode cX11_order 92 = .ok (.ifCond .eq 12, 3) := by decide +kernel
theorem dX11_order_95 : decode cX11_order 95 = .ok (.bipush (-100), 2) := by decide +kernel
theorem dX11_order_97 : decode cX11_order 97 = .ok (.aload 8, 2) := by decide +kernel
theorem dX11_order_99 : decode cX11_order 99 = .ok (.getfield 168, 3) := by decide +kernel
theorem dX11_order_102 : decode cX11_order 102 = .ok (.isub, 1) := by decide +kernel
theorem dX11_order_103 : decode cX11_order 103 = .ok (.ireturn, 1) := by decide +kernel
theorem dX11_order_104 : decode cX11_order 104 = .ok (.aload_n 0, 1) := by decide +kernel
theorem dX11_order_105 : decode cX11_order 105 = .ok (.getfield 171, 3) := by decide +kernel
theorem dX11_order_108 : decode cX11_order 108 = .ok (.bipush 12, 2) := by decide +kernel
theorem dX11_order_110 : decode cX11_order 110 = .ok (.if_icmp .lt 6, 3) := by decide +kernel
theorem dX11_order_113 : decode cX11_order 113 = .ok (.bipush (-4), 2) := by decide +kernel
theorem dX11_order_115 : decode cX11_order 115 = .ok (.ireturn, 1) := by decide +kernel
theorem dX11_order_116 : decode cX11_order 116 = .ok (.aload_n 0, 1) := by decide +kernel
theorem dX11_order_117 : decode cX11_order 117 = .ok (.getfield 30, 3) := by decide +kernel
theorem dX11_order_120 : decode cX11_order 120 = .ok (.aload_n 0, 1) := by decide +kernel
theorem dX11_order_121 : decode cX11_order 121 = .ok (.getfield 171, 3) := by decide +kernel
theorem dX11_order_124 : decode cX11_order 124 = .ok (.new 28, 3) := by decide +kernel
theorem dX11_order_127 : decode cX11_order 127 = .ok (.dup, 1) := by decide +kernel
theorem dX11_order_128 : decode cX11_order 128 = .ok (.aload 8, 2) := by decide +kernel
theorem dX11_order_130 : decode cX11_order 130 = .ok (.iload_n 1, 1) := by decide +kernel
theorem dX11_order_131 : decode cX11_order 131 = .ok (.invokespecial 174, 3) := by decide +kernel
theorem dX11_order_134 : decode cX11_order 134 = .ok (.aastore, 1) := by decide +kernel
theorem dX11_order_135 : decode cX11_order 135 = .ok (.aload_n 0, 1) := by decide +kernel
theorem dX11_order_136 : decode cX11_order 136 = .ok (.dup, 1) := by decide +kernel
theorem dX11_order_137 : decode cX11_order 137 = .ok (.getfield 171, 3) := by decide +kernel
theorem dX11_order_140 : decode cX11_order 140 = .ok (.iconst 1, 1) := by decide +kernel
theorem dX11_order_141 : decode cX11_order 141 = .ok (.iadd, 1) := by decide +kernel
theorem dX11_order_142 : decode cX11_order 142 = .ok (.putfield 171, 3) := by decide +kernel
theorem dX11_order_145 : decode cX11_order 145 = .ok (.aload_n 0, 1) := by decide +kernel
theorem dX11_order_146 : decode cX11_order 146 = .ok (.getfield 171, 3) := by decide +kernel
theorem dX11_order_149 : decode cX11_order 149 = .ok (.iconst 1, 1) := by decide +kernel
theorem dX11_order_150 : decode cX11_order 150 = .ok (.isub, 1) := by decide +kernel
theorem dX11_order_151 : decode cX11_order 151 = .ok (.ireturn, 1) := by decide +kernel
theorem dX11_ofOrder_0 : decode cX11_ofOrder 0 = .ok (.aload_n 0, 1) := by decide +kernel
theorem dX11_ofOrder_1 : decode cX11_ofOrder 1 = .ok (.iload_n 1, 1) := by decide +kernel
theorem dX11_ofOrder_2 : decode cX11_ofOrder 2 = .ok (.invokevirtual 177, 3) := by decide +kernel
theorem dX11_ofOrder_5 : decode cX11_ofOrder 5 = .ok (.astore_n 3, 1) := by decide +kernel
theorem dX11_ofOrder_6 : decode cX11_ofOrder 6 = .ok (.aload_n 3, 1) := by decide +kernel
theorem dX11_ofOrder_7 : decode cX11_ofOrder 7 = .ok (.ifnonnull 7, 3) := by decide +kernel
theorem dX11_ofOrder_10 : decode cX11_ofOrder 10 = .ok (.iconst (-1), 1) := by decide +kernel
theorem dX11_ofOrder_11 : decode cX11_ofOrder 11 = .ok (.goto 8, 3) := by decide +kernel
theorem dX11_ofOrder_14 : decode cX11_ofOrder 14 = .ok (.aload_n 3, 1) := by decide +kernel
theorem dX11_ofOrder_15 : decode cX11_ofOrder 15 = .ok (.iload_n 2, 1) := by decide +kernel
theorem dX11_ofOrder_16 : decode cX11_ofOrder 16 = .ok (.invokevirtual 181, 3) := by decide +kernel
theorem dX11_ofOrder_19 : decode cX11_ofOrder 19 = .ok (.ireturn, 1) := by decide +kernel
theorem dX11_delay_0 : decode cX11_delay 0 = .ok (.iload_n 1, 1) := by decide +kernel
theorem dX11_delay_1 : decode cX11_delay 1 = .ok (.invokestatic 184, 3) := by decide +kernel
theorem dX11_delay_4 : decode cX11_delay 4 = .ok (.ifCond .ne 5, 3) := by decide +kernel
theorem dX11_delay_7 : decode cX11_delay 7 = .ok (.iconst (-1), 1) := by decide +kernel
theorem dX11_delay_8 : decode cX11_delay 8 = .ok (.ireturn, 1) := by decide +kernel
theorem dX11_delay_9 : decode cX11_delay 9 = .ok (.iload_n 2, 1) := by decide +kernel
theorem dX11_delay_10 : decode cX11_delay 10 = .ok (.iconst 0, 1) := by decide +kernel
theorem dX11_delay_11 : decode cX11_delay 11 = .ok (.bipush 30, 2) := by decide +kernel
theorem dX11_delay_13 : decode cX11_delay 13 = .ok (.invokestatic 80, 3) := by decide +kernel
theorem dX11_delay_16 : decode cX11_delay 16 = .ok (.ifCond .ne 6, 3) := by decide +kernel
theorem dX11_delay_19 : decode cX11_delay 19 = .ok (.bipush (-2), 2) := by decide +kernel
theorem dX11_delay_21 : decode cX11_delay 21 = .ok (.ireturn, 1) := by decide +kernel
theorem dX11_delay_22 : decode cX11_delay 22 = .ok (.aload_n 0, 1) := by decide +kernel
theorem dX11_delay_23 : decode cX11_delay 23 = .ok (.getfield 24, 3) := by decide +kernel
theorem dX11_delay_26 : decode cX11_delay 26 = .ok (.iload_n 1, 1) := by decide +kernel
theorem dX11_delay_27 : decode cX11_delay 27 = .ok (.iaload, 1) := by decide +kernel
theorem dX11_delay_28 : decode cX11_delay 28 = .ok (.istore_n 3, 1) := by decide +kernel
theorem dX11_delay_29 : decode cX11_delay 29 = .ok (.aload_n 0, 1) := by decide +kernel
theorem dX11_delay_30 : decode cX11_delay 30 = .ok (.getfield 24, 3) := by decide +kernel
theorem dX11_delay_33 : decode cX11_delay 33 = .ok (.iload_n 1, 1) := by decide +kernel
theorem dX11_delay_34 : decode cX11_delay 34 = .ok (.iload_n 2, 1) := by decide +kernel
theorem dX11_delay_35 : decode cX11_delay 35 = .ok (.iastore, 1) := by decide +kernel
theorem dX11_delay_36 : decode cX11_delay 36 = .ok (.iload_n 3, 1) := by decide +kernel
theorem dX11_delay_37 : decode cX11_delay 37 = .ok (.ireturn, 1) := by decide +kernel
theorem dX11_word_0 : decode cX11_word 0 = .ok (.aload_n 0, 1) := by decide +kernel
theorem dX11_word_1 : decode cX11_word 1 = .ok (.iload_n 1, 1) := by decide +kernel
theorem dX11_word_2 : decode cX11_word 2 = .ok (.iload_n 2, 1) := by decide +kernel
theorem dX11_word_3 : decode cX11_word 3 = .ok (.iload_n 3, 1) := by decide +kernel
theorem dX11_word_4 : decode cX11_word 4 = .ok (.iload 4, 2) := by decide +kernel
theorem dX11_word_6 : decode cX11_word 6 = .ok (.invokevirtual 187, 3) := by decide +kernel
theorem dX11_word_9 : decode cX11_word 9 = .ok (.istore 5, 2) := by decide +kernel
theorem dX11_word_11 : decode cX11_word 11 = .ok (.aload_n 0, 1) := by decide +kernel
theorem dX11_word_12 : decode cX11_word 12 = .ok (.iload 5, 2) := by decide +kernel
theorem dX11_word_14 : decode cX11_word 14 = .ok (.invokevirtual 177, 3) := by decide +kernel
theorem dX11_word_17 : decode cX11_word 17 = .ok (.astore 6, 2) := by decide +kernel
theorem dX11_word_19 : decode cX11_word 19 = .ok (.aload 6, 2) := by decide +kernel
theorem dX11_word_21 : decode cX11_word 21 = .ok (.ifnonnull 8, 3) := by decide +kernel
theorem dX11_word_24 : decode cX11_word 24 = .ok (.iload 5, 2) := by decide +kernel
theorem dX11_word_26 : decode cX11_word 26 = .ok (.goto 8, 3) := by decide +kernel
theorem dX11_word_29 : decode cX11_word 29 = .ok (.aload 6, 2) := by decide +kernel
theorem dX11_word_31 : decode cX11_word 31 = .ok (.getfield 191, 3) := by decide +kernel
theorem dX11_word_34 : decode cX11_word 34 = .ok (.ireturn, 1) := by decide +kernel
theorem dX11_why_0 : decode cX11_why 0 = .ok (.aload_n 0, 1) := by decide +kernel
theorem dX11_why_1 : decode cX11_why 1 = .ok (.getfield 12, 3) := by decide +kernel
theorem dX11_why_4 : decode cX11_why 4 = .ok (.iload_n 1, 1) := by decide +kernel
theorem dX11_why_5 : decode cX11_why 5 = .ok (.invokevirtual 96, 3) := by decide +kernel
theorem dX11_why_8 : decode cX11_why 8 = .ok (.ifCond .eq 11, 3) := by decide +kernel
theorem dX11_why_11 : decode cX11_why 11 = .ok (.iload 4, 2) := by decide +kernel
theorem dX11_why_13 : decode cX11_why 13 = .ok (.invokestatic 184, 3) := by decide +kernel
theorem dX11_why_16 : decode cX11_why 16 = .ok (.ifCond .ne 5, 3) := by decide +kernel
theorem dX11_why_19 : decode cX11_why 19 = .ok (.iconst (-1), 1) := by decide +kernel
theorem dX11_why_20 : decode cX11_why 20 = .ok (.ireturn, 1) := by decide +kernel
theorem dX11_why_21 : decode cX11_why 21 = .ok (.iload_n 2, 1) := by decide +kernel
theorem dX11_why_22 : decode cX11_why 22 = .ok (.iconst 0, 1) := by decide +kernel
theorem dX11_why_23 : decode cX11_why 23 = .ok (.bipush 23, 2) := by decide +kernel
theorem dX11_why_25 : decode cX11_why 25 = .ok (.invokestatic 80, 3) := by decide +kernel
theorem dX11_why_28 : decode cX11_why 28 = .ok (.ifCond .eq 10, 3) := by decide +kernel
theorem dX11_why_31 : decode cX11_why 31 = .ok (.iload_n 3, 1) := by decide +kernel
theorem dX11_why_32 : decode cX11_why 32 = .ok (.invokestatic 114, 3) := by decide +kernel
theorem dX11_why_35 : decode cX11_why 35 = .ok (.ifCond .ne 6, 3) := by decide +kernel
theorem dX11_why_38 : decode cX11_why 38 = .ok (.bipush (-2), 2) := by decide +kernel
theorem dX11_why_40 : decode cX11_why 40 = .ok (.ireturn, 1) := by decide +kernel
theorem dX11_why_41 : decode cX11_why 41 = .ok (.aload_n 0, 1) := by decide +kernel
theorem dX11_why_42 : decode cX11_why 42 = .ok (.iload_n 1, 1) := by decide +kernel
theorem dX11_why_43 : decode cX11_why 43 = .ok (.iload_n 2, 1) := by decide +kernel
theorem dX11_why_44 : decode cX11_why 44 = .ok (.iload_n 3, 1) := by decide +kernel
theorem dX11_why_45 : decode cX11_why 45 = .ok (.iload 4, 2) := by decide +kernel
theorem dX11_why_47 : decode cX11_why 47 = .ok (.invokevirtual 194, 3) := by decide +kernel
theorem dX11_why_50 : decode cX11_why 50 = .ok (.ireturn, 1) := by decide +kernel
theorem dX11_quarrel_0 : decode cX11_quarrel 0 = .ok (.aload_n 0, 1) := by decide +kernel
theorem dX11_quarrel_1 : decode cX11_quarrel 1 = .ok (.getfield 12, 3) := by decide +kernel
theorem dX11_quarrel_4 : decode cX11_quarrel 4 = .ok (.iload_n 1, 1) := by decide +kernel
theorem dX11_quarrel_5 : decode cX11_quarrel 5 = .ok (.invokevirtual 96, 3) := by decide +kernel
theorem dX11_quarrel_8 : decode cX11_quarrel 8 = .ok (.ifCond .ne 5, 3) := by decide +kernel
theorem dX11_quarrel_11 : decode cX11_quarrel 11 = .ok (.iconst (-1), 1) := by decide +kernel
theorem dX11_quarrel_12 : decode cX11_quarrel 12 = .ok (.ireturn, 1) := by decide +kernel
theorem dX11_quarrel_13 : decode cX11_quarrel 13 = .ok (.iload_n 2, 1) := by decide +kernel
theorem dX11_quarrel_14 : decode cX11_quarrel 14 = .ok (.invokestatic 114, 3) := by decide +kernel
theorem dX11_quarrel_17 : decode cX11_quarrel 17 = .ok (.ifCond .ne 6, 3) := by decide +kernel
theorem dX11_quarrel_20 : decode cX11_quarrel 20 = .ok (.bipush (-2), 2) := by decide +kernel
theorem dX11_quarrel_22 : decode cX11_quarrel 22 = .ok (.ireturn, 1) := by decide +kernel
theorem dX11_quarrel_23 : decode cX11_quarrel 23 = .ok (.iconst 0, 1) := by decide +kernel
theorem dX11_quarrel_24 : decode cX11_quarrel 24 = .ok (.istore_n 3, 1) := by decide +kernel
theorem dX11_quarrel_25 : decode cX11_quarrel 25 = .ok (.iconst 0, 1) := by decide +kernel
theorem dX11_quarrel_26 : decode cX11_quarrel 26 = .ok (.istore 4, 2) := by decide +kernel
theorem dX11_quarrel_28 : decode cX11_quarrel 28 = .ok (.iload 4, 2) := by decide +kernel
theorem dX11_quarrel_30 : decode cX11_quarrel 30 = .ok (.bipush 23, 2) := by decide +kernel
theorem dX11_quarrel_32 : decode cX11_quarrel 32 = .ok (.if_icmp .gt 28, 3) := by decide +kernel
theorem dX11_quarrel_35 : decode cX11_quarrel 35 = .ok (.aload_n 0, 1) := by decide +kernel
theorem dX11_quarrel_36 : decode cX11_quarrel 36 = .ok (.iload_n 1, 1) := by decide +kernel
theorem dX11_quarrel_37 : decode cX11_quarrel 37 = .ok (.iload 4, 2) := by decide +kernel
theorem dX11_quarrel_39 : decode cX11_quarrel 39 = .ok (.iload_n 2, 1) := by decide +kernel
theorem dX11_quarrel_40 : decode cX11_quarrel 40 = .ok (.invokevirtual 197, 3) := by decide +kernel
theorem dX11_quarrel_43 : decode cX11_quarrel 43 = .ok (.iconst 2, 1) := by decide +kernel
theorem dX11_quarrel_44 : decode cX11_quarrel 44 = .ok (.if_icmp .lt 10, 3) := by decide +kernel
theorem dX11_quarrel_47 : decode cX11_quarrel 47 = .ok (.iload_n 3, 1) := by decide +kernel
theorem dX11_quarrel_48 : decode cX11_quarrel 48 = .ok (.iconst 1, 1) := by decide +kernel
theorem dX11_quarrel_49 : decode cX11_quarrel 49 = .ok (.iload 4, 2) := by decide +kernel
theorem dX11_quarrel_51 : decode cX11_quarrel 51 = .ok (.ishl, 1) := by decide +kernel
theorem dX11_quarrel_52 : decode cX11_quarrel 52 = .ok (.ior, 1) := by decide +kernel
theorem dX11_quarrel_53 : decode cX11_quarrel 53 = .ok (.istore_n 3, 1) := by decide +kernel
theorem dX11_quarrel_54 : decode cX11_quarrel 54 = .ok (.iinc 4 1, 3) := by decide +kernel
theorem dX11_quarrel_57 : decode cX11_quarrel 57 = .ok (.goto (-29), 3) := by decide +kernel
theorem dX11_quarrel_60 : decode cX11_quarrel 60 = .ok (.iload_n 3, 1) := by decide +kernel
theorem dX11_quarrel_61 : decode cX11_quarrel 61 = .ok (.ireturn, 1) := by decide +kernel
theorem dX11_rate_0 : decode cX11_rate 0 = .ok (.iload_n 1, 1) := by decide +kernel
theorem dX11_rate_1 : decode cX11_rate 1 = .ok (.invokestatic 99, 3) := by decide +kernel
theorem dX11_rate_4 : decode cX11_rate 4 = .ok (.ifCond .eq 14, 3) := by decide +kernel
theorem dX11_rate_7 : decode cX11_rate 7 = .ok (.iload_n 2, 1) := by decide +kernel
theorem dX11_rate_8 : decode cX11_rate 8 = .ok (.iconst 0, 1) := by decide +kernel
theorem dX11_rate_9 : decode cX11_rate 9 = .ok (.sipush 999, 3) := by decide +kernel
theorem dX11_rate_12 : decode cX11_rate 12 = .ok (.invokestatic 80, 3) := by decide +kernel
theorem dX11_rate_15 : decode cX11_rate 15 = .ok (.ifCond .ne 6, 3) := by decide +kernel
theorem dX11_rate_18 : decode cX11_rate 18 = .ok (.bipush (-2), 2) := by decide +kernel
theorem dX11_rate_20 : decode cX11_rate 20 = .ok (.ireturn, 1) := by decide +kernel
theorem dX11_rate_21 : decode cX11_rate 21 = .ok (.aload_n 0, 1) := by decide +kernel
theorem dX11_rate_22 : decode cX11_rate 22 = .ok (.getfield 37, 3) := by decide +kernel
theorem dX11_rate_25 : decode cX11_rate 25 = .ok (.getfield 200, 3) := by decide +kernel
theorem dX11_rate_28 : decode cX11_rate 28 = .ok (.iload_n 1, 1) := by decide +kernel
theorem dX11_rate_29 : decode cX11_rate 29 = .ok (.iaload, 1) := by decide +kernel
theorem dX11_rate_30 : decode cX11_rate 30 = .ok (.istore_n 3, 1) := by decide +kernel
theorem dX11_rate_31 : decode cX11_rate 31 = .ok (.aload_n 0, 1) := by decide +kernel
theorem dX11_rate_32 : decode cX11_rate 32 = .ok (.getfield 37, 3) := by decide +kernel
theorem dX11_rate_35 : decode cX11_rate 35 = .ok (.getfield 200, 3) := by decide +kernel
theorem dX11_rate_38 : decode cX11_rate 38 = .ok (.iload_n 1, 1) := by decide +kernel
theorem dX11_rate_39 : decode cX11_rate 39 = .ok (.iload_n 2, 1) := by decide +kernel
theorem dX11_rate_40 : decode cX11_rate 40 = .ok (.iastore, 1) := by decide +kernel
theorem dX11_rate_41 : decode cX11_rate 41 = .ok (.iload_n 3, 1) := by decide +kernel
theorem dX11_rate_42 : decode cX11_rate 42 = .ok (.ireturn, 1) := by decide +kernel
theorem dX11_home_0 : decode cX11_home 0 = .ok (.iload_n 2, 1) := by decide +kernel
theorem dX11_home_1 : decode cX11_home 1 = .ok (.iconst 1, 1) := by decide +kernel
theorem dX11_home_2 : decode cX11_home 2 = .ok (.bipush 100, 2) := by decide +kernel
theorem dX11_home_4 : decode cX11_home 4 = .ok (.invokestatic 80, 3) := by decide +kernel
theorem dX11_home_7 : decode cX11_home 7 = .ok (.ifCond .eq 12, 3) := by decide +kernel
theorem dX11_home_10 : decode cX11_home 10 = .ok (.iload_n 1, 1) := by decide +kernel
theorem dX11_home_11 : decode cX11_home 11 = .ok (.iconst 0, 1) := by decide +kernel
theorem dX11_home_12 : decode cX11_home 12 = .ok (.iload_n 2, 1) := by decide +kernel
theorem dX11_home_13 : decode cX11_home 13 = .ok (.invokestatic 80, 3) := by decide +kernel
theorem dX11_home_16 : decode cX11_home 16 = .ok (.ifCond .ne 6, 3) := by decide +kernel
theorem dX11_home_19 : decode cX11_home 19 = .ok (.bipush (-2), 2) := by decide +kernel
theorem dX11_home_21 : decode cX11_home 21 = .ok (.ireturn, 1) := by decide +kernel
theorem dX11_home_22 : decode cX11_home 22 = .ok (.aload_n 0, 1) := by decide +kernel
theorem dX11_home_23 : decode cX11_home 23 = .ok (.getfield 37, 3) := by decide +kernel
theorem dX11_home_26 : decode cX11_home 26 = .ok (.iload_n 1, 1) := by decide +kernel
theorem dX11_home_27 : decode cX11_home 27 = .ok (.iload_n 2, 1) := by decide +kernel
theorem dX11_home_28 : decode cX11_home 28 = .ok (.invokevirtual 203, 3) := by decide +kernel
theorem dX11_home_31 : decode cX11_home 31 = .ok (.ifCond .eq 7, 3) := by decide +kernel
theorem dX11_home_34 : decode cX11_home 34 = .ok (.iconst 1, 1) := by decide +kernel
theorem dX11_home_35 : decode cX11_home 35 = .ok (.goto 4, 3) := by decide +kernel
theorem dX11_home_38 : decode cX11_home 38 = .ok (.iconst 0, 1) := by decide +kernel
theorem dX11_home_39 : decode cX11_home 39 = .ok (.ireturn, 1) := by decide +kernel
theorem dX11_fine_0 : decode cX11_fine 0 = .ok (.aload_n 0, 1) := by decide +kernel
theorem dX11_fine_1 : decode cX11_fine 1 = .ok (.iload_n 1, 1) := by decide +kernel
theorem dX11_fine_2 : decode cX11_fine 2 = .ok (.invokevirtual 92, 3) := by decide +kernel
theorem dX11_fine_5 : decode cX11_fine 5 = .ok (.ifCond .ne 5, 3) := by decide +kernel
theorem dX11_fine_8 : decode cX11_fine 8 = .ok (.iconst (-1), 1) := by decide +kernel
theorem dX11_fine_9 : decode cX11_fine 9 = .ok (.ireturn, 1) := by decide +kernel
theorem dX11_fine_10 : decode cX11_fine 10 = .ok (.iload_n 2, 1) := by decide +kernel
theorem dX11_fine_11 : decode cX11_fine 11 = .ok (.invokestatic 114, 3) := by decide +kernel
theorem dX11_fine_14 : decode cX11_fine 14 = .ok (.ifCond .eq 14, 3) := by decide +kernel
theorem dX11_fine_17 : decode cX11_fine 17 = .ok (.iload_n 3, 1) := by decide +kernel
theorem dX11_fine_18 : decode cX11_fine 18 = .ok (.iconst 1, 1) := by decide +kernel
theorem dX11_fine_19 : decode cX11_fine 19 = .ok (.sipush 9999, 3) := by decide +kernel
theorem dX11_fine_22 : decode cX11_fine 22 = .ok (.invokestatic 80, 3) := by decide +kernel
theorem dX11_fine_25 : decode cX11_fine 25 = .ok (.ifCond .ne 6, 3) := by decide +kernel
theorem dX11_fine_28 : decode cX11_fine 28 = .ok (.bipush (-2), 2) := by decide +kernel
theorem dX11_fine_30 : decode cX11_fine 30 = .ok (.ireturn, 1) := by decide +kernel
theorem dX11_fine_31 : decode cX11_fine 31 = .ok (.aload_n 0, 1) := by decide +kernel
theorem dX11_fine_32 : decode cX11_fine 32 = .ok (.getfield 37, 3) := by decide +kernel
theorem dX11_fine_35 : decode cX11_fine 35 = .ok (.iload_n 1, 1) := by decide +kernel
theorem dX11_fine_36 : decode cX11_fine 36 = .ok (.iload_n 2, 1) := by decide +kernel
theorem dX11_fine_37 : decode cX11_fine 37 = .ok (.iload_n 3, 1) := by decide +kernel
theorem dX11_fine_38 : decode cX11_fine 38 = .ok (.invokevirtual 206, 3) := by decide +kernel
theorem dX11_fine_41 : decode cX11_fine 41 = .ok (.ireturn, 1) := by decide +kernel
theorem dX11_pay_0 : decode cX11_pay 0 = .ok (.aload_n 0, 1) := by decide +kernel
theorem dX11_pay_1 : decode cX11_pay 1 = .ok (.iload_n 1, 1) := by decide +kernel
theorem dX11_pay_2 : decode cX11_pay 2 = .ok (.invokevirtual 92, 3) := by decide +kernel
theorem dX11_pay_5 : decode cX11_pay 5 = .ok (.ifCond .ne 5, 3) := by decide +kernel
theorem dX11_pay_8 : decode cX11_pay 8 = .ok (.iconst (-1), 1) := by decide +kernel
theorem dX11_pay_9 : decode cX11_pay 9 = .ok (.ireturn, 1) := by decide +kernel
theorem dX11_pay_10 : decode cX11_pay 10 = .ok (.iload_n 2, 1) := by decide +kernel
theorem dX11_pay_11 : decode cX11_pay 11 = .ok (.iload_n 3, 1) := by decide +kernel
theorem dX11_pay_12 : decode cX11_pay 12 = .ok (.invokestatic 102, 3) := by decide +kernel
theorem dX11_pay_15 : decode cX11_pay 15 = .ok (.ifCond .ne 6, 3) := by decide +kernel
theorem dX11_pay_18 : decode cX11_pay 18 = .ok (.bipush (-2), 2) := by decide +kernel
theorem dX11_pay_20 : decode cX11_pay 20 = .ok (.ireturn, 1) := by decide +kernel
theorem dX11_pay_21 : decode cX11_pay 21 = .ok (.aload_n 0, 1) := by decide +kernel
theorem dX11_pay_22 : decode cX11_pay 22 = .ok (.getfield 37, 3) := by decide +kernel
theorem dX11_pay_25 : decode cX11_pay 25 = .ok (.aload_n 0, 1) := by decide +kernel
theorem dX11_pay_26 : decode cX11_pay 26 = .ok (.getfield 20, 3) := by decide +kernel
theorem dX11_pay_29 : decode cX11_pay 29 = .ok (.iload_n 1, 1) := by decide +kernel
theorem dX11_pay_30 : decode cX11_pay 30 = .ok (.iload_n 2, 1) := by decide +kernel
theorem dX11_pay_31 : decode cX11_pay 31 = .ok (.iload_n 3, 1) := by decide +kernel
theorem dX11_pay_32 : decode cX11_pay 32 = .ok (.invokevirtual 209, 3) := by decide +kernel
theorem dX11_pay_35 : decode cX11_pay 35 = .ok (.istore 5, 2) := by decide +kernel
theorem dX11_pay_37 : decode cX11_pay 37 = .ok (.aload_n 0, 1) := by decide +kernel
theorem dX11_pay_38 : decode cX11_pay 38 = .ok (.getfield 37, 3) := by decide +kernel
theorem dX11_pay_41 : decode cX11_pay 41 = .ok (.iload 5, 2) := by decide +kernel
theorem dX11_pay_43 : decode cX11_pay 43 = .ok (.invokevirtual 213, 3) := by decide +kernel
theorem dX11_pay_46 : decode cX11_pay 46 = .ok (.istore 6, 2) := by decide +kernel
theorem dX11_pay_48 : decode cX11_pay 48 = .ok (.aload_n 0, 1) := by decide +kernel
theorem dX11_pay_49 : decode cX11_pay 49 = .ok (.getfield 37, 3) := by decide +kernel
theorem dX11_pay_52 : decode cX11_pay 52 = .ok (.iload_n 1, 1) := by decide +kernel
theorem dX11_pay_53 : decode cX11_pay 53 = .ok (.iload_n 2, 1) := by decide +kernel
theorem dX11_pay_54 : decode cX11_pay 54 = .ok (.iload_n 3, 1) := by decide +kernel
theorem dX11_pay_55 : decode cX11_pay 55 = .ok (.invokevirtual 216, 3) := by decide +kernel
theorem dX11_pay_58 : decode cX11_pay 58 = .ok (.istore 7, 2) := by decide +kernel
theorem dX11_pay_60 : decode cX11_pay 60 = .ok (.iload 7, 2) := by decide +kernel
theorem dX11_pay_62 : decode cX11_pay 62 = .ok (.iload 5, 2) := by decide +kernel
theorem dX11_pay_64 : decode cX11_pay 64 = .ok (.iload 6, 2) := by decide +kernel
theorem dX11_pay_66 : decode cX11_pay 66 = .ok (.isub, 1) := by decide +kernel
theorem dX11_pay_67 : decode cX11_pay 67 = .ok (.invokestatic 219, 3) := by decide +kernel
theorem dX11_pay_70 : decode cX11_pay 70 = .ok (.istore 8, 2) := by decide +kernel
theorem dX11_pay_72 : decode cX11_pay 72 = .ok (.iload 4, 2) := by decide +kernel
theorem dX11_pay_74 : decode cX11_pay 74 = .ok (.tableswitch 58 0 4 #[34, 37, 40, 43, 52], 34) := by decide +kernel
theorem dX11_pay_108 : decode cX11_pay 108 = .ok (.iload 5, 2) := by decide +kernel
theorem dX11_pay_110 : decode cX11_pay 110 = .ok (.ireturn, 1) := by decide +kernel
theorem dX11_pay_111 : decode cX11_pay 111 = .ok (.iload 6, 2) := by decide +kernel
theorem dX11_pay_113 : decode cX11_pay 113 = .ok (.ireturn, 1) := by decide +kernel
theorem dX11_pay_114 : decode cX11_pay 114 = .ok (.iload 8, 2) := by decide +kernel
theorem dX11_pay_116 : decode cX11_pay 116 = .ok (.ireturn, 1) := by decide +kernel
theorem dX11_pay_117 : decode cX11_pay 117 = .ok (.iload 5, 2) := by decide +kernel
theorem dX11_pay_119 : decode cX11_pay 119 = .ok (.iload 6, 2) := by decide +kernel
theorem dX11_pay_121 : decode cX11_pay 121 = .ok (.isub, 1) := by decide +kernel
theorem dX11_pay_122 : decode cX11_pay 122 = .ok (.iload 8, 2) := by decide +kernel
theorem dX11_pay_124 : decode cX11_pay 124 = .ok (.isub, 1) := by decide +kernel
theorem dX11_pay_125 : decode cX11_pay 125 = .ok (.ireturn, 1) := by decide +kernel
theorem dX11_pay_126 : decode cX11_pay 126 = .ok (.iload 7, 2) := by decide +kernel
theorem dX11_pay_128 : decode cX11_pay 128 = .ok (.iload 8, 2) := by decide +kernel
theorem dX11_pay_130 : decode cX11_pay 130 = .ok (.isub, 1) := by decide +kernel
theorem dX11_pay_131 : decode cX11_pay 131 = .ok (.ireturn, 1) := by decide +kernel
theorem dX11_pay_132 : decode cX11_pay 132 = .ok (.bipush (-2), 2) := by decide +kernel
theorem dX11_pay_134 : decode cX11_pay 134 = .ok (.ireturn, 1) := by decide +kernel
theorem dX11_work_0 : decode cX11_work 0 = .ok (.aload_n 0, 1) := by decide +kernel
theorem dX11_work_1 : decode cX11_work 1 = .ok (.getfield 12, 3) := by decide +kernel
theorem dX11_work_4 : decode cX11_work 4 = .ok (.iload_n 1, 1) := by decide +kernel
theorem dX11_work_5 : decode cX11_work 5 = .ok (.invokevirtual 96, 3) := by decide +kernel
theorem dX11_work_8 : decode cX11_work 8 = .ok (.ifCond .ne 5, 3) := by decide +kernel
theorem dX11_work_11 : decode cX11_work 11 = .ok (.iconst (-1), 1) := by decide +kernel
theorem dX11_work_12 : decode cX11_work 12 = .ok (.ireturn, 1) := by decide +kernel
theorem dX11_work_13 : decode cX11_work 13 = .ok (.iload_n 2, 1) := by decide +kernel
theorem dX11_work_14 : decode cX11_work 14 = .ok (.iconst 1, 1) := by decide +kernel
theorem dX11_work_15 : decode cX11_work 15 = .ok (.sipush 9999, 3) := by decide +kernel
theorem dX11_work_18 : decode cX11_work 18 = .ok (.invokestatic 80, 3) := by decide +kernel
theorem dX11_work_21 : decode cX11_work 21 = .ok (.ifCond .eq 13, 3) := by decide +kernel
theorem dX11_work_24 : decode cX11_work 24 = .ok (.iload_n 3, 1) := by decide +kernel
theorem dX11_work_25 : decode cX11_work 25 = .ok (.iconst 0, 1) := by decide +kernel
theorem dX11_work_26 : decode cX11_work 26 = .ok (.bipush 20, 2) := by decide +kernel
theorem dX11_work_28 : decode cX11_work 28 = .ok (.invokestatic 80, 3) := by decide +kernel
theorem dX11_work_31 : decode cX11_work 31 = .ok (.ifCond .ne 6, 3) := by decide +kernel
theorem dX11_work_34 : decode cX11_work 34 = .ok (.bipush (-2), 2) := by decide +kernel
theorem dX11_work_36 : decode cX11_work 36 = .ok (.ireturn, 1) := by decide +kernel
theorem dX11_work_37 : decode cX11_work 37 = .ok (.aload_n 0, 1) := by decide +kernel
theorem dX11_work_38 : decode cX11_work 38 = .ok (.getfield 44, 3) := by decide +kernel
theorem dX11_work_41 : decode cX11_work 41 = .ok (.iload_n 1, 1) := by decide +kernel
theorem dX11_work_42 : decode cX11_work 42 = .ok (.iload_n 2, 1) := by decide +kernel
theorem dX11_work_43 : decode cX11_work 43 = .ok (.iload_n 3, 1) := by decide +kernel
theorem dX11_work_44 : decode cX11_work 44 = .ok (.invokevirtual 224, 3) := by decide +kernel
theorem dX11_work_47 : decode cX11_work 47 = .ok (.ireturn, 1) := by decide +kernel
theorem dX11_hands_0 : decode cX11_hands 0 = .ok (.aload_n 0, 1) := by decide +kernel
theorem dX11_hands_1 : decode cX11_hands 1 = .ok (.getfield 44, 3) := by decide +kernel
theorem dX11_hands_4 : decode cX11_hands 4 = .ok (.iload_n 1, 1) := by decide +kernel
theorem dX11_hands_5 : decode cX11_hands 5 = .ok (.invokevirtual 225, 3) := by decide +kernel
theorem dX11_hands_8 : decode cX11_hands 8 = .ok (.astore 4, 2) := by decide +kernel
theorem dX11_hands_10 : decode cX11_hands 10 = .ok (.aload 4, 2) := by decide +kernel
theorem dX11_hands_12 : decode cX11_hands 12 = .ok (.ifnonnull 5, 3) := by decide +kernel
theorem dX11_hands_15 : decode cX11_hands 15 = .ok (.iconst (-1), 1) := by decide +kernel
theorem dX11_hands_16 : decode cX11_hands 16 = .ok (.ireturn, 1) := by decide +kernel
theorem dX11_hands_17 : decode cX11_hands 17 = .ok (.iload_n 2, 1) := by decide +kernel
theorem dX11_hands_18 : decode cX11_hands 18 = .ok (.iconst 0, 1) := by decide +kernel
theorem dX11_hands_19 : decode cX11_hands 19 = .ok (.iconst 1, 1) := by decide +kernel
theorem dX11_hands_20 : decode cX11_hands 20 = .ok (.invokestatic 80, 3) := by decide +kernel
theorem dX11_hands_23 : decode cX11_hands 23 = .ok (.ifCond .eq 13, 3) := by decide +kernel
theorem dX11_hands_26 : decode cX11_hands 26 = .ok (.iload_n 3, 1) := by decide +kernel
theorem dX11_hands_27 : decode cX11_hands 27 = .ok (.iconst 0, 1) := by decide +kernel
theorem dX11_hands_28 : decode cX11_hands 28 = .ok (.bipush 20, 2) := by decide +kernel
theorem dX11_hands_30 : decode cX11_hands 30 = .ok (.invokestatic 80, 3) := by decide +kernel
theorem dX11_hands_33 : decode cX11_hands 33 = .ok (.ifCond .ne 6, 3) := by decide +kernel
theorem dX11_hands_36 : decode cX11_hands 36 = .ok (.bipush (-2), 2) := by decide +kernel
theorem dX11_hands_38 : decode cX11_hands 38 = .ok (.ireturn, 1) := by decide +kernel
theorem dX11_hands_39 : decode cX11_hands 39 = .ok (.iload_n 2, 1) := by decide +kernel
theorem dX11_hands_40 : decode cX11_hands 40 = .ok (.ifCond .ne 12, 3) := by decide +kernel
theorem dX11_hands_43 : decode cX11_hands 43 = .ok (.aload 4, 2) := by decide +kernel
theorem dX11_hands_45 : decode cX11_hands 45 = .ok (.iload_n 3, 1) := by decide +kernel
theorem dX11_hands_46 : decode cX11_hands 46 = .ok (.invokevirtual 229, 3) := by decide +kernel
theorem dX11_hands_49 : decode cX11_hands 49 = .ok (.goto 9, 3) := by decide +kernel
theorem dX11_hands_52 : decode cX11_hands 52 = .ok (.aload 4, 2) := by decide +kernel
theorem dX11_hands_54 : decode cX11_hands 54 = .ok (.iload_n 3, 1) := by decide +kernel
theorem dX11_hands_55 : decode cX11_hands 55 = .ok (.invokevirtual 234, 3) := by decide +kernel
theorem dX11_hands_58 : decode cX11_hands 58 = .ok (.ireturn, 1) := by decide +kernel
theorem dX11_row_0 : decode cX11_row 0 = .ok (.aload_n 0, 1) := by decide +kernel
theorem dX11_row_1 : decode cX11_row 1 = .ok (.iconst 0, 1) := by decide +kernel
theorem dX11_row_2 : decode cX11_row 2 = .ok (.putfield 136, 3) := by decide +kernel
theorem dX11_row_5 : decode cX11_row 5 = .ok (.aload_n 0, 1) := by decide +kernel
theorem dX11_row_6 : decode cX11_row 6 = .ok (.iload_n 2, 1) := by decide +kernel
theorem dX11_row_7 : decode cX11_row 7 = .ok (.invokevirtual 139, 3) := by decide +kernel
theorem dX11_row_10 : decode cX11_row 10 = .ok (.astore 6, 2) := by decide +kernel
theorem dX11_row_12 : decode cX11_row 12 = .ok (.aload 6, 2) := by decide +kernel
theorem dX11_row_14 : decode cX11_row 14 = .ok (.ifnonnull 5, 3) := by decide +kernel
theorem dX11_row_17 : decode cX11_row 17 = .ok (.iconst (-1), 1) := by decide +kernel
theorem dX11_row_18 : decode cX11_row 18 = .ok (.ireturn, 1) := by decide +kernel
theorem dX11_row_19 : decode cX11_row 19 = .ok (.iload_n 1, 1) := by decide +kernel
theorem dX11_row_20 : decode cX11_row 20 = .ok (.iconst 0, 1) := by decide +kernel
theorem dX11_row_21 : decode cX11_row 21 = .ok (.iconst 1, 1) := by decide +kernel
theorem dX11_row_22 : decode cX11_row 22 = .ok (.invokestatic 80, 3) := by decide +kernel
theorem dX11_row_25 : decode cX11_row 25 = .ok (.ifCond .eq 10, 3) := by decide +kernel
theorem dX11_row_28 : decode cX11_row 28 = .ok (.iload_n 3, 1) := by decide +kernel
theorem dX11_row_29 : decode cX11_row 29 = .ok (.invokestatic 143, 3) := by decide +kernel
theorem dX11_row_32 : decode cX11_row 32 = .ok (.ifCond .ne 6, 3) := by decide +kernel
theorem dX11_row_35 : decode cX11_row 35 = .ok (.bipush (-2), 2) := by decide +kernel
theorem dX11_row_37 : decode cX11_row 37 = .ok (.ireturn, 1) := by decide +kernel
theorem dX11_row_38 : decode cX11_row 38 = .ok (.aload_n 0, 1) := by decide +kernel
theorem dX11_row_39 : decode cX11_row 39 = .ok (.aload 6, 2) := by decide +kernel
theorem dX11_row_41 : decode cX11_row 41 = .ok (.iload_n 3, 1) := by decide +kernel
theorem dX11_row_42 : decode cX11_row 42 = .ok (.iload 4, 2) := by decide +kernel
theorem dX11_row_44 : decode cX11_row 44 = .ok (.iload 5, 2) := by decide +kernel
theorem dX11_row_46 : decode cX11_row 46 = .ok (.invokevirtual 146, 3) := by decide +kernel
theorem dX11_row_49 : decode cX11_row 49 = .ok (.invokevirtual 149, 3) := by decide +kernel
theorem dX11_row_52 : decode cX11_row 52 = .ok (.istore 7, 2) := by decide +kernel
theorem dX11_row_54 : decode cX11_row 54 = .ok (.iload 7, 2) := by decide +kernel
theorem dX11_row_56 : decode cX11_row 56 = .ok (.ifCond .eq 6, 3) := by decide +kernel
theorem dX11_row_59 : decode cX11_row 59 = .ok (.iload 7, 2) := by decide +kernel
theorem dX11_row_61 : decode cX11_row 61 = .ok (.ireturn, 1) := by decide +kernel
theorem dX11_row_62 : decode cX11_row 62 = .ok (.iload_n 1, 1) := by decide +kernel
theorem dX11_row_63 : decode cX11_row 63 = .ok (.ifCond .ne 19, 3) := by decide +kernel
theorem dX11_row_66 : decode cX11_row 66 = .ok (.aload_n 0, 1) := by decide +kernel
theorem dX11_row_67 : decode cX11_row 67 = .ok (.getfield 44, 3) := by decide +kernel
theorem dX11_row_70 : decode cX11_row 70 = .ok (.aload 6, 2) := by decide +kernel
theorem dX11_row_72 : decode cX11_row 72 = .ok (.iload 4, 2) := by decide +kernel
theorem dX11_row_74 : decode cX11_row 74 = .ok (.iload 5, 2) := by decide +kernel
theorem dX11_row_76 : decode cX11_row 76 = .ok (.invokevirtual 237, 3) := by decide +kernel
theorem dX11_row_79 : decode cX11_row 79 = .ok (.goto 16, 3) := by decide +kernel
theorem dX11_row_82 : decode cX11_row 82 = .ok (.aload_n 0, 1) := by decide +kernel
theorem dX11_row_83 : decode cX11_row 83 = .ok (.getfield 51, 3) := by decide +kernel
theorem dX11_row_86 : decode cX11_row 86 = .ok (.aload 6, 2) := by decide +kernel
theorem dX11_row_88 : decode cX11_row 88 = .ok (.iload 4, 2) := by decide +kernel
theorem dX11_row_90 : decode cX11_row 90 = .ok (.iload 5, 2) := by decide +kernel
theorem dX11_row_92 : decode cX11_row 92 = .ok (.invokevirtual 241, 3) := by decide +kernel
theorem dX11_row_95 : decode cX11_row 95 = .ok (.istore 8, 2) := by decide +kernel
theorem dX11_row_97 : decode cX11_row 97 = .ok (.iload 8, 2) := by decide +kernel
theorem dX11_row_99 : decode cX11_row 99 = .ok (.ifCond .eq 8, 3) := by decide +kernel
theorem dX11_row_102 : decode cX11_row 102 = .ok (.iload 5, 2) := by decide +kernel
theorem dX11_row_104 : decode cX11_row 104 = .ok (.goto 5, 3) := by decide +kernel
theorem dX11_row_107 : decode cX11_row 107 = .ok (.bipush (-2), 2) := by decide +kernel
theorem dX11_row_109 : decode cX11_row 109 = .ok (.ireturn, 1) := by decide +kernel
theorem dX11_week_0 : decode cX11_week 0 = .ok (.aload_n 0, 1) := by decide +kernel
theorem dX11_week_1 : decode cX11_week 1 = .ok (.getfield 44, 3) := by decide +kernel
theorem dX11_week_4 : decode cX11_week 4 = .ok (.invokevirtual 244, 3) := by decide +kernel
theorem dX11_week_7 : decode cX11_week 7 = .ok (.ireturn, 1) := by decide +kernel
theorem dX11_ofWork_0 : decode cX11_ofWork 0 = .ok (.aload_n 0, 1) := by decide +kernel
theorem dX11_ofWork_1 : decode cX11_ofWork 1 = .ok (.getfield 44, 3) := by decide +kernel
theorem dX11_ofWork_4 : decode cX11_ofWork 4 = .ok (.iload_n 1, 1) := by decide +kernel
theorem dX11_ofWork_5 : decode cX11_ofWork 5 = .ok (.invokevirtual 225, 3) := by decide +kernel
theorem dX11_ofWork_8 : decode cX11_ofWork 8 = .ok (.astore_n 3, 1) := by decide +kernel
theorem dX11_ofWork_9 : decode cX11_ofWork 9 = .ok (.aload_n 3, 1) := by decide +kernel
theorem dX11_ofWork_10 : decode cX11_ofWork 10 = .ok (.ifnonnull 7, 3) := by decide +kernel
theorem dX11_ofWork_13 : decode cX11_ofWork 13 = .ok (.iconst (-1), 1) := by decide +kernel
theorem dX11_ofWork_14 : decode cX11_ofWork 14 = .ok (.goto 8, 3) := by decide +kernel
theorem dX11_ofWork_17 : decode cX11_ofWork 17 = .ok (.aload_n 3, 1) := by decide +kernel
theorem dX11_ofWork_18 : decode cX11_ofWork 18 = .ok (.iload_n 2, 1) := by decide +kernel
theorem dX11_ofWork_19 : decode cX11_ofWork 19 = .ok (.invokevirtual 248, 3) := by decide +kernel
theorem dX11_ofWork_22 : decode cX11_ofWork 22 = .ok (.ireturn, 1) := by decide +kernel
theorem dX11_level_0 : decode cX11_level 0 = .ok (.iload_n 1, 1) := by decide +kernel
theorem dX11_level_1 : decode cX11_level 1 = .ok (.iconst 0, 1) := by decide +kernel
theorem dX11_level_2 : decode cX11_level 2 = .ok (.iconst 4, 1) := by decide +kernel
theorem dX11_level_3 : decode cX11_level 3 = .ok (.invokestatic 80, 3) := by decide +kernel
theorem dX11_level_6 : decode cX11_level 6 = .ok (.ifCond .eq 23, 3) := by decide +kernel
theorem dX11_level_9 : decode cX11_level 9 = .ok (.iload_n 2, 1) := by decide +kernel
theorem dX11_level_10 : decode cX11_level 10 = .ok (.iconst 0, 1) := by decide +kernel
theorem dX11_level_11 : decode cX11_level 11 = .ok (.bipush 99, 2) := by decide +kernel
theorem dX11_level_13 : decode cX11_level 13 = .ok (.invokestatic 80, 3) := by decide +kernel
theorem dX11_level_16 : decode cX11_level 16 = .ok (.ifCond .eq 13, 3) := by decide +kernel
theorem dX11_level_19 : decode cX11_level 19 = .ok (.iload_n 3, 1) := by decide +kernel
theorem dX11_level_20 : decode cX11_level 20 = .ok (.iconst 1, 1) := by decide +kernel
theorem dX11_level_21 : decode cX11_level 21 = .ok (.bipush 99, 2) := by decide +kernel
theorem dX11_level_23 : decode cX11_level 23 = .ok (.invokestatic 80, 3) := by decide +kernel
theorem dX11_level_26 : decode cX11_level 26 = .ok (.ifCond .ne 6, 3) := by decide +kernel
theorem dX11_level_29 : decode cX11_level 29 = .ok (.bipush (-2), 2) := by decide +kernel
theorem dX11_level_31 : decode cX11_level 31 = .ok (.ireturn, 1) := by decide +kernel
theorem dX11_level_32 : decode cX11_level 32 = .ok (.aload_n 0, 1) := by decide +kernel
theorem dX11_level_33 : decode cX11_level 33 = .ok (.getfield 44, 3) := by decide +kernel
theorem dX11_level_36 : decode cX11_level 36 = .ok (.iload_n 1, 1) := by decide +kernel
theorem dX11_level_37 : decode cX11_level 37 = .ok (.iload_n 2, 1) := by decide +kernel
theorem dX11_level_38 : decode cX11_level 38 = .ok (.iload_n 3, 1) := by decide +kernel
theorem dX11_level_39 : decode cX11_level 39 = .ok (.invokevirtual 249, 3) := by decide +kernel
theorem dX11_level_42 : decode cX11_level 42 = .ok (.ifCond .eq 7, 3) := by decide +kernel
theorem dX11_level_45 : decode cX11_level 45 = .ok (.iconst 1, 1) := by decide +kernel
theorem dX11_level_46 : decode cX11_level 46 = .ok (.goto 4, 3) := by decide +kernel
theorem dX11_level_49 : decode cX11_level 49 = .ok (.iconst 0, 1) := by decide +kernel
theorem dX11_level_50 : decode cX11_level 50 = .ok (.ireturn, 1) := by decide +kernel
theorem dX11_told_0 : decode cX11_told 0 = .ok (.aload_n 0, 1) := by decide +kernel
theorem dX11_told_1 : decode cX11_told 1 = .ok (.getfield 44, 3) := by decide +kernel
theorem dX11_told_4 : decode cX11_told 4 = .ok (.iload_n 1, 1) := by decide +kernel
theorem dX11_told_5 : decode cX11_told 5 = .ok (.invokevirtual 225, 3) := by decide +kernel
theorem dX11_told_8 : decode cX11_told 8 = .ok (.astore_n 3, 1) := by decide +kernel
theorem dX11_told_9 : decode cX11_told 9 = .ok (.aload_n 3, 1) := by decide +kernel
theorem dX11_told_10 : decode cX11_told 10 = .ok (.ifnull 12, 3) := by decide +kernel
theorem dX11_told_13 : decode cX11_told 13 = .ok (.iload_n 2, 1) := by decide +kernel
theorem dX11_told_14 : decode cX11_told 14 = .ok (.iconst (-1), 1) := by decide +kernel
theorem dX11_told_15 : decode cX11_told 15 = .ok (.iconst 4, 1) := by decide +kernel
theorem dX11_told_16 : decode cX11_told 16 = .ok (.invokestatic 80, 3) := by decide +kernel
theorem dX11_told_19 : decode cX11_told 19 = .ok (.ifCond .ne 7, 3) := by decide +kernel
theorem dX11_told_22 : decode cX11_told 22 = .ok (.ldc2_w 252, 3) := by decide +kernel
theorem dX11_told_25 : decode cX11_told 25 = .ok (.lreturn, 1) := by decide +kernel
theorem dX11_told_26 : decode cX11_told 26 = .ok (.aload_n 0, 1) := by decide +kernel
theorem dX11_told_27 : decode cX11_told 27 = .ok (.getfield 44, 3) := by decide +kernel
theorem dX11_told_30 : decode cX11_told 30 = .ok (.aload_n 3, 1) := by decide +kernel
theorem dX11_told_31 : decode cX11_told 31 = .ok (.iload_n 2, 1) := by decide +kernel
theorem dX11_told_32 : decode cX11_told 32 = .ok (.invokevirtual 254, 3) := by decide +kernel
theorem dX11_told_35 : decode cX11_told 35 = .ok (.lreturn, 1) := by decide +kernel
theorem dX11_grew_0 : decode cX11_grew 0 = .ok (.aload_n 0, 1) := by decide +kernel
theorem dX11_grew_1 : decode cX11_grew 1 = .ok (.getfield 44, 3) := by decide +kernel
theorem dX11_grew_4 : decode cX11_grew 4 = .ok (.iload_n 1, 1) := by decide +kernel
theorem dX11_grew_5 : decode cX11_grew 5 = .ok (.invokevirtual 225, 3) := by decide +kernel
theorem dX11_grew_8 : decode cX11_grew 8 = .ok (.astore_n 2, 1) := by decide +kernel
theorem dX11_grew_9 : decode cX11_grew 9 = .ok (.aload_n 2, 1) := by decide +kernel
theorem dX11_grew_10 : decode cX11_grew 10 = .ok (.ifnonnull 7, 3) := by decide +kernel
theorem dX11_grew_13 : decode cX11_grew 13 = .ok (.iconst (-1), 1) := by decide +kernel
theorem dX11_grew_14 : decode cX11_grew 14 = .ok (.goto 11, 3) := by decide +kernel
theorem dX11_grew_17 : decode cX11_grew 17 = .ok (.aload_n 0, 1) := by decide +kernel
theorem dX11_grew_18 : decode cX11_grew 18 = .ok (.getfield 44, 3) := by decide +kernel
theorem dX11_grew_21 : decode cX11_grew 21 = .ok (.aload_n 2, 1) := by decide +kernel
theorem dX11_grew_22 : decode cX11_grew 22 = .ok (.invokevirtual 258, 3) := by decide +kernel
theorem dX11_grew_25 : decode cX11_grew 25 = .ok (.ireturn, 1) := by decide +kernel
theorem dX11_stand_0 : decode cX11_stand 0 = .ok (.iload_n 1, 1) := by decide +kernel
theorem dX11_stand_1 : decode cX11_stand 1 = .ok (.iconst 0, 1) := by decide +kernel
theorem dX11_stand_2 : decode cX11_stand 2 = .ok (.iconst 3, 1) := by decide +kernel
theorem dX11_stand_3 : decode cX11_stand 3 = .ok (.invokestatic 80, 3) := by decide +kernel
theorem dX11_stand_6 : decode cX11_stand 6 = .ok (.ifCond .eq 34, 3) := by decide +kernel
theorem dX11_stand_9 : decode cX11_stand 9 = .ok (.iload_n 2, 1) := by decide +kernel
theorem dX11_stand_10 : decode cX11_stand 10 = .ok (.iconst 0, 1) := by decide +kernel
theorem dX11_stand_11 : decode cX11_stand 11 = .ok (.iconst 2, 1) := by decide +kernel
theorem dX11_stand_12 : decode cX11_stand 12 = .ok (.invokestatic 80, 3) := by decide +kernel
theorem dX11_stand_15 : decode cX11_stand 15 = .ok (.ifCond .eq 25, 3) := by decide +kernel
theorem dX11_stand_18 : decode cX11_stand 18 = .ok (.iload_n 3, 1) := by decide +kernel
theorem dX11_stand_19 : decode cX11_stand 19 = .ok (.iconst 1, 1) := by decide +kernel
theorem dX11_stand_20 : decode cX11_stand 20 = .ok (.ldc_w 262, 3) := by decide +kernel
theorem dX11_stand_23 : decode cX11_stand 23 = .ok (.invokestatic 80, 3) := by decide +kernel
theorem dX11_stand_26 : decode cX11_stand 26 = .ok (.ifCond .eq 14, 3) := by decide +kernel
theorem dX11_stand_29 : decode cX11_stand 29 = .ok (.iload 4, 2) := by decide +kernel
theorem dX11_stand_31 : decode cX11_stand 31 = .ok (.iconst 0, 1) := by decide +kernel
theorem dX11_stand_32 : decode cX11_stand 32 = .ok (.bipush 60, 2) := by decide +kernel
theorem dX11_stand_34 : decode cX11_stand 34 = .ok (.invokestatic 80, 3) := by decide +kernel
theorem dX11_stand_37 : decode cX11_stand 37 = .ok (.ifCond .ne 6, 3) := by decide +kernel
theorem dX11_stand_40 : decode cX11_stand 40 = .ok (.bipush (-2), 2) := by decide +kernel
theorem dX11_stand_42 : decode cX11_stand 42 = .ok (.ireturn, 1) := by decide +kernel
theorem dX11_stand_43 : decode cX11_stand 43 = .ok (.aload_n 0, 1) := by decide +kernel
theorem dX11_stand_44 : decode cX11_stand 44 = .ok (.getfield 51, 3) := by decide +kernel
theorem dX11_stand_47 : decode cX11_stand 47 = .ok (.iload_n 1, 1) := by decide +kernel
theorem dX11_stand_48 : decode cX11_stand 48 = .ok (.iload_n 2, 1) := by decide +kernel
theorem dX11_stand_49 : decode cX11_stand 49 = .ok (.iload_n 3, 1) := by decide +kernel
theorem dX11_stand_50 : decode cX11_stand 50 = .ok (.iload 4, 2) := by decide +kernel
theorem dX11_stand_52 : decode cX11_stand 52 = .ok (.invokevirtual 263, 3) := by decide +kernel
theorem dX11_stand_55 : decode cX11_stand 55 = .ok (.ireturn, 1) := by decide +kernel
theorem dX11_live_0 : decode cX11_live 0 = .ok (.aload_n 0, 1) := by decide +kernel
theorem dX11_live_1 : decode cX11_live 1 = .ok (.getfield 51, 3) := by decide +kernel
theorem dX11_live_4 : decode cX11_live 4 = .ok (.iload_n 1, 1) := by decide +kernel
theorem dX11_live_5 : decode cX11_live 5 = .ok (.invokevirtual 265, 3) := by decide +kernel
theorem dX11_live_8 : decode cX11_live 8 = .ok (.ifCond .ne 5, 3) := by decide +kernel
theorem dX11_live_11 : decode cX11_live 11 = .ok (.iconst (-1), 1) := by decide +kernel
theorem dX11_live_12 : decode cX11_live 12 = .ok (.ireturn, 1) := by decide +kernel
theorem dX11_live_13 : decode cX11_live 13 = .ok (.iload_n 2, 1) := by decide +kernel
theorem dX11_live_14 : decode cX11_live 14 = .ok (.invokestatic 266, 3) := by decide +kernel
theorem dX11_live_17 : decode cX11_live 17 = .ok (.ifCond .eq 15, 3) := by decide +kernel
theorem dX11_live_20 : decode cX11_live 20 = .ok (.aload_n 0, 1) := by decide +kernel
theorem dX11_live_21 : decode cX11_live 21 = .ok (.getfield 51, 3) := by decide +kernel
theorem dX11_live_24 : decode cX11_live 24 = .ok (.iload_n 1, 1) := by decide +kernel
theorem dX11_live_25 : decode cX11_live 25 = .ok (.iload_n 2, 1) := by decide +kernel
theorem dX11_live_26 : decode cX11_live 26 = .ok (.invokevirtual 269, 3) := by decide +kernel
theorem dX11_live_29 : decode cX11_live 29 = .ok (.goto 5, 3) := by decide +kernel
theorem dX11_live_32 : decode cX11_live 32 = .ok (.bipush (-2), 2) := by decide +kernel
theorem dX11_live_34 : decode cX11_live 34 = .ok (.ireturn, 1) := by decide +kernel
theorem dX11_forest_0 : decode cX11_forest 0 = .ok (.iload_n 1, 1) := by decide +kernel
theorem dX11_forest_1 : decode cX11_forest 1 = .ok (.iconst 0, 1) := by decide +kernel
theorem dX11_forest_2 : decode cX11_forest 2 = .ok (.iconst 4, 1) := by decide +kernel
theorem dX11_forest_3 : decode cX11_forest 3 = .ok (.invokestatic 80, 3) := by decide +kernel
theorem dX11_forest_6 : decode cX11_forest 6 = .ok (.ifCond .eq 10, 3) := by decide +kernel
theorem dX11_forest_9 : decode cX11_forest 9 = .ok (.iload_n 2, 1) := by decide +kernel
theorem dX11_forest_10 : decode cX11_forest 10 = .ok (.invokestatic 266, 3) := by decide +kernel
theorem dX11_forest_13 : decode cX11_forest 13 = .ok (.ifCond .ne 7, 3) := by decide +kernel
theorem dX11_forest_16 : decode cX11_forest 16 = .ok (.ldc2_w 252, 3) := by decide +kernel
theorem dX11_forest_19 : decode cX11_forest 19 = .ok (.lreturn, 1) := by decide +kernel
theorem dX11_forest_20 : decode cX11_forest 20 = .ok (.aload_n 0, 1) := by decide +kernel
theorem dX11_forest_21 : decode cX11_forest 21 = .ok (.getfield 51, 3) := by decide +kernel
theorem dX11_forest_24 : decode cX11_forest 24 = .ok (.iload_n 1, 1) := by decide +kernel
theorem dX11_forest_25 : decode cX11_forest 25 = .ok (.iload_n 2, 1) := by decide +kernel
theorem dX11_forest_26 : decode cX11_forest 26 = .ok (.invokevirtual 272, 3) := by decide +kernel
theorem dX11_forest_29 : decode cX11_forest 29 = .ok (.lreturn, 1) := by decide +kernel
theorem dX11_fire_0 : decode cX11_fire 0 = .ok (.iload_n 1, 1) := by decide +kernel
theorem dX11_fire_1 : decode cX11_fire 1 = .ok (.iload_n 2, 1) := by decide +kernel
theorem dX11_fire_2 : decode cX11_fire 2 = .ok (.invokestatic 76, 3) := by decide +kernel
theorem dX11_fire_5 : decode cX11_fire 5 = .ok (.ifCond .eq 24, 3) := by decide +kernel
theorem dX11_fire_8 : decode cX11_fire 8 = .ok (.iload_n 3, 1) := by decide +kernel
theorem dX11_fire_9 : decode cX11_fire 9 = .ok (.iconst 1, 1) := by decide +kernel
theorem dX11_fire_10 : decode cX11_fire 10 = .ok (.bipush 60, 2) := by decide +kernel
theorem dX11_fire_12 : decode cX11_fire 12 = .ok (.invokestatic 80, 3) := by decide +kernel
theorem dX11_fire_15 : decode cX11_fire 15 = .ok (.ifCond .eq 14, 3) := by decide +kernel
theorem dX11_fire_18 : decode cX11_fire 18 = .ok (.iload 4, 2) := by decide +kernel
theorem dX11_fire_20 : decode cX11_fire 20 = .ok (.iconst 1, 1) := by decide +kernel
theorem dX11_fire_21 : decode cX11_fire 21 = .ok (.bipush 99, 2) := by decide +kernel
theorem dX11_fire_23 : decode cX11_fire 23 = .ok (.invokestatic 80, 3) := by decide +kernel
theorem dX11_fire_26 : decode cX11_fire 26 = .ok (.ifCond .ne 6, 3) := by decide +kernel
theorem dX11_fire_29 : decode cX11_fire 29 = .ok (.bipush (-2), 2) := by decide +kernel
theorem dX11_fire_31 : decode cX11_fire 31 = .ok (.ireturn, 1) := by decide +kernel
theorem dX11_fire_32 : decode cX11_fire 32 = .ok (.aload_n 0, 1) := by decide +kernel
theorem dX11_fire_33 : decode cX11_fire 33 = .ok (.getfield 58, 3) := by decide +kernel
theorem dX11_fire_36 : decode cX11_fire 36 = .ok (.iload_n 1, 1) := by decide +kernel
theorem dX11_fire_37 : decode cX11_fire 37 = .ok (.iload_n 2, 1) := by decide +kernel
theorem dX11_fire_38 : decode cX11_fire 38 = .ok (.iload_n 3, 1) := by decide +kernel
theorem dX11_fire_39 : decode cX11_fire 39 = .ok (.iload 4, 2) := by decide +kernel
theorem dX11_fire_41 : decode cX11_fire 41 = .ok (.invokevirtual 276, 3) := by decide +kernel
theorem dX11_fire_44 : decode cX11_fire 44 = .ok (.ireturn, 1) := by decide +kernel
theorem dX11_crew_0 : decode cX11_crew 0 = .ok (.aload_n 0, 1) := by decide +kernel
theorem dX11_crew_1 : decode cX11_crew 1 = .ok (.getfield 12, 3) := by decide +kernel
theorem dX11_crew_4 : decode cX11_crew 4 = .ok (.iload_n 1, 1) := by decide +kernel
theorem dX11_crew_5 : decode cX11_crew 5 = .ok (.invokevirtual 96, 3) := by decide +kernel
theorem dX11_crew_8 : decode cX11_crew 8 = .ok (.ifCond .ne 5, 3) := by decide +kernel
theorem dX11_crew_11 : decode cX11_crew 11 = .ok (.iconst (-1), 1) := by decide +kernel
theorem dX11_crew_12 : decode cX11_crew 12 = .ok (.ireturn, 1) := by decide +kernel
theorem dX11_crew_13 : decode cX11_crew 13 = .ok (.iload_n 2, 1) := by decide +kernel
theorem dX11_crew_14 : decode cX11_crew 14 = .ok (.iconst 0, 1) := by decide +kernel
theorem dX11_crew_15 : decode cX11_crew 15 = .ok (.bipush 9, 2) := by decide +kernel
theorem dX11_crew_17 : decode cX11_crew 17 = .ok (.invokestatic 80, 3) := by decide +kernel
theorem dX11_crew_20 : decode cX11_crew 20 = .ok (.ifCond .ne 6, 3) := by decide +kernel
theorem dX11_crew_23 : decode cX11_crew 23 = .ok (.bipush (-2), 2) := by decide +kernel
theorem dX11_crew_25 : decode cX11_crew 25 = .ok (.ireturn, 1) := by decide +kernel
theorem dX11_crew_26 : decode cX11_crew 26 = .ok (.aload_n 0, 1) := by decide +kernel
theorem dX11_crew_27 : decode cX11_crew 27 = .ok (.getfield 12, 3) := by decide +kernel
theorem dX11_crew_30 : decode cX11_crew 30 = .ok (.getfield 277, 3) := by decide +kernel
theorem dX11_crew_33 : decode cX11_crew 33 = .ok (.iload_n 1, 1) := by decide +kernel
theorem dX11_crew_34 : decode cX11_crew 34 = .ok (.iaload, 1) := by decide +kernel
theorem dX11_crew_35 : decode cX11_crew 35 = .ok (.istore_n 3, 1) := by decide +kernel
theorem dX11_crew_36 : decode cX11_crew 36 = .ok (.aload_n 0, 1) := by decide +kernel
theorem dX11_crew_37 : decode cX11_crew 37 = .ok (.getfield 12, 3) := by decide +kernel
theorem dX11_crew_40 : decode cX11_crew 40 = .ok (.getfield 277, 3) := by decide +kernel
theorem dX11_crew_43 : decode cX11_crew 43 = .ok (.iload_n 1, 1) := by decide +kernel
theorem dX11_crew_44 : decode cX11_crew 44 = .ok (.iload_n 2, 1) := by decide +kernel
theorem dX11_crew_45 : decode cX11_crew 45 = .ok (.iastore, 1) := by decide +kernel
theorem dX11_crew_46 : decode cX11_crew 46 = .ok (.iload_n 3, 1) := by decide +kernel
theorem dX11_crew_47 : decode cX11_crew 47 = .ok (.ireturn, 1) := by decide +kernel
theorem dX11_lost_0 : decode cX11_lost 0 = .ok (.aload_n 0, 1) := by decide +kernel
theorem dX11_lost_1 : decode cX11_lost 1 = .ok (.getfield 58, 3) := by decide +kernel
theorem dX11_lost_4 : decode cX11_lost 4 = .ok (.aload_n 0, 1) := by decide +kernel
theorem dX11_lost_5 : decode cX11_lost 5 = .ok (.getfield 12, 3) := by decide +kernel
theorem dX11_lost_8 : decode cX11_lost 8 = .ok (.iload_n 1, 1) := by decide +kernel
theorem dX11_lost_9 : decode cX11_lost 9 = .ok (.invokevirtual 280, 3) := by decide +kernel
theorem dX11_lost_12 : decode cX11_lost 12 = .ok (.ifCond .eq 18, 3) := by decide +kernel
theorem dX11_lost_15 : decode cX11_lost 15 = .ok (.aload_n 0, 1) := by decide +kernel
theorem dX11_lost_16 : decode cX11_lost 16 = .ok (.getfield 58, 3) := by decide +kernel
theorem dX11_lost_19 : decode cX11_lost 19 = .ok (.aload_n 0, 1) := by decide +kernel
theorem dX11_lost_20 : decode cX11_lost 20 = .ok (.getfield 12, 3) := by decide +kernel
theorem dX11_lost_23 : decode cX11_lost 23 = .ok (.iload_n 1, 1) := by decide +kernel
theorem dX11_lost_24 : decode cX11_lost 24 = .ok (.invokevirtual 284, 3) := by decide +kernel
theorem dX11_lost_27 : decode cX11_lost 27 = .ok (.goto 5, 3) := by decide +kernel
theorem dX11_lost_30 : decode cX11_lost 30 = .ok (.bipush (-2), 2) := by decide +kernel
theorem dX11_lost_32 : decode cX11_lost 32 = .ok (.ireturn, 1) := by decide +kernel
theorem dX11_call_0 : decode cX11_call 0 = .ok (.iload_n 1, 1) := by decide +kernel
theorem dX11_call_1 : decode cX11_call 1 = .ok (.iconst (-1), 1) := by decide +kernel
theorem dX11_call_2 : decode cX11_call 2 = .ok (.if_icmp .ne 18, 3) := by decide +kernel
theorem dX11_call_5 : decode cX11_call 5 = .ok (.aload_n 0, 1) := by decide +kernel
theorem dX11_call_6 : decode cX11_call 6 = .ok (.getfield 58, 3) := by decide +kernel
theorem dX11_call_9 : decode cX11_call 9 = .ok (.aload_n 0, 1) := by decide +kernel
theorem dX11_call_10 : decode cX11_call 10 = .ok (.getfield 12, 3) := by decide +kernel
theorem dX11_call_13 : decode cX11_call 13 = .ok (.invokevirtual 288, 3) := by decide +kernel
theorem dX11_call_16 : decode cX11_call 16 = .ok (.invokestatic 292, 3) := by decide +kernel
theorem dX11_call_19 : decode cX11_call 19 = .ok (.ireturn, 1) := by decide +kernel
theorem dX11_call_20 : decode cX11_call 20 = .ok (.iload_n 1, 1) := by decide +kernel
theorem dX11_call_21 : decode cX11_call 21 = .ok (.bipush (-2), 2) := by decide +kernel
theorem dX11_call_23 : decode cX11_call 23 = .ok (.if_icmp .ne 18, 3) := by decide +kernel
theorem dX11_call_26 : decode cX11_call 26 = .ok (.aload_n 0, 1) := by decide +kernel
theorem dX11_call_27 : decode cX11_call 27 = .ok (.getfield 58, 3) := by decide +kernel
theorem dX11_call_30 : decode cX11_call 30 = .ok (.aload_n 0, 1) := by decide +kernel
theorem dX11_call_31 : decode cX11_call 31 = .ok (.getfield 12, 3) := by decide +kernel
theorem dX11_call_34 : decode cX11_call 34 = .ok (.invokevirtual 288, 3) := by decide +kernel
theorem dX11_call_37 : decode cX11_call 37 = .ok (.invokestatic 296, 3) := by decide +kernel
theorem dX11_call_40 : decode cX11_call 40 = .ok (.ireturn, 1) := by decide +kernel
theorem dX11_call_41 : decode cX11_call 41 = .ok (.aload_n 0, 1) := by decide +kernel
theorem dX11_call_42 : decode cX11_call 42 = .ok (.getfield 12, 3) := by decide +kernel
theorem dX11_call_45 : decode cX11_call 45 = .ok (.iload_n 1, 1) := by decide +kernel
theorem dX11_call_46 : decode cX11_call 46 = .ok (.invokevirtual 96, 3) := by decide +kernel
theorem dX11_call_49 : decode cX11_call 49 = .ok (.ifCond .eq 21, 3) := by decide +kernel
theorem dX11_call_52 : decode cX11_call 52 = .ok (.aload_n 0, 1) := by decide +kernel
theorem dX11_call_53 : decode cX11_call 53 = .ok (.getfield 58, 3) := by decide +kernel
theorem dX11_call_56 : decode cX11_call 56 = .ok (.aload_n 0, 1) := by decide +kernel
theorem dX11_call_57 : decode cX11_call 57 = .ok (.getfield 12, 3) := by decide +kernel
theorem dX11_call_60 : decode cX11_call 60 = .ok (.invokevirtual 288, 3) := by decide +kernel
theorem dX11_call_63 : decode cX11_call 63 = .ok (.iload_n 1, 1) := by decide +kernel
theorem dX11_call_64 : decode cX11_call 64 = .ok (.invokestatic 299, 3) := by decide +kernel
theorem dX11_call_67 : decode cX11_call 67 = .ok (.goto 4, 3) := by decide +kernel
theorem dX11_call_70 : decode cX11_call 70 = .ok (.iconst (-1), 1) := by decide +kernel
theorem dX11_call_71 : decode cX11_call 71 = .ok (.ireturn, 1) := by decide +kernel
theorem dX11_place_0 : decode cX11_place 0 = .ok (.iload_n 1, 1) := by decide +kernel
theorem dX11_place_1 : decode cX11_place 1 = .ok (.iload_n 2, 1) := by decide +kernel
theorem dX11_place_2 : decode cX11_place 2 = .ok (.invokestatic 76, 3) := by decide +kernel
theorem dX11_place_5 : decode cX11_place 5 = .ok (.ifCond .eq 14, 3) := by decide +kernel
theorem dX11_place_8 : decode cX11_place 8 = .ok (.iload_n 3, 1) := by decide +kernel
theorem dX11_place_9 : decode cX11_place 9 = .ok (.iconst 0, 1) := by decide +kernel
theorem dX11_place_10 : decode cX11_place 10 = .ok (.sipush 999, 3) := by decide +kernel
theorem dX11_place_13 : decode cX11_place 13 = .ok (.invokestatic 80, 3) := by decide +kernel
theorem dX11_place_16 : decode cX11_place 16 = .ok (.ifCond .ne 6, 3) := by decide +kernel
theorem dX11_place_19 : decode cX11_place 19 = .ok (.bipush (-2), 2) := by decide +kernel
theorem dX11_place_21 : decode cX11_place 21 = .ok (.ireturn, 1) := by decide +kernel
theorem dX11_place_22 : decode cX11_place 22 = .ok (.aload_n 0, 1) := by decide +kernel
theorem dX11_place_23 : decode cX11_place 23 = .ok (.getfield 65, 3) := by decide +kernel
theorem dX11_place_26 : decode cX11_place 26 = .ok (.iload_n 1, 1) := by decide +kernel
theorem dX11_place_27 : decode cX11_place 27 = .ok (.iload_n 2, 1) := by decide +kernel
theorem dX11_place_28 : decode cX11_place 28 = .ok (.iload_n 3, 1) := by decide +kernel
theorem dX11_place_29 : decode cX11_place 29 = .ok (.iload 4, 2) := by decide +kernel
theorem dX11_place_31 : decode cX11_place 31 = .ok (.invokevirtual 303, 3) := by decide +kernel
theorem dX11_place_34 : decode cX11_place 34 = .ok (.ireturn, 1) := by decide +kernel
theorem dX11_move_0 : decode cX11_move 0 = .ok (.iload_n 1, 1) := by decide +kernel
theorem dX11_move_1 : decode cX11_move 1 = .ok (.iconst (-1), 1) := by decide +kernel
theorem dX11_move_2 : decode cX11_move 2 = .ok (.if_icmp .eq 18, 3) := by decide +kernel
theorem dX11_move_5 : decode cX11_move 5 = .ok (.aload_n 0, 1) := by decide +kernel
theorem dX11_move_6 : decode cX11_move 6 = .ok (.getfield 12, 3) := by decide +kernel
theorem dX11_move_9 : decode cX11_move 9 = .ok (.iload_n 1, 1) := by decide +kernel
theorem dX11_move_10 : decode cX11_move 10 = .ok (.invokevirtual 96, 3) := by decide +kernel
theorem dX11_move_13 : decode cX11_move 13 = .ok (.ifCond .ne 7, 3) := by decide +kernel
theorem dX11_move_16 : decode cX11_move 16 = .ok (.ldc2_w 252, 3) := by decide +kernel
theorem dX11_move_19 : decode cX11_move 19 = .ok (.lreturn, 1) := by decide +kernel
theorem dX11_move_20 : decode cX11_move 20 = .ok (.aload_n 0, 1) := by decide +kernel
theorem dX11_move_21 : decode cX11_move 21 = .ok (.getfield 65, 3) := by decide +kernel
theorem dX11_move_24 : decode cX11_move 24 = .ok (.aload_n 0, 1) := by decide +kernel
theorem dX11_move_25 : decode cX11_move 25 = .ok (.getfield 12, 3) := by decide +kernel
theorem dX11_move_28 : decode cX11_move 28 = .ok (.invokevirtual 306, 3) := by decide +kernel
theorem dX11_move_31 : decode cX11_move 31 = .ok (.istore_n 2, 1) := by decide +kernel
theorem dX11_move_32 : decode cX11_move 32 = .ok (.iload_n 1, 1) := by decide +kernel
theorem dX11_move_33 : decode cX11_move 33 = .ok (.iconst (-1), 1) := by decide +kernel
theorem dX11_move_34 : decode cX11_move 34 = .ok (.if_icmp .ne 22, 3) := by decide +kernel
theorem dX11_move_37 : decode cX11_move 37 = .ok (.iload_n 2, 1) := by decide +kernel
theorem dX11_move_38 : decode cX11_move 38 = .ok (.ifCond .eq 14, 3) := by decide +kernel
theorem dX11_move_41 : decode cX11_move 41 = .ok (.aload_n 0, 1) := by decide +kernel
theorem dX11_move_42 : decode cX11_move 42 = .ok (.getfield 65, 3) := by decide +kernel
theorem dX11_move_45 : decode cX11_move 45 = .ok (.invokevirtual 310, 3) := by decide +kernel
theorem dX11_move_48 : decode cX11_move 48 = .ok (.i2l, 1) := by decide +kernel
theorem dX11_move_49 : decode cX11_move 49 = .ok (.goto 6, 3) := by decide +kernel
theorem dX11_move_52 : decode cX11_move 52 = .ok (.ldc2_w 252, 3) := by decide +kernel
theorem dX11_move_55 : decode cX11_move 55 = .ok (.lreturn, 1) := by decide +kernel
theorem dX11_move_56 : decode cX11_move 56 = .ok (.iload_n 2, 1) := by decide +kernel
theorem dX11_move_57 : decode cX11_move 57 = .ok (.ifCond .eq 16, 3) := by decide +kernel
theorem dX11_move_60 : decode cX11_move 60 = .ok (.aload_n 0, 1) := by decide +kernel
theorem dX11_move_61 : decode cX11_move 61 = .ok (.getfield 65, 3) := by decide +kernel
theorem dX11_move_64 : decode cX11_move 64 = .ok (.getfield 313, 3) := by decide +kernel
theorem dX11_move_67 : decode cX11_move 67 = .ok (.iload_n 1, 1) := by decide +kernel
theorem dX11_move_68 : decode cX11_move 68 = .ok (.iaload, 1) := by decide +kernel
theorem dX11_move_69 : decode cX11_move 69 = .ok (.i2l, 1) := by decide +kernel
theorem dX11_move_70 : decode cX11_move 70 = .ok (.goto 6, 3) := by decide +kernel
theorem dX11_move_73 : decode cX11_move 73 = .ok (.ldc2_w 316, 3) := by decide +kernel
theorem dX11_move_76 : decode cX11_move 76 = .ok (.lreturn, 1) := by decide +kernel
theorem dX11_gain_0 : decode cX11_gain 0 = .ok (.aload_n 0, 1) := by decide +kernel
theorem dX11_gain_1 : decode cX11_gain 1 = .ok (.iconst 0, 1) := by decide +kernel
theorem dX11_gain_2 : decode cX11_gain 2 = .ok (.putfield 136, 3) := by decide +kernel
theorem dX11_gain_5 : decode cX11_gain 5 = .ok (.aload_n 0, 1) := by decide +kernel
theorem dX11_gain_6 : decode cX11_gain 6 = .ok (.iload_n 1, 1) := by decide +kernel
theorem dX11_gain_7 : decode cX11_gain 7 = .ok (.invokevirtual 139, 3) := by decide +kernel
theorem dX11_gain_10 : decode cX11_gain 10 = .ok (.astore 5, 2) := by decide +kernel
theorem dX11_gain_12 : decode cX11_gain 12 = .ok (.aload 5, 2) := by decide +kernel
theorem dX11_gain_14 : decode cX11_gain 14 = .ok (.ifnull 10, 3) := by decide +kernel
theorem dX11_gain_17 : decode cX11_gain 17 = .ok (.iload_n 2, 1) := by decide +kernel
theorem dX11_gain_18 : decode cX11_gain 18 = .ok (.invokestatic 143, 3) := by decide +kernel
theorem dX11_gain_21 : decode cX11_gain 21 = .ok (.ifCond .ne 7, 3) := by decide +kernel
theorem dX11_gain_24 : decode cX11_gain 24 = .ok (.ldc2_w 252, 3) := by decide +kernel
theorem dX11_gain_27 : decode cX11_gain 27 = .ok (.lreturn, 1) := by decide +kernel
theorem dX11_gain_28 : decode cX11_gain 28 = .ok (.aload_n 0, 1) := by decide +kernel
theorem dX11_gain_29 : decode cX11_gain 29 = .ok (.aload 5, 2) := by decide +kernel
theorem dX11_gain_31 : decode cX11_gain 31 = .ok (.iload_n 2, 1) := by decide +kernel
theorem dX11_gain_32 : decode cX11_gain 32 = .ok (.iload_n 3, 1) := by decide +kernel
theorem dX11_gain_33 : decode cX11_gain 33 = .ok (.iload 4, 2) := by decide +kernel
theorem dX11_gain_35 : decode cX11_gain 35 = .ok (.invokevirtual 146, 3) := by decide +kernel
theorem dX11_gain_38 : decode cX11_gain 38 = .ok (.invokevirtual 149, 3) := by decide +kernel
theorem dX11_gain_41 : decode cX11_gain 41 = .ok (.istore 6, 2) := by decide +kernel
theorem dX11_gain_43 : decode cX11_gain 43 = .ok (.iload 6, 2) := by decide +kernel
theorem dX11_gain_45 : decode cX11_gain 45 = .ok (.ifCond .ne 15, 3) := by decide +kernel
theorem dX11_gain_48 : decode cX11_gain 48 = .ok (.iload 4, 2) := by decide +kernel
theorem dX11_gain_50 : decode cX11_gain 50 = .ok (.aload_n 0, 1) := by decide +kernel
theorem dX11_gain_51 : decode cX11_gain 51 = .ok (.getfield 12, 3) := by decide +kernel
theorem dX11_gain_54 : decode cX11_gain 54 = .ok (.getfield 155, 3) := by decide +kernel
theorem dX11_gain_57 : decode cX11_gain 57 = .ok (.if_icmp .eq 7, 3) := by decide +kernel
theorem dX11_gain_60 : decode cX11_gain 60 = .ok (.ldc2_w 252, 3) := by decide +kernel
theorem dX11_gain_63 : decode cX11_gain 63 = .ok (.lreturn, 1) := by decide +kernel
theorem dX11_gain_64 : decode cX11_gain 64 = .ok (.aload_n 0, 1) := by decide +kernel
theorem dX11_gain_65 : decode cX11_gain 65 = .ok (.getfield 65, 3) := by decide +kernel
theorem dX11_gain_68 : decode cX11_gain 68 = .ok (.aload_n 0, 1) := by decide +kernel
theorem dX11_gain_69 : decode cX11_gain 69 = .ok (.getfield 12, 3) := by decide +kernel
theorem dX11_gain_72 : decode cX11_gain 72 = .ok (.aload 5, 2) := by decide +kernel
theorem dX11_gain_74 : decode cX11_gain 74 = .ok (.iload_n 3, 1) := by decide +kernel
theorem dX11_gain_75 : decode cX11_gain 75 = .ok (.invokevirtual 318, 3) := by decide +kernel
theorem dX11_gain_78 : decode cX11_gain 78 = .ok (.lreturn, 1) := by decide +kernel
theorem dX11_go_0 : decode cX11_go 0 = .ok (.aload_n 0, 1) := by decide +kernel
theorem dX11_go_1 : decode cX11_go 1 = .ok (.getfield 65, 3) := by decide +kernel
theorem dX11_go_4 : decode cX11_go 4 = .ok (.aload_n 0, 1) := by decide +kernel
theorem dX11_go_5 : decode cX11_go 5 = .ok (.getfield 12, 3) := by decide +kernel
theorem dX11_go_8 : decode cX11_go 8 = .ok (.invokevirtual 306, 3) := by decide +kernel
theorem dX11_go_11 : decode cX11_go 11 = .ok (.ifCond .ne 6, 3) := by decide +kernel
theorem dX11_go_14 : decode cX11_go 14 = .ok (.bipush (-3), 2) := by decide +kernel
theorem dX11_go_16 : decode cX11_go 16 = .ok (.ireturn, 1) := by decide +kernel
theorem dX11_go_17 : decode cX11_go 17 = .ok (.aload_n 0, 1) := by decide +kernel
theorem dX11_go_18 : decode cX11_go 18 = .ok (.getfield 65, 3) := by decide +kernel
theorem dX11_go_21 : decode cX11_go 21 = .ok (.aload_n 0, 1) := by decide +kernel
theorem dX11_go_22 : decode cX11_go 22 = .ok (.getfield 12, 3) := by decide +kernel
theorem dX11_go_25 : decode cX11_go 25 = .ok (.invokevirtual 322, 3) := by decide +kernel
theorem dX11_go_28 : decode cX11_go 28 = .ok (.iconst 1, 1) := by decide +kernel
theorem dX11_go_29 : decode cX11_go 29 = .ok (.ireturn, 1) := by decide +kernel
theorem dX11_spot_0 : decode cX11_spot 0 = .ok (.aload_n 0, 1) := by decide +kernel
theorem dX11_spot_1 : decode cX11_spot 1 = .ok (.getfield 12, 3) := by decide +kernel
theorem dX11_spot_4 : decode cX11_spot 4 = .ok (.iload_n 1, 1) := by decide +kernel
theorem dX11_spot_5 : decode cX11_spot 5 = .ok (.invokevirtual 96, 3) := by decide +kernel
theorem dX11_spot_8 : decode cX11_spot 8 = .ok (.ifCond .ne 5, 3) := by decide +kernel
theorem dX11_spot_11 : decode cX11_spot 11 = .ok (.iconst (-1), 1) := by decide +kernel
theorem dX11_spot_12 : decode cX11_spot 12 = .ok (.ireturn, 1) := by decide +kernel
theorem dX11_spot_13 : decode cX11_spot 13 = .ok (.iload_n 2, 1) := by decide +kernel
theorem dX11_spot_14 : decode cX11_spot 14 = .ok (.lookupswitch 46 #[(0, 26), (1, 36)], 26) := by decide +kernel
theorem dX11_spot_40 : decode cX11_spot 40 = .ok (.aload_n 0, 1) := by decide +kernel
theorem dX11_spot_41 : decode cX11_spot 41 = .ok (.getfield 12, 3) := by decide +kernel
theorem dX11_spot_44 : decode cX11_spot 44 = .ok (.getfield 326, 3) := by decide +kernel
theorem dX11_spot_47 : decode cX11_spot 47 = .ok (.iload_n 1, 1) := by decide +kernel
theorem dX11_spot_48 : decode cX11_spot 48 = .ok (.iaload, 1) := by decide +kernel
theorem dX11_spot_49 : decode cX11_spot 49 = .ok (.ireturn, 1) := by decide +kernel
theorem dX11_spot_50 : decode cX11_spot 50 = .ok (.aload_n 0, 1) := by decide +kernel
theorem dX11_spot_51 : decode cX11_spot 51 = .ok (.getfield 12, 3) := by decide +kernel
theorem dX11_spot_54 : decode cX11_spot 54 = .ok (.getfield 329, 3) := by decide +kernel
theorem dX11_spot_57 : decode cX11_spot 57 = .ok (.iload_n 1, 1) := by decide +kernel
theorem dX11_spot_58 : decode cX11_spot 58 = .ok (.iaload, 1) := by decide +kernel
theorem dX11_spot_59 : decode cX11_spot 59 = .ok (.ireturn, 1) := by decide +kernel
theorem dX11_spot_60 : decode cX11_spot 60 = .ok (.bipush (-2), 2) := by decide +kernel
theorem dX11_spot_62 : decode cX11_spot 62 = .ok (.ireturn, 1) := by decide +kernel
theorem dX11_sheet_0 : decode cX11_sheet 0 = .ok (.aload_n 0, 1) := by decide +kernel
theorem dX11_sheet_1 : decode cX11_sheet 1 = .ok (.iconst 0, 1) := by decide +kernel
theorem dX11_sheet_2 : decode cX11_sheet 2 = .ok (.putfield 136, 3) := by decide +kernel
theorem dX11_sheet_5 : decode cX11_sheet 5 = .ok (.aload_n 0, 1) := by decide +kernel
theorem dX11_sheet_6 : decode cX11_sheet 6 = .ok (.iload_n 1, 1) := by decide +kernel
theorem dX11_sheet_7 : decode cX11_sheet 7 = .ok (.invokevirtual 139, 3) := by decide +kernel
theorem dX11_sheet_10 : decode cX11_sheet 10 = .ok (.astore 4, 2) := by decide +kernel
theorem dX11_sheet_12 : decode cX11_sheet 12 = .ok (.aload 4, 2) := by decide +kernel
theorem dX11_sheet_14 : decode cX11_sheet 14 = .ok (.ifnonnull 5, 3) := by decide +kernel
theorem dX11_sheet_17 : decode cX11_sheet 17 = .ok (.iconst (-1), 1) := by decide +kernel
theorem dX11_sheet_18 : decode cX11_sheet 18 = .ok (.ireturn, 1) := by decide +kernel
theorem dX11_sheet_19 : decode cX11_sheet 19 = .ok (.iload_n 2, 1) := by decide +kernel
theorem dX11_sheet_20 : decode cX11_sheet 20 = .ok (.invokestatic 143, 3) := by decide +kernel
theorem dX11_sheet_23 : decode cX11_sheet 23 = .ok (.ifCond .eq 9, 3) := by decide +kernel
theorem dX11_sheet_26 : decode cX11_sheet 26 = .ok (.iload_n 3, 1) := by decide +kernel
theorem dX11_sheet_27 : decode cX11_sheet 27 = .ok (.bipush 60, 2) := by decide +kernel
theorem dX11_sheet_29 : decode cX11_sheet 29 = .ok (.if_icmp .le 6, 3) := by decide +kernel
theorem dX11_sheet_32 : decode cX11_sheet 32 = .ok (.bipush (-2), 2) := by decide +kernel
theorem dX11_sheet_34 : decode cX11_sheet 34 = .ok (.ireturn, 1) := by decide +kernel
theorem dX11_sheet_35 : decode cX11_sheet 35 = .ok (.iload_n 3, 1) := by decide +kernel
theorem dX11_sheet_36 : decode cX11_sheet 36 = .ok (.ifCond .ge 9, 3) := by decide +kernel
theorem dX11_sheet_39 : decode cX11_sheet 39 = .ok (.aload_n 0, 1) := by decide +kernel
theorem dX11_sheet_40 : decode cX11_sheet 40 = .ok (.iconst 4, 1) := by decide +kernel
theorem dX11_sheet_41 : decode cX11_sheet 41 = .ok (.invokevirtual 149, 3) := by decide +kernel
theorem dX11_sheet_44 : decode cX11_sheet 44 = .ok (.ireturn, 1) := by decide +kernel
theorem dX11_sheet_45 : decode cX11_sheet 45 = .ok (.aload 4, 2) := by decide +kernel
theorem dX11_sheet_47 : decode cX11_sheet 47 = .ok (.iload_n 2, 1) := by decide +kernel
theorem dX11_sheet_48 : decode cX11_sheet 48 = .ok (.iload_n 3, 1) := by decide +kernel
theorem dX11_sheet_49 : decode cX11_sheet 49 = .ok (.invokevirtual 332, 3) := by decide +kernel
theorem dX11_sheet_52 : decode cX11_sheet 52 = .ok (.iconst 1, 1) := by decide +kernel
theorem dX11_sheet_53 : decode cX11_sheet 53 = .ok (.ireturn, 1) := by decide +kernel
theorem dX11_lose_0 : decode cX11_lose 0 = .ok (.aload_n 0, 1) := by decide +kernel
theorem dX11_lose_1 : decode cX11_lose 1 = .ok (.iload_n 1, 1) := by decide +kernel
theorem dX11_lose_2 : decode cX11_lose 2 = .ok (.invokevirtual 139, 3) := by decide +kernel
theorem dX11_lose_5 : decode cX11_lose 5 = .ok (.astore_n 2, 1) := by decide +kernel
theorem dX11_lose_6 : decode cX11_lose 6 = .ok (.aload_n 2, 1) := by decide +kernel
theorem dX11_lose_7 : decode cX11_lose 7 = .ok (.ifnonnull 5, 3) := by decide +kernel
theorem dX11_lose_10 : decode cX11_lose 10 = .ok (.iconst (-1), 1) := by decide +kernel
theorem dX11_lose_11 : decode cX11_lose 11 = .ok (.ireturn, 1) := by decide +kernel
theorem dX11_lose_12 : decode cX11_lose 12 = .ok (.aload_n 2, 1) := by decide +kernel
theorem dX11_lose_13 : decode cX11_lose 13 = .ok (.invokevirtual 336, 3) := by decide +kernel
theorem dX11_lose_16 : decode cX11_lose 16 = .ok (.ifCond .eq 7, 3) := by decide +kernel
theorem dX11_lose_19 : decode cX11_lose 19 = .ok (.iconst 1, 1) := by decide +kernel
theorem dX11_lose_20 : decode cX11_lose 20 = .ok (.goto 4, 3) := by decide +kernel
theorem dX11_lose_23 : decode cX11_lose 23 = .ok (.iconst 0, 1) := by decide +kernel
theorem dX11_lose_24 : decode cX11_lose 24 = .ok (.ireturn, 1) := by decide +kernel
theorem dX11_put_0 : decode cX11_put 0 = .ok (.aload_n 0, 1) := by decide +kernel
theorem dX11_put_1 : decode cX11_put 1 = .ok (.iconst 0, 1) := by decide +kernel
theorem dX11_put_2 : decode cX11_put 2 = .ok (.putfield 136, 3) := by decide +kernel
theorem dX11_put_5 : decode cX11_put 5 = .ok (.aload_n 0, 1) := by decide +kernel
theorem dX11_put_6 : decode cX11_put 6 = .ok (.iload_n 1, 1) := by decide +kernel
theorem dX11_put_7 : decode cX11_put 7 = .ok (.invokevirtual 139, 3) := by decide +kernel
theorem dX11_put_10 : decode cX11_put 10 = .ok (.astore 4, 2) := by decide +kernel
theorem dX11_put_12 : decode cX11_put 12 = .ok (.aload 4, 2) := by decide +kernel
theorem dX11_put_14 : decode cX11_put 14 = .ok (.ifnonnull 5, 3) := by decide +kernel
theorem dX11_put_17 : decode cX11_put 17 = .ok (.iconst (-1), 1) := by decide +kernel
theorem dX11_put_18 : decode cX11_put 18 = .ok (.ireturn, 1) := by decide +kernel
theorem dX11_put_19 : decode cX11_put 19 = .ok (.aload_n 0, 1) := by decide +kernel
theorem dX11_put_20 : decode cX11_put 20 = .ok (.aload 4, 2) := by decide +kernel
theorem dX11_put_22 : decode cX11_put 22 = .ok (.aload 4, 2) := by decide +kernel
theorem dX11_put_24 : decode cX11_put 24 = .ok (.getfield 339, 3) := by decide +kernel
theorem dX11_put_27 : decode cX11_put 27 = .ok (.iload_n 2, 1) := by decide +kernel
theorem dX11_put_28 : decode cX11_put 28 = .ok (.iconst 1, 1) := by decide +kernel
theorem dX11_put_29 : decode cX11_put 29 = .ok (.invokevirtual 146, 3) := by decide +kernel
theorem dX11_put_32 : decode cX11_put 32 = .ok (.invokevirtual 149, 3) := by decide +kernel
theorem dX11_put_35 : decode cX11_put 35 = .ok (.istore 5, 2) := by decide +kernel
theorem dX11_put_37 : decode cX11_put 37 = .ok (.iload 5, 2) := by decide +kernel
theorem dX11_put_39 : decode cX11_put 39 = .ok (.ifCond .eq 6, 3) := by decide +kernel
theorem dX11_put_42 : decode cX11_put 42 = .ok (.iload 5, 2) := by decide +kernel
theorem dX11_put_44 : decode cX11_put 44 = .ok (.ireturn, 1) := by decide +kernel
theorem dX11_put_45 : decode cX11_put 45 = .ok (.aload 4, 2) := by decide +kernel
theorem dX11_put_47 : decode cX11_put 47 = .ok (.iload_n 2, 1) := by decide +kernel
theorem dX11_put_48 : decode cX11_put 48 = .ok (.iload_n 3, 1) := by decide +kernel
theorem dX11_put_49 : decode cX11_put 49 = .ok (.invokevirtual 342, 3) := by decide +kernel
theorem dX11_put_52 : decode cX11_put 52 = .ok (.iconst 1, 1) := by decide +kernel
theorem dX11_put_53 : decode cX11_put 53 = .ok (.ireturn, 1) := by decide +kernel
theorem dX11_cell_0 : decode cX11_cell 0 = .ok (.aload_n 0, 1) := by decide +kernel
theorem dX11_cell_1 : decode cX11_cell 1 = .ok (.iconst 0, 1) := by decide +kernel
theorem dX11_cell_2 : decode cX11_cell 2 = .ok (.putfield 136, 3) := by decide +kernel
theorem dX11_cell_5 : decode cX11_cell 5 = .ok (.aload_n 0, 1) := by decide +kernel
theorem dX11_cell_6 : decode cX11_cell 6 = .ok (.iload_n 1, 1) := by decide +kernel
theorem dX11_cell_7 : decode cX11_cell 7 = .ok (.invokevirtual 139, 3) := by decide +kernel
theorem dX11_cell_10 : decode cX11_cell 10 = .ok (.astore 4, 2) := by decide +kernel
theorem dX11_cell_12 : decode cX11_cell 12 = .ok (.aload 4, 2) := by decide +kernel
theorem dX11_cell_14 : decode cX11_cell 14 = .ok (.ifnull 10, 3) := by decide +kernel
theorem dX11_cell_17 : decode cX11_cell 17 = .ok (.iload_n 3, 1) := by decide +kernel
theorem dX11_cell_18 : decode cX11_cell 18 = .ok (.invokestatic 143, 3) := by decide +kernel
theorem dX11_cell_21 : decode cX11_cell 21 = .ok (.ifCond .ne 7, 3) := by decide +kernel
theorem dX11_cell_24 : decode cX11_cell 24 = .ok (.ldc2_w 252, 3) := by decide +kernel
theorem dX11_cell_27 : decode cX11_cell 27 = .ok (.lreturn, 1) := by decide +kernel
theorem dX11_cell_28 : decode cX11_cell 28 = .ok (.aload_n 0, 1) := by decide +kernel
theorem dX11_cell_29 : decode cX11_cell 29 = .ok (.aload 4, 2) := by decide +kernel
theorem dX11_cell_31 : decode cX11_cell 31 = .ok (.iload_n 3, 1) := by decide +kernel
theorem dX11_cell_32 : decode cX11_cell 32 = .ok (.iload_n 2, 1) := by decide +kernel
theorem dX11_cell_33 : decode cX11_cell 33 = .ok (.iconst 1, 1) := by decide +kernel
theorem dX11_cell_34 : decode cX11_cell 34 = .ok (.invokevirtual 146, 3) := by decide +kernel
theorem dX11_cell_37 : decode cX11_cell 37 = .ok (.invokevirtual 149, 3) := by decide +kernel
theorem dX11_cell_40 : decode cX11_cell 40 = .ok (.istore 5, 2) := by decide +kernel
theorem dX11_cell_42 : decode cX11_cell 42 = .ok (.iload 5, 2) := by decide +kernel
theorem dX11_cell_44 : decode cX11_cell 44 = .ok (.ifCond .ne 13, 3) := by decide +kernel
theorem dX11_cell_47 : decode cX11_cell 47 = .ok (.aload 4, 2) := by decide +kernel
theorem dX11_cell_49 : decode cX11_cell 49 = .ok (.iload_n 2, 1) := by decide +kernel
theorem dX11_cell_50 : decode cX11_cell 50 = .ok (.invokevirtual 345, 3) := by decide +kernel
theorem dX11_cell_53 : decode cX11_cell 53 = .ok (.i2l, 1) := by decide +kernel
theorem dX11_cell_54 : decode cX11_cell 54 = .ok (.goto 6, 3) := by decide +kernel
theorem dX11_cell_57 : decode cX11_cell 57 = .ok (.ldc2_w 252, 3) := by decide +kernel
theorem dX11_cell_60 : decode cX11_cell 60 = .ok (.lreturn, 1) := by decide +kernel
theorem dX11_tell_0 : decode cX11_tell 0 = .ok (.aload_n 0, 1) := by decide +kernel
theorem dX11_tell_1 : decode cX11_tell 1 = .ok (.iload_n 1, 1) := by decide +kernel
theorem dX11_tell_2 : decode cX11_tell 2 = .ok (.invokevirtual 348, 3) := by decide +kernel
theorem dX11_tell_5 : decode cX11_tell 5 = .ok (.astore_n 2, 1) := by decide +kernel
theorem dX11_tell_6 : decode cX11_tell 6 = .ok (.aload_n 2, 1) := by decide +kernel
theorem dX11_tell_7 : decode cX11_tell 7 = .ok (.ifnonnull 5, 3) := by decide +kernel
theorem dX11_tell_10 : decode cX11_tell 10 = .ok (.iconst (-1), 1) := by decide +kernel
theorem dX11_tell_11 : decode cX11_tell 11 = .ok (.ireturn, 1) := by decide +kernel
theorem dX11_tell_12 : decode cX11_tell 12 = .ok (.aload_n 2, 1) := by decide +kernel
theorem dX11_tell_13 : decode cX11_tell 13 = .ok (.getfield 352, 3) := by decide +kernel
theorem dX11_tell_16 : decode cX11_tell 16 = .ok (.lookupswitch 40 #[(1, 34), (2, 28)], 28) := by decide +kernel
theorem dX11_tell_44 : decode cX11_tell 44 = .ok (.aload_n 0, 1) := by decide +kernel
theorem dX11_tell_45 : decode cX11_tell 45 = .ok (.aload_n 2, 1) := by decide +kernel
theorem dX11_tell_46 : decode cX11_tell 46 = .ok (.invokevirtual 355, 3) := by decide +kernel
theorem dX11_tell_49 : decode cX11_tell 49 = .ok (.ireturn, 1) := by decide +kernel
theorem dX11_tell_50 : decode cX11_tell 50 = .ok (.aload_n 0, 1) := by decide +kernel
theorem dX11_tell_51 : decode cX11_tell 51 = .ok (.aload_n 2, 1) := by decide +kernel
theorem dX11_tell_52 : decode cX11_tell 52 = .ok (.invokevirtual 359, 3) := by decide +kernel
theorem dX11_tell_55 : decode cX11_tell 55 = .ok (.ireturn, 1) := by decide +kernel
theorem dX11_tell_56 : decode cX11_tell 56 = .ok (.aload_n 0, 1) := by decide +kernel
theorem dX11_tell_57 : decode cX11_tell 57 = .ok (.aload_n 2, 1) := by decide +kernel
theorem dX11_tell_58 : decode cX11_tell 58 = .ok (.invokevirtual 362, 3) := by decide +kernel
theorem dX11_tell_61 : decode cX11_tell 61 = .ok (.ireturn, 1) := by decide +kernel
theorem dX11_roll_0 : decode cX11_roll 0 = .ok (.aload_n 0, 1) := by decide +kernel
theorem dX11_roll_1 : decode cX11_roll 1 = .ok (.iload_n 1, 1) := by decide +kernel
theorem dX11_roll_2 : decode cX11_roll 2 = .ok (.invokevirtual 348, 3) := by decide +kernel
theorem dX11_roll_5 : decode cX11_roll 5 = .ok (.astore_n 2, 1) := by decide +kernel
theorem dX11_roll_6 : decode cX11_roll 6 = .ok (.aload_n 2, 1) := by decide +kernel
theorem dX11_roll_7 : decode cX11_roll 7 = .ok (.ifnonnull 5, 3) := by decide +kernel
theorem dX11_roll_10 : decode cX11_roll 10 = .ok (.iconst (-1), 1) := by decide +kernel
theorem dX11_roll_11 : decode cX11_roll 11 = .ok (.ireturn, 1) := by decide +kernel
theorem dX11_roll_12 : decode cX11_roll 12 = .ok (.aload_n 2, 1) := by decide +kernel
theorem dX11_roll_13 : decode cX11_roll 13 = .ok (.getfield 352, 3) := by decide +kernel
theorem dX11_roll_16 : decode cX11_roll 16 = .ok (.iconst 2, 1) := by decide +kernel
theorem dX11_roll_17 : decode cX11_roll 17 = .ok (.if_icmp .ne 11, 3) := by decide +kernel
theorem dX11_roll_20 : decode cX11_roll 20 = .ok (.aload_n 0, 1) := by decide +kernel
theorem dX11_roll_21 : decode cX11_roll 21 = .ok (.iconst 5, 1) := by decide +kernel
theorem dX11_roll_22 : decode cX11_roll 22 = .ok (.invokevirtual 365, 3) := by decide +kernel
theorem dX11_roll_25 : decode cX11_roll 25 = .ok (.bipush 66, 2) := by decide +kernel
theorem dX11_roll_27 : decode cX11_roll 27 = .ok (.ireturn, 1) := by decide +kernel
theorem dX11_roll_28 : decode cX11_roll 28 = .ok (.aload_n 0, 1) := by decide +kernel
theorem dX11_roll_29 : decode cX11_roll 29 = .ok (.iconst 4, 1) := by decide +kernel
theorem dX11_roll_30 : decode cX11_roll 30 = .ok (.invokevirtual 365, 3) := by decide +kernel
theorem dX11_roll_33 : decode cX11_roll 33 = .ok (.iload_n 1, 1) := by decide +kernel
theorem dX11_roll_34 : decode cX11_roll 34 = .ok (.ireturn, 1) := by decide +kernel
theorem dX11_as_0 : decode cX11_as 0 = .ok (.aload_n 0, 1) := by decide +kernel
theorem dX11_as_1 : decode cX11_as 1 = .ok (.iconst 0, 1) := by decide +kernel
theorem dX11_as_2 : decode cX11_as 2 = .ok (.putfield 136, 3) := by decide +kernel
theorem dX11_as_5 : decode cX11_as 5 = .ok (.aload_n 0, 1) := by decide +kernel
theorem dX11_as_6 : decode cX11_as 6 = .ok (.iload_n 1, 1) := by decide +kernel
theorem dX11_as_7 : decode cX11_as 7 = .ok (.invokevirtual 348, 3) := by decide +kernel
theorem dX11_as_10 : decode cX11_as 10 = .ok (.astore_n 3, 1) := by decide +kernel
theorem dX11_as_11 : decode cX11_as 11 = .ok (.aload_n 3, 1) := by decide +kernel
theorem dX11_as_12 : decode cX11_as 12 = .ok (.ifnonnull 5, 3) := by decide +kernel
theorem dX11_as_15 : decode cX11_as 15 = .ok (.iconst (-1), 1) := by decide +kernel
theorem dX11_as_16 : decode cX11_as 16 = .ok (.ireturn, 1) := by decide +kernel
theorem dX11_as_17 : decode cX11_as 17 = .ok (.iload_n 2, 1) := by decide +kernel
theorem dX11_as_18 : decode cX11_as 18 = .ok (.invokestatic 99, 3) := by decide +kernel
theorem dX11_as_21 : decode cX11_as 21 = .ok (.ifCond .ne 6, 3) := by decide +kernel
theorem dX11_as_24 : decode cX11_as 24 = .ok (.bipush (-2), 2) := by decide +kernel
theorem dX11_as_26 : decode cX11_as 26 = .ok (.ireturn, 1) := by decide +kernel
theorem dX11_as_27 : decode cX11_as 27 = .ok (.aload_n 3, 1) := by decide +kernel
theorem dX11_as_28 : decode cX11_as 28 = .ok (.getfield 352, 3) := by decide +kernel
theorem dX11_as_31 : decode cX11_as 31 = .ok (.iload_n 2, 1) := by decide +kernel
theorem dX11_as_32 : decode cX11_as 32 = .ok (.if_icmp .lt 7, 3) := by decide +kernel
theorem dX11_as_35 : decode cX11_as 35 = .ok (.iconst 1, 1) := by decide +kernel
theorem dX11_as_36 : decode cX11_as 36 = .ok (.goto 8, 3) := by decide +kernel
theorem dX11_as_39 : decode cX11_as 39 = .ok (.aload_n 0, 1) := by decide +kernel
theorem dX11_as_40 : decode cX11_as 40 = .ok (.iconst 2, 1) := by decide +kernel
theorem dX11_as_41 : decode cX11_as 41 = .ok (.invokevirtual 149, 3) := by decide +kernel
theorem dX11_as_44 : decode cX11_as 44 = .ok (.ireturn, 1) := by decide +kernel
theorem dX11_trace_0 : decode cX11_trace 0 = .ok (.aload_n 0, 1) := by decide +kernel
theorem dX11_trace_1 : decode cX11_trace 1 = .ok (.getfield 369, 3) := by decide +kernel
theorem dX11_trace_4 : decode cX11_trace 4 = .ok (.ireturn, 1) := by decide +kernel
theorem dX11_fault_0 : decode cX11_fault 0 = .ok (.aload_n 0, 1) := by decide +kernel
theorem dX11_fault_1 : decode cX11_fault 1 = .ok (.getfield 136, 3) := by decide +kernel
theorem dX11_fault_4 : decode cX11_fault 4 = .ok (.ireturn, 1) := by decide +kernel
theorem dX11_many_0 : decode cX11_many 0 = .ok (.iload_n 1, 1) := by decide +kernel
theorem dX11_many_1 : decode cX11_many 1 = .ok (.tableswitch 126 0 9 #[55, 63, 68, 73, 78, 86, 94, 102, 110, 118], 55) := by decide +kernel
theorem dX11_many_56 : decode cX11_many 56 = .ok (.aload_n 0, 1) := by decide +kernel
theorem dX11_many_57 : decode cX11_many 57 = .ok (.getfield 12, 3) := by decide +kernel
theorem dX11_many_60 : decode cX11_many 60 = .ok (.getfield 155, 3) := by decide +kernel
theorem dX11_many_63 : decode cX11_many 63 = .ok (.ireturn, 1) := by decide +kernel
theorem dX11_many_64 : decode cX11_many 64 = .ok (.aload_n 0, 1) := by decide +kernel
theorem dX11_many_65 : decode cX11_many 65 = .ok (.getfield 88, 3) := by decide +kernel
theorem dX11_many_68 : decode cX11_many 68 = .ok (.ireturn, 1) := by decide +kernel
theorem dX11_many_69 : decode cX11_many 69 = .ok (.aload_n 0, 1) := by decide +kernel
theorem dX11_many_70 : decode cX11_many 70 = .ok (.getfield 108, 3) := by decide +kernel
theorem dX11_many_73 : decode cX11_many 73 = .ok (.ireturn, 1) := by decide +kernel
theorem dX11_many_74 : decode cX11_many 74 = .ok (.aload_n 0, 1) := by decide +kernel
theorem dX11_many_75 : decode cX11_many 75 = .ok (.getfield 171, 3) := by decide +kernel
theorem dX11_many_78 : decode cX11_many 78 = .ok (.ireturn, 1) := by decide +kernel
theorem dX11_many_79 : decode cX11_many 79 = .ok (.aload_n 0, 1) := by decide +kernel
theorem dX11_many_80 : decode cX11_many 80 = .ok (.getfield 37, 3) := by decide +kernel
theorem dX11_many_83 : decode cX11_many 83 = .ok (.getfield 372, 3) := by decide +kernel
theorem dX11_many_86 : decode cX11_many 86 = .ok (.ireturn, 1) := by decide +kernel
theorem dX11_many_87 : decode cX11_many 87 = .ok (.aload_n 0, 1) := by decide +kernel
theorem dX11_many_88 : decode cX11_many 88 = .ok (.getfield 44, 3) := by decide +kernel
theorem dX11_many_91 : decode cX11_many 91 = .ok (.getfield 375, 3) := by decide +kernel
theorem dX11_many_94 : decode cX11_many 94 = .ok (.ireturn, 1) := by decide +kernel
theorem dX11_many_95 : decode cX11_many 95 = .ok (.aload_n 0, 1) := by decide +kernel
theorem dX11_many_96 : decode cX11_many 96 = .ok (.getfield 44, 3) := by decide +kernel
theorem dX11_many_99 : decode cX11_many 99 = .ok (.getfield 376, 3) := by decide +kernel
theorem dX11_many_102 : decode cX11_many 102 = .ok (.ireturn, 1) := by decide +kernel
theorem dX11_many_103 : decode cX11_many 103 = .ok (.aload_n 0, 1) := by decide +kernel
theorem dX11_many_104 : decode cX11_many 104 = .ok (.getfield 51, 3) := by decide +kernel
theorem dX11_many_107 : decode cX11_many 107 = .ok (.getfield 379, 3) := by decide +kernel
theorem dX11_many_110 : decode cX11_many 110 = .ok (.ireturn, 1) := by decide +kernel
theorem dX11_many_111 : decode cX11_many 111 = .ok (.aload_n 0, 1) := by decide +kernel
theorem dX11_many_112 : decode cX11_many 112 = .ok (.getfield 58, 3) := by decide +kernel
theorem dX11_many_115 : decode cX11_many 115 = .ok (.getfield 380, 3) := by decide +kernel
theorem dX11_many_118 : decode cX11_many 118 = .ok (.ireturn, 1) := by decide +kernel
theorem dX11_many_119 : decode cX11_many 119 = .ok (.aload_n 0, 1) := by decide +kernel
theorem dX11_many_120 : decode cX11_many 120 = .ok (.getfield 65, 3) := by decide +kernel
theorem dX11_many_123 : decode cX11_many 123 = .ok (.getfield 381, 3) := by decide +kernel
theorem dX11_many_126 : decode cX11_many 126 = .ok (.ireturn, 1) := by decide +kernel
theorem dX11_many_127 : decode cX11_many 127 = .ok (.bipush (-2), 2) := by decide +kernel
theorem dX11_many_129 : decode cX11_many 129 = .ok (.ireturn, 1) := by decide +kernel
theorem dX11_isWithin_0 : decode cX11_isWithin 0 = .ok (.iload_n 1, 1) := by decide +kernel
theorem dX11_isWithin_1 : decode cX11_isWithin 1 = .ok (.iload_n 0, 1) := by decide +kernel
theorem dX11_isWithin_2 : decode cX11_isWithin 2 = .ok (.if_icmp .gt 12, 3) := by decide +kernel
theorem dX11_isWithin_5 : decode cX11_isWithin 5 = .ok (.iload_n 0, 1) := by decide +kernel
theorem dX11_isWithin_6 : decode cX11_isWithin 6 = .ok (.iload_n 2, 1) := by decide +kernel
theorem dX11_isWithin_7 : decode cX11_isWithin 7 = .ok (.if_icmp .gt 7, 3) := by decide +kernel
theorem dX11_isWithin_10 : decode cX11_isWithin 10 = .ok (.iconst 1, 1) := by decide +kernel
theorem dX11_isWithin_11 : decode cX11_isWithin 11 = .ok (.goto 4, 3) := by decide +kernel
theorem dX11_isWithin_14 : decode cX11_isWithin 14 = .ok (.iconst 0, 1) := by decide +kernel
theorem dX11_isWithin_15 : decode cX11_isWithin 15 = .ok (.ireturn, 1) := by decide +kernel
theorem dX11_isSpot_0 : decode cX11_isSpot 0 = .ok (.iload_n 0, 1) := by decide +kernel
theorem dX11_isSpot_1 : decode cX11_isSpot 1 = .ok (.iconst 0, 1) := by decide +kernel
theorem dX11_isSpot_2 : decode cX11_isSpot 2 = .ok (.bipush 40, 2) := by decide +kernel
theorem dX11_isSpot_4 : decode cX11_isSpot 4 = .ok (.invokestatic 80, 3) := by decide +kernel
theorem dX11_isSpot_7 : decode cX11_isSpot 7 = .ok (.ifCond .eq 17, 3) := by decide +kernel
theorem dX11_isSpot_10 : decode cX11_isSpot 10 = .ok (.iload_n 1, 1) := by decide +kernel
theorem dX11_isSpot_11 : decode cX11_isSpot 11 = .ok (.iconst 0, 1) := by decide +kernel
theorem dX11_isSpot_12 : decode cX11_isSpot 12 = .ok (.bipush 40, 2) := by decide +kernel
theorem dX11_isSpot_14 : decode cX11_isSpot 14 = .ok (.invokestatic 80, 3) := by decide +kernel
theorem dX11_isSpot_17 : decode cX11_isSpot 17 = .ok (.ifCond .eq 7, 3) := by decide +kernel
theorem dX11_isSpot_20 : decode cX11_isSpot 20 = .ok (.iconst 1, 1) := by decide +kernel
theorem dX11_isSpot_21 : decode cX11_isSpot 21 = .ok (.goto 4, 3) := by decide +kernel
theorem dX11_isSpot_24 : decode cX11_isSpot 24 = .ok (.iconst 0, 1) := by decide +kernel
theorem dX11_isSpot_25 : decode cX11_isSpot 25 = .ok (.ireturn, 1) := by decide +kernel
theorem dX11_isDay_0 : decode cX11_isDay 0 = .ok (.iload_n 0, 1) := by decide +kernel
theorem dX11_isDay_1 : decode cX11_isDay 1 = .ok (.iconst 0, 1) := by decide +kernel
theorem dX11_isDay_2 : decode cX11_isDay 2 = .ok (.sipush 399, 3) := by decide +kernel
theorem dX11_isDay_5 : decode cX11_isDay 5 = .ok (.invokestatic 80, 3) := by decide +kernel
theorem dX11_isDay_8 : decode cX11_isDay 8 = .ok (.ireturn, 1) := by decide +kernel
theorem dX11_areDays_0 : decode cX11_areDays 0 = .ok (.iload_n 0, 1) := by decide +kernel
theorem dX11_areDays_1 : decode cX11_areDays 1 = .ok (.invokestatic 114, 3) := by decide +kernel
theorem dX11_areDays_4 : decode cX11_areDays 4 = .ok (.ifCond .eq 19, 3) := by decide +kernel
theorem dX11_areDays_7 : decode cX11_areDays 7 = .ok (.iload_n 1, 1) := by decide +kernel
theorem dX11_areDays_8 : decode cX11_areDays 8 = .ok (.invokestatic 114, 3) := by decide +kernel
theorem dX11_areDays_11 : decode cX11_areDays 11 = .ok (.ifCond .eq 12, 3) := by decide +kernel
theorem dX11_areDays_14 : decode cX11_areDays 14 = .ok (.iload_n 0, 1) := by decide +kernel
theorem dX11_areDays_15 : decode cX11_areDays 15 = .ok (.iload_n 1, 1) := by decide +kernel
theorem dX11_areDays_16 : decode cX11_areDays 16 = .ok (.if_icmp .gt 7, 3) := by decide +kernel
theorem dX11_areDays_19 : decode cX11_areDays 19 = .ok (.iconst 1, 1) := by decide +kernel
theorem dX11_areDays_20 : decode cX11_areDays 20 = .ok (.goto 4, 3) := by decide +kernel
theorem dX11_areDays_23 : decode cX11_areDays 23 = .ok (.iconst 0, 1) := by decide +kernel
theorem dX11_areDays_24 : decode cX11_areDays 24 = .ok (.ireturn, 1) := by decide +kernel
theorem dX11_isYear_0 : decode cX11_isYear 0 = .ok (.iload_n 0, 1) := by decide +kernel
theorem dX11_isYear_1 : decode cX11_isYear 1 = .ok (.iconst 0, 1) := by decide +kernel
theorem dX11_isYear_2 : decode cX11_isYear 2 = .ok (.bipush 99, 2) := by decide +kernel
theorem dX11_isYear_4 : decode cX11_isYear 4 = .ok (.invokestatic 80, 3) := by decide +kernel
theorem dX11_isYear_7 : decode cX11_isYear 7 = .ok (.ireturn, 1) := by decide +kernel
theorem dX11_isKind_0 : decode cX11_isKind 0 = .ok (.iload_n 0, 1) := by decide +kernel
theorem dX11_isKind_1 : decode cX11_isKind 1 = .ok (.iconst 0, 1) := by decide +kernel
theorem dX11_isKind_2 : decode cX11_isKind 2 = .ok (.iconst 2, 1) := by decide +kernel
theorem dX11_isKind_3 : decode cX11_isKind 3 = .ok (.invokestatic 80, 3) := by decide +kernel
theorem dX11_isKind_6 : decode cX11_isKind 6 = .ok (.ireturn, 1) := by decide +kernel
theorem dX11_isLane_0 : decode cX11_isLane 0 = .ok (.iload_n 0, 1) := by decide +kernel
theorem dX11_isLane_1 : decode cX11_isLane 1 = .ok (.iconst 0, 1) := by decide +kernel
theorem dX11_isLane_2 : decode cX11_isLane 2 = .ok (.iconst 2, 1) := by decide +kernel
theorem dX11_isLane_3 : decode cX11_isLane 3 = .ok (.invokestatic 80, 3) := by decide +kernel
theorem dX11_isLane_6 : decode cX11_isLane 6 = .ok (.ireturn, 1) := by decide +kernel
theorem dX11_isOffice_0 : decode cX11_isOffice 0 = .ok (.iload_n 0, 1) := by decide +kernel
theorem dX11_isOffice_1 : decode cX11_isOffice 1 = .ok (.iconst 0, 1) := by decide +kernel
theorem dX11_isOffice_2 : decode cX11_isOffice 2 = .ok (.iconst 4, 1) := by decide +kernel
theorem dX11_isOffice_3 : decode cX11_isOffice 3 = .ok (.invokestatic 80, 3) := by decide +kernel
theorem dX11_isOffice_6 : decode cX11_isOffice 6 = .ok (.ireturn, 1) := by decide +kernel
theorem dX11_isMan_0 : decode cX11_isMan 0 = .ok (.iload_n 1, 1) := by decide +kernel
theorem dX11_isMan_1 : decode cX11_isMan 1 = .ok (.iconst 0, 1) := by decide +kernel
theorem dX11_isMan_2 : decode cX11_isMan 2 = .ok (.aload_n 0, 1) := by decide +kernel
theorem dX11_isMan_3 : decode cX11_isMan 3 = .ok (.getfield 88, 3) := by decide +kernel
theorem dX11_isMan_6 : decode cX11_isMan 6 = .ok (.iconst 1, 1) := by decide +kernel
theorem dX11_isMan_7 : decode cX11_isMan 7 = .ok (.isub, 1) := by decide +kernel
theorem dX11_isMan_8 : decode cX11_isMan 8 = .ok (.invokestatic 80, 3) := by decide +kernel
theorem dX11_isMan_11 : decode cX11_isMan 11 = .ok (.ireturn, 1) := by decide +kernel
theorem dX11_quotient_0 : decode cX11_quotient 0 = .ok (.lload_n 2, 1) := by decide +kernel
theorem dX11_quotient_1 : decode cX11_quotient 1 = .ok (.lconst 0, 1) := by decide +kernel
theorem dX11_quotient_2 : decode cX11_quotient 2 = .ok (.lcmp, 1) := by decide +kernel
theorem dX11_quotient_3 : decode cX11_quotient 3 = .ok (.ifCond .ne 7, 3) := by decide +kernel
theorem dX11_quotient_6 : decode cX11_quotient 6 = .ok (.lconst 0, 1) := by decide +kernel
theorem dX11_quotient_7 : decode cX11_quotient 7 = .ok (.goto 6, 3) := by decide +kernel
theorem dX11_quotient_10 : decode cX11_quotient 10 = .ok (.lload_n 0, 1) := by decide +kernel
theorem dX11_quotient_11 : decode cX11_quotient 11 = .ok (.lload_n 2, 1) := by decide +kernel
theorem dX11_quotient_12 : decode cX11_quotient 12 = .ok (.ldiv, 1) := by decide +kernel
theorem dX11_quotient_13 : decode cX11_quotient 13 = .ok (.lreturn, 1) := by decide +kernel
theorem dX11_remainder_0 : decode cX11_remainder 0 = .ok (.iload_n 1, 1) := by decide +kernel
theorem dX11_remainder_1 : decode cX11_remainder 1 = .ok (.iconst 1, 1) := by decide +kernel
theorem dX11_remainder_2 : decode cX11_remainder 2 = .ok (.if_icmp .ge 7, 3) := by decide +kernel
theorem dX11_remainder_5 : decode cX11_remainder 5 = .ok (.iconst 0, 1) := by decide +kernel
theorem dX11_remainder_6 : decode cX11_remainder 6 = .ok (.goto 8, 3) := by decide +kernel
theorem dX11_remainder_9 : decode cX11_remainder 9 = .ok (.iload_n 0, 1) := by decide +kernel
theorem dX11_remainder_10 : decode cX11_remainder 10 = .ok (.iload_n 1, 1) := by decide +kernel
theorem dX11_remainder_11 : decode cX11_remainder 11 = .ok (.invokestatic 382, 3) := by decide +kernel
theorem dX11_remainder_14 : decode cX11_remainder 14 = .ok (.ireturn, 1) := by decide +kernel
theorem dX11_postAt_0 : decode cX11_postAt 0 = .ok (.iload_n 1, 1) := by decide +kernel
theorem dX11_postAt_1 : decode cX11_postAt 1 = .ok (.iconst 0, 1) := by decide +kernel
theorem dX11_postAt_2 : decode cX11_postAt 2 = .ok (.bipush 29, 2) := by decide +kernel
theorem dX11_postAt_4 : decode cX11_postAt 4 = .ok (.invokestatic 80, 3) := by decide +kernel
theorem dX11_postAt_7 : decode cX11_postAt 7 = .ok (.ifCond .eq 12, 3) := by decide +kernel
theorem dX11_postAt_10 : decode cX11_postAt 10 = .ok (.aload_n 0, 1) := by decide +kernel
theorem dX11_postAt_11 : decode cX11_postAt 11 = .ok (.getfield 20, 3) := by decide +kernel
theorem dX11_postAt_14 : decode cX11_postAt 14 = .ok (.iload_n 1, 1) := by decide +kernel
theorem dX11_postAt_15 : decode cX11_postAt 15 = .ok (.aaload, 1) := by decide +kernel
theorem dX11_postAt_16 : decode cX11_postAt 16 = .ok (.goto 4, 3) := by decide +kernel
theorem dX11_postAt_19 : decode cX11_postAt 19 = .ok (.aconst_null, 1) := by decide +kernel
theorem dX11_postAt_20 : decode cX11_postAt 20 = .ok (.areturn, 1) := by decide +kernel
theorem dX11_orderAt_0 : decode cX11_orderAt 0 = .ok (.iload_n 1, 1) := by decide +kernel
theorem dX11_orderAt_1 : decode cX11_orderAt 1 = .ok (.iconst 0, 1) := by decide +kernel
theorem dX11_orderAt_2 : decode cX11_orderAt 2 = .ok (.bipush 11, 2) := by decide +kernel
theorem dX11_orderAt_4 : decode cX11_orderAt 4 = .ok (.invokestatic 80, 3) := by decide +kernel
theorem dX11_orderAt_7 : decode cX11_orderAt 7 = .ok (.ifCond .eq 12, 3) := by decide +kernel
theorem dX11_orderAt_10 : decode cX11_orderAt 10 = .ok (.aload_n 0, 1) := by decide +kernel
theorem dX11_orderAt_11 : decode cX11_orderAt 11 = .ok (.getfield 30, 3) := by decide +kernel
theorem dX11_orderAt_14 : decode cX11_orderAt 14 = .ok (.iload_n 1, 1) := by decide +kernel
theorem dX11_orderAt_15 : decode cX11_orderAt 15 = .ok (.aaload, 1) := by decide +kernel
theorem dX11_orderAt_16 : decode cX11_orderAt 16 = .ok (.goto 4, 3) := by decide +kernel
theorem dX11_orderAt_19 : decode cX11_orderAt 19 = .ok (.aconst_null, 1) := by decide +kernel
theorem dX11_orderAt_20 : decode cX11_orderAt 20 = .ok (.areturn, 1) := by decide +kernel
theorem dX11_sheetAt_0 : decode cX11_sheetAt 0 = .ok (.iload_n 1, 1) := by decide +kernel
theorem dX11_sheetAt_1 : decode cX11_sheetAt 1 = .ok (.iconst 0, 1) := by decide +kernel
theorem dX11_sheetAt_2 : decode cX11_sheetAt 2 = .ok (.iconst 3, 1) := by decide +kernel
theorem dX11_sheetAt_3 : decode cX11_sheetAt 3 = .ok (.invokestatic 80, 3) := by decide +kernel
theorem dX11_sheetAt_6 : decode cX11_sheetAt 6 = .ok (.ifCond .eq 12, 3) := by decide +kernel
theorem dX11_sheetAt_9 : decode cX11_sheetAt 9 = .ok (.aload_n 0, 1) := by decide +kernel
theorem dX11_sheetAt_10 : decode cX11_sheetAt 10 = .ok (.getfield 71, 3) := by decide +kernel
theorem dX11_sheetAt_13 : decode cX11_sheetAt 13 = .ok (.iload_n 1, 1) := by decide +kernel
theorem dX11_sheetAt_14 : decode cX11_sheetAt 14 = .ok (.aaload, 1) := by decide +kernel
theorem dX11_sheetAt_15 : decode cX11_sheetAt 15 = .ok (.goto 4, 3) := by decide +kernel
theorem dX11_sheetAt_18 : decode cX11_sheetAt 18 = .ok (.aconst_null, 1) := by decide +kernel
theorem dX11_sheetAt_19 : decode cX11_sheetAt 19 = .ok (.areturn, 1) := by decide +kernel
theorem dX11_noteFault_0 : decode cX11_noteFault 0 = .ok (.aload_n 0, 1) := by decide +kernel
theorem dX11_noteFault_1 : decode cX11_noteFault 1 = .ok (.iload_n 1, 1) := by decide +kernel
theorem dX11_noteFault_2 : decode cX11_noteFault 2 = .ok (.putfield 136, 3) := by decide +kernel
theorem dX11_noteFault_5 : decode cX11_noteFault 5 = .ok (.iload_n 1, 1) := by decide +kernel
theorem dX11_noteFault_6 : decode cX11_noteFault 6 = .ok (.ifCond .ne 7, 3) := by decide +kernel
theorem dX11_noteFault_9 : decode cX11_noteFault 9 = .ok (.iconst 0, 1) := by decide +kernel
theorem dX11_noteFault_10 : decode cX11_noteFault 10 = .ok (.goto 7, 3) := by decide +kernel
theorem dX11_noteFault_13 : decode cX11_noteFault 13 = .ok (.bipush (-10), 2) := by decide +kernel
theorem dX11_noteFault_15 : decode cX11_noteFault 15 = .ok (.iload_n 1, 1) := by decide +kernel
theorem dX11_noteFault_16 : decode cX11_noteFault 16 = .ok (.isub, 1) := by decide +kernel
theorem dX11_noteFault_17 : decode cX11_noteFault 17 = .ok (.ireturn, 1) := by decide +kernel
theorem dX11_daysOnPosts_0 : decode cX11_daysOnPosts 0 = .ok (.iconst 0, 1) := by decide +kernel
theorem dX11_daysOnPosts_1 : decode cX11_daysOnPosts 1 = .ok (.istore 4, 2) := by decide +kernel
theorem dX11_daysOnPosts_3 : decode cX11_daysOnPosts 3 = .ok (.aload_n 0, 1) := by decide +kernel
theorem dX11_daysOnPosts_4 : decode cX11_daysOnPosts 4 = .ok (.getfield 20, 3) := by decide +kernel
theorem dX11_daysOnPosts_7 : decode cX11_daysOnPosts 7 = .ok (.astore 5, 2) := by decide +kernel
theorem dX11_daysOnPosts_9 : decode cX11_daysOnPosts 9 = .ok (.aload 5, 2) := by decide +kernel
theorem dX11_daysOnPosts_11 : decode cX11_daysOnPosts 11 = .ok (.arraylength, 1) := by decide +kernel
theorem dX11_daysOnPosts_12 : decode cX11_daysOnPosts 12 = .ok (.istore 6, 2) := by decide +kernel
theorem dX11_daysOnPosts_14 : decode cX11_daysOnPosts 14 = .ok (.iconst 0, 1) := by decide +kernel
theorem dX11_daysOnPosts_15 : decode cX11_daysOnPosts 15 = .ok (.istore 7, 2) := by decide +kernel
theorem dX11_daysOnPosts_17 : decode cX11_daysOnPosts 17 = .ok (.iload 7, 2) := by decide +kernel
theorem dX11_daysOnPosts_19 : decode cX11_daysOnPosts 19 = .ok (.iload 6, 2) := by decide +kernel
theorem dX11_daysOnPosts_21 : decode cX11_daysOnPosts 21 = .ok (.if_icmp .ge 42, 3) := by decide +kernel
theorem dX11_daysOnPosts_24 : decode cX11_daysOnPosts 24 = .ok (.aload 5, 2) := by decide +kernel
theorem dX11_daysOnPosts_26 : decode cX11_daysOnPosts 26 = .ok (.iload 7, 2) := by decide +kernel
theorem dX11_daysOnPosts_28 : decode cX11_daysOnPosts 28 = .ok (.aaload, 1) := by decide +kernel
theorem dX11_daysOnPosts_29 : decode cX11_daysOnPosts 29 = .ok (.astore 8, 2) := by decide +kernel
theorem dX11_daysOnPosts_31 : decode cX11_daysOnPosts 31 = .ok (.aload 8, 2) := by decide +kernel
theorem dX11_daysOnPosts_33 : decode cX11_daysOnPosts 33 = .ok (.ifnull 24, 3) := by decide +kernel
theorem dX11_daysOnPosts_36 : decode cX11_daysOnPosts 36 = .ok (.aload 8, 2) := by decide +kernel
theorem dX11_daysOnPosts_38 : decode cX11_daysOnPosts 38 = .ok (.getfield 117, 3) := by decide +kernel
theorem dX11_daysOnPosts_41 : decode cX11_daysOnPosts 41 = .ok (.iload_n 1, 1) := by decide +kernel
theorem dX11_daysOnPosts_42 : decode cX11_daysOnPosts 42 = .ok (.if_icmp .ne 15, 3) := by decide +kernel
theorem dX11_daysOnPosts_45 : decode cX11_daysOnPosts 45 = .ok (.iload 4, 2) := by decide +kernel
theorem dX11_daysOnPosts_47 : decode cX11_daysOnPosts 47 = .ok (.aload 8, 2) := by decide +kernel
theorem dX11_daysOnPosts_49 : decode cX11_daysOnPosts 49 = .ok (.iload_n 2, 1) := by decide +kernel
theorem dX11_daysOnPosts_50 : decode cX11_daysOnPosts 50 = .ok (.iload_n 3, 1) := by decide +kernel
theorem dX11_daysOnPosts_51 : decode cX11_daysOnPosts 51 = .ok (.invokevirtual 385, 3) := by decide +kernel
theorem dX11_daysOnPosts_54 : decode cX11_daysOnPosts 54 = .ok (.iadd, 1) := by decide +kernel
theorem dX11_daysOnPosts_55 : decode cX11_daysOnPosts 55 = .ok (.istore 4, 2) := by decide +kernel
theorem dX11_daysOnPosts_57 : decode cX11_daysOnPosts 57 = .ok (.iinc 7 1, 3) := by decide +kernel
theorem dX11_daysOnPosts_60 : decode cX11_daysOnPosts 60 = .ok (.goto (-43), 3) := by decide +kernel
theorem dX11_daysOnPosts_63 : decode cX11_daysOnPosts 63 = .ok (.iload 4, 2) := by decide +kernel
theorem dX11_daysOnPosts_65 : decode cX11_daysOnPosts 65 = .ok (.ireturn, 1) := by decide +kernel
theorem dX11_menAt_0 : decode cX11_menAt 0 = .ok (.iconst 0, 1) := by decide +kernel
theorem dX11_menAt_1 : decode cX11_menAt 1 = .ok (.istore_n 3, 1) := by decide +kernel
theorem dX11_menAt_2 : decode cX11_menAt 2 = .ok (.aload_n 0, 1) := by decide +kernel
theorem dX11_menAt_3 : decode cX11_menAt 3 = .ok (.getfield 20, 3) := by decide +kernel
theorem dX11_menAt_6 : decode cX11_menAt 6 = .ok (.astore 4, 2) := by decide +kernel
theorem dX11_menAt_8 : decode cX11_menAt 8 = .ok (.aload 4, 2) := by decide +kernel
theorem dX11_menAt_10 : decode cX11_menAt 10 = .ok (.arraylength, 1) := by decide +kernel
theorem dX11_menAt_11 : decode cX11_menAt 11 = .ok (.istore 5, 2) := by decide +kernel
theorem dX11_menAt_13 : decode cX11_menAt 13 = .ok (.iconst 0, 1) := by decide +kernel
theorem dX11_menAt_14 : decode cX11_menAt 14 = .ok (.istore 6, 2) := by decide +kernel
theorem dX11_menAt_16 : decode cX11_menAt 16 = .ok (.iload 6, 2) := by decide +kernel
theorem dX11_menAt_18 : decode cX11_menAt 18 = .ok (.iload 5, 2) := by decide +kernel
theorem dX11_menAt_20 : decode cX11_menAt 20 = .ok (.if_icmp .ge 42, 3) := by decide +kernel
theorem dX11_menAt_23 : decode cX11_menAt 23 = .ok (.aload 4, 2) := by decide +kernel
theorem dX11_menAt_25 : decode cX11_menAt 25 = .ok (.iload 6, 2) := by decide +kernel
theorem dX11_menAt_27 : decode cX11_menAt 27 = .ok (.aaload, 1) := by decide +kernel
theorem dX11_menAt_28 : decode cX11_menAt 28 = .ok (.astore 7, 2) := by decide +kernel
theorem dX11_menAt_30 : decode cX11_menAt 30 = .ok (.aload 7, 2) := by decide +kernel
theorem dX11_menAt_32 : decode cX11_menAt 32 = .ok (.ifnull 24, 3) := by decide +kernel
theorem dX11_menAt_35 : decode cX11_menAt 35 = .ok (.aload 7, 2) := by decide +kernel
theorem dX11_menAt_37 : decode cX11_menAt 37 = .ok (.getfield 127, 3) := by decide +kernel
theorem dX11_menAt_40 : decode cX11_menAt 40 = .ok (.iload_n 1, 1) := by decide +kernel
theorem dX11_menAt_41 : decode cX11_menAt 41 = .ok (.if_icmp .ne 15, 3) := by decide +kernel
theorem dX11_menAt_44 : decode cX11_menAt 44 = .ok (.aload 7, 2) := by decide +kernel
theorem dX11_menAt_46 : decode cX11_menAt 46 = .ok (.iload_n 2, 1) := by decide +kernel
theorem dX11_menAt_47 : decode cX11_menAt 47 = .ok (.invokevirtual 120, 3) := by decide +kernel
theorem dX11_menAt_50 : decode cX11_menAt 50 = .ok (.ifCond .eq 6, 3) := by decide +kernel
theorem dX11_menAt_53 : decode cX11_menAt 53 = .ok (.iinc 3 1, 3) := by decide +kernel
theorem dX11_menAt_56 : decode cX11_menAt 56 = .ok (.iinc 6 1, 3) := by decide +kernel
theorem dX11_menAt_59 : decode cX11_menAt 59 = .ok (.goto (-43), 3) := by decide +kernel
theorem dX11_menAt_62 : decode cX11_menAt 62 = .ok (.iload_n 3, 1) := by decide +kernel
theorem dX11_menAt_63 : decode cX11_menAt 63 = .ok (.ireturn, 1) := by decide +kernel
theorem dX11_latestHeard_0 : decode cX11_latestHeard 0 = .ok (.bipush 11, 2) := by decide +kernel
theorem dX11_latestHeard_2 : decode cX11_latestHeard 2 = .ok (.istore 5, 2) := by decide +kernel
theorem dX11_latestHeard_4 : decode cX11_latestHeard 4 = .ok (.iload 5, 2) := by decide +kernel
theorem dX11_latestHeard_6 : decode cX11_latestHeard 6 = .ok (.ifCond .lt 54, 3) := by decide +kernel
theorem dX11_latestHeard_9 : decode cX11_latestHeard 9 = .ok (.aload_n 0, 1) := by decide +kernel
theorem dX11_latestHeard_10 : decode cX11_latestHeard 10 = .ok (.getfield 30, 3) := by decide +kernel
theorem dX11_latestHeard_13 : decode cX11_latestHeard 13 = .ok (.iload 5, 2) := by decide +kernel
theorem dX11_latestHeard_15 : decode cX11_latestHeard 15 = .ok (.aaload, 1) := by decide +kernel
theorem dX11_latestHeard_16 : decode cX11_latestHeard 16 = .ok (.astore 6, 2) := by decide +kernel
theorem dX11_latestHeard_18 : decode cX11_latestHeard 18 = .ok (.aload 6, 2) := by decide +kernel
theorem dX11_latestHeard_20 : decode cX11_latestHeard 20 = .ok (.ifnull 34, 3) := by decide +kernel
theorem dX11_latestHeard_23 : decode cX11_latestHeard 23 = .ok (.aload 6, 2) := by decide +kernel
theorem dX11_latestHeard_25 : decode cX11_latestHeard 25 = .ok (.getfield 388, 3) := by decide +kernel
theorem dX11_latestHeard_28 : decode cX11_latestHeard 28 = .ok (.aload_n 0, 1) := by decide +kernel
theorem dX11_latestHeard_29 : decode cX11_latestHeard 29 = .ok (.getfield 24, 3) := by decide +kernel
theorem dX11_latestHeard_32 : decode cX11_latestHeard 32 = .ok (.iload 4, 2) := by decide +kernel
theorem dX11_latestHeard_34 : decode cX11_latestHeard 34 = .ok (.iaload, 1) := by decide +kernel
theorem dX11_latestHeard_35 : decode cX11_latestHeard 35 = .ok (.iadd, 1) := by decide +kernel
theorem dX11_latestHeard_36 : decode cX11_latestHeard 36 = .ok (.iload_n 3, 1) := by decide +kernel
theorem dX11_latestHeard_37 : decode cX11_latestHeard 37 = .ok (.if_icmp .gt 17, 3) := by decide +kernel
theorem dX11_latestHeard_40 : decode cX11_latestHeard 40 = .ok (.aload 6, 2) := by decide +kernel
theorem dX11_latestHeard_42 : decode cX11_latestHeard 42 = .ok (.iload_n 1, 1) := by decide +kernel
theorem dX11_latestHeard_43 : decode cX11_latestHeard 43 = .ok (.iload_n 2, 1) := by decide +kernel
theorem dX11_latestHeard_44 : decode cX11_latestHeard 44 = .ok (.iload_n 3, 1) := by decide +kernel
theorem dX11_latestHeard_45 : decode cX11_latestHeard 45 = .ok (.invokevirtual 391, 3) := by decide +kernel
theorem dX11_latestHeard_48 : decode cX11_latestHeard 48 = .ok (.ifCond .eq 6, 3) := by decide +kernel
theorem dX11_latestHeard_51 : decode cX11_latestHeard 51 = .ok (.iload 5, 2) := by decide +kernel
theorem dX11_latestHeard_53 : decode cX11_latestHeard 53 = .ok (.ireturn, 1) := by decide +kernel
theorem dX11_latestHeard_54 : decode cX11_latestHeard 54 = .ok (.iinc 5 (-1), 3) := by decide +kernel
theorem dX11_latestHeard_57 : decode cX11_latestHeard 57 = .ok (.goto (-53), 3) := by decide +kernel
theorem dX11_latestHeard_60 : decode cX11_latestHeard 60 = .ok (.bipush (-9), 2) := by decide +kernel
theorem dX11_latestHeard_62 : decode cX11_latestHeard 62 = .ok (.ireturn, 1) := by decide +kernel
theorem dX11_officesThatClaim_0 : decode cX11_officesThatClaim 0 = .ok (.iconst 0, 1) := by decide +kernel
theorem dX11_officesThatClaim_1 : decode cX11_officesThatClaim 1 = .ok (.istore 4, 2) := by decide +kernel
theorem dX11_officesThatClaim_3 : decode cX11_officesThatClaim 3 = .ok (.iconst 0, 1) := by decide +kernel
theorem dX11_officesThatClaim_4 : decode cX11_officesThatClaim 4 = .ok (.istore 5, 2) := by decide +kernel
theorem dX11_officesThatClaim_6 : decode cX11_officesThatClaim 6 = .ok (.iload 5, 2) := by decide +kernel
theorem dX11_officesThatClaim_8 : decode cX11_officesThatClaim 8 = .ok (.iconst 5, 1) := by decide +kernel
theorem dX11_officesThatClaim_9 : decode cX11_officesThatClaim 9 = .ok (.if_icmp .ge 42, 3) := by decide +kernel
theorem dX11_officesThatClaim_12 : decode cX11_officesThatClaim 12 = .ok (.aload_n 0, 1) := by decide +kernel
theorem dX11_officesThatClaim_13 : decode cX11_officesThatClaim 13 = .ok (.aload_n 0, 1) := by decide +kernel
theorem dX11_officesThatClaim_14 : decode cX11_officesThatClaim 14 = .ok (.iload_n 1, 1) := by decide +kernel
theorem dX11_officesThatClaim_15 : decode cX11_officesThatClaim 15 = .ok (.iload_n 2, 1) := by decide +kernel
theorem dX11_officesThatClaim_16 : decode cX11_officesThatClaim 16 = .ok (.iload_n 3, 1) := by decide +kernel
theorem dX11_officesThatClaim_17 : decode cX11_officesThatClaim 17 = .ok (.iload 5, 2) := by decide +kernel
theorem dX11_officesThatClaim_19 : decode cX11_officesThatClaim 19 = .ok (.invokevirtual 194, 3) := by decide +kernel
theorem dX11_officesThatClaim_22 : decode cX11_officesThatClaim 22 = .ok (.invokevirtual 177, 3) := by decide +kernel
theorem dX11_officesThatClaim_25 : decode cX11_officesThatClaim 25 = .ok (.astore 6, 2) := by decide +kernel
theorem dX11_officesThatClaim_27 : decode cX11_officesThatClaim 27 = .ok (.aload 6, 2) := by decide +kernel
theorem dX11_officesThatClaim_29 : decode cX11_officesThatClaim 29 = .ok (.ifnull 16, 3) := by decide +kernel
theorem dX11_officesThatClaim_32 : decode cX11_officesThatClaim 32 = .ok (.aload 6, 2) := by decide +kernel
theorem dX11_officesThatClaim_34 : decode cX11_officesThatClaim 34 = .ok (.getfield 191, 3) := by decide +kernel
theorem dX11_officesThatClaim_37 : decode cX11_officesThatClaim 37 = .ok (.iload 5, 2) := by decide +kernel
theorem dX11_officesThatClaim_39 : decode cX11_officesThatClaim 39 = .ok (.if_icmp .ne 6, 3) := by decide +kernel
theorem dX11_officesThatClaim_42 : decode cX11_officesThatClaim 42 = .ok (.iinc 4 1, 3) := by decide +kernel
theorem dX11_officesThatClaim_45 : decode cX11_officesThatClaim 45 = .ok (.iinc 5 1, 3) := by decide +kernel
theorem dX11_officesThatClaim_48 : decode cX11_officesThatClaim 48 = .ok (.goto (-42), 3) := by decide +kernel
theorem dX11_officesThatClaim_51 : decode cX11_officesThatClaim 51 = .ok (.iload 4, 2) := by decide +kernel
theorem dX11_officesThatClaim_53 : decode cX11_officesThatClaim 53 = .ok (.ireturn, 1) := by decide +kernel
theorem dX11_leaveInTrace_0 : decode cX11_leaveInTrace 0 = .ok (.aload_n 0, 1) := by decide +kernel
theorem dX11_leaveInTrace_1 : decode cX11_leaveInTrace 1 = .ok (.bipush 31, 2) := by decide +kernel
theorem dX11_leaveInTrace_3 : decode cX11_leaveInTrace 3 = .ok (.aload_n 0, 1) := by decide +kernel
theorem dX11_leaveInTrace_4 : decode cX11_leaveInTrace 4 = .ok (.getfield 369, 3) := by decide +kernel
theorem dX11_leaveInTrace_7 : decode cX11_leaveInTrace 7 = .ok (.imul, 1) := by decide +kernel
theorem dX11_leaveInTrace_8 : decode cX11_leaveInTrace 8 = .ok (.iload_n 1, 1) := by decide +kernel
theorem dX11_leaveInTrace_9 : decode cX11_leaveInTrace 9 = .ok (.iadd, 1) := by decide +kernel
theorem dX11_leaveInTrace_10 : decode cX11_leaveInTrace 10 = .ok (.putfield 369, 3) := by decide +kernel
theorem dX11_leaveInTrace_13 : decode cX11_leaveInTrace 13 = .ok (.return_, 1) := by decide +kernel
theorem dX11_tellingOfPost_0 : decode cX11_tellingOfPost 0 = .ok (.aload_n 0, 1) := by decide +kernel
theorem dX11_tellingOfPost_1 : decode cX11_tellingOfPost 1 = .ok (.iconst 1, 1) := by decide +kernel
theorem dX11_tellingOfPost_2 : decode cX11_tellingOfPost 2 = .ok (.invokevirtual 365, 3) := by decide +kernel
theorem dX11_tellingOfPost_5 : decode cX11_tellingOfPost 5 = .ok (.aload_n 1, 1) := by decide +kernel
theorem dX11_tellingOfPost_6 : decode cX11_tellingOfPost 6 = .ok (.iconst 0, 1) := by decide +kernel
theorem dX11_tellingOfPost_7 : decode cX11_tellingOfPost 7 = .ok (.sipush 399, 3) := by decide +kernel
theorem dX11_tellingOfPost_10 : decode cX11_tellingOfPost 10 = .ok (.invokevirtual 385, 3) := by decide +kernel
theorem dX11_tellingOfPost_13 : decode cX11_tellingOfPost 13 = .ok (.ireturn, 1) := by decide +kernel
theorem dX11_tellingOfLeader_0 : decode cX11_tellingOfLeader 0 = .ok (.aload_n 0, 1) := by decide +kernel
theorem dX11_tellingOfLeader_1 : decode cX11_tellingOfLeader 1 = .ok (.iconst 2, 1) := by decide +kernel
theorem dX11_tellingOfLeader_2 : decode cX11_tellingOfLeader 2 = .ok (.invokevirtual 365, 3) := by decide +kernel
theorem dX11_tellingOfLeader_5 : decode cX11_tellingOfLeader 5 = .ok (.aload_n 0, 1) := by decide +kernel
theorem dX11_tellingOfLeader_6 : decode cX11_tellingOfLeader 6 = .ok (.aload_n 1, 1) := by decide +kernel
theorem dX11_tellingOfLeader_7 : decode cX11_tellingOfLeader 7 = .ok (.invokevirtual 362, 3) := by decide +kernel
theorem dX11_tellingOfLeader_10 : decode cX11_tellingOfLeader 10 = .ok (.bipush 8, 2) := by decide +kernel
theorem dX11_tellingOfLeader_12 : decode cX11_tellingOfLeader 12 = .ok (.iadd, 1) := by decide +kernel
theorem dX11_tellingOfLeader_13 : decode cX11_tellingOfLeader 13 = .ok (.ireturn, 1) := by decide +kernel
theorem dX11_tellingOfChief_0 : decode cX11_tellingOfChief 0 = .ok (.aload_n 0, 1) := by decide +kernel
theorem dX11_tellingOfChief_1 : decode cX11_tellingOfChief 1 = .ok (.iconst 3, 1) := by decide +kernel
theorem dX11_tellingOfChief_2 : decode cX11_tellingOfChief 2 = .ok (.invokevirtual 365, 3) := by decide +kernel
theorem dX11_tellingOfChief_5 : decode cX11_tellingOfChief 5 = .ok (.aload_n 0, 1) := by decide +kernel
theorem dX11_tellingOfChief_6 : decode cX11_tellingOfChief 6 = .ok (.aload_n 1, 1) := by decide +kernel
theorem dX11_tellingOfChief_7 : decode cX11_tellingOfChief 7 = .ok (.invokevirtual 359, 3) := by decide +kernel
theorem dX11_tellingOfChief_10 : decode cX11_tellingOfChief 10 = .ok (.istore_n 2, 1) := by decide +kernel
theorem dX11_tellingOfChief_11 : decode cX11_tellingOfChief 11 = .ok (.iload_n 2, 1) := by decide +kernel
theorem dX11_tellingOfChief_12 : decode cX11_tellingOfChief 12 = .ok (.aload_n 0, 1) := by decide +kernel
theorem dX11_tellingOfChief_13 : decode cX11_tellingOfChief 13 = .ok (.aload_n 1, 1) := by decide +kernel
theorem dX11_tellingOfChief_14 : decode cX11_tellingOfChief 14 = .ok (.invokevirtual 362, 3) := by decide +kernel
theorem dX11_tellingOfChief_17 : decode cX11_tellingOfChief 17 = .ok (.iadd, 1) := by decide +kernel
theorem dX11_tellingOfChief_18 : decode cX11_tellingOfChief 18 = .ok (.ireturn, 1) := by decide +kernel
