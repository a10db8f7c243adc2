theorem dX0_init_0 : decode cX0_init 0 = .ok (.aload_n 0, 1) := by decide +kernel
theorem dX0_init_1 : decode cX0_init 1 = .ok (.invokespecial 1, 3) := by decide +kernel
theorem dX0_init_4 : decode cX0_init 4 = .ok (.aload_n 0, 1) := by decide +kernel
theorem dX0_init_5 : decode cX0_init 5 = .ok (.bipush 16, 2) := by decide +kernel
theorem dX0_init_7 : decode cX0_init 7 = .ok (.newarray .int, 2) := by decide +kernel
theorem dX0_init_9 : decode cX0_init 9 = .ok (.putfield 9, 3) := by decide +kernel
theorem dX0_init_12 : decode cX0_init 12 = .ok (.aload_n 0, 1) := by decide +kernel
theorem dX0_init_13 : decode cX0_init 13 = .ok (.bipush 16, 2) := by decide +kernel
theorem dX0_init_15 : decode cX0_init 15 = .ok (.newarray .int, 2) := by decide +kernel
theorem dX0_init_17 : decode cX0_init 17 = .ok (.putfield 13, 3) := by decide +kernel
theorem dX0_init_20 : decode cX0_init 20 = .ok (.aload_n 0, 1) := by decide +kernel
theorem dX0_init_21 : decode cX0_init 21 = .ok (.bipush 16, 2) := by decide +kernel
theorem dX0_init_23 : decode cX0_init 23 = .ok (.newarray .int, 2) := by decide +kernel
theorem dX0_init_25 : decode cX0_init 25 = .ok (.putfield 16, 3) := by decide +kernel
theorem dX0_init_28 : decode cX0_init 28 = .ok (.aload_n 0, 1) := by decide +kernel
theorem dX0_init_29 : decode cX0_init 29 = .ok (.bipush 16, 2) := by decide +kernel
theorem dX0_init_31 : decode cX0_init 31 = .ok (.newarray .int, 2) := by decide +kernel
theorem dX0_init_33 : decode cX0_init 33 = .ok (.putfield 19, 3) := by decide +kernel
theorem dX0_init_36 : decode cX0_init 36 = .ok (.aload_n 0, 1) := by decide +kernel
theorem dX0_init_37 : decode cX0_init 37 = .ok (.bipush 16, 2) := by decide +kernel
theorem dX0_init_39 : decode cX0_init 39 = .ok (.newarray .int, 2) := by decide +kernel
theorem dX0_init_41 : decode cX0_init 41 = .ok (.putfield 22, 3) := by decide +kernel
theorem dX0_init_44 : decode cX0_init 44 = .ok (.return_, 1) := by decide +kernel
theorem dX0_forget_0 : decode cX0_forget 0 = .ok (.aload_n 0, 1) := by decide +kernel
theorem dX0_forget_1 : decode cX0_forget 1 = .ok (.iconst 0, 1) := by decide +kernel
theorem dX0_forget_2 : decode cX0_forget 2 = .ok (.putfield 25, 3) := by decide +kernel
theorem dX0_forget_5 : decode cX0_forget 5 = .ok (.aload_n 0, 1) := by decide +kernel
theorem dX0_forget_6 : decode cX0_forget 6 = .ok (.iconst 0, 1) := by decide +kernel
theorem dX0_forget_7 : decode cX0_forget 7 = .ok (.putfield 29, 3) := by decide +kernel
theorem dX0_forget_10 : decode cX0_forget 10 = .ok (.return_, 1) := by decide +kernel
theorem dX0_remember_0 : decode cX0_remember 0 = .ok (.aload_n 3, 1) := by decide +kernel
theorem dX0_remember_1 : decode cX0_remember 1 = .ok (.iload_n 2, 1) := by decide +kernel
theorem dX0_remember_2 : decode cX0_remember 2 = .ok (.invokevirtual 32, 3) := by decide +kernel
theorem dX0_remember_5 : decode cX0_remember 5 = .ok (.ifCond .ne 4, 3) := by decide +kernel
theorem dX0_remember_8 : decode cX0_remember 8 = .ok (.return_, 1) := by decide +kernel
theorem dX0_remember_9 : decode cX0_remember 9 = .ok (.aload_n 0, 1) := by decide +kernel
theorem dX0_remember_10 : decode cX0_remember 10 = .ok (.getfield 29, 3) := by decide +kernel
theorem dX0_remember_13 : decode cX0_remember 13 = .ok (.bipush 16, 2) := by decide +kernel
theorem dX0_remember_15 : decode cX0_remember 15 = .ok (.if_icmp .ne 26, 3) := by decide +kernel
theorem dX0_remember_18 : decode cX0_remember 18 = .ok (.aload_n 0, 1) := by decide +kernel
theorem dX0_remember_19 : decode cX0_remember 19 = .ok (.aload_n 0, 1) := by decide +kernel
theorem dX0_remember_20 : decode cX0_remember 20 = .ok (.getfield 25, 3) := by decide +kernel
theorem dX0_remember_23 : decode cX0_remember 23 = .ok (.iconst 1, 1) := by decide +kernel
theorem dX0_remember_24 : decode cX0_remember 24 = .ok (.iadd, 1) := by decide +kernel
theorem dX0_remember_25 : decode cX0_remember 25 = .ok (.bipush 16, 2) := by decide +kernel
theorem dX0_remember_27 : decode cX0_remember 27 = .ok (.irem, 1) := by decide +kernel
theorem dX0_remember_28 : decode cX0_remember 28 = .ok (.putfield 25, 3) := by decide +kernel
theorem dX0_remember_31 : decode cX0_remember 31 = .ok (.aload_n 0, 1) := by decide +kernel
theorem dX0_remember_32 : decode cX0_remember 32 = .ok (.dup, 1) := by decide +kernel
theorem dX0_remember_33 : decode cX0_remember 33 = .ok (.getfield 29, 3) := by decide +kernel
theorem dX0_remember_36 : decode cX0_remember 36 = .ok (.iconst 1, 1) := by decide +kernel
theorem dX0_remember_37 : decode cX0_remember 37 = .ok (.isub, 1) := by decide +kernel
theorem dX0_remember_38 : decode cX0_remember 38 = .ok (.putfield 29, 3) := by decide +kernel
theorem dX0_remember_41 : decode cX0_remember 41 = .ok (.aload_n 0, 1) := by decide +kernel
theorem dX0_remember_42 : decode cX0_remember 42 = .ok (.getfield 25, 3) := by decide +kernel
theorem dX0_remember_45 : decode cX0_remember 45 = .ok (.aload_n 0, 1) := by decide +kernel
theorem dX0_remember_46 : decode cX0_remember 46 = .ok (.getfield 29, 3) := by decide +kernel
theorem dX0_remember_49 : decode cX0_remember 49 = .ok (.iadd, 1) := by decide +kernel
theorem dX0_remember_50 : decode cX0_remember 50 = .ok (.bipush 16, 2) := by decide +kernel
theorem dX0_remember_52 : decode cX0_remember 52 = .ok (.irem, 1) := by decide +kernel
theorem dX0_remember_53 : decode cX0_remember 53 = .ok (.istore 4, 2) := by decide +kernel
theorem dX0_remember_55 : decode cX0_remember 55 = .ok (.aload_n 0, 1) := by decide +kernel
theorem dX0_remember_56 : decode cX0_remember 56 = .ok (.getfield 9, 3) := by decide +kernel
theorem dX0_remember_59 : decode cX0_remember 59 = .ok (.iload 4, 2) := by decide +kernel
theorem dX0_remember_61 : decode cX0_remember 61 = .ok (.iload_n 1, 1) := by decide +kernel
theorem dX0_remember_62 : decode cX0_remember 62 = .ok (.iastore, 1) := by decide +kernel
theorem dX0_remember_63 : decode cX0_remember 63 = .ok (.aload_n 0, 1) := by decide +kernel
theorem dX0_remember_64 : decode cX0_remember 64 = .ok (.getfield 13, 3) := by decide +kernel
theorem dX0_remember_67 : decode cX0_remember 67 = .ok (.iload 4, 2) := by decide +kernel
theorem dX0_remember_69 : decode cX0_remember 69 = .ok (.iload_n 2, 1) := by decide +kernel
theorem dX0_remember_70 : decode cX0_remember 70 = .ok (.iastore, 1) := by decide +kernel
theorem dX0_remember_71 : decode cX0_remember 71 = .ok (.aload_n 0, 1) := by decide +kernel
theorem dX0_remember_72 : decode cX0_remember 72 = .ok (.getfield 16, 3) := by decide +kernel
theorem dX0_remember_75 : decode cX0_remember 75 = .ok (.iload 4, 2) := by decide +kernel
theorem dX0_remember_77 : decode cX0_remember 77 = .ok (.aload_n 3, 1) := by decide +kernel
theorem dX0_remember_78 : decode cX0_remember 78 = .ok (.getfield 38, 3) := by decide +kernel
theorem dX0_remember_81 : decode cX0_remember 81 = .ok (.iload_n 2, 1) := by decide +kernel
theorem dX0_remember_82 : decode cX0_remember 82 = .ok (.iaload, 1) := by decide +kernel
theorem dX0_remember_83 : decode cX0_remember 83 = .ok (.iastore, 1) := by decide +kernel
theorem dX0_remember_84 : decode cX0_remember 84 = .ok (.aload_n 0, 1) := by decide +kernel
theorem dX0_remember_85 : decode cX0_remember 85 = .ok (.getfield 19, 3) := by decide +kernel
theorem dX0_remember_88 : decode cX0_remember 88 = .ok (.iload 4, 2) := by decide +kernel
theorem dX0_remember_90 : decode cX0_remember 90 = .ok (.aload_n 3, 1) := by decide +kernel
theorem dX0_remember_91 : decode cX0_remember 91 = .ok (.getfield 39, 3) := by decide +kernel
theorem dX0_remember_94 : decode cX0_remember 94 = .ok (.iload_n 2, 1) := by decide +kernel
theorem dX0_remember_95 : decode cX0_remember 95 = .ok (.iaload, 1) := by decide +kernel
theorem dX0_remember_96 : decode cX0_remember 96 = .ok (.iastore, 1) := by decide +kernel
theorem dX0_remember_97 : decode cX0_remember 97 = .ok (.aload_n 0, 1) := by decide +kernel
theorem dX0_remember_98 : decode cX0_remember 98 = .ok (.getfield 22, 3) := by decide +kernel
theorem dX0_remember_101 : decode cX0_remember 101 = .ok (.iload 4, 2) := by decide +kernel
theorem dX0_remember_103 : decode cX0_remember 103 = .ok (.aload_n 3, 1) := by decide +kernel
theorem dX0_remember_104 : decode cX0_remember 104 = .ok (.getfield 40, 3) := by decide +kernel
theorem dX0_remember_107 : decode cX0_remember 107 = .ok (.iload_n 2, 1) := by decide +kernel
theorem dX0_remember_108 : decode cX0_remember 108 = .ok (.iaload, 1) := by decide +kernel
theorem dX0_remember_109 : decode cX0_remember 109 = .ok (.iastore, 1) := by decide +kernel
theorem dX0_remember_110 : decode cX0_remember 110 = .ok (.aload_n 0, 1) := by decide +kernel
theorem dX0_remember_111 : decode cX0_remember 111 = .ok (.dup, 1) := by decide +kernel
theorem dX0_remember_112 : decode cX0_remember 112 = .ok (.getfield 29, 3) := by decide +kernel
theorem dX0_remember_115 : decode cX0_remember 115 = .ok (.iconst 1, 1) := by decide +kernel
theorem dX0_remember_116 : decode cX0_remember 116 = .ok (.iadd, 1) := by decide +kernel
theorem dX0_remember_117 : decode cX0_remember 117 = .ok (.putfield 29, 3) := by decide +kernel
theorem dX0_remember_120 : decode cX0_remember 120 = .ok (.return_, 1) := by decide +kernel
theorem dX0_undo_0 : decode cX0_undo 0 = .ok (.aload_n 0, 1) := by decide +kernel
theorem dX0_undo_1 : decode cX0_undo 1 = .ok (.getfield 29, 3) := by decide +kernel
theorem dX0_undo_4 : decode cX0_undo 4 = .ok (.ifCond .ne 4, 3) := by decide +kernel
theorem dX0_undo_7 : decode cX0_undo 7 = .ok (.return_, 1) := by decide +kernel
theorem dX0_undo_8 : decode cX0_undo 8 = .ok (.aload_n 0, 1) := by decide +kernel
theorem dX0_undo_9 : decode cX0_undo 9 = .ok (.dup, 1) := by decide +kernel
theorem dX0_undo_10 : decode cX0_undo 10 = .ok (.getfield 29, 3) := by decide +kernel
theorem dX0_undo_13 : decode cX0_undo 13 = .ok (.iconst 1, 1) := by decide +kernel
theorem dX0_undo_14 : decode cX0_undo 14 = .ok (.isub, 1) := by decide +kernel
theorem dX0_undo_15 : decode cX0_undo 15 = .ok (.putfield 29, 3) := by decide +kernel
theorem dX0_undo_18 : decode cX0_undo 18 = .ok (.aload_n 0, 1) := by decide +kernel
theorem dX0_undo_19 : decode cX0_undo 19 = .ok (.getfield 25, 3) := by decide +kernel
theorem dX0_undo_22 : decode cX0_undo 22 = .ok (.aload_n 0, 1) := by decide +kernel
theorem dX0_undo_23 : decode cX0_undo 23 = .ok (.getfield 29, 3) := by decide +kernel
theorem dX0_undo_26 : decode cX0_undo 26 = .ok (.iadd, 1) := by decide +kernel
theorem dX0_undo_27 : decode cX0_undo 27 = .ok (.bipush 16, 2) := by decide +kernel
theorem dX0_undo_29 : decode cX0_undo 29 = .ok (.irem, 1) := by decide +kernel
theorem dX0_undo_30 : decode cX0_undo 30 = .ok (.istore_n 2, 1) := by decide +kernel
theorem dX0_undo_31 : decode cX0_undo 31 = .ok (.aload_n 0, 1) := by decide +kernel
theorem dX0_undo_32 : decode cX0_undo 32 = .ok (.getfield 9, 3) := by decide +kernel
theorem dX0_undo_35 : decode cX0_undo 35 = .ok (.iload_n 2, 1) := by decide +kernel
theorem dX0_undo_36 : decode cX0_undo 36 = .ok (.iaload, 1) := by decide +kernel
theorem dX0_undo_37 : decode cX0_undo 37 = .ok (.iconst 2, 1) := by decide +kernel
theorem dX0_undo_38 : decode cX0_undo 38 = .ok (.if_icmp .eq 13, 3) := by decide +kernel
theorem dX0_undo_41 : decode cX0_undo 41 = .ok (.aload_n 1, 1) := by decide +kernel
theorem dX0_undo_42 : decode cX0_undo 42 = .ok (.aload_n 0, 1) := by decide +kernel
theorem dX0_undo_43 : decode cX0_undo 43 = .ok (.getfield 13, 3) := by decide +kernel
theorem dX0_undo_46 : decode cX0_undo 46 = .ok (.iload_n 2, 1) := by decide +kernel
theorem dX0_undo_47 : decode cX0_undo 47 = .ok (.iaload, 1) := by decide +kernel
theorem dX0_undo_48 : decode cX0_undo 48 = .ok (.invokevirtual 41, 3) := by decide +kernel
theorem dX0_undo_51 : decode cX0_undo 51 = .ok (.aload_n 0, 1) := by decide +kernel
theorem dX0_undo_52 : decode cX0_undo 52 = .ok (.getfield 9, 3) := by decide +kernel
theorem dX0_undo_55 : decode cX0_undo 55 = .ok (.iload_n 2, 1) := by decide +kernel
theorem dX0_undo_56 : decode cX0_undo 56 = .ok (.iaload, 1) := by decide +kernel
theorem dX0_undo_57 : decode cX0_undo 57 = .ok (.ifCond .eq 31, 3) := by decide +kernel
theorem dX0_undo_60 : decode cX0_undo 60 = .ok (.aload_n 1, 1) := by decide +kernel
theorem dX0_undo_61 : decode cX0_undo 61 = .ok (.aload_n 0, 1) := by decide +kernel
theorem dX0_undo_62 : decode cX0_undo 62 = .ok (.getfield 13, 3) := by decide +kernel
theorem dX0_undo_65 : decode cX0_undo 65 = .ok (.iload_n 2, 1) := by decide +kernel
theorem dX0_undo_66 : decode cX0_undo 66 = .ok (.iaload, 1) := by decide +kernel
theorem dX0_undo_67 : decode cX0_undo 67 = .ok (.aload_n 0, 1) := by decide +kernel
theorem dX0_undo_68 : decode cX0_undo 68 = .ok (.getfield 16, 3) := by decide +kernel
theorem dX0_undo_71 : decode cX0_undo 71 = .ok (.iload_n 2, 1) := by decide +kernel
theorem dX0_undo_72 : decode cX0_undo 72 = .ok (.iaload, 1) := by decide +kernel
theorem dX0_undo_73 : decode cX0_undo 73 = .ok (.aload_n 0, 1) := by decide +kernel
theorem dX0_undo_74 : decode cX0_undo 74 = .ok (.getfield 19, 3) := by decide +kernel
theorem dX0_undo_77 : decode cX0_undo 77 = .ok (.iload_n 2, 1) := by decide +kernel
theorem dX0_undo_78 : decode cX0_undo 78 = .ok (.iaload, 1) := by decide +kernel
theorem dX0_undo_79 : decode cX0_undo 79 = .ok (.aload_n 0, 1) := by decide +kernel
theorem dX0_undo_80 : decode cX0_undo 80 = .ok (.getfield 22, 3) := by decide +kernel
theorem dX0_undo_83 : decode cX0_undo 83 = .ok (.iload_n 2, 1) := by decide +kernel
theorem dX0_undo_84 : decode cX0_undo 84 = .ok (.iaload, 1) := by decide +kernel
theorem dX0_undo_85 : decode cX0_undo 85 = .ok (.invokevirtual 45, 3) := by decide +kernel
theorem dX0_undo_88 : decode cX0_undo 88 = .ok (.return_, 1) := by decide +kernel
theorem dX1_init_0 : decode cX1_init 0 = .ok (.aload_n 0, 1) := by decide +kernel
theorem dX1_init_1 : decode cX1_init 1 = .ok (.invokespecial 1, 3) := by decide +kernel
theorem dX1_init_4 : decode cX1_init 4 = .ok (.aload_n 0, 1) := by decide +kernel
theorem dX1_init_5 : decode cX1_init 5 = .ok (.bipush 8, 2) := by decide +kernel
theorem dX1_init_7 : decode cX1_init 7 = .ok (.newarray .int, 2) := by decide +kernel
theorem dX1_init_9 : decode cX1_init 9 = .ok (.putfield 9, 3) := by decide +kernel
theorem dX1_init_12 : decode cX1_init 12 = .ok (.aload_n 0, 1) := by decide +kernel
theorem dX1_init_13 : decode cX1_init 13 = .ok (.bipush 8, 2) := by decide +kernel
theorem dX1_init_15 : decode cX1_init 15 = .ok (.newarray .int, 2) := by decide +kernel
theorem dX1_init_17 : decode cX1_init 17 = .ok (.putfield 13, 3) := by decide +kernel
theorem dX1_init_20 : decode cX1_init 20 = .ok (.aload_n 0, 1) := by decide +kernel
theorem dX1_init_21 : decode cX1_init 21 = .ok (.bipush 8, 2) := by decide +kernel
theorem dX1_init_23 : decode cX1_init 23 = .ok (.newarray .int, 2) := by decide +kernel
theorem dX1_init_25 : decode cX1_init 25 = .ok (.putfield 16, 3) := by decide +kernel
theorem dX1_init_28 : decode cX1_init 28 = .ok (.return_, 1) := by decide +kernel
theorem dX1_has_0 : decode cX1_has 0 = .ok (.iload_n 1, 1) := by decide +kernel
theorem dX1_has_1 : decode cX1_has 1 = .ok (.aload_n 0, 1) := by decide +kernel
theorem dX1_has_2 : decode cX1_has 2 = .ok (.getfield 19, 3) := by decide +kernel
theorem dX1_has_5 : decode cX1_has 5 = .ok (.invokestatic 23, 3) := by decide +kernel
theorem dX1_has_8 : decode cX1_has 8 = .ok (.ireturn, 1) := by decide +kernel
theorem dX1_height_0 : decode cX1_height 0 = .ok (.getstatic 29, 3) := by decide +kernel
theorem dX1_height_3 : decode cX1_height 3 = .ok (.aload_n 0, 1) := by decide +kernel
theorem dX1_height_4 : decode cX1_height 4 = .ok (.getfield 9, 3) := by decide +kernel
theorem dX1_height_7 : decode cX1_height 7 = .ok (.iload_n 1, 1) := by decide +kernel
theorem dX1_height_8 : decode cX1_height 8 = .ok (.iaload, 1) := by decide +kernel
theorem dX1_height_9 : decode cX1_height 9 = .ok (.iaload, 1) := by decide +kernel
theorem dX1_height_10 : decode cX1_height 10 = .ok (.ireturn, 1) := by decide +kernel
theorem dX1_heads_0 : decode cX1_heads 0 = .ok (.getstatic 32, 3) := by decide +kernel
theorem dX1_heads_3 : decode cX1_heads 3 = .ok (.aload_n 0, 1) := by decide +kernel
theorem dX1_heads_4 : decode cX1_heads 4 = .ok (.getfield 9, 3) := by decide +kernel
theorem dX1_heads_7 : decode cX1_heads 7 = .ok (.iload_n 1, 1) := by decide +kernel
theorem dX1_heads_8 : decode cX1_heads 8 = .ok (.iaload, 1) := by decide +kernel
theorem dX1_heads_9 : decode cX1_heads 9 = .ok (.iaload, 1) := by decide +kernel
theorem dX1_heads_10 : decode cX1_heads 10 = .ok (.ireturn, 1) := by decide +kernel
theorem dX1_allHeads_0 : decode cX1_allHeads 0 = .ok (.iconst 0, 1) := by decide +kernel
theorem dX1_allHeads_1 : decode cX1_allHeads 1 = .ok (.istore_n 1, 1) := by decide +kernel
theorem dX1_allHeads_2 : decode cX1_allHeads 2 = .ok (.iconst 0, 1) := by decide +kernel
theorem dX1_allHeads_3 : decode cX1_allHeads 3 = .ok (.istore_n 2, 1) := by decide +kernel
theorem dX1_allHeads_4 : decode cX1_allHeads 4 = .ok (.iload_n 2, 1) := by decide +kernel
theorem dX1_allHeads_5 : decode cX1_allHeads 5 = .ok (.aload_n 0, 1) := by decide +kernel
theorem dX1_allHeads_6 : decode cX1_allHeads 6 = .ok (.getfield 19, 3) := by decide +kernel
theorem dX1_allHeads_9 : decode cX1_allHeads 9 = .ok (.if_icmp .ge 17, 3) := by decide +kernel
theorem dX1_allHeads_12 : decode cX1_allHeads 12 = .ok (.iload_n 1, 1) := by decide +kernel
theorem dX1_allHeads_13 : decode cX1_allHeads 13 = .ok (.aload_n 0, 1) := by decide +kernel
theorem dX1_allHeads_14 : decode cX1_allHeads 14 = .ok (.iload_n 2, 1) := by decide +kernel
theorem dX1_allHeads_15 : decode cX1_allHeads 15 = .ok (.invokevirtual 35, 3) := by decide +kernel
theorem dX1_allHeads_18 : decode cX1_allHeads 18 = .ok (.iadd, 1) := by decide +kernel
theorem dX1_allHeads_19 : decode cX1_allHeads 19 = .ok (.istore_n 1, 1) := by decide +kernel
theorem dX1_allHeads_20 : decode cX1_allHeads 20 = .ok (.iinc 2 1, 3) := by decide +kernel
theorem dX1_allHeads_23 : decode cX1_allHeads 23 = .ok (.goto (-19), 3) := by decide +kernel
theorem dX1_allHeads_26 : decode cX1_allHeads 26 = .ok (.iload_n 1, 1) := by decide +kernel
theorem dX1_allHeads_27 : decode cX1_allHeads 27 = .ok (.ireturn, 1) := by decide +kernel
theorem dX1_standsAt_0 : decode cX1_standsAt 0 = .ok (.iconst 0, 1) := by decide +kernel
theorem dX1_standsAt_1 : decode cX1_standsAt 1 = .ok (.istore_n 3, 1) := by decide +kernel
theorem dX1_standsAt_2 : decode cX1_standsAt 2 = .ok (.iload_n 3, 1) := by decide +kernel
theorem dX1_standsAt_3 : decode cX1_standsAt 3 = .ok (.aload_n 0, 1) := by decide +kernel
theorem dX1_standsAt_4 : decode cX1_standsAt 4 = .ok (.getfield 19, 3) := by decide +kernel
theorem dX1_standsAt_7 : decode cX1_standsAt 7 = .ok (.if_icmp .ge 31, 3) := by decide +kernel
theorem dX1_standsAt_10 : decode cX1_standsAt 10 = .ok (.aload_n 0, 1) := by decide +kernel
theorem dX1_standsAt_11 : decode cX1_standsAt 11 = .ok (.getfield 13, 3) := by decide +kernel
theorem dX1_standsAt_14 : decode cX1_standsAt 14 = .ok (.iload_n 3, 1) := by decide +kernel
theorem dX1_standsAt_15 : decode cX1_standsAt 15 = .ok (.iaload, 1) := by decide +kernel
theorem dX1_standsAt_16 : decode cX1_standsAt 16 = .ok (.iload_n 1, 1) := by decide +kernel
theorem dX1_standsAt_17 : decode cX1_standsAt 17 = .ok (.if_icmp .ne 15, 3) := by decide +kernel
theorem dX1_standsAt_20 : decode cX1_standsAt 20 = .ok (.aload_n 0, 1) := by decide +kernel
theorem dX1_standsAt_21 : decode cX1_standsAt 21 = .ok (.getfield 16, 3) := by decide +kernel
theorem dX1_standsAt_24 : decode cX1_standsAt 24 = .ok (.iload_n 3, 1) := by decide +kernel
theorem dX1_standsAt_25 : decode cX1_standsAt 25 = .ok (.iaload, 1) := by decide +kernel
theorem dX1_standsAt_26 : decode cX1_standsAt 26 = .ok (.iload_n 2, 1) := by decide +kernel
theorem dX1_standsAt_27 : decode cX1_standsAt 27 = .ok (.if_icmp .ne 5, 3) := by decide +kernel
theorem dX1_standsAt_30 : decode cX1_standsAt 30 = .ok (.iconst 1, 1) := by decide +kernel
theorem dX1_standsAt_31 : decode cX1_standsAt 31 = .ok (.ireturn, 1) := by decide +kernel
theorem dX1_standsAt_32 : decode cX1_standsAt 32 = .ok (.iinc 3 1, 3) := by decide +kernel
theorem dX1_standsAt_35 : decode cX1_standsAt 35 = .ok (.goto (-33), 3) := by decide +kernel
theorem dX1_standsAt_38 : decode cX1_standsAt 38 = .ok (.iconst 0, 1) := by decide +kernel
theorem dX1_standsAt_39 : decode cX1_standsAt 39 = .ok (.ireturn, 1) := by decide +kernel
theorem dX1_inColumn_0 : decode cX1_inColumn 0 = .ok (.iconst 0, 1) := by decide +kernel
theorem dX1_inColumn_1 : decode cX1_inColumn 1 = .ok (.istore_n 2, 1) := by decide +kernel
theorem dX1_inColumn_2 : decode cX1_inColumn 2 = .ok (.iconst 0, 1) := by decide +kernel
theorem dX1_inColumn_3 : decode cX1_inColumn 3 = .ok (.istore_n 3, 1) := by decide +kernel
theorem dX1_inColumn_4 : decode cX1_inColumn 4 = .ok (.iload_n 3, 1) := by decide +kernel
theorem dX1_inColumn_5 : decode cX1_inColumn 5 = .ok (.aload_n 0, 1) := by decide +kernel
theorem dX1_inColumn_6 : decode cX1_inColumn 6 = .ok (.getfield 19, 3) := by decide +kernel
theorem dX1_inColumn_9 : decode cX1_inColumn 9 = .ok (.if_icmp .ge 27, 3) := by decide +kernel
theorem dX1_inColumn_12 : decode cX1_inColumn 12 = .ok (.iload_n 2, 1) := by decide +kernel
theorem dX1_inColumn_13 : decode cX1_inColumn 13 = .ok (.aload_n 0, 1) := by decide +kernel
theorem dX1_inColumn_14 : decode cX1_inColumn 14 = .ok (.getfield 13, 3) := by decide +kernel
theorem dX1_inColumn_17 : decode cX1_inColumn 17 = .ok (.iload_n 3, 1) := by decide +kernel
theorem dX1_inColumn_18 : decode cX1_inColumn 18 = .ok (.iaload, 1) := by decide +kernel
theorem dX1_inColumn_19 : decode cX1_inColumn 19 = .ok (.iload_n 1, 1) := by decide +kernel
theorem dX1_inColumn_20 : decode cX1_inColumn 20 = .ok (.if_icmp .ne 7, 3) := by decide +kernel
theorem dX1_inColumn_23 : decode cX1_inColumn 23 = .ok (.iconst 1, 1) := by decide +kernel
theorem dX1_inColumn_24 : decode cX1_inColumn 24 = .ok (.goto 4, 3) := by decide +kernel
theorem dX1_inColumn_27 : decode cX1_inColumn 27 = .ok (.iconst 0, 1) := by decide +kernel
theorem dX1_inColumn_28 : decode cX1_inColumn 28 = .ok (.iadd, 1) := by decide +kernel
theorem dX1_inColumn_29 : decode cX1_inColumn 29 = .ok (.istore_n 2, 1) := by decide +kernel
theorem dX1_inColumn_30 : decode cX1_inColumn 30 = .ok (.iinc 3 1, 3) := by decide +kernel
theorem dX1_inColumn_33 : decode cX1_inColumn 33 = .ok (.goto (-29), 3) := by decide +kernel
theorem dX1_inColumn_36 : decode cX1_inColumn 36 = .ok (.iload_n 2, 1) := by decide +kernel
theorem dX1_inColumn_37 : decode cX1_inColumn 37 = .ok (.ireturn, 1) := by decide +kernel
theorem dX1_insert_0 : decode cX1_insert 0 = .ok (.aload_n 0, 1) := by decide +kernel
theorem dX1_insert_1 : decode cX1_insert 1 = .ok (.getfield 19, 3) := by decide +kernel
theorem dX1_insert_4 : decode cX1_insert 4 = .ok (.bipush 8, 2) := by decide +kernel
theorem dX1_insert_6 : decode cX1_insert 6 = .ok (.if_icmp .ge 16, 3) := by decide +kernel
theorem dX1_insert_9 : decode cX1_insert 9 = .ok (.iload_n 1, 1) := by decide +kernel
theorem dX1_insert_10 : decode cX1_insert 10 = .ok (.aload_n 0, 1) := by decide +kernel
theorem dX1_insert_11 : decode cX1_insert 11 = .ok (.getfield 19, 3) := by decide +kernel
theorem dX1_insert_14 : decode cX1_insert 14 = .ok (.iconst 1, 1) := by decide +kernel
theorem dX1_insert_15 : decode cX1_insert 15 = .ok (.iadd, 1) := by decide +kernel
theorem dX1_insert_16 : decode cX1_insert 16 = .ok (.invokestatic 23, 3) := by decide +kernel
theorem dX1_insert_19 : decode cX1_insert 19 = .ok (.ifCond .ne 4, 3) := by decide +kernel
theorem dX1_insert_22 : decode cX1_insert 22 = .ok (.return_, 1) := by decide +kernel
theorem dX1_insert_23 : decode cX1_insert 23 = .ok (.aload_n 0, 1) := by decide +kernel
theorem dX1_insert_24 : decode cX1_insert 24 = .ok (.getfield 19, 3) := by decide +kernel
theorem dX1_insert_27 : decode cX1_insert 27 = .ok (.istore 5, 2) := by decide +kernel
theorem dX1_insert_29 : decode cX1_insert 29 = .ok (.iload 5, 2) := by decide +kernel
theorem dX1_insert_31 : decode cX1_insert 31 = .ok (.iload_n 1, 1) := by decide +kernel
theorem dX1_insert_32 : decode cX1_insert 32 = .ok (.if_icmp .le 19, 3) := by decide +kernel
theorem dX1_insert_35 : decode cX1_insert 35 = .ok (.aload_n 0, 1) := by decide +kernel
theorem dX1_insert_36 : decode cX1_insert 36 = .ok (.iload 5, 2) := by decide +kernel
theorem dX1_insert_38 : decode cX1_insert 38 = .ok (.iconst 1, 1) := by decide +kernel
theorem dX1_insert_39 : decode cX1_insert 39 = .ok (.isub, 1) := by decide +kernel
theorem dX1_insert_40 : decode cX1_insert 40 = .ok (.iload 5, 2) := by decide +kernel
theorem dX1_insert_42 : decode cX1_insert 42 = .ok (.invokevirtual 39, 3) := by decide +kernel
theorem dX1_insert_45 : decode cX1_insert 45 = .ok (.iinc 5 (-1), 3) := by decide +kernel
theorem dX1_insert_48 : decode cX1_insert 48 = .ok (.goto (-19), 3) := by decide +kernel
theorem dX1_insert_51 : decode cX1_insert 51 = .ok (.aload_n 0, 1) := by decide +kernel
theorem dX1_insert_52 : decode cX1_insert 52 = .ok (.getfield 9, 3) := by decide +kernel
theorem dX1_insert_55 : decode cX1_insert 55 = .ok (.iload_n 1, 1) := by decide +kernel
theorem dX1_insert_56 : decode cX1_insert 56 = .ok (.iload_n 2, 1) := by decide +kernel
theorem dX1_insert_57 : decode cX1_insert 57 = .ok (.iastore, 1) := by decide +kernel
theorem dX1_insert_58 : decode cX1_insert 58 = .ok (.aload_n 0, 1) := by decide +kernel
theorem dX1_insert_59 : decode cX1_insert 59 = .ok (.getfield 13, 3) := by decide +kernel
theorem dX1_insert_62 : decode cX1_insert 62 = .ok (.iload_n 1, 1) := by decide +kernel
theorem dX1_insert_63 : decode cX1_insert 63 = .ok (.iload_n 3, 1) := by decide +kernel
theorem dX1_insert_64 : decode cX1_insert 64 = .ok (.iastore, 1) := by decide +kernel
theorem dX1_insert_65 : decode cX1_insert 65 = .ok (.aload_n 0, 1) := by decide +kernel
theorem dX1_insert_66 : decode cX1_insert 66 = .ok (.getfield 16, 3) := by decide +kernel
theorem dX1_insert_69 : decode cX1_insert 69 = .ok (.iload_n 1, 1) := by decide +kernel
theorem dX1_insert_70 : decode cX1_insert 70 = .ok (.iload 4, 2) := by decide +kernel
theorem dX1_insert_72 : decode cX1_insert 72 = .ok (.iastore, 1) := by decide +kernel
theorem dX1_insert_73 : decode cX1_insert 73 = .ok (.aload_n 0, 1) := by decide +kernel
theorem dX1_insert_74 : decode cX1_insert 74 = .ok (.dup, 1) := by decide +kernel
theorem dX1_insert_75 : decode cX1_insert 75 = .ok (.getfield 19, 3) := by decide +kernel
theorem dX1_insert_78 : decode cX1_insert 78 = .ok (.iconst 1, 1) := by decide +kernel
theorem dX1_insert_79 : decode cX1_insert 79 = .ok (.iadd, 1) := by decide +kernel
theorem dX1_insert_80 : decode cX1_insert 80 = .ok (.putfield 19, 3) := by decide +kernel
theorem dX1_insert_83 : decode cX1_insert 83 = .ok (.return_, 1) := by decide +kernel
theorem dX1_remove_0 : decode cX1_remove 0 = .ok (.aload_n 0, 1) := by decide +kernel
theorem dX1_remove_1 : decode cX1_remove 1 = .ok (.iload_n 1, 1) := by decide +kernel
theorem dX1_remove_2 : decode cX1_remove 2 = .ok (.invokevirtual 43, 3) := by decide +kernel
theorem dX1_remove_5 : decode cX1_remove 5 = .ok (.ifCond .ne 4, 3) := by decide +kernel
theorem dX1_remove_8 : decode cX1_remove 8 = .ok (.return_, 1) := by decide +kernel
theorem dX1_remove_9 : decode cX1_remove 9 = .ok (.iload_n 1, 1) := by decide +kernel
theorem dX1_remove_10 : decode cX1_remove 10 = .ok (.istore_n 2, 1) := by decide +kernel
theorem dX1_remove_11 : decode cX1_remove 11 = .ok (.iload_n 2, 1) := by decide +kernel
theorem dX1_remove_12 : decode cX1_remove 12 = .ok (.aload_n 0, 1) := by decide +kernel
theorem dX1_remove_13 : decode cX1_remove 13 = .ok (.getfield 19, 3) := by decide +kernel
theorem dX1_remove_16 : decode cX1_remove 16 = .ok (.iconst 1, 1) := by decide +kernel
theorem dX1_remove_17 : decode cX1_remove 17 = .ok (.isub, 1) := by decide +kernel
theorem dX1_remove_18 : decode cX1_remove 18 = .ok (.if_icmp .ge 17, 3) := by decide +kernel
theorem dX1_remove_21 : decode cX1_remove 21 = .ok (.aload_n 0, 1) := by decide +kernel
theorem dX1_remove_22 : decode cX1_remove 22 = .ok (.iload_n 2, 1) := by decide +kernel
theorem dX1_remove_23 : decode cX1_remove 23 = .ok (.iconst 1, 1) := by decide +kernel
theorem dX1_remove_24 : decode cX1_remove 24 = .ok (.iadd, 1) := by decide +kernel
theorem dX1_remove_25 : decode cX1_remove 25 = .ok (.iload_n 2, 1) := by decide +kernel
theorem dX1_remove_26 : decode cX1_remove 26 = .ok (.invokevirtual 39, 3) := by decide +kernel
theorem dX1_remove_29 : decode cX1_remove 29 = .ok (.iinc 2 1, 3) := by decide +kernel
theorem dX1_remove_32 : decode cX1_remove 32 = .ok (.goto (-21), 3) := by decide +kernel
theorem dX1_remove_35 : decode cX1_remove 35 = .ok (.aload_n 0, 1) := by decide +kernel
theorem dX1_remove_36 : decode cX1_remove 36 = .ok (.dup, 1) := by decide +kernel
theorem dX1_remove_37 : decode cX1_remove 37 = .ok (.getfield 19, 3) := by decide +kernel
theorem dX1_remove_40 : decode cX1_remove 40 = .ok (.iconst 1, 1) := by decide +kernel
theorem dX1_remove_41 : decode cX1_remove 41 = .ok (.isub, 1) := by decide +kernel
theorem dX1_remove_42 : decode cX1_remove 42 = .ok (.putfield 19, 3) := by decide +kernel
theorem dX1_remove_45 : decode cX1_remove 45 = .ok (.return_, 1) := by decide +kernel
theorem dX1_renumber_0 : decode cX1_renumber 0 = .ok (.aload_n 0, 1) := by decide +kernel
theorem dX1_renumber_1 : decode cX1_renumber 1 = .ok (.getfield 9, 3) := by decide +kernel
theorem dX1_renumber_4 : decode cX1_renumber 4 = .ok (.iload_n 2, 1) := by decide +kernel
theorem dX1_renumber_5 : decode cX1_renumber 5 = .ok (.aload_n 0, 1) := by decide +kernel
theorem dX1_renumber_6 : decode cX1_renumber 6 = .ok (.getfield 9, 3) := by decide +kernel
theorem dX1_renumber_9 : decode cX1_renumber 9 = .ok (.iload_n 1, 1) := by decide +kernel
theorem dX1_renumber_10 : decode cX1_renumber 10 = .ok (.iaload, 1) := by decide +kernel
theorem dX1_renumber_11 : decode cX1_renumber 11 = .ok (.iastore, 1) := by decide +kernel
theorem dX1_renumber_12 : decode cX1_renumber 12 = .ok (.aload_n 0, 1) := by decide +kernel
theorem dX1_renumber_13 : decode cX1_renumber 13 = .ok (.getfield 13, 3) := by decide +kernel
theorem dX1_renumber_16 : decode cX1_renumber 16 = .ok (.iload_n 2, 1) := by decide +kernel
theorem dX1_renumber_17 : decode cX1_renumber 17 = .ok (.aload_n 0, 1) := by decide +kernel
theorem dX1_renumber_18 : decode cX1_renumber 18 = .ok (.getfield 13, 3) := by decide +kernel
theorem dX1_renumber_21 : decode cX1_renumber 21 = .ok (.iload_n 1, 1) := by decide +kernel
theorem dX1_renumber_22 : decode cX1_renumber 22 = .ok (.iaload, 1) := by decide +kernel
theorem dX1_renumber_23 : decode cX1_renumber 23 = .ok (.iastore, 1) := by decide +kernel
theorem dX1_renumber_24 : decode cX1_renumber 24 = .ok (.aload_n 0, 1) := by decide +kernel
theorem dX1_renumber_25 : decode cX1_renumber 25 = .ok (.getfield 16, 3) := by decide +kernel
theorem dX1_renumber_28 : decode cX1_renumber 28 = .ok (.iload_n 2, 1) := by decide +kernel
theorem dX1_renumber_29 : decode cX1_renumber 29 = .ok (.aload_n 0, 1) := by decide +kernel
theorem dX1_renumber_30 : decode cX1_renumber 30 = .ok (.getfield 16, 3) := by decide +kernel
theorem dX1_renumber_33 : decode cX1_renumber 33 = .ok (.iload_n 1, 1) := by decide +kernel
theorem dX1_renumber_34 : decode cX1_renumber 34 = .ok (.iaload, 1) := by decide +kernel
theorem dX1_renumber_35 : decode cX1_renumber 35 = .ok (.iastore, 1) := by decide +kernel
theorem dX1_renumber_36 : decode cX1_renumber 36 = .ok (.return_, 1) := by decide +kernel
theorem dX1_copyFrom_0 : decode cX1_copyFrom 0 = .ok (.aload_n 0, 1) := by decide +kernel
theorem dX1_copyFrom_1 : decode cX1_copyFrom 1 = .ok (.aload_n 1, 1) := by decide +kernel
theorem dX1_copyFrom_2 : decode cX1_copyFrom 2 = .ok (.getfield 19, 3) := by decide +kernel
theorem dX1_copyFrom_5 : decode cX1_copyFrom 5 = .ok (.putfield 19, 3) := by decide +kernel
theorem dX1_copyFrom_8 : decode cX1_copyFrom 8 = .ok (.iconst 0, 1) := by decide +kernel
theorem dX1_copyFrom_9 : decode cX1_copyFrom 9 = .ok (.istore_n 2, 1) := by decide +kernel
theorem dX1_copyFrom_10 : decode cX1_copyFrom 10 = .ok (.iload_n 2, 1) := by decide +kernel
theorem dX1_copyFrom_11 : decode cX1_copyFrom 11 = .ok (.aload_n 0, 1) := by decide +kernel
theorem dX1_copyFrom_12 : decode cX1_copyFrom 12 = .ok (.getfield 19, 3) := by decide +kernel
theorem dX1_copyFrom_15 : decode cX1_copyFrom 15 = .ok (.if_icmp .ge 45, 3) := by decide +kernel
theorem dX1_copyFrom_18 : decode cX1_copyFrom 18 = .ok (.aload_n 0, 1) := by decide +kernel
theorem dX1_copyFrom_19 : decode cX1_copyFrom 19 = .ok (.getfield 9, 3) := by decide +kernel
theorem dX1_copyFrom_22 : decode cX1_copyFrom 22 = .ok (.iload_n 2, 1) := by decide +kernel
theorem dX1_copyFrom_23 : decode cX1_copyFrom 23 = .ok (.aload_n 1, 1) := by decide +kernel
theorem dX1_copyFrom_24 : decode cX1_copyFrom 24 = .ok (.getfield 9, 3) := by decide +kernel
theorem dX1_copyFrom_27 : decode cX1_copyFrom 27 = .ok (.iload_n 2, 1) := by decide +kernel
theorem dX1_copyFrom_28 : decode cX1_copyFrom 28 = .ok (.iaload, 1) := by decide +kernel
theorem dX1_copyFrom_29 : decode cX1_copyFrom 29 = .ok (.iastore, 1) := by decide +kernel
theorem dX1_copyFrom_30 : decode cX1_copyFrom 30 = .ok (.aload_n 0, 1) := by decide +kernel
theorem dX1_copyFrom_31 : decode cX1_copyFrom 31 = .ok (.getfield 13, 3) := by decide +kernel
theorem dX1_copyFrom_34 : decode cX1_copyFrom 34 = .ok (.iload_n 2, 1) := by decide +kernel
theorem dX1_copyFrom_35 : decode cX1_copyFrom 35 = .ok (.aload_n 1, 1) := by decide +kernel
theorem dX1_copyFrom_36 : decode cX1_copyFrom 36 = .ok (.getfield 13, 3) := by decide +kernel
theorem dX1_copyFrom_39 : decode cX1_copyFrom 39 = .ok (.iload_n 2, 1) := by decide +kernel
theorem dX1_copyFrom_40 : decode cX1_copyFrom 40 = .ok (.iaload, 1) := by decide +kernel
theorem dX1_copyFrom_41 : decode cX1_copyFrom 41 = .ok (.iastore, 1) := by decide +kernel
theorem dX1_copyFrom_42 : decode cX1_copyFrom 42 = .ok (.aload_n 0, 1) := by decide +kernel
theorem dX1_copyFrom_43 : decode cX1_copyFrom 43 = .ok (.getfield 16, 3) := by decide +kernel
theorem dX1_copyFrom_46 : decode cX1_copyFrom 46 = .ok (.iload_n 2, 1) := by decide +kernel
theorem dX1_copyFrom_47 : decode cX1_copyFrom 47 = .ok (.aload_n 1, 1) := by decide +kernel
theorem dX1_copyFrom_48 : decode cX1_copyFrom 48 = .ok (.getfield 16, 3) := by decide +kernel
theorem dX1_copyFrom_51 : decode cX1_copyFrom 51 = .ok (.iload_n 2, 1) := by decide +kernel
theorem dX1_copyFrom_52 : decode cX1_copyFrom 52 = .ok (.iaload, 1) := by decide +kernel
theorem dX1_copyFrom_53 : decode cX1_copyFrom 53 = .ok (.iastore, 1) := by decide +kernel
theorem dX1_copyFrom_54 : decode cX1_copyFrom 54 = .ok (.iinc 2 1, 3) := by decide +kernel
theorem dX1_copyFrom_57 : decode cX1_copyFrom 57 = .ok (.goto (-47), 3) := by decide +kernel
theorem dX1_copyFrom_60 : decode cX1_copyFrom 60 = .ok (.return_, 1) := by decide +kernel
theorem dX2_init_0 : decode cX2_init 0 = .ok (.aload_n 0, 1) := by decide +kernel
theorem dX2_init_1 : decode cX2_init 1 = .ok (.invokespecial 3, 3) := by decide +kernel
theorem dX2_init_4 : decode cX2_init 4 = .ok (.aload_n 0, 1) := by decide +kernel
theorem dX2_init_5 : decode cX2_init 5 = .ok (.new 9, 3) := by decide +kernel
theorem dX2_init_8 : decode cX2_init 8 = .ok (.dup, 1) := by decide +kernel
theorem dX2_init_9 : decode cX2_init 9 = .ok (.invokespecial 11, 3) := by decide +kernel
theorem dX2_init_12 : decode cX2_init 12 = .ok (.putfield 12, 3) := by decide +kernel
theorem dX2_init_15 : decode cX2_init 15 = .ok (.aload_n 0, 1) := by decide +kernel
theorem dX2_init_16 : decode cX2_init 16 = .ok (.new 18, 3) := by decide +kernel
theorem dX2_init_19 : decode cX2_init 19 = .ok (.dup, 1) := by decide +kernel
theorem dX2_init_20 : decode cX2_init 20 = .ok (.invokespecial 20, 3) := by decide +kernel
theorem dX2_init_23 : decode cX2_init 23 = .ok (.putfield 21, 3) := by decide +kernel
theorem dX2_init_26 : decode cX2_init 26 = .ok (.return_, 1) := by decide +kernel
theorem dX2_clear_0 : decode cX2_clear 0 = .ok (.aload_n 0, 1) := by decide +kernel
theorem dX2_clear_1 : decode cX2_clear 1 = .ok (.getfield 12, 3) := by decide +kernel
theorem dX2_clear_4 : decode cX2_clear 4 = .ok (.iconst 0, 1) := by decide +kernel
theorem dX2_clear_5 : decode cX2_clear 5 = .ok (.putfield 25, 3) := by decide +kernel
theorem dX2_clear_8 : decode cX2_clear 8 = .ok (.aload_n 0, 1) := by decide +kernel
theorem dX2_clear_9 : decode cX2_clear 9 = .ok (.getfield 21, 3) := by decide +kernel
theorem dX2_clear_12 : decode cX2_clear 12 = .ok (.invokevirtual 29, 3) := by decide +kernel
theorem dX2_clear_15 : decode cX2_clear 15 = .ok (.return_, 1) := by decide +kernel
theorem dX2_copyFrom_0 : decode cX2_copyFrom 0 = .ok (.aload_n 0, 1) := by decide +kernel
theorem dX2_copyFrom_1 : decode cX2_copyFrom 1 = .ok (.getfield 12, 3) := by decide +kernel
theorem dX2_copyFrom_4 : decode cX2_copyFrom 4 = .ok (.aload_n 1, 1) := by decide +kernel
theorem dX2_copyFrom_5 : decode cX2_copyFrom 5 = .ok (.getfield 12, 3) := by decide +kernel
theorem dX2_copyFrom_8 : decode cX2_copyFrom 8 = .ok (.invokevirtual 32, 3) := by decide +kernel
theorem dX2_copyFrom_11 : decode cX2_copyFrom 11 = .ok (.aload_n 0, 1) := by decide +kernel
theorem dX2_copyFrom_12 : decode cX2_copyFrom 12 = .ok (.getfield 21, 3) := by decide +kernel
theorem dX2_copyFrom_15 : decode cX2_copyFrom 15 = .ok (.aload_n 1, 1) := by decide +kernel
theorem dX2_copyFrom_16 : decode cX2_copyFrom 16 = .ok (.getfield 21, 3) := by decide +kernel
theorem dX2_copyFrom_19 : decode cX2_copyFrom 19 = .ok (.invokevirtual 36, 3) := by decide +kernel
theorem dX2_copyFrom_22 : decode cX2_copyFrom 22 = .ok (.return_, 1) := by decide +kernel
theorem dX2_darkCells_0 : decode cX2_darkCells 0 = .ok (.iconst 0, 1) := by decide +kernel
theorem dX2_darkCells_1 : decode cX2_darkCells 1 = .ok (.istore_n 3, 1) := by decide +kernel
theorem dX2_darkCells_2 : decode cX2_darkCells 2 = .ok (.iconst 0, 1) := by decide +kernel
theorem dX2_darkCells_3 : decode cX2_darkCells 3 = .ok (.istore 4, 2) := by decide +kernel
theorem dX2_darkCells_5 : decode cX2_darkCells 5 = .ok (.iload 4, 2) := by decide +kernel
theorem dX2_darkCells_7 : decode cX2_darkCells 7 = .ok (.aload_n 0, 1) := by decide +kernel
theorem dX2_darkCells_8 : decode cX2_darkCells 8 = .ok (.getfield 12, 3) := by decide +kernel
theorem dX2_darkCells_11 : decode cX2_darkCells 11 = .ok (.getfield 25, 3) := by decide +kernel
theorem dX2_darkCells_14 : decode cX2_darkCells 14 = .ok (.if_icmp .ge 49, 3) := by decide +kernel
theorem dX2_darkCells_17 : decode cX2_darkCells 17 = .ok (.aload_n 0, 1) := by decide +kernel
theorem dX2_darkCells_18 : decode cX2_darkCells 18 = .ok (.getfield 12, 3) := by decide +kernel
theorem dX2_darkCells_21 : decode cX2_darkCells 21 = .ok (.getfield 39, 3) := by decide +kernel
theorem dX2_darkCells_24 : decode cX2_darkCells 24 = .ok (.iload 4, 2) := by decide +kernel
theorem dX2_darkCells_26 : decode cX2_darkCells 26 = .ok (.iaload, 1) := by decide +kernel
theorem dX2_darkCells_27 : decode cX2_darkCells 27 = .ok (.iload_n 2, 1) := by decide +kernel
theorem dX2_darkCells_28 : decode cX2_darkCells 28 = .ok (.if_icmp .ne 29, 3) := by decide +kernel
theorem dX2_darkCells_31 : decode cX2_darkCells 31 = .ok (.iload_n 3, 1) := by decide +kernel
theorem dX2_darkCells_32 : decode cX2_darkCells 32 = .ok (.aload_n 0, 1) := by decide +kernel
theorem dX2_darkCells_33 : decode cX2_darkCells 33 = .ok (.getfield 12, 3) := by decide +kernel
theorem dX2_darkCells_36 : decode cX2_darkCells 36 = .ok (.iload 4, 2) := by decide +kernel
theorem dX2_darkCells_38 : decode cX2_darkCells 38 = .ok (.invokevirtual 43, 3) := by decide +kernel
theorem dX2_darkCells_41 : decode cX2_darkCells 41 = .ok (.aload_n 0, 1) := by decide +kernel
theorem dX2_darkCells_42 : decode cX2_darkCells 42 = .ok (.getfield 12, 3) := by decide +kernel
theorem dX2_darkCells_45 : decode cX2_darkCells 45 = .ok (.getfield 47, 3) := by decide +kernel
theorem dX2_darkCells_48 : decode cX2_darkCells 48 = .ok (.iload 4, 2) := by decide +kernel
theorem dX2_darkCells_50 : decode cX2_darkCells 50 = .ok (.iaload, 1) := by decide +kernel
theorem dX2_darkCells_51 : decode cX2_darkCells 51 = .ok (.iload_n 1, 1) := by decide +kernel
theorem dX2_darkCells_52 : decode cX2_darkCells 52 = .ok (.invokestatic 50, 3) := by decide +kernel
theorem dX2_darkCells_55 : decode cX2_darkCells 55 = .ok (.ior, 1) := by decide +kernel
theorem dX2_darkCells_56 : decode cX2_darkCells 56 = .ok (.istore_n 3, 1) := by decide +kernel
theorem dX2_darkCells_57 : decode cX2_darkCells 57 = .ok (.iinc 4 1, 3) := by decide +kernel
theorem dX2_darkCells_60 : decode cX2_darkCells 60 = .ok (.goto (-55), 3) := by decide +kernel
theorem dX2_darkCells_63 : decode cX2_darkCells 63 = .ok (.iload_n 3, 1) := by decide +kernel
theorem dX2_darkCells_64 : decode cX2_darkCells 64 = .ok (.aload_n 0, 1) := by decide +kernel
theorem dX2_darkCells_65 : decode cX2_darkCells 65 = .ok (.getfield 21, 3) := by decide +kernel
theorem dX2_darkCells_68 : decode cX2_darkCells 68 = .ok (.iload_n 1, 1) := by decide +kernel
theorem dX2_darkCells_69 : decode cX2_darkCells 69 = .ok (.iload_n 2, 1) := by decide +kernel
theorem dX2_darkCells_70 : decode cX2_darkCells 70 = .ok (.invokevirtual 54, 3) := by decide +kernel
theorem dX2_darkCells_73 : decode cX2_darkCells 73 = .ok (.iand, 1) := by decide +kernel
theorem dX2_darkCells_74 : decode cX2_darkCells 74 = .ok (.ireturn, 1) := by decide +kernel
theorem dX2_darkCellsOf_0 : decode cX2_darkCellsOf 0 = .ok (.aload_n 0, 1) := by decide +kernel
theorem dX2_darkCellsOf_1 : decode cX2_darkCellsOf 1 = .ok (.getfield 12, 3) := by decide +kernel
theorem dX2_darkCellsOf_4 : decode cX2_darkCellsOf 4 = .ok (.iload_n 1, 1) := by decide +kernel
theorem dX2_darkCellsOf_5 : decode cX2_darkCellsOf 5 = .ok (.invokevirtual 43, 3) := by decide +kernel
theorem dX2_darkCellsOf_8 : decode cX2_darkCellsOf 8 = .ok (.aload_n 0, 1) := by decide +kernel
theorem dX2_darkCellsOf_9 : decode cX2_darkCellsOf 9 = .ok (.getfield 12, 3) := by decide +kernel
theorem dX2_darkCellsOf_12 : decode cX2_darkCellsOf 12 = .ok (.getfield 47, 3) := by decide +kernel
theorem dX2_darkCellsOf_15 : decode cX2_darkCellsOf 15 = .ok (.iload_n 1, 1) := by decide +kernel
theorem dX2_darkCellsOf_16 : decode cX2_darkCellsOf 16 = .ok (.iaload, 1) := by decide +kernel
theorem dX2_darkCellsOf_17 : decode cX2_darkCellsOf 17 = .ok (.iload_n 2, 1) := by decide +kernel
theorem dX2_darkCellsOf_18 : decode cX2_darkCellsOf 18 = .ok (.invokestatic 50, 3) := by decide +kernel
theorem dX2_darkCellsOf_21 : decode cX2_darkCellsOf 21 = .ok (.aload_n 0, 1) := by decide +kernel
theorem dX2_darkCellsOf_22 : decode cX2_darkCellsOf 22 = .ok (.getfield 21, 3) := by decide +kernel
theorem dX2_darkCellsOf_25 : decode cX2_darkCellsOf 25 = .ok (.iload_n 2, 1) := by decide +kernel
theorem dX2_darkCellsOf_26 : decode cX2_darkCellsOf 26 = .ok (.aload_n 0, 1) := by decide +kernel
theorem dX2_darkCellsOf_27 : decode cX2_darkCellsOf 27 = .ok (.getfield 12, 3) := by decide +kernel
theorem dX2_darkCellsOf_30 : decode cX2_darkCellsOf 30 = .ok (.getfield 39, 3) := by decide +kernel
theorem dX2_darkCellsOf_33 : decode cX2_darkCellsOf 33 = .ok (.iload_n 1, 1) := by decide +kernel
theorem dX2_darkCellsOf_34 : decode cX2_darkCellsOf 34 = .ok (.iaload, 1) := by decide +kernel
theorem dX2_darkCellsOf_35 : decode cX2_darkCellsOf 35 = .ok (.invokevirtual 54, 3) := by decide +kernel
theorem dX2_darkCellsOf_38 : decode cX2_darkCellsOf 38 = .ok (.iand, 1) := by decide +kernel
theorem dX2_darkCellsOf_39 : decode cX2_darkCellsOf 39 = .ok (.ireturn, 1) := by decide +kernel
theorem dX2_lonely_0 : decode cX2_lonely 0 = .ok (.iconst 0, 1) := by decide +kernel
theorem dX2_lonely_1 : decode cX2_lonely 1 = .ok (.istore_n 2, 1) := by decide +kernel
theorem dX2_lonely_2 : decode cX2_lonely 2 = .ok (.iconst 0, 1) := by decide +kernel
theorem dX2_lonely_3 : decode cX2_lonely 3 = .ok (.istore_n 3, 1) := by decide +kernel
theorem dX2_lonely_4 : decode cX2_lonely 4 = .ok (.iload_n 3, 1) := by decide +kernel
theorem dX2_lonely_5 : decode cX2_lonely 5 = .ok (.aload_n 0, 1) := by decide +kernel
theorem dX2_lonely_6 : decode cX2_lonely 6 = .ok (.getfield 12, 3) := by decide +kernel
theorem dX2_lonely_9 : decode cX2_lonely 9 = .ok (.getfield 25, 3) := by decide +kernel
theorem dX2_lonely_12 : decode cX2_lonely 12 = .ok (.if_icmp .ge 26, 3) := by decide +kernel
theorem dX2_lonely_15 : decode cX2_lonely 15 = .ok (.iload_n 2, 1) := by decide +kernel
theorem dX2_lonely_16 : decode cX2_lonely 16 = .ok (.aload_n 0, 1) := by decide +kernel
theorem dX2_lonely_17 : decode cX2_lonely 17 = .ok (.iload_n 3, 1) := by decide +kernel
theorem dX2_lonely_18 : decode cX2_lonely 18 = .ok (.iload_n 1, 1) := by decide +kernel
theorem dX2_lonely_19 : decode cX2_lonely 19 = .ok (.invokevirtual 58, 3) := by decide +kernel
theorem dX2_lonely_22 : decode cX2_lonely 22 = .ok (.ifCond .eq 7, 3) := by decide +kernel
theorem dX2_lonely_25 : decode cX2_lonely 25 = .ok (.iconst 1, 1) := by decide +kernel
theorem dX2_lonely_26 : decode cX2_lonely 26 = .ok (.goto 4, 3) := by decide +kernel
theorem dX2_lonely_29 : decode cX2_lonely 29 = .ok (.iconst 0, 1) := by decide +kernel
theorem dX2_lonely_30 : decode cX2_lonely 30 = .ok (.iadd, 1) := by decide +kernel
theorem dX2_lonely_31 : decode cX2_lonely 31 = .ok (.istore_n 2, 1) := by decide +kernel
theorem dX2_lonely_32 : decode cX2_lonely 32 = .ok (.iinc 3 1, 3) := by decide +kernel
theorem dX2_lonely_35 : decode cX2_lonely 35 = .ok (.goto (-31), 3) := by decide +kernel
theorem dX2_lonely_38 : decode cX2_lonely 38 = .ok (.iload_n 2, 1) := by decide +kernel
theorem dX2_lonely_39 : decode cX2_lonely 39 = .ok (.ireturn, 1) := by decide +kernel
theorem dX2_isLonely_0 : decode cX2_isLonely 0 = .ok (.aload_n 0, 1) := by decide +kernel
theorem dX2_isLonely_1 : decode cX2_isLonely 1 = .ok (.iload_n 1, 1) := by decide +kernel
theorem dX2_isLonely_2 : decode cX2_isLonely 2 = .ok (.iload_n 2, 1) := by decide +kernel
theorem dX2_isLonely_3 : decode cX2_isLonely 3 = .ok (.invokevirtual 62, 3) := by decide +kernel
theorem dX2_isLonely_6 : decode cX2_isLonely 6 = .ok (.istore_n 3, 1) := by decide +kernel
theorem dX2_isLonely_7 : decode cX2_isLonely 7 = .ok (.iload_n 3, 1) := by decide +kernel
theorem dX2_isLonely_8 : decode cX2_isLonely 8 = .ok (.ifCond .ne 5, 3) := by decide +kernel
theorem dX2_isLonely_11 : decode cX2_isLonely 11 = .ok (.iconst 0, 1) := by decide +kernel
theorem dX2_isLonely_12 : decode cX2_isLonely 12 = .ok (.ireturn, 1) := by decide +kernel
theorem dX2_isLonely_13 : decode cX2_isLonely 13 = .ok (.iconst 0, 1) := by decide +kernel
theorem dX2_isLonely_14 : decode cX2_isLonely 14 = .ok (.istore 4, 2) := by decide +kernel
theorem dX2_isLonely_16 : decode cX2_isLonely 16 = .ok (.iload 4, 2) := by decide +kernel
theorem dX2_isLonely_18 : decode cX2_isLonely 18 = .ok (.aload_n 0, 1) := by decide +kernel
theorem dX2_isLonely_19 : decode cX2_isLonely 19 = .ok (.getfield 12, 3) := by decide +kernel
theorem dX2_isLonely_22 : decode cX2_isLonely 22 = .ok (.getfield 25, 3) := by decide +kernel
theorem dX2_isLonely_25 : decode cX2_isLonely 25 = .ok (.if_icmp .ge 51, 3) := by decide +kernel
theorem dX2_isLonely_28 : decode cX2_isLonely 28 = .ok (.iload 4, 2) := by decide +kernel
theorem dX2_isLonely_30 : decode cX2_isLonely 30 = .ok (.iload_n 1, 1) := by decide +kernel
theorem dX2_isLonely_31 : decode cX2_isLonely 31 = .ok (.if_icmp .eq 39, 3) := by decide +kernel
theorem dX2_isLonely_34 : decode cX2_isLonely 34 = .ok (.aload_n 0, 1) := by decide +kernel
theorem dX2_isLonely_35 : decode cX2_isLonely 35 = .ok (.getfield 12, 3) := by decide +kernel
theorem dX2_isLonely_38 : decode cX2_isLonely 38 = .ok (.getfield 39, 3) := by decide +kernel
theorem dX2_isLonely_41 : decode cX2_isLonely 41 = .ok (.iload 4, 2) := by decide +kernel
theorem dX2_isLonely_43 : decode cX2_isLonely 43 = .ok (.iaload, 1) := by decide +kernel
theorem dX2_isLonely_44 : decode cX2_isLonely 44 = .ok (.aload_n 0, 1) := by decide +kernel
theorem dX2_isLonely_45 : decode cX2_isLonely 45 = .ok (.getfield 12, 3) := by decide +kernel
theorem dX2_isLonely_48 : decode cX2_isLonely 48 = .ok (.getfield 39, 3) := by decide +kernel
theorem dX2_isLonely_51 : decode cX2_isLonely 51 = .ok (.iload_n 1, 1) := by decide +kernel
theorem dX2_isLonely_52 : decode cX2_isLonely 52 = .ok (.iaload, 1) := by decide +kernel
theorem dX2_isLonely_53 : decode cX2_isLonely 53 = .ok (.if_icmp .ne 17, 3) := by decide +kernel
theorem dX2_isLonely_56 : decode cX2_isLonely 56 = .ok (.iload_n 3, 1) := by decide +kernel
theorem dX2_isLonely_57 : decode cX2_isLonely 57 = .ok (.aload_n 0, 1) := by decide +kernel
theorem dX2_isLonely_58 : decode cX2_isLonely 58 = .ok (.iload 4, 2) := by decide +kernel
theorem dX2_isLonely_60 : decode cX2_isLonely 60 = .ok (.iload_n 2, 1) := by decide +kernel
theorem dX2_isLonely_61 : decode cX2_isLonely 61 = .ok (.invokevirtual 62, 3) := by decide +kernel
theorem dX2_isLonely_64 : decode cX2_isLonely 64 = .ok (.iand, 1) := by decide +kernel
theorem dX2_isLonely_65 : decode cX2_isLonely 65 = .ok (.ifCond .eq 5, 3) := by decide +kernel
theorem dX2_isLonely_68 : decode cX2_isLonely 68 = .ok (.iconst 0, 1) := by decide +kernel
theorem dX2_isLonely_69 : decode cX2_isLonely 69 = .ok (.ireturn, 1) := by decide +kernel
theorem dX2_isLonely_70 : decode cX2_isLonely 70 = .ok (.iinc 4 1, 3) := by decide +kernel
theorem dX2_isLonely_73 : decode cX2_isLonely 73 = .ok (.goto (-57), 3) := by decide +kernel
theorem dX2_isLonely_76 : decode cX2_isLonely 76 = .ok (.iconst 1, 1) := by decide +kernel
theorem dX2_isLonely_77 : decode cX2_isLonely 77 = .ok (.ireturn, 1) := by decide +kernel
theorem dX2_hiddenCell_0 : decode cX2_hiddenCell 0 = .ok (.iconst 0, 1) := by decide +kernel
theorem dX2_hiddenCell_1 : decode cX2_hiddenCell 1 = .ok (.istore_n 2, 1) := by decide +kernel
theorem dX2_hiddenCell_2 : decode cX2_hiddenCell 2 = .ok (.iload_n 2, 1) := by decide +kernel
theorem dX2_hiddenCell_3 : decode cX2_hiddenCell 3 = .ok (.bipush 6, 2) := by decide +kernel
theorem dX2_hiddenCell_5 : decode cX2_hiddenCell 5 = .ok (.if_icmp .ge 95, 3) := by decide +kernel
theorem dX2_hiddenCell_8 : decode cX2_hiddenCell 8 = .ok (.aload_n 0, 1) := by decide +kernel
theorem dX2_hiddenCell_9 : decode cX2_hiddenCell 9 = .ok (.getfield 21, 3) := by decide +kernel
theorem dX2_hiddenCell_12 : decode cX2_hiddenCell 12 = .ok (.iload_n 1, 1) := by decide +kernel
theorem dX2_hiddenCell_13 : decode cX2_hiddenCell 13 = .ok (.iload_n 2, 1) := by decide +kernel
theorem dX2_hiddenCell_14 : decode cX2_hiddenCell 14 = .ok (.invokevirtual 54, 3) := by decide +kernel
theorem dX2_hiddenCell_17 : decode cX2_hiddenCell 17 = .ok (.aload_n 0, 1) := by decide +kernel
theorem dX2_hiddenCell_18 : decode cX2_hiddenCell 18 = .ok (.iload_n 1, 1) := by decide +kernel
theorem dX2_hiddenCell_19 : decode cX2_hiddenCell 19 = .ok (.iload_n 2, 1) := by decide +kernel
theorem dX2_hiddenCell_20 : decode cX2_hiddenCell 20 = .ok (.invokevirtual 65, 3) := by decide +kernel
theorem dX2_hiddenCell_23 : decode cX2_hiddenCell 23 = .ok (.iconst (-1), 1) := by decide +kernel
theorem dX2_hiddenCell_24 : decode cX2_hiddenCell 24 = .ok (.ixor, 1) := by decide +kernel
theorem dX2_hiddenCell_25 : decode cX2_hiddenCell 25 = .ok (.iand, 1) := by decide +kernel
theorem dX2_hiddenCell_26 : decode cX2_hiddenCell 26 = .ok (.istore_n 3, 1) := by decide +kernel
theorem dX2_hiddenCell_27 : decode cX2_hiddenCell 27 = .ok (.iload_n 3, 1) := by decide +kernel
theorem dX2_hiddenCell_28 : decode cX2_hiddenCell 28 = .ok (.aload_n 0, 1) := by decide +kernel
theorem dX2_hiddenCell_29 : decode cX2_hiddenCell 29 = .ok (.iload_n 2, 1) := by decide +kernel
theorem dX2_hiddenCell_30 : decode cX2_hiddenCell 30 = .ok (.invokevirtual 68, 3) := by decide +kernel
theorem dX2_hiddenCell_33 : decode cX2_hiddenCell 33 = .ok (.iand, 1) := by decide +kernel
theorem dX2_hiddenCell_34 : decode cX2_hiddenCell 34 = .ok (.istore 4, 2) := by decide +kernel
theorem dX2_hiddenCell_36 : decode cX2_hiddenCell 36 = .ok (.iconst 0, 1) := by decide +kernel
theorem dX2_hiddenCell_37 : decode cX2_hiddenCell 37 = .ok (.istore 5, 2) := by decide +kernel
theorem dX2_hiddenCell_39 : decode cX2_hiddenCell 39 = .ok (.iload 5, 2) := by decide +kernel
theorem dX2_hiddenCell_41 : decode cX2_hiddenCell 41 = .ok (.bipush 10, 2) := by decide +kernel
theorem dX2_hiddenCell_43 : decode cX2_hiddenCell 43 = .ok (.if_icmp .ge 51, 3) := by decide +kernel
theorem dX2_hiddenCell_46 : decode cX2_hiddenCell 46 = .ok (.getstatic 71, 3) := by decide +kernel
theorem dX2_hiddenCell_49 : decode cX2_hiddenCell 49 = .ok (.iconst 0, 1) := by decide +kernel
theorem dX2_hiddenCell_50 : decode cX2_hiddenCell 50 = .ok (.iaload, 1) := by decide +kernel
theorem dX2_hiddenCell_51 : decode cX2_hiddenCell 51 = .ok (.iload 5, 2) := by decide +kernel
theorem dX2_hiddenCell_53 : decode cX2_hiddenCell 53 = .ok (.iload_n 1, 1) := by decide +kernel
theorem dX2_hiddenCell_54 : decode cX2_hiddenCell 54 = .ok (.invokestatic 50, 3) := by decide +kernel
theorem dX2_hiddenCell_57 : decode cX2_hiddenCell 57 = .ok (.iload 4, 2) := by decide +kernel
theorem dX2_hiddenCell_59 : decode cX2_hiddenCell 59 = .ok (.iand, 1) := by decide +kernel
theorem dX2_hiddenCell_60 : decode cX2_hiddenCell 60 = .ok (.istore 6, 2) := by decide +kernel
theorem dX2_hiddenCell_62 : decode cX2_hiddenCell 62 = .ok (.iload 6, 2) := by decide +kernel
theorem dX2_hiddenCell_64 : decode cX2_hiddenCell 64 = .ok (.ifCond .ne 24, 3) := by decide +kernel
theorem dX2_hiddenCell_67 : decode cX2_hiddenCell 67 = .ok (.aload_n 0, 1) := by decide +kernel
theorem dX2_hiddenCell_68 : decode cX2_hiddenCell 68 = .ok (.getfield 12, 3) := by decide +kernel
theorem dX2_hiddenCell_71 : decode cX2_hiddenCell 71 = .ok (.iload 5, 2) := by decide +kernel
theorem dX2_hiddenCell_73 : decode cX2_hiddenCell 73 = .ok (.iload_n 2, 1) := by decide +kernel
theorem dX2_hiddenCell_74 : decode cX2_hiddenCell 74 = .ok (.invokevirtual 74, 3) := by decide +kernel
theorem dX2_hiddenCell_77 : decode cX2_hiddenCell 77 = .ok (.ifCond .ne 11, 3) := by decide +kernel
theorem dX2_hiddenCell_80 : decode cX2_hiddenCell 80 = .ok (.bipush 10, 2) := by decide +kernel
theorem dX2_hiddenCell_82 : decode cX2_hiddenCell 82 = .ok (.iload_n 2, 1) := by decide +kernel
theorem dX2_hiddenCell_83 : decode cX2_hiddenCell 83 = .ok (.imul, 1) := by decide +kernel
theorem dX2_hiddenCell_84 : decode cX2_hiddenCell 84 = .ok (.iload 5, 2) := by decide +kernel
theorem dX2_hiddenCell_86 : decode cX2_hiddenCell 86 = .ok (.iadd, 1) := by decide +kernel
theorem dX2_hiddenCell_87 : decode cX2_hiddenCell 87 = .ok (.ireturn, 1) := by decide +kernel
theorem dX2_hiddenCell_88 : decode cX2_hiddenCell 88 = .ok (.iinc 5 1, 3) := by decide +kernel
theorem dX2_hiddenCell_91 : decode cX2_hiddenCell 91 = .ok (.goto (-52), 3) := by decide +kernel
theorem dX2_hiddenCell_94 : decode cX2_hiddenCell 94 = .ok (.iinc 2 1, 3) := by decide +kernel
theorem dX2_hiddenCell_97 : decode cX2_hiddenCell 97 = .ok (.goto (-95), 3) := by decide +kernel
theorem dX2_hiddenCell_100 : decode cX2_hiddenCell 100 = .ok (.bipush (-9), 2) := by decide +kernel
theorem dX2_hiddenCell_102 : decode cX2_hiddenCell 102 = .ok (.ireturn, 1) := by decide +kernel
theorem dX2_watchedCells_0 : decode cX2_watchedCells 0 = .ok (.iconst 0, 1) := by decide +kernel
theorem dX2_watchedCells_1 : decode cX2_watchedCells 1 = .ok (.istore_n 2, 1) := by decide +kernel
theorem dX2_watchedCells_2 : decode cX2_watchedCells 2 = .ok (.iconst 0, 1) := by decide +kernel
theorem dX2_watchedCells_3 : decode cX2_watchedCells 3 = .ok (.istore_n 3, 1) := by decide +kernel
theorem dX2_watchedCells_4 : decode cX2_watchedCells 4 = .ok (.iload_n 3, 1) := by decide +kernel
theorem dX2_watchedCells_5 : decode cX2_watchedCells 5 = .ok (.aload_n 0, 1) := by decide +kernel
theorem dX2_watchedCells_6 : decode cX2_watchedCells 6 = .ok (.getfield 21, 3) := by decide +kernel
theorem dX2_watchedCells_9 : decode cX2_watchedCells 9 = .ok (.getfield 77, 3) := by decide +kernel
theorem dX2_watchedCells_12 : decode cX2_watchedCells 12 = .ok (.if_icmp .ge 21, 3) := by decide +kernel
theorem dX2_watchedCells_15 : decode cX2_watchedCells 15 = .ok (.iload_n 2, 1) := by decide +kernel
theorem dX2_watchedCells_16 : decode cX2_watchedCells 16 = .ok (.aload_n 0, 1) := by decide +kernel
theorem dX2_watchedCells_17 : decode cX2_watchedCells 17 = .ok (.getfield 21, 3) := by decide +kernel
theorem dX2_watchedCells_20 : decode cX2_watchedCells 20 = .ok (.iload_n 3, 1) := by decide +kernel
theorem dX2_watchedCells_21 : decode cX2_watchedCells 21 = .ok (.iload_n 1, 1) := by decide +kernel
theorem dX2_watchedCells_22 : decode cX2_watchedCells 22 = .ok (.invokevirtual 80, 3) := by decide +kernel
theorem dX2_watchedCells_25 : decode cX2_watchedCells 25 = .ok (.ior, 1) := by decide +kernel
theorem dX2_watchedCells_26 : decode cX2_watchedCells 26 = .ok (.istore_n 2, 1) := by decide +kernel
theorem dX2_watchedCells_27 : decode cX2_watchedCells 27 = .ok (.iinc 3 1, 3) := by decide +kernel
theorem dX2_watchedCells_30 : decode cX2_watchedCells 30 = .ok (.goto (-26), 3) := by decide +kernel
theorem dX2_watchedCells_33 : decode cX2_watchedCells 33 = .ok (.iload_n 2, 1) := by decide +kernel
theorem dX2_watchedCells_34 : decode cX2_watchedCells 34 = .ok (.ireturn, 1) := by decide +kernel
theorem dX3_init_0 : decode cX3_init 0 = .ok (.aload_n 0, 1) := by decide +kernel
theorem dX3_init_1 : decode cX3_init 1 = .ok (.invokespecial 3, 3) := by decide +kernel
theorem dX3_init_4 : decode cX3_init 4 = .ok (.aload_n 0, 1) := by decide +kernel
theorem dX3_init_5 : decode cX3_init 5 = .ok (.bipush 10, 2) := by decide +kernel
theorem dX3_init_7 : decode cX3_init 7 = .ok (.newarray .long, 2) := by decide +kernel
theorem dX3_init_9 : decode cX3_init 9 = .ok (.putfield 9, 3) := by decide +kernel
theorem dX3_init_12 : decode cX3_init 12 = .ok (.aload_n 0, 1) := by decide +kernel
theorem dX3_init_13 : decode cX3_init 13 = .ok (.bipush 10, 2) := by decide +kernel
theorem dX3_init_15 : decode cX3_init 15 = .ok (.newarray .long, 2) := by decide +kernel
theorem dX3_init_17 : decode cX3_init 17 = .ok (.putfield 15, 3) := by decide +kernel
theorem dX3_init_20 : decode cX3_init 20 = .ok (.aload_n 0, 1) := by decide +kernel
theorem dX3_init_21 : decode cX3_init 21 = .ok (.bipush 10, 2) := by decide +kernel
theorem dX3_init_23 : decode cX3_init 23 = .ok (.newarray .int, 2) := by decide +kernel
theorem dX3_init_25 : decode cX3_init 25 = .ok (.putfield 18, 3) := by decide +kernel
theorem dX3_init_28 : decode cX3_init 28 = .ok (.aload_n 0, 1) := by decide +kernel
theorem dX3_init_29 : decode cX3_init 29 = .ok (.bipush 11, 2) := by decide +kernel
theorem dX3_init_31 : decode cX3_init 31 = .ok (.newarray .long, 2) := by decide +kernel
theorem dX3_init_33 : decode cX3_init 33 = .ok (.putfield 22, 3) := by decide +kernel
theorem dX3_init_36 : decode cX3_init 36 = .ok (.aload_n 0, 1) := by decide +kernel
theorem dX3_init_37 : decode cX3_init 37 = .ok (.bipush 11, 2) := by decide +kernel
theorem dX3_init_39 : decode cX3_init 39 = .ok (.newarray .int, 2) := by decide +kernel
theorem dX3_init_41 : decode cX3_init 41 = .ok (.putfield 25, 3) := by decide +kernel
theorem dX3_init_44 : decode cX3_init 44 = .ok (.aload_n 0, 1) := by decide +kernel
theorem dX3_init_45 : decode cX3_init 45 = .ok (.bipush 10, 2) := by decide +kernel
theorem dX3_init_47 : decode cX3_init 47 = .ok (.newarray .int, 2) := by decide +kernel
theorem dX3_init_49 : decode cX3_init 49 = .ok (.putfield 28, 3) := by decide +kernel
theorem dX3_init_52 : decode cX3_init 52 = .ok (.aload_n 0, 1) := by decide +kernel
theorem dX3_init_53 : decode cX3_init 53 = .ok (.bipush 10, 2) := by decide +kernel
theorem dX3_init_55 : decode cX3_init 55 = .ok (.newarray .int, 2) := by decide +kernel
theorem dX3_init_57 : decode cX3_init 57 = .ok (.putfield 31, 3) := by decide +kernel
theorem dX3_init_60 : decode cX3_init 60 = .ok (.return_, 1) := by decide +kernel
theorem dX3_prepare_0 : decode cX3_prepare 0 = .ok (.aload_n 0, 1) := by decide +kernel
theorem dX3_prepare_1 : decode cX3_prepare 1 = .ok (.lconst 0, 1) := by decide +kernel
theorem dX3_prepare_2 : decode cX3_prepare 2 = .ok (.putfield 34, 3) := by decide +kernel
theorem dX3_prepare_5 : decode cX3_prepare 5 = .ok (.iconst 0, 1) := by decide +kernel
theorem dX3_prepare_6 : decode cX3_prepare 6 = .ok (.istore_n 2, 1) := by decide +kernel
theorem dX3_prepare_7 : decode cX3_prepare 7 = .ok (.iload_n 2, 1) := by decide +kernel
theorem dX3_prepare_8 : decode cX3_prepare 8 = .ok (.aload_n 1, 1) := by decide +kernel
theorem dX3_prepare_9 : decode cX3_prepare 9 = .ok (.getfield 38, 3) := by decide +kernel
theorem dX3_prepare_12 : decode cX3_prepare 12 = .ok (.if_icmp .ge 28, 3) := by decide +kernel
theorem dX3_prepare_15 : decode cX3_prepare 15 = .ok (.aload_n 0, 1) := by decide +kernel
theorem dX3_prepare_16 : decode cX3_prepare 16 = .ok (.aload_n 0, 1) := by decide +kernel
theorem dX3_prepare_17 : decode cX3_prepare 17 = .ok (.getfield 34, 3) := by decide +kernel
theorem dX3_prepare_20 : decode cX3_prepare 20 = .ok (.bipush 10, 2) := by decide +kernel
theorem dX3_prepare_22 : decode cX3_prepare 22 = .ok (.lshl, 1) := by decide +kernel
theorem dX3_prepare_23 : decode cX3_prepare 23 = .ok (.aload_n 1, 1) := by decide +kernel
theorem dX3_prepare_24 : decode cX3_prepare 24 = .ok (.getfield 44, 3) := by decide +kernel
theorem dX3_prepare_27 : decode cX3_prepare 27 = .ok (.iload_n 2, 1) := by decide +kernel
theorem dX3_prepare_28 : decode cX3_prepare 28 = .ok (.iaload, 1) := by decide +kernel
theorem dX3_prepare_29 : decode cX3_prepare 29 = .ok (.i2l, 1) := by decide +kernel
theorem dX3_prepare_30 : decode cX3_prepare 30 = .ok (.lor, 1) := by decide +kernel
theorem dX3_prepare_31 : decode cX3_prepare 31 = .ok (.putfield 34, 3) := by decide +kernel
theorem dX3_prepare_34 : decode cX3_prepare 34 = .ok (.iinc 2 1, 3) := by decide +kernel
theorem dX3_prepare_37 : decode cX3_prepare 37 = .ok (.goto (-30), 3) := by decide +kernel
theorem dX3_prepare_40 : decode cX3_prepare 40 = .ok (.aload_n 0, 1) := by decide +kernel
theorem dX3_prepare_41 : decode cX3_prepare 41 = .ok (.getfield 22, 3) := by decide +kernel
theorem dX3_prepare_44 : decode cX3_prepare 44 = .ok (.bipush 10, 2) := by decide +kernel
theorem dX3_prepare_46 : decode cX3_prepare 46 = .ok (.lconst 0, 1) := by decide +kernel
theorem dX3_prepare_47 : decode cX3_prepare 47 = .ok (.lastore, 1) := by decide +kernel
theorem dX3_prepare_48 : decode cX3_prepare 48 = .ok (.aload_n 0, 1) := by decide +kernel
theorem dX3_prepare_49 : decode cX3_prepare 49 = .ok (.getfield 25, 3) := by decide +kernel
theorem dX3_prepare_52 : decode cX3_prepare 52 = .ok (.bipush 10, 2) := by decide +kernel
theorem dX3_prepare_54 : decode cX3_prepare 54 = .ok (.iconst 1, 1) := by decide +kernel
theorem dX3_prepare_55 : decode cX3_prepare 55 = .ok (.iastore, 1) := by decide +kernel
theorem dX3_prepare_56 : decode cX3_prepare 56 = .ok (.bipush 9, 2) := by decide +kernel
theorem dX3_prepare_58 : decode cX3_prepare 58 = .ok (.istore_n 2, 1) := by decide +kernel
theorem dX3_prepare_59 : decode cX3_prepare 59 = .ok (.iload_n 2, 1) := by decide +kernel
theorem dX3_prepare_60 : decode cX3_prepare 60 = .ok (.ifCond .lt 115, 3) := by decide +kernel
theorem dX3_prepare_63 : decode cX3_prepare 63 = .ok (.aload_n 0, 1) := by decide +kernel
theorem dX3_prepare_64 : decode cX3_prepare 64 = .ok (.getfield 9, 3) := by decide +kernel
theorem dX3_prepare_67 : decode cX3_prepare 67 = .ok (.iload_n 2, 1) := by decide +kernel
theorem dX3_prepare_68 : decode cX3_prepare 68 = .ok (.iconst 1, 1) := by decide +kernel
theorem dX3_prepare_69 : decode cX3_prepare 69 = .ok (.iload_n 2, 1) := by decide +kernel
theorem dX3_prepare_70 : decode cX3_prepare 70 = .ok (.aload_n 1, 1) := by decide +kernel
theorem dX3_prepare_71 : decode cX3_prepare 71 = .ok (.invokestatic 47, 3) := by decide +kernel
theorem dX3_prepare_74 : decode cX3_prepare 74 = .ok (.lastore, 1) := by decide +kernel
theorem dX3_prepare_75 : decode cX3_prepare 75 = .ok (.aload_n 0, 1) := by decide +kernel
theorem dX3_prepare_76 : decode cX3_prepare 76 = .ok (.getfield 15, 3) := by decide +kernel
theorem dX3_prepare_79 : decode cX3_prepare 79 = .ok (.iload_n 2, 1) := by decide +kernel
theorem dX3_prepare_80 : decode cX3_prepare 80 = .ok (.iconst 0, 1) := by decide +kernel
theorem dX3_prepare_81 : decode cX3_prepare 81 = .ok (.iload_n 2, 1) := by decide +kernel
theorem dX3_prepare_82 : decode cX3_prepare 82 = .ok (.aload_n 1, 1) := by decide +kernel
theorem dX3_prepare_83 : decode cX3_prepare 83 = .ok (.invokestatic 47, 3) := by decide +kernel
theorem dX3_prepare_86 : decode cX3_prepare 86 = .ok (.lastore, 1) := by decide +kernel
theorem dX3_prepare_87 : decode cX3_prepare 87 = .ok (.aload_n 0, 1) := by decide +kernel
theorem dX3_prepare_88 : decode cX3_prepare 88 = .ok (.getfield 18, 3) := by decide +kernel
theorem dX3_prepare_91 : decode cX3_prepare 91 = .ok (.iload_n 2, 1) := by decide +kernel
theorem dX3_prepare_92 : decode cX3_prepare 92 = .ok (.aload_n 0, 1) := by decide +kernel
theorem dX3_prepare_93 : decode cX3_prepare 93 = .ok (.aload_n 0, 1) := by decide +kernel
theorem dX3_prepare_94 : decode cX3_prepare 94 = .ok (.getfield 15, 3) := by decide +kernel
theorem dX3_prepare_97 : decode cX3_prepare 97 = .ok (.iload_n 2, 1) := by decide +kernel
theorem dX3_prepare_98 : decode cX3_prepare 98 = .ok (.laload, 1) := by decide +kernel
theorem dX3_prepare_99 : decode cX3_prepare 99 = .ok (.invokevirtual 51, 3) := by decide +kernel
theorem dX3_prepare_102 : decode cX3_prepare 102 = .ok (.ifCond .eq 7, 3) := by decide +kernel
theorem dX3_prepare_105 : decode cX3_prepare 105 = .ok (.iconst 3, 1) := by decide +kernel
theorem dX3_prepare_106 : decode cX3_prepare 106 = .ok (.goto 21, 3) := by decide +kernel
theorem dX3_prepare_109 : decode cX3_prepare 109 = .ok (.aload_n 0, 1) := by decide +kernel
theorem dX3_prepare_110 : decode cX3_prepare 110 = .ok (.aload_n 0, 1) := by decide +kernel
theorem dX3_prepare_111 : decode cX3_prepare 111 = .ok (.getfield 9, 3) := by decide +kernel
theorem dX3_prepare_114 : decode cX3_prepare 114 = .ok (.iload_n 2, 1) := by decide +kernel
theorem dX3_prepare_115 : decode cX3_prepare 115 = .ok (.laload, 1) := by decide +kernel
theorem dX3_prepare_116 : decode cX3_prepare 116 = .ok (.invokevirtual 51, 3) := by decide +kernel
theorem dX3_prepare_119 : decode cX3_prepare 119 = .ok (.ifCond .eq 7, 3) := by decide +kernel
theorem dX3_prepare_122 : decode cX3_prepare 122 = .ok (.iconst 2, 1) := by decide +kernel
theorem dX3_prepare_123 : decode cX3_prepare 123 = .ok (.goto 4, 3) := by decide +kernel
theorem dX3_prepare_126 : decode cX3_prepare 126 = .ok (.iconst 1, 1) := by decide +kernel
theorem dX3_prepare_127 : decode cX3_prepare 127 = .ok (.iastore, 1) := by decide +kernel
theorem dX3_prepare_128 : decode cX3_prepare 128 = .ok (.aload_n 0, 1) := by decide +kernel
theorem dX3_prepare_129 : decode cX3_prepare 129 = .ok (.getfield 22, 3) := by decide +kernel
theorem dX3_prepare_132 : decode cX3_prepare 132 = .ok (.iload_n 2, 1) := by decide +kernel
theorem dX3_prepare_133 : decode cX3_prepare 133 = .ok (.aload_n 0, 1) := by decide +kernel
theorem dX3_prepare_134 : decode cX3_prepare 134 = .ok (.getfield 22, 3) := by decide +kernel
theorem dX3_prepare_137 : decode cX3_prepare 137 = .ok (.iload_n 2, 1) := by decide +kernel
theorem dX3_prepare_138 : decode cX3_prepare 138 = .ok (.iconst 1, 1) := by decide +kernel
theorem dX3_prepare_139 : decode cX3_prepare 139 = .ok (.iadd, 1) := by decide +kernel
theorem dX3_prepare_140 : decode cX3_prepare 140 = .ok (.laload, 1) := by decide +kernel
theorem dX3_prepare_141 : decode cX3_prepare 141 = .ok (.aload_n 0, 1) := by decide +kernel
theorem dX3_prepare_142 : decode cX3_prepare 142 = .ok (.iload_n 2, 1) := by decide +kernel
theorem dX3_prepare_143 : decode cX3_prepare 143 = .ok (.invokevirtual 55, 3) := by decide +kernel
theorem dX3_prepare_146 : decode cX3_prepare 146 = .ok (.lor, 1) := by decide +kernel
theorem dX3_prepare_147 : decode cX3_prepare 147 = .ok (.lastore, 1) := by decide +kernel
theorem dX3_prepare_148 : decode cX3_prepare 148 = .ok (.aload_n 0, 1) := by decide +kernel
theorem dX3_prepare_149 : decode cX3_prepare 149 = .ok (.getfield 25, 3) := by decide +kernel
theorem dX3_prepare_152 : decode cX3_prepare 152 = .ok (.iload_n 2, 1) := by decide +kernel
theorem dX3_prepare_153 : decode cX3_prepare 153 = .ok (.aload_n 0, 1) := by decide +kernel
theorem dX3_prepare_154 : decode cX3_prepare 154 = .ok (.getfield 25, 3) := by decide +kernel
theorem dX3_prepare_157 : decode cX3_prepare 157 = .ok (.iload_n 2, 1) := by decide +kernel
theorem dX3_prepare_158 : decode cX3_prepare 158 = .ok (.iconst 1, 1) := by decide +kernel
theorem dX3_prepare_159 : decode cX3_prepare 159 = .ok (.iadd, 1) := by decide +kernel
theorem dX3_prepare_160 : decode cX3_prepare 160 = .ok (.iaload, 1) := by decide +kernel
theorem dX3_prepare_161 : decode cX3_prepare 161 = .ok (.aload_n 0, 1) := by decide +kernel
theorem dX3_prepare_162 : decode cX3_prepare 162 = .ok (.getfield 18, 3) := by decide +kernel
theorem dX3_prepare_165 : decode cX3_prepare 165 = .ok (.iload_n 2, 1) := by decide +kernel
theorem dX3_prepare_166 : decode cX3_prepare 166 = .ok (.iaload, 1) := by decide +kernel
theorem dX3_prepare_167 : decode cX3_prepare 167 = .ok (.imul, 1) := by decide +kernel
theorem dX3_prepare_168 : decode cX3_prepare 168 = .ok (.iastore, 1) := by decide +kernel
theorem dX3_prepare_169 : decode cX3_prepare 169 = .ok (.iinc 2 (-1), 3) := by decide +kernel
theorem dX3_prepare_172 : decode cX3_prepare 172 = .ok (.goto (-113), 3) := by decide +kernel
theorem dX3_prepare_175 : decode cX3_prepare 175 = .ok (.return_, 1) := by decide +kernel
theorem dX3_shadowsOf_0 : decode cX3_shadowsOf 0 = .ok (.lconst 0, 1) := by decide +kernel
theorem dX3_shadowsOf_1 : decode cX3_shadowsOf 1 = .ok (.lstore_n 3, 1) := by decide +kernel
theorem dX3_shadowsOf_2 : decode cX3_shadowsOf 2 = .ok (.iconst 0, 1) := by decide +kernel
theorem dX3_shadowsOf_3 : decode cX3_shadowsOf 3 = .ok (.istore 5, 2) := by decide +kernel
theorem dX3_shadowsOf_5 : decode cX3_shadowsOf 5 = .ok (.iload 5, 2) := by decide +kernel
theorem dX3_shadowsOf_7 : decode cX3_shadowsOf 7 = .ok (.aload_n 2, 1) := by decide +kernel
theorem dX3_shadowsOf_8 : decode cX3_shadowsOf 8 = .ok (.getfield 38, 3) := by decide +kernel
theorem dX3_shadowsOf_11 : decode cX3_shadowsOf 11 = .ok (.if_icmp .ge 32, 3) := by decide +kernel
theorem dX3_shadowsOf_14 : decode cX3_shadowsOf 14 = .ok (.lload_n 3, 1) := by decide +kernel
theorem dX3_shadowsOf_15 : decode cX3_shadowsOf 15 = .ok (.bipush 10, 2) := by decide +kernel
theorem dX3_shadowsOf_17 : decode cX3_shadowsOf 17 = .ok (.lshl, 1) := by decide +kernel
theorem dX3_shadowsOf_18 : decode cX3_shadowsOf 18 = .ok (.getstatic 59, 3) := by decide +kernel
theorem dX3_shadowsOf_21 : decode cX3_shadowsOf 21 = .ok (.iload_n 0, 1) := by decide +kernel
theorem dX3_shadowsOf_22 : decode cX3_shadowsOf 22 = .ok (.iaload, 1) := by decide +kernel
theorem dX3_shadowsOf_23 : decode cX3_shadowsOf 23 = .ok (.iload_n 1, 1) := by decide +kernel
theorem dX3_shadowsOf_24 : decode cX3_shadowsOf 24 = .ok (.aload_n 2, 1) := by decide +kernel
theorem dX3_shadowsOf_25 : decode cX3_shadowsOf 25 = .ok (.getfield 62, 3) := by decide +kernel
theorem dX3_shadowsOf_28 : decode cX3_shadowsOf 28 = .ok (.iload 5, 2) := by decide +kernel
theorem dX3_shadowsOf_30 : decode cX3_shadowsOf 30 = .ok (.iaload, 1) := by decide +kernel
theorem dX3_shadowsOf_31 : decode cX3_shadowsOf 31 = .ok (.invokestatic 65, 3) := by decide +kernel
theorem dX3_shadowsOf_34 : decode cX3_shadowsOf 34 = .ok (.i2l, 1) := by decide +kernel
theorem dX3_shadowsOf_35 : decode cX3_shadowsOf 35 = .ok (.lor, 1) := by decide +kernel
theorem dX3_shadowsOf_36 : decode cX3_shadowsOf 36 = .ok (.lstore_n 3, 1) := by decide +kernel
theorem dX3_shadowsOf_37 : decode cX3_shadowsOf 37 = .ok (.iinc 5 1, 3) := by decide +kernel
theorem dX3_shadowsOf_40 : decode cX3_shadowsOf 40 = .ok (.goto (-35), 3) := by decide +kernel
theorem dX3_shadowsOf_43 : decode cX3_shadowsOf 43 = .ok (.lload_n 3, 1) := by decide +kernel
theorem dX3_shadowsOf_44 : decode cX3_shadowsOf 44 = .ok (.lreturn, 1) := by decide +kernel
theorem dX3_mayStand_0 : decode cX3_mayStand 0 = .ok (.lload_n 1, 1) := by decide +kernel
theorem dX3_mayStand_1 : decode cX3_mayStand 1 = .ok (.aload_n 0, 1) := by decide +kernel
theorem dX3_mayStand_2 : decode cX3_mayStand 2 = .ok (.getfield 34, 3) := by decide +kernel
theorem dX3_mayStand_5 : decode cX3_mayStand 5 = .ok (.ldc2_w 69, 3) := by decide +kernel
theorem dX3_mayStand_8 : decode cX3_mayStand 8 = .ok (.lxor, 1) := by decide +kernel
theorem dX3_mayStand_9 : decode cX3_mayStand 9 = .ok (.land, 1) := by decide +kernel
theorem dX3_mayStand_10 : decode cX3_mayStand 10 = .ok (.lconst 0, 1) := by decide +kernel
theorem dX3_mayStand_11 : decode cX3_mayStand 11 = .ok (.lcmp, 1) := by decide +kernel
theorem dX3_mayStand_12 : decode cX3_mayStand 12 = .ok (.ifCond .ne 7, 3) := by decide +kernel
theorem dX3_mayStand_15 : decode cX3_mayStand 15 = .ok (.iconst 1, 1) := by decide +kernel
theorem dX3_mayStand_16 : decode cX3_mayStand 16 = .ok (.goto 4, 3) := by decide +kernel
theorem dX3_mayStand_19 : decode cX3_mayStand 19 = .ok (.iconst 0, 1) := by decide +kernel
theorem dX3_mayStand_20 : decode cX3_mayStand 20 = .ok (.ireturn, 1) := by decide +kernel
theorem dX3_tallest_0 : decode cX3_tallest 0 = .ok (.aload_n 0, 1) := by decide +kernel
theorem dX3_tallest_1 : decode cX3_tallest 1 = .ok (.getfield 18, 3) := by decide +kernel
theorem dX3_tallest_4 : decode cX3_tallest 4 = .ok (.iload_n 1, 1) := by decide +kernel
theorem dX3_tallest_5 : decode cX3_tallest 5 = .ok (.iaload, 1) := by decide +kernel
theorem dX3_tallest_6 : decode cX3_tallest 6 = .ok (.iconst 3, 1) := by decide +kernel
theorem dX3_tallest_7 : decode cX3_tallest 7 = .ok (.if_icmp .ne 12, 3) := by decide +kernel
theorem dX3_tallest_10 : decode cX3_tallest 10 = .ok (.aload_n 0, 1) := by decide +kernel
theorem dX3_tallest_11 : decode cX3_tallest 11 = .ok (.getfield 15, 3) := by decide +kernel
theorem dX3_tallest_14 : decode cX3_tallest 14 = .ok (.iload_n 1, 1) := by decide +kernel
theorem dX3_tallest_15 : decode cX3_tallest 15 = .ok (.laload, 1) := by decide +kernel
theorem dX3_tallest_16 : decode cX3_tallest 16 = .ok (.goto 23, 3) := by decide +kernel
theorem dX3_tallest_19 : decode cX3_tallest 19 = .ok (.aload_n 0, 1) := by decide +kernel
theorem dX3_tallest_20 : decode cX3_tallest 20 = .ok (.getfield 18, 3) := by decide +kernel
theorem dX3_tallest_23 : decode cX3_tallest 23 = .ok (.iload_n 1, 1) := by decide +kernel
theorem dX3_tallest_24 : decode cX3_tallest 24 = .ok (.iaload, 1) := by decide +kernel
theorem dX3_tallest_25 : decode cX3_tallest 25 = .ok (.iconst 2, 1) := by decide +kernel
theorem dX3_tallest_26 : decode cX3_tallest 26 = .ok (.if_icmp .ne 12, 3) := by decide +kernel
theorem dX3_tallest_29 : decode cX3_tallest 29 = .ok (.aload_n 0, 1) := by decide +kernel
theorem dX3_tallest_30 : decode cX3_tallest 30 = .ok (.getfield 9, 3) := by decide +kernel
theorem dX3_tallest_33 : decode cX3_tallest 33 = .ok (.iload_n 1, 1) := by decide +kernel
theorem dX3_tallest_34 : decode cX3_tallest 34 = .ok (.laload, 1) := by decide +kernel
theorem dX3_tallest_35 : decode cX3_tallest 35 = .ok (.goto 4, 3) := by decide +kernel
theorem dX3_tallest_38 : decode cX3_tallest 38 = .ok (.lconst 0, 1) := by decide +kernel
theorem dX3_tallest_39 : decode cX3_tallest 39 = .ok (.lreturn, 1) := by decide +kernel
theorem dX3_exist_0 : decode cX3_exist 0 = .ok (.aload_n 0, 1) := by decide +kernel
theorem dX3_exist_1 : decode cX3_exist 1 = .ok (.getfield 22, 3) := by decide +kernel
theorem dX3_exist_4 : decode cX3_exist 4 = .ok (.iconst 0, 1) := by decide +kernel
theorem dX3_exist_5 : decode cX3_exist 5 = .ok (.laload, 1) := by decide +kernel
theorem dX3_exist_6 : decode cX3_exist 6 = .ok (.aload_n 0, 1) := by decide +kernel
theorem dX3_exist_7 : decode cX3_exist 7 = .ok (.getfield 34, 3) := by decide +kernel
theorem dX3_exist_10 : decode cX3_exist 10 = .ok (.lcmp, 1) := by decide +kernel
theorem dX3_exist_11 : decode cX3_exist 11 = .ok (.ifCond .ne 7, 3) := by decide +kernel
theorem dX3_exist_14 : decode cX3_exist 14 = .ok (.iconst 1, 1) := by decide +kernel
theorem dX3_exist_15 : decode cX3_exist 15 = .ok (.goto 4, 3) := by decide +kernel
theorem dX3_exist_18 : decode cX3_exist 18 = .ok (.iconst 0, 1) := by decide +kernel
theorem dX3_exist_19 : decode cX3_exist 19 = .ok (.ireturn, 1) := by decide +kernel
theorem dX3_number_0 : decode cX3_number 0 = .ok (.aload_n 0, 1) := by decide +kernel
theorem dX3_number_1 : decode cX3_number 1 = .ok (.iconst 0, 1) := by decide +kernel
theorem dX3_number_2 : decode cX3_number 2 = .ok (.lconst 0, 1) := by decide +kernel
theorem dX3_number_3 : decode cX3_number 3 = .ok (.invokestatic 71, 3) := by decide +kernel
theorem dX3_number_6 : decode cX3_number 6 = .ok (.ireturn, 1) := by decide +kernel
theorem dX3_waysToFill_0 : decode cX3_waysToFill 0 = .ok (.iload_n 1, 1) := by decide +kernel
theorem dX3_waysToFill_1 : decode cX3_waysToFill 1 = .ok (.bipush 11, 2) := by decide +kernel
theorem dX3_waysToFill_3 : decode cX3_waysToFill 3 = .ok (.invokestatic 75, 3) := by decide +kernel
theorem dX3_waysToFill_6 : decode cX3_waysToFill 6 = .ok (.ifCond .eq 19, 3) := by decide +kernel
theorem dX3_waysToFill_9 : decode cX3_waysToFill 9 = .ok (.lload_n 2, 1) := by decide +kernel
theorem dX3_waysToFill_10 : decode cX3_waysToFill 10 = .ok (.aload_n 0, 1) := by decide +kernel
theorem dX3_waysToFill_11 : decode cX3_waysToFill 11 = .ok (.getfield 22, 3) := by decide +kernel
theorem dX3_waysToFill_14 : decode cX3_waysToFill 14 = .ok (.iload_n 1, 1) := by decide +kernel
theorem dX3_waysToFill_15 : decode cX3_waysToFill 15 = .ok (.laload, 1) := by decide +kernel
theorem dX3_waysToFill_16 : decode cX3_waysToFill 16 = .ok (.lor, 1) := by decide +kernel
theorem dX3_waysToFill_17 : decode cX3_waysToFill 17 = .ok (.aload_n 0, 1) := by decide +kernel
theorem dX3_waysToFill_18 : decode cX3_waysToFill 18 = .ok (.getfield 34, 3) := by decide +kernel
theorem dX3_waysToFill_21 : decode cX3_waysToFill 21 = .ok (.lcmp, 1) := by decide +kernel
theorem dX3_waysToFill_22 : decode cX3_waysToFill 22 = .ok (.ifCond .eq 5, 3) := by decide +kernel
theorem dX3_waysToFill_25 : decode cX3_waysToFill 25 = .ok (.iconst 0, 1) := by decide +kernel
theorem dX3_waysToFill_26 : decode cX3_waysToFill 26 = .ok (.ireturn, 1) := by decide +kernel
theorem dX3_waysToFill_27 : decode cX3_waysToFill 27 = .ok (.lload_n 2, 1) := by decide +kernel
theorem dX3_waysToFill_28 : decode cX3_waysToFill 28 = .ok (.aload_n 0, 1) := by decide +kernel
theorem dX3_waysToFill_29 : decode cX3_waysToFill 29 = .ok (.getfield 34, 3) := by decide +kernel
theorem dX3_waysToFill_32 : decode cX3_waysToFill 32 = .ok (.lcmp, 1) := by decide +kernel
theorem dX3_waysToFill_33 : decode cX3_waysToFill 33 = .ok (.ifCond .ne 10, 3) := by decide +kernel
theorem dX3_waysToFill_36 : decode cX3_waysToFill 36 = .ok (.aload_n 0, 1) := by decide +kernel
theorem dX3_waysToFill_37 : decode cX3_waysToFill 37 = .ok (.getfield 25, 3) := by decide +kernel
theorem dX3_waysToFill_40 : decode cX3_waysToFill 40 = .ok (.iload_n 1, 1) := by decide +kernel
theorem dX3_waysToFill_41 : decode cX3_waysToFill 41 = .ok (.iaload, 1) := by decide +kernel
theorem dX3_waysToFill_42 : decode cX3_waysToFill 42 = .ok (.ireturn, 1) := by decide +kernel
theorem dX3_waysToFill_43 : decode cX3_waysToFill 43 = .ok (.aload_n 0, 1) := by decide +kernel
theorem dX3_waysToFill_44 : decode cX3_waysToFill 44 = .ok (.iload_n 1, 1) := by decide +kernel
theorem dX3_waysToFill_45 : decode cX3_waysToFill 45 = .ok (.iconst 1, 1) := by decide +kernel
theorem dX3_waysToFill_46 : decode cX3_waysToFill 46 = .ok (.iadd, 1) := by decide +kernel
theorem dX3_waysToFill_47 : decode cX3_waysToFill 47 = .ok (.lload_n 2, 1) := by decide +kernel
theorem dX3_waysToFill_48 : decode cX3_waysToFill 48 = .ok (.invokestatic 71, 3) := by decide +kernel
theorem dX3_waysToFill_51 : decode cX3_waysToFill 51 = .ok (.istore 4, 2) := by decide +kernel
theorem dX3_waysToFill_53 : decode cX3_waysToFill 53 = .ok (.iload_n 1, 1) := by decide +kernel
theorem dX3_waysToFill_54 : decode cX3_waysToFill 54 = .ok (.bipush 10, 2) := by decide +kernel
theorem dX3_waysToFill_56 : decode cX3_waysToFill 56 = .ok (.if_icmp .ge 33, 3) := by decide +kernel
theorem dX3_waysToFill_59 : decode cX3_waysToFill 59 = .ok (.aload_n 0, 1) := by decide +kernel
theorem dX3_waysToFill_60 : decode cX3_waysToFill 60 = .ok (.getfield 18, 3) := by decide +kernel
theorem dX3_waysToFill_63 : decode cX3_waysToFill 63 = .ok (.iload_n 1, 1) := by decide +kernel
theorem dX3_waysToFill_64 : decode cX3_waysToFill 64 = .ok (.iaload, 1) := by decide +kernel
theorem dX3_waysToFill_65 : decode cX3_waysToFill 65 = .ok (.iconst 2, 1) := by decide +kernel
theorem dX3_waysToFill_66 : decode cX3_waysToFill 66 = .ok (.if_icmp .lt 23, 3) := by decide +kernel
theorem dX3_waysToFill_69 : decode cX3_waysToFill 69 = .ok (.iload 4, 2) := by decide +kernel
theorem dX3_waysToFill_71 : decode cX3_waysToFill 71 = .ok (.aload_n 0, 1) := by decide +kernel
theorem dX3_waysToFill_72 : decode cX3_waysToFill 72 = .ok (.iload_n 1, 1) := by decide +kernel
theorem dX3_waysToFill_73 : decode cX3_waysToFill 73 = .ok (.iconst 1, 1) := by decide +kernel
theorem dX3_waysToFill_74 : decode cX3_waysToFill 74 = .ok (.iadd, 1) := by decide +kernel
theorem dX3_waysToFill_75 : decode cX3_waysToFill 75 = .ok (.lload_n 2, 1) := by decide +kernel
theorem dX3_waysToFill_76 : decode cX3_waysToFill 76 = .ok (.aload_n 0, 1) := by decide +kernel
theorem dX3_waysToFill_77 : decode cX3_waysToFill 77 = .ok (.getfield 9, 3) := by decide +kernel
theorem dX3_waysToFill_80 : decode cX3_waysToFill 80 = .ok (.iload_n 1, 1) := by decide +kernel
theorem dX3_waysToFill_81 : decode cX3_waysToFill 81 = .ok (.laload, 1) := by decide +kernel
theorem dX3_waysToFill_82 : decode cX3_waysToFill 82 = .ok (.lor, 1) := by decide +kernel
theorem dX3_waysToFill_83 : decode cX3_waysToFill 83 = .ok (.invokestatic 71, 3) := by decide +kernel
theorem dX3_waysToFill_86 : decode cX3_waysToFill 86 = .ok (.iadd, 1) := by decide +kernel
theorem dX3_waysToFill_87 : decode cX3_waysToFill 87 = .ok (.istore 4, 2) := by decide +kernel
theorem dX3_waysToFill_89 : decode cX3_waysToFill 89 = .ok (.iload_n 1, 1) := by decide +kernel
theorem dX3_waysToFill_90 : decode cX3_waysToFill 90 = .ok (.bipush 10, 2) := by decide +kernel
theorem dX3_waysToFill_92 : decode cX3_waysToFill 92 = .ok (.if_icmp .ge 33, 3) := by decide +kernel
theorem dX3_waysToFill_95 : decode cX3_waysToFill 95 = .ok (.aload_n 0, 1) := by decide +kernel
theorem dX3_waysToFill_96 : decode cX3_waysToFill 96 = .ok (.getfield 18, 3) := by decide +kernel
theorem dX3_waysToFill_99 : decode cX3_waysToFill 99 = .ok (.iload_n 1, 1) := by decide +kernel
theorem dX3_waysToFill_100 : decode cX3_waysToFill 100 = .ok (.iaload, 1) := by decide +kernel
theorem dX3_waysToFill_101 : decode cX3_waysToFill 101 = .ok (.iconst 3, 1) := by decide +kernel
theorem dX3_waysToFill_102 : decode cX3_waysToFill 102 = .ok (.if_icmp .ne 23, 3) := by decide +kernel
theorem dX3_waysToFill_105 : decode cX3_waysToFill 105 = .ok (.iload 4, 2) := by decide +kernel
theorem dX3_waysToFill_107 : decode cX3_waysToFill 107 = .ok (.aload_n 0, 1) := by decide +kernel
theorem dX3_waysToFill_108 : decode cX3_waysToFill 108 = .ok (.iload_n 1, 1) := by decide +kernel
theorem dX3_waysToFill_109 : decode cX3_waysToFill 109 = .ok (.iconst 1, 1) := by decide +kernel
theorem dX3_waysToFill_110 : decode cX3_waysToFill 110 = .ok (.iadd, 1) := by decide +kernel
theorem dX3_waysToFill_111 : decode cX3_waysToFill 111 = .ok (.lload_n 2, 1) := by decide +kernel
theorem dX3_waysToFill_112 : decode cX3_waysToFill 112 = .ok (.aload_n 0, 1) := by decide +kernel
theorem dX3_waysToFill_113 : decode cX3_waysToFill 113 = .ok (.getfield 15, 3) := by decide +kernel
theorem dX3_waysToFill_116 : decode cX3_waysToFill 116 = .ok (.iload_n 1, 1) := by decide +kernel
theorem dX3_waysToFill_117 : decode cX3_waysToFill 117 = .ok (.laload, 1) := by decide +kernel
theorem dX3_waysToFill_118 : decode cX3_waysToFill 118 = .ok (.lor, 1) := by decide +kernel
theorem dX3_waysToFill_119 : decode cX3_waysToFill 119 = .ok (.invokestatic 71, 3) := by decide +kernel
theorem dX3_waysToFill_122 : decode cX3_waysToFill 122 = .ok (.iadd, 1) := by decide +kernel
theorem dX3_waysToFill_123 : decode cX3_waysToFill 123 = .ok (.istore 4, 2) := by decide +kernel
theorem dX3_waysToFill_125 : decode cX3_waysToFill 125 = .ok (.iload 4, 2) := by decide +kernel
theorem dX3_waysToFill_127 : decode cX3_waysToFill 127 = .ok (.ireturn, 1) := by decide +kernel
theorem dX3_mostHeads_0 : decode cX3_mostHeads 0 = .ok (.iconst 0, 1) := by decide +kernel
theorem dX3_mostHeads_1 : decode cX3_mostHeads 1 = .ok (.istore_n 1, 1) := by decide +kernel
theorem dX3_mostHeads_2 : decode cX3_mostHeads 2 = .ok (.iconst 0, 1) := by decide +kernel
theorem dX3_mostHeads_3 : decode cX3_mostHeads 3 = .ok (.istore_n 2, 1) := by decide +kernel
theorem dX3_mostHeads_4 : decode cX3_mostHeads 4 = .ok (.iload_n 2, 1) := by decide +kernel
theorem dX3_mostHeads_5 : decode cX3_mostHeads 5 = .ok (.bipush 10, 2) := by decide +kernel
theorem dX3_mostHeads_7 : decode cX3_mostHeads 7 = .ok (.if_icmp .ge 27, 3) := by decide +kernel
theorem dX3_mostHeads_10 : decode cX3_mostHeads 10 = .ok (.iload_n 1, 1) := by decide +kernel
theorem dX3_mostHeads_11 : decode cX3_mostHeads 11 = .ok (.aload_n 0, 1) := by decide +kernel
theorem dX3_mostHeads_12 : decode cX3_mostHeads 12 = .ok (.getfield 18, 3) := by decide +kernel
theorem dX3_mostHeads_15 : decode cX3_mostHeads 15 = .ok (.iload_n 2, 1) := by decide +kernel
theorem dX3_mostHeads_16 : decode cX3_mostHeads 16 = .ok (.iaload, 1) := by decide +kernel
theorem dX3_mostHeads_17 : decode cX3_mostHeads 17 = .ok (.iconst 1, 1) := by decide +kernel
theorem dX3_mostHeads_18 : decode cX3_mostHeads 18 = .ok (.if_icmp .ne 7, 3) := by decide +kernel
theorem dX3_mostHeads_21 : decode cX3_mostHeads 21 = .ok (.iconst 0, 1) := by decide +kernel
theorem dX3_mostHeads_22 : decode cX3_mostHeads 22 = .ok (.goto 4, 3) := by decide +kernel
theorem dX3_mostHeads_25 : decode cX3_mostHeads 25 = .ok (.iconst 1, 1) := by decide +kernel
theorem dX3_mostHeads_26 : decode cX3_mostHeads 26 = .ok (.iadd, 1) := by decide +kernel
theorem dX3_mostHeads_27 : decode cX3_mostHeads 27 = .ok (.istore_n 1, 1) := by decide +kernel
theorem dX3_mostHeads_28 : decode cX3_mostHeads 28 = .ok (.iinc 2 1, 3) := by decide +kernel
theorem dX3_mostHeads_31 : decode cX3_mostHeads 31 = .ok (.goto (-27), 3) := by decide +kernel
theorem dX3_mostHeads_34 : decode cX3_mostHeads 34 = .ok (.iload_n 1, 1) := by decide +kernel
theorem dX3_mostHeads_35 : decode cX3_mostHeads 35 = .ok (.ireturn, 1) := by decide +kernel
theorem dX3_fewestHeads_0 : decode cX3_fewestHeads 0 = .ok (.aload_n 0, 1) := by decide +kernel
theorem dX3_fewestHeads_1 : decode cX3_fewestHeads 1 = .ok (.iconst 0, 1) := by decide +kernel
theorem dX3_fewestHeads_2 : decode cX3_fewestHeads 2 = .ok (.lconst 0, 1) := by decide +kernel
theorem dX3_fewestHeads_3 : decode cX3_fewestHeads 3 = .ok (.invokestatic 79, 3) := by decide +kernel
theorem dX3_fewestHeads_6 : decode cX3_fewestHeads 6 = .ok (.ireturn, 1) := by decide +kernel
theorem dX3_fewestFrom_0 : decode cX3_fewestFrom 0 = .ok (.lload_n 2, 1) := by decide +kernel
theorem dX3_fewestFrom_1 : decode cX3_fewestFrom 1 = .ok (.aload_n 0, 1) := by decide +kernel
theorem dX3_fewestFrom_2 : decode cX3_fewestFrom 2 = .ok (.getfield 34, 3) := by decide +kernel
theorem dX3_fewestFrom_5 : decode cX3_fewestFrom 5 = .ok (.lcmp, 1) := by decide +kernel
theorem dX3_fewestFrom_6 : decode cX3_fewestFrom 6 = .ok (.ifCond .ne 5, 3) := by decide +kernel
theorem dX3_fewestFrom_9 : decode cX3_fewestFrom 9 = .ok (.iconst 0, 1) := by decide +kernel
theorem dX3_fewestFrom_10 : decode cX3_fewestFrom 10 = .ok (.ireturn, 1) := by decide +kernel
theorem dX3_fewestFrom_11 : decode cX3_fewestFrom 11 = .ok (.iload_n 1, 1) := by decide +kernel
theorem dX3_fewestFrom_12 : decode cX3_fewestFrom 12 = .ok (.bipush 10, 2) := by decide +kernel
theorem dX3_fewestFrom_14 : decode cX3_fewestFrom 14 = .ok (.invokestatic 75, 3) := by decide +kernel
theorem dX3_fewestFrom_17 : decode cX3_fewestFrom 17 = .ok (.ifCond .eq 19, 3) := by decide +kernel
theorem dX3_fewestFrom_20 : decode cX3_fewestFrom 20 = .ok (.lload_n 2, 1) := by decide +kernel
theorem dX3_fewestFrom_21 : decode cX3_fewestFrom 21 = .ok (.aload_n 0, 1) := by decide +kernel
theorem dX3_fewestFrom_22 : decode cX3_fewestFrom 22 = .ok (.getfield 22, 3) := by decide +kernel
theorem dX3_fewestFrom_25 : decode cX3_fewestFrom 25 = .ok (.iload_n 1, 1) := by decide +kernel
theorem dX3_fewestFrom_26 : decode cX3_fewestFrom 26 = .ok (.laload, 1) := by decide +kernel
theorem dX3_fewestFrom_27 : decode cX3_fewestFrom 27 = .ok (.lor, 1) := by decide +kernel
theorem dX3_fewestFrom_28 : decode cX3_fewestFrom 28 = .ok (.aload_n 0, 1) := by decide +kernel
theorem dX3_fewestFrom_29 : decode cX3_fewestFrom 29 = .ok (.getfield 34, 3) := by decide +kernel
theorem dX3_fewestFrom_32 : decode cX3_fewestFrom 32 = .ok (.lcmp, 1) := by decide +kernel
theorem dX3_fewestFrom_33 : decode cX3_fewestFrom 33 = .ok (.ifCond .eq 6, 3) := by decide +kernel
theorem dX3_fewestFrom_36 : decode cX3_fewestFrom 36 = .ok (.bipush 11, 2) := by decide +kernel
theorem dX3_fewestFrom_38 : decode cX3_fewestFrom 38 = .ok (.ireturn, 1) := by decide +kernel
theorem dX3_fewestFrom_39 : decode cX3_fewestFrom 39 = .ok (.aload_n 0, 1) := by decide +kernel
theorem dX3_fewestFrom_40 : decode cX3_fewestFrom 40 = .ok (.iload_n 1, 1) := by decide +kernel
theorem dX3_fewestFrom_41 : decode cX3_fewestFrom 41 = .ok (.iconst 1, 1) := by decide +kernel
theorem dX3_fewestFrom_42 : decode cX3_fewestFrom 42 = .ok (.iadd, 1) := by decide +kernel
theorem dX3_fewestFrom_43 : decode cX3_fewestFrom 43 = .ok (.lload_n 2, 1) := by decide +kernel
theorem dX3_fewestFrom_44 : decode cX3_fewestFrom 44 = .ok (.invokestatic 79, 3) := by decide +kernel
theorem dX3_fewestFrom_47 : decode cX3_fewestFrom 47 = .ok (.istore 4, 2) := by decide +kernel
theorem dX3_fewestFrom_49 : decode cX3_fewestFrom 49 = .ok (.iload 4, 2) := by decide +kernel
theorem dX3_fewestFrom_51 : decode cX3_fewestFrom 51 = .ok (.iconst 1, 1) := by decide +kernel
theorem dX3_fewestFrom_52 : decode cX3_fewestFrom 52 = .ok (.aload_n 0, 1) := by decide +kernel
theorem dX3_fewestFrom_53 : decode cX3_fewestFrom 53 = .ok (.iload_n 1, 1) := by decide +kernel
theorem dX3_fewestFrom_54 : decode cX3_fewestFrom 54 = .ok (.iconst 1, 1) := by decide +kernel
theorem dX3_fewestFrom_55 : decode cX3_fewestFrom 55 = .ok (.iadd, 1) := by decide +kernel
theorem dX3_fewestFrom_56 : decode cX3_fewestFrom 56 = .ok (.lload_n 2, 1) := by decide +kernel
theorem dX3_fewestFrom_57 : decode cX3_fewestFrom 57 = .ok (.aload_n 0, 1) := by decide +kernel
theorem dX3_fewestFrom_58 : decode cX3_fewestFrom 58 = .ok (.iload_n 1, 1) := by decide +kernel
theorem dX3_fewestFrom_59 : decode cX3_fewestFrom 59 = .ok (.invokevirtual 55, 3) := by decide +kernel
theorem dX3_fewestFrom_62 : decode cX3_fewestFrom 62 = .ok (.lor, 1) := by decide +kernel
theorem dX3_fewestFrom_63 : decode cX3_fewestFrom 63 = .ok (.invokestatic 79, 3) := by decide +kernel
theorem dX3_fewestFrom_66 : decode cX3_fewestFrom 66 = .ok (.iadd, 1) := by decide +kernel
theorem dX3_fewestFrom_67 : decode cX3_fewestFrom 67 = .ok (.invokestatic 82, 3) := by decide +kernel
theorem dX3_fewestFrom_70 : decode cX3_fewestFrom 70 = .ok (.ireturn, 1) := by decide +kernel
theorem dX3_surelyTaken_0 : decode cX3_surelyTaken 0 = .ok (.iconst 0, 1) := by decide +kernel
theorem dX3_surelyTaken_1 : decode cX3_surelyTaken 1 = .ok (.istore_n 1, 1) := by decide +kernel
theorem dX3_surelyTaken_2 : decode cX3_surelyTaken 2 = .ok (.iconst 0, 1) := by decide +kernel
theorem dX3_surelyTaken_3 : decode cX3_surelyTaken 3 = .ok (.istore_n 2, 1) := by decide +kernel
theorem dX3_surelyTaken_4 : decode cX3_surelyTaken 4 = .ok (.iload_n 2, 1) := by decide +kernel
theorem dX3_surelyTaken_5 : decode cX3_surelyTaken 5 = .ok (.bipush 10, 2) := by decide +kernel
theorem dX3_surelyTaken_7 : decode cX3_surelyTaken 7 = .ok (.if_icmp .ge 32, 3) := by decide +kernel
theorem dX3_surelyTaken_10 : decode cX3_surelyTaken 10 = .ok (.iload_n 1, 1) := by decide +kernel
theorem dX3_surelyTaken_11 : decode cX3_surelyTaken 11 = .ok (.aload_n 0, 1) := by decide +kernel
theorem dX3_surelyTaken_12 : decode cX3_surelyTaken 12 = .ok (.iload_n 2, 1) := by decide +kernel
theorem dX3_surelyTaken_13 : decode cX3_surelyTaken 13 = .ok (.invokevirtual 88, 3) := by decide +kernel
theorem dX3_surelyTaken_16 : decode cX3_surelyTaken 16 = .ok (.aload_n 0, 1) := by decide +kernel
theorem dX3_surelyTaken_17 : decode cX3_surelyTaken 17 = .ok (.getfield 34, 3) := by decide +kernel
theorem dX3_surelyTaken_20 : decode cX3_surelyTaken 20 = .ok (.lcmp, 1) := by decide +kernel
theorem dX3_surelyTaken_21 : decode cX3_surelyTaken 21 = .ok (.ifCond .ne 7, 3) := by decide +kernel
theorem dX3_surelyTaken_24 : decode cX3_surelyTaken 24 = .ok (.iconst 0, 1) := by decide +kernel
theorem dX3_surelyTaken_25 : decode cX3_surelyTaken 25 = .ok (.goto 6, 3) := by decide +kernel
theorem dX3_surelyTaken_28 : decode cX3_surelyTaken 28 = .ok (.iconst 1, 1) := by decide +kernel
theorem dX3_surelyTaken_29 : decode cX3_surelyTaken 29 = .ok (.iload_n 2, 1) := by decide +kernel
theorem dX3_surelyTaken_30 : decode cX3_surelyTaken 30 = .ok (.ishl, 1) := by decide +kernel
theorem dX3_surelyTaken_31 : decode cX3_surelyTaken 31 = .ok (.ior, 1) := by decide +kernel
theorem dX3_surelyTaken_32 : decode cX3_surelyTaken 32 = .ok (.istore_n 1, 1) := by decide +kernel
theorem dX3_surelyTaken_33 : decode cX3_surelyTaken 33 = .ok (.iinc 2 1, 3) := by decide +kernel
theorem dX3_surelyTaken_36 : decode cX3_surelyTaken 36 = .ok (.goto (-32), 3) := by decide +kernel
theorem dX3_surelyTaken_39 : decode cX3_surelyTaken 39 = .ok (.iload_n 1, 1) := by decide +kernel
theorem dX3_surelyTaken_40 : decode cX3_surelyTaken 40 = .ok (.ireturn, 1) := by decide +kernel
theorem dX3_darkWithout_0 : decode cX3_darkWithout 0 = .ok (.lconst 0, 1) := by decide +kernel
theorem dX3_darkWithout_1 : decode cX3_darkWithout 1 = .ok (.lstore_n 2, 1) := by decide +kernel
theorem dX3_darkWithout_2 : decode cX3_darkWithout 2 = .ok (.iconst 0, 1) := by decide +kernel
theorem dX3_darkWithout_3 : decode cX3_darkWithout 3 = .ok (.istore 4, 2) := by decide +kernel
theorem dX3_darkWithout_5 : decode cX3_darkWithout 5 = .ok (.iload 4, 2) := by decide +kernel
theorem dX3_darkWithout_7 : decode cX3_darkWithout 7 = .ok (.bipush 10, 2) := by decide +kernel
theorem dX3_darkWithout_9 : decode cX3_darkWithout 9 = .ok (.if_icmp .ge 28, 3) := by decide +kernel
theorem dX3_darkWithout_12 : decode cX3_darkWithout 12 = .ok (.lload_n 2, 1) := by decide +kernel
theorem dX3_darkWithout_13 : decode cX3_darkWithout 13 = .ok (.iload 4, 2) := by decide +kernel
theorem dX3_darkWithout_15 : decode cX3_darkWithout 15 = .ok (.iload_n 1, 1) := by decide +kernel
theorem dX3_darkWithout_16 : decode cX3_darkWithout 16 = .ok (.if_icmp .ne 7, 3) := by decide +kernel
theorem dX3_darkWithout_19 : decode cX3_darkWithout 19 = .ok (.lconst 0, 1) := by decide +kernel
theorem dX3_darkWithout_20 : decode cX3_darkWithout 20 = .ok (.goto 9, 3) := by decide +kernel
theorem dX3_darkWithout_23 : decode cX3_darkWithout 23 = .ok (.aload_n 0, 1) := by decide +kernel
theorem dX3_darkWithout_24 : decode cX3_darkWithout 24 = .ok (.iload 4, 2) := by decide +kernel
theorem dX3_darkWithout_26 : decode cX3_darkWithout 26 = .ok (.invokevirtual 55, 3) := by decide +kernel
theorem dX3_darkWithout_29 : decode cX3_darkWithout 29 = .ok (.lor, 1) := by decide +kernel
theorem dX3_darkWithout_30 : decode cX3_darkWithout 30 = .ok (.lstore_n 2, 1) := by decide +kernel
theorem dX3_darkWithout_31 : decode cX3_darkWithout 31 = .ok (.iinc 4 1, 3) := by decide +kernel
theorem dX3_darkWithout_34 : decode cX3_darkWithout 34 = .ok (.goto (-29), 3) := by decide +kernel
theorem dX3_darkWithout_37 : decode cX3_darkWithout 37 = .ok (.lload_n 2, 1) := by decide +kernel
theorem dX3_darkWithout_38 : decode cX3_darkWithout 38 = .ok (.lreturn, 1) := by decide +kernel
theorem dX3_tellingMinute_0 : decode cX3_tellingMinute 0 = .ok (.iconst 0, 1) := by decide +kernel
theorem dX3_tellingMinute_1 : decode cX3_tellingMinute 1 = .ok (.istore_n 1, 1) := by decide +kernel
theorem dX3_tellingMinute_2 : decode cX3_tellingMinute 2 = .ok (.iconst 0, 1) := by decide +kernel
theorem dX3_tellingMinute_3 : decode cX3_tellingMinute 3 = .ok (.istore_n 2, 1) := by decide +kernel
theorem dX3_tellingMinute_4 : decode cX3_tellingMinute 4 = .ok (.iconst 0, 1) := by decide +kernel
theorem dX3_tellingMinute_5 : decode cX3_tellingMinute 5 = .ok (.istore_n 3, 1) := by decide +kernel
theorem dX3_tellingMinute_6 : decode cX3_tellingMinute 6 = .ok (.iload_n 3, 1) := by decide +kernel
theorem dX3_tellingMinute_7 : decode cX3_tellingMinute 7 = .ok (.bipush 16, 2) := by decide +kernel
theorem dX3_tellingMinute_9 : decode cX3_tellingMinute 9 = .ok (.if_icmp .ge 27, 3) := by decide +kernel
theorem dX3_tellingMinute_12 : decode cX3_tellingMinute 12 = .ok (.aload_n 0, 1) := by decide +kernel
theorem dX3_tellingMinute_13 : decode cX3_tellingMinute 13 = .ok (.iload_n 3, 1) := by decide +kernel
theorem dX3_tellingMinute_14 : decode cX3_tellingMinute 14 = .ok (.invokevirtual 91, 3) := by decide +kernel
theorem dX3_tellingMinute_17 : decode cX3_tellingMinute 17 = .ok (.istore 4, 2) := by decide +kernel
theorem dX3_tellingMinute_19 : decode cX3_tellingMinute 19 = .ok (.iload 4, 2) := by decide +kernel
theorem dX3_tellingMinute_21 : decode cX3_tellingMinute 21 = .ok (.iload_n 2, 1) := by decide +kernel
theorem dX3_tellingMinute_22 : decode cX3_tellingMinute 22 = .ok (.if_icmp .le 8, 3) := by decide +kernel
theorem dX3_tellingMinute_25 : decode cX3_tellingMinute 25 = .ok (.iload 4, 2) := by decide +kernel
theorem dX3_tellingMinute_27 : decode cX3_tellingMinute 27 = .ok (.istore_n 2, 1) := by decide +kernel
theorem dX3_tellingMinute_28 : decode cX3_tellingMinute 28 = .ok (.iload_n 3, 1) := by decide +kernel
theorem dX3_tellingMinute_29 : decode cX3_tellingMinute 29 = .ok (.istore_n 1, 1) := by decide +kernel
theorem dX3_tellingMinute_30 : decode cX3_tellingMinute 30 = .ok (.iinc 3 1, 3) := by decide +kernel
theorem dX3_tellingMinute_33 : decode cX3_tellingMinute 33 = .ok (.goto (-27), 3) := by decide +kernel
theorem dX3_tellingMinute_36 : decode cX3_tellingMinute 36 = .ok (.iload_n 1, 1) := by decide +kernel
theorem dX3_tellingMinute_37 : decode cX3_tellingMinute 37 = .ok (.ireturn, 1) := by decide +kernel
theorem dX3_unlikeRows_0 : decode cX3_unlikeRows 0 = .ok (.iconst 0, 1) := by decide +kernel
theorem dX3_unlikeRows_1 : decode cX3_unlikeRows 1 = .ok (.istore_n 2, 1) := by decide +kernel
theorem dX3_unlikeRows_2 : decode cX3_unlikeRows 2 = .ok (.iconst 0, 1) := by decide +kernel
theorem dX3_unlikeRows_3 : decode cX3_unlikeRows 3 = .ok (.istore_n 3, 1) := by decide +kernel
theorem dX3_unlikeRows_4 : decode cX3_unlikeRows 4 = .ok (.iload_n 3, 1) := by decide +kernel
theorem dX3_unlikeRows_5 : decode cX3_unlikeRows 5 = .ok (.bipush 10, 2) := by decide +kernel
theorem dX3_unlikeRows_7 : decode cX3_unlikeRows 7 = .ok (.if_icmp .ge 83, 3) := by decide +kernel
theorem dX3_unlikeRows_10 : decode cX3_unlikeRows 10 = .ok (.aload_n 0, 1) := by decide +kernel
theorem dX3_unlikeRows_11 : decode cX3_unlikeRows 11 = .ok (.getfield 28, 3) := by decide +kernel
theorem dX3_unlikeRows_14 : decode cX3_unlikeRows 14 = .ok (.iload_n 3, 1) := by decide +kernel
theorem dX3_unlikeRows_15 : decode cX3_unlikeRows 15 = .ok (.getstatic 59, 3) := by decide +kernel
theorem dX3_unlikeRows_18 : decode cX3_unlikeRows 18 = .ok (.iconst 1, 1) := by decide +kernel
theorem dX3_unlikeRows_19 : decode cX3_unlikeRows 19 = .ok (.iaload, 1) := by decide +kernel
theorem dX3_unlikeRows_20 : decode cX3_unlikeRows 20 = .ok (.iload_n 3, 1) := by decide +kernel
theorem dX3_unlikeRows_21 : decode cX3_unlikeRows 21 = .ok (.iload_n 1, 1) := by decide +kernel
theorem dX3_unlikeRows_22 : decode cX3_unlikeRows 22 = .ok (.invokestatic 65, 3) := by decide +kernel
theorem dX3_unlikeRows_25 : decode cX3_unlikeRows 25 = .ok (.iastore, 1) := by decide +kernel
theorem dX3_unlikeRows_26 : decode cX3_unlikeRows 26 = .ok (.aload_n 0, 1) := by decide +kernel
theorem dX3_unlikeRows_27 : decode cX3_unlikeRows 27 = .ok (.getfield 31, 3) := by decide +kernel
theorem dX3_unlikeRows_30 : decode cX3_unlikeRows 30 = .ok (.iload_n 3, 1) := by decide +kernel
theorem dX3_unlikeRows_31 : decode cX3_unlikeRows 31 = .ok (.getstatic 59, 3) := by decide +kernel
theorem dX3_unlikeRows_34 : decode cX3_unlikeRows 34 = .ok (.iconst 0, 1) := by decide +kernel
theorem dX3_unlikeRows_35 : decode cX3_unlikeRows 35 = .ok (.iaload, 1) := by decide +kernel
theorem dX3_unlikeRows_36 : decode cX3_unlikeRows 36 = .ok (.iload_n 3, 1) := by decide +kernel
theorem dX3_unlikeRows_37 : decode cX3_unlikeRows 37 = .ok (.iload_n 1, 1) := by decide +kernel
theorem dX3_unlikeRows_38 : decode cX3_unlikeRows 38 = .ok (.invokestatic 65, 3) := by decide +kernel
theorem dX3_unlikeRows_41 : decode cX3_unlikeRows 41 = .ok (.iastore, 1) := by decide +kernel
theorem dX3_unlikeRows_42 : decode cX3_unlikeRows 42 = .ok (.iload_n 2, 1) := by decide +kernel
theorem dX3_unlikeRows_43 : decode cX3_unlikeRows 43 = .ok (.aload_n 0, 1) := by decide +kernel
theorem dX3_unlikeRows_44 : decode cX3_unlikeRows 44 = .ok (.getfield 18, 3) := by decide +kernel
theorem dX3_unlikeRows_47 : decode cX3_unlikeRows 47 = .ok (.iload_n 3, 1) := by decide +kernel
theorem dX3_unlikeRows_48 : decode cX3_unlikeRows 48 = .ok (.iaload, 1) := by decide +kernel
theorem dX3_unlikeRows_49 : decode cX3_unlikeRows 49 = .ok (.iconst 3, 1) := by decide +kernel
theorem dX3_unlikeRows_50 : decode cX3_unlikeRows 50 = .ok (.if_icmp .ne 12, 3) := by decide +kernel
theorem dX3_unlikeRows_53 : decode cX3_unlikeRows 53 = .ok (.aload_n 0, 1) := by decide +kernel
theorem dX3_unlikeRows_54 : decode cX3_unlikeRows 54 = .ok (.getfield 31, 3) := by decide +kernel
theorem dX3_unlikeRows_57 : decode cX3_unlikeRows 57 = .ok (.iload_n 3, 1) := by decide +kernel
theorem dX3_unlikeRows_58 : decode cX3_unlikeRows 58 = .ok (.iaload, 1) := by decide +kernel
theorem dX3_unlikeRows_59 : decode cX3_unlikeRows 59 = .ok (.goto 23, 3) := by decide +kernel
theorem dX3_unlikeRows_62 : decode cX3_unlikeRows 62 = .ok (.aload_n 0, 1) := by decide +kernel
theorem dX3_unlikeRows_63 : decode cX3_unlikeRows 63 = .ok (.getfield 18, 3) := by decide +kernel
theorem dX3_unlikeRows_66 : decode cX3_unlikeRows 66 = .ok (.iload_n 3, 1) := by decide +kernel
theorem dX3_unlikeRows_67 : decode cX3_unlikeRows 67 = .ok (.iaload, 1) := by decide +kernel
theorem dX3_unlikeRows_68 : decode cX3_unlikeRows 68 = .ok (.iconst 2, 1) := by decide +kernel
theorem dX3_unlikeRows_69 : decode cX3_unlikeRows 69 = .ok (.if_icmp .ne 12, 3) := by decide +kernel
theorem dX3_unlikeRows_72 : decode cX3_unlikeRows 72 = .ok (.aload_n 0, 1) := by decide +kernel
theorem dX3_unlikeRows_73 : decode cX3_unlikeRows 73 = .ok (.getfield 28, 3) := by decide +kernel
theorem dX3_unlikeRows_76 : decode cX3_unlikeRows 76 = .ok (.iload_n 3, 1) := by decide +kernel
theorem dX3_unlikeRows_77 : decode cX3_unlikeRows 77 = .ok (.iaload, 1) := by decide +kernel
theorem dX3_unlikeRows_78 : decode cX3_unlikeRows 78 = .ok (.goto 4, 3) := by decide +kernel
theorem dX3_unlikeRows_81 : decode cX3_unlikeRows 81 = .ok (.iconst 0, 1) := by decide +kernel
theorem dX3_unlikeRows_82 : decode cX3_unlikeRows 82 = .ok (.ior, 1) := by decide +kernel
theorem dX3_unlikeRows_83 : decode cX3_unlikeRows 83 = .ok (.istore_n 2, 1) := by decide +kernel
theorem dX3_unlikeRows_84 : decode cX3_unlikeRows 84 = .ok (.iinc 3 1, 3) := by decide +kernel
theorem dX3_unlikeRows_87 : decode cX3_unlikeRows 87 = .ok (.goto (-83), 3) := by decide +kernel
theorem dX3_unlikeRows_90 : decode cX3_unlikeRows 90 = .ok (.iconst 0, 1) := by decide +kernel
theorem dX3_unlikeRows_91 : decode cX3_unlikeRows 91 = .ok (.istore_n 3, 1) := by decide +kernel
theorem dX3_unlikeRows_92 : decode cX3_unlikeRows 92 = .ok (.iconst 0, 1) := by decide +kernel
theorem dX3_unlikeRows_93 : decode cX3_unlikeRows 93 = .ok (.istore 4, 2) := by decide +kernel
theorem dX3_unlikeRows_95 : decode cX3_unlikeRows 95 = .ok (.iload 4, 2) := by decide +kernel
theorem dX3_unlikeRows_97 : decode cX3_unlikeRows 97 = .ok (.sipush 1023, 3) := by decide +kernel
theorem dX3_unlikeRows_100 : decode cX3_unlikeRows 100 = .ok (.if_icmp .gt 30, 3) := by decide +kernel
theorem dX3_unlikeRows_103 : decode cX3_unlikeRows 103 = .ok (.iload 4, 2) := by decide +kernel
theorem dX3_unlikeRows_105 : decode cX3_unlikeRows 105 = .ok (.iload_n 2, 1) := by decide +kernel
theorem dX3_unlikeRows_106 : decode cX3_unlikeRows 106 = .ok (.iconst (-1), 1) := by decide +kernel
theorem dX3_unlikeRows_107 : decode cX3_unlikeRows 107 = .ok (.ixor, 1) := by decide +kernel
theorem dX3_unlikeRows_108 : decode cX3_unlikeRows 108 = .ok (.iand, 1) := by decide +kernel
theorem dX3_unlikeRows_109 : decode cX3_unlikeRows 109 = .ok (.ifCond .ne 15, 3) := by decide +kernel
theorem dX3_unlikeRows_112 : decode cX3_unlikeRows 112 = .ok (.aload_n 0, 1) := by decide +kernel
theorem dX3_unlikeRows_113 : decode cX3_unlikeRows 113 = .ok (.iload 4, 2) := by decide +kernel
theorem dX3_unlikeRows_115 : decode cX3_unlikeRows 115 = .ok (.invokevirtual 95, 3) := by decide +kernel
theorem dX3_unlikeRows_118 : decode cX3_unlikeRows 118 = .ok (.ifCond .eq 6, 3) := by decide +kernel
theorem dX3_unlikeRows_121 : decode cX3_unlikeRows 121 = .ok (.iinc 3 1, 3) := by decide +kernel
theorem dX3_unlikeRows_124 : decode cX3_unlikeRows 124 = .ok (.iinc 4 1, 3) := by decide +kernel
theorem dX3_unlikeRows_127 : decode cX3_unlikeRows 127 = .ok (.goto (-32), 3) := by decide +kernel
theorem dX3_unlikeRows_130 : decode cX3_unlikeRows 130 = .ok (.iload_n 3, 1) := by decide +kernel
theorem dX3_unlikeRows_131 : decode cX3_unlikeRows 131 = .ok (.ireturn, 1) := by decide +kernel
theorem dX3_mayShow_0 : decode cX3_mayShow 0 = .ok (.lconst 0, 1) := by decide +kernel
theorem dX3_mayShow_1 : decode cX3_mayShow 1 = .ok (.lstore_n 2, 1) := by decide +kernel
theorem dX3_mayShow_2 : decode cX3_mayShow 2 = .ok (.iconst 0, 1) := by decide +kernel
theorem dX3_mayShow_3 : decode cX3_mayShow 3 = .ok (.istore 4, 2) := by decide +kernel
theorem dX3_mayShow_5 : decode cX3_mayShow 5 = .ok (.iconst 0, 1) := by decide +kernel
theorem dX3_mayShow_6 : decode cX3_mayShow 6 = .ok (.istore 5, 2) := by decide +kernel
theorem dX3_mayShow_8 : decode cX3_mayShow 8 = .ok (.iload 5, 2) := by decide +kernel
theorem dX3_mayShow_10 : decode cX3_mayShow 10 = .ok (.bipush 10, 2) := by decide +kernel
theorem dX3_mayShow_12 : decode cX3_mayShow 12 = .ok (.if_icmp .ge 106, 3) := by decide +kernel
theorem dX3_mayShow_15 : decode cX3_mayShow 15 = .ok (.aload_n 0, 1) := by decide +kernel
theorem dX3_mayShow_16 : decode cX3_mayShow 16 = .ok (.getfield 18, 3) := by decide +kernel
theorem dX3_mayShow_19 : decode cX3_mayShow 19 = .ok (.iload 5, 2) := by decide +kernel
theorem dX3_mayShow_21 : decode cX3_mayShow 21 = .ok (.iaload, 1) := by decide +kernel
theorem dX3_mayShow_22 : decode cX3_mayShow 22 = .ok (.iconst 3, 1) := by decide +kernel
theorem dX3_mayShow_23 : decode cX3_mayShow 23 = .ok (.if_icmp .ne 42, 3) := by decide +kernel
theorem dX3_mayShow_26 : decode cX3_mayShow 26 = .ok (.aload_n 0, 1) := by decide +kernel
theorem dX3_mayShow_27 : decode cX3_mayShow 27 = .ok (.getfield 31, 3) := by decide +kernel
theorem dX3_mayShow_30 : decode cX3_mayShow 30 = .ok (.iload 5, 2) := by decide +kernel
theorem dX3_mayShow_32 : decode cX3_mayShow 32 = .ok (.iaload, 1) := by decide +kernel
theorem dX3_mayShow_33 : decode cX3_mayShow 33 = .ok (.iload_n 1, 1) := by decide +kernel
theorem dX3_mayShow_34 : decode cX3_mayShow 34 = .ok (.iconst (-1), 1) := by decide +kernel
theorem dX3_mayShow_35 : decode cX3_mayShow 35 = .ok (.ixor, 1) := by decide +kernel
theorem dX3_mayShow_36 : decode cX3_mayShow 36 = .ok (.iand, 1) := by decide +kernel
theorem dX3_mayShow_37 : decode cX3_mayShow 37 = .ok (.ifCond .ne 28, 3) := by decide +kernel
theorem dX3_mayShow_40 : decode cX3_mayShow 40 = .ok (.lload_n 2, 1) := by decide +kernel
theorem dX3_mayShow_41 : decode cX3_mayShow 41 = .ok (.aload_n 0, 1) := by decide +kernel
theorem dX3_mayShow_42 : decode cX3_mayShow 42 = .ok (.getfield 15, 3) := by decide +kernel
theorem dX3_mayShow_45 : decode cX3_mayShow 45 = .ok (.iload 5, 2) := by decide +kernel
theorem dX3_mayShow_47 : decode cX3_mayShow 47 = .ok (.laload, 1) := by decide +kernel
theorem dX3_mayShow_48 : decode cX3_mayShow 48 = .ok (.lor, 1) := by decide +kernel
theorem dX3_mayShow_49 : decode cX3_mayShow 49 = .ok (.lstore_n 2, 1) := by decide +kernel
theorem dX3_mayShow_50 : decode cX3_mayShow 50 = .ok (.iload 4, 2) := by decide +kernel
theorem dX3_mayShow_52 : decode cX3_mayShow 52 = .ok (.aload_n 0, 1) := by decide +kernel
theorem dX3_mayShow_53 : decode cX3_mayShow 53 = .ok (.getfield 31, 3) := by decide +kernel
theorem dX3_mayShow_56 : decode cX3_mayShow 56 = .ok (.iload 5, 2) := by decide +kernel
theorem dX3_mayShow_58 : decode cX3_mayShow 58 = .ok (.iaload, 1) := by decide +kernel
theorem dX3_mayShow_59 : decode cX3_mayShow 59 = .ok (.ior, 1) := by decide +kernel
theorem dX3_mayShow_60 : decode cX3_mayShow 60 = .ok (.istore 4, 2) := by decide +kernel
theorem dX3_mayShow_62 : decode cX3_mayShow 62 = .ok (.goto 50, 3) := by decide +kernel
theorem dX3_mayShow_65 : decode cX3_mayShow 65 = .ok (.aload_n 0, 1) := by decide +kernel
theorem dX3_mayShow_66 : decode cX3_mayShow 66 = .ok (.getfield 18, 3) := by decide +kernel
theorem dX3_mayShow_69 : decode cX3_mayShow 69 = .ok (.iload 5, 2) := by decide +kernel
theorem dX3_mayShow_71 : decode cX3_mayShow 71 = .ok (.iaload, 1) := by decide +kernel
theorem dX3_mayShow_72 : decode cX3_mayShow 72 = .ok (.iconst 2, 1) := by decide +kernel
theorem dX3_mayShow_73 : decode cX3_mayShow 73 = .ok (.if_icmp .lt 39, 3) := by decide +kernel
theorem dX3_mayShow_76 : decode cX3_mayShow 76 = .ok (.aload_n 0, 1) := by decide +kernel
theorem dX3_mayShow_77 : decode cX3_mayShow 77 = .ok (.getfield 28, 3) := by decide +kernel
theorem dX3_mayShow_80 : decode cX3_mayShow 80 = .ok (.iload 5, 2) := by decide +kernel
theorem dX3_mayShow_82 : decode cX3_mayShow 82 = .ok (.iaload, 1) := by decide +kernel
theorem dX3_mayShow_83 : decode cX3_mayShow 83 = .ok (.iload_n 1, 1) := by decide +kernel
theorem dX3_mayShow_84 : decode cX3_mayShow 84 = .ok (.iconst (-1), 1) := by decide +kernel
theorem dX3_mayShow_85 : decode cX3_mayShow 85 = .ok (.ixor, 1) := by decide +kernel
theorem dX3_mayShow_86 : decode cX3_mayShow 86 = .ok (.iand, 1) := by decide +kernel
theorem dX3_mayShow_87 : decode cX3_mayShow 87 = .ok (.ifCond .ne 25, 3) := by decide +kernel
theorem dX3_mayShow_90 : decode cX3_mayShow 90 = .ok (.lload_n 2, 1) := by decide +kernel
theorem dX3_mayShow_91 : decode cX3_mayShow 91 = .ok (.aload_n 0, 1) := by decide +kernel
theorem dX3_mayShow_92 : decode cX3_mayShow 92 = .ok (.getfield 9, 3) := by decide +kernel
theorem dX3_mayShow_95 : decode cX3_mayShow 95 = .ok (.iload 5, 2) := by decide +kernel
theorem dX3_mayShow_97 : decode cX3_mayShow 97 = .ok (.laload, 1) := by decide +kernel
theorem dX3_mayShow_98 : decode cX3_mayShow 98 = .ok (.lor, 1) := by decide +kernel
theorem dX3_mayShow_99 : decode cX3_mayShow 99 = .ok (.lstore_n 2, 1) := by decide +kernel
theorem dX3_mayShow_100 : decode cX3_mayShow 100 = .ok (.iload 4, 2) := by decide +kernel
theorem dX3_mayShow_102 : decode cX3_mayShow 102 = .ok (.aload_n 0, 1) := by decide +kernel
theorem dX3_mayShow_103 : decode cX3_mayShow 103 = .ok (.getfield 28, 3) := by decide +kernel
theorem dX3_mayShow_106 : decode cX3_mayShow 106 = .ok (.iload 5, 2) := by decide +kernel
theorem dX3_mayShow_108 : decode cX3_mayShow 108 = .ok (.iaload, 1) := by decide +kernel
theorem dX3_mayShow_109 : decode cX3_mayShow 109 = .ok (.ior, 1) := by decide +kernel
theorem dX3_mayShow_110 : decode cX3_mayShow 110 = .ok (.istore 4, 2) := by decide +kernel
theorem dX3_mayShow_112 : decode cX3_mayShow 112 = .ok (.iinc 5 1, 3) := by decide +kernel
theorem dX3_mayShow_115 : decode cX3_mayShow 115 = .ok (.goto (-107), 3) := by decide +kernel
theorem dX3_mayShow_118 : decode cX3_mayShow 118 = .ok (.iload 4, 2) := by decide +kernel
theorem dX3_mayShow_120 : decode cX3_mayShow 120 = .ok (.iload_n 1, 1) := by decide +kernel
theorem dX3_mayShow_121 : decode cX3_mayShow 121 = .ok (.if_icmp .ne 16, 3) := by decide +kernel
theorem dX3_mayShow_124 : decode cX3_mayShow 124 = .ok (.lload_n 2, 1) := by decide +kernel
theorem dX3_mayShow_125 : decode cX3_mayShow 125 = .ok (.aload_n 0, 1) := by decide +kernel
theorem dX3_mayShow_126 : decode cX3_mayShow 126 = .ok (.getfield 34, 3) := by decide +kernel
theorem dX3_mayShow_129 : decode cX3_mayShow 129 = .ok (.lcmp, 1) := by decide +kernel
theorem dX3_mayShow_130 : decode cX3_mayShow 130 = .ok (.ifCond .ne 7, 3) := by decide +kernel
theorem dX3_mayShow_133 : decode cX3_mayShow 133 = .ok (.iconst 1, 1) := by decide +kernel
theorem dX3_mayShow_134 : decode cX3_mayShow 134 = .ok (.goto 4, 3) := by decide +kernel
theorem dX3_mayShow_137 : decode cX3_mayShow 137 = .ok (.iconst 0, 1) := by decide +kernel
theorem dX3_mayShow_138 : decode cX3_mayShow 138 = .ok (.ireturn, 1) := by decide +kernel
theorem dX4_init_0 : decode cX4_init 0 = .ok (.aload_n 0, 1) := by decide +kernel
theorem dX4_init_1 : decode cX4_init 1 = .ok (.invokespecial 3, 3) := by decide +kernel
theorem dX4_init_4 : decode cX4_init 4 = .ok (.aload_n 0, 1) := by decide +kernel
theorem dX4_init_5 : decode cX4_init 5 = .ok (.iconst 3, 1) := by decide +kernel
theorem dX4_init_6 : decode cX4_init 6 = .ok (.iconst 4, 1) := by decide +kernel
theorem dX4_init_7 : decode cX4_init 7 = .ok (.multianewarray 11 2, 4) := by decide +kernel
theorem dX4_init_11 : decode cX4_init 11 = .ok (.putfield 13, 3) := by decide +kernel
theorem dX4_init_14 : decode cX4_init 14 = .ok (.aload_n 0, 1) := by decide +kernel
theorem dX4_init_15 : decode cX4_init 15 = .ok (.iconst 4, 1) := by decide +kernel
theorem dX4_init_16 : decode cX4_init 16 = .ok (.iconst 4, 1) := by decide +kernel
theorem dX4_init_17 : decode cX4_init 17 = .ok (.multianewarray 11 2, 4) := by decide +kernel
theorem dX4_init_21 : decode cX4_init 21 = .ok (.putfield 16, 3) := by decide +kernel
theorem dX4_init_24 : decode cX4_init 24 = .ok (.aload_n 0, 1) := by decide +kernel
theorem dX4_init_25 : decode cX4_init 25 = .ok (.bipush 6, 2) := by decide +kernel
theorem dX4_init_27 : decode cX4_init 27 = .ok (.newarray .int, 2) := by decide +kernel
theorem dX4_init_29 : decode cX4_init 29 = .ok (.putfield 19, 3) := by decide +kernel
theorem dX4_init_32 : decode cX4_init 32 = .ok (.return_, 1) := by decide +kernel
theorem dX4_clear_0 : decode cX4_clear 0 = .ok (.aload_n 0, 1) := by decide +kernel
theorem dX4_clear_1 : decode cX4_clear 1 = .ok (.iconst 0, 1) := by decide +kernel
theorem dX4_clear_2 : decode cX4_clear 2 = .ok (.putfield 23, 3) := by decide +kernel
theorem dX4_clear_5 : decode cX4_clear 5 = .ok (.aload_n 0, 1) := by decide +kernel
theorem dX4_clear_6 : decode cX4_clear 6 = .ok (.iconst 0, 1) := by decide +kernel
theorem dX4_clear_7 : decode cX4_clear 7 = .ok (.putfield 27, 3) := by decide +kernel
theorem dX4_clear_10 : decode cX4_clear 10 = .ok (.aload_n 0, 1) := by decide +kernel
theorem dX4_clear_11 : decode cX4_clear 11 = .ok (.iconst 0, 1) := by decide +kernel
theorem dX4_clear_12 : decode cX4_clear 12 = .ok (.putfield 30, 3) := by decide +kernel
theorem dX4_clear_15 : decode cX4_clear 15 = .ok (.return_, 1) := by decide +kernel
theorem dX4_hasHill_0 : decode cX4_hasHill 0 = .ok (.iload_n 1, 1) := by decide +kernel
theorem dX4_hasHill_1 : decode cX4_hasHill 1 = .ok (.aload_n 0, 1) := by decide +kernel
theorem dX4_hasHill_2 : decode cX4_hasHill 2 = .ok (.getfield 23, 3) := by decide +kernel
theorem dX4_hasHill_5 : decode cX4_hasHill 5 = .ok (.invokestatic 33, 3) := by decide +kernel
theorem dX4_hasHill_8 : decode cX4_hasHill 8 = .ok (.ireturn, 1) := by decide +kernel
theorem dX4_hasCliff_0 : decode cX4_hasCliff 0 = .ok (.aload_n 0, 1) := by decide +kernel
theorem dX4_hasCliff_1 : decode cX4_hasCliff 1 = .ok (.getfield 30, 3) := by decide +kernel
theorem dX4_hasCliff_4 : decode cX4_hasCliff 4 = .ok (.iload_n 1, 1) := by decide +kernel
theorem dX4_hasCliff_5 : decode cX4_hasCliff 5 = .ok (.ishr, 1) := by decide +kernel
theorem dX4_hasCliff_6 : decode cX4_hasCliff 6 = .ok (.iconst 1, 1) := by decide +kernel
theorem dX4_hasCliff_7 : decode cX4_hasCliff 7 = .ok (.iand, 1) := by decide +kernel
theorem dX4_hasCliff_8 : decode cX4_hasCliff 8 = .ok (.ifCond .eq 7, 3) := by decide +kernel
theorem dX4_hasCliff_11 : decode cX4_hasCliff 11 = .ok (.iconst 1, 1) := by decide +kernel
theorem dX4_hasCliff_12 : decode cX4_hasCliff 12 = .ok (.goto 4, 3) := by decide +kernel
theorem dX4_hasCliff_15 : decode cX4_hasCliff 15 = .ok (.iconst 0, 1) := by decide +kernel
theorem dX4_hasCliff_16 : decode cX4_hasCliff 16 = .ok (.ireturn, 1) := by decide +kernel
theorem dX4_addHill_0 : decode cX4_addHill 0 = .ok (.aload_n 0, 1) := by decide +kernel
theorem dX4_addHill_1 : decode cX4_addHill 1 = .ok (.getfield 23, 3) := by decide +kernel
theorem dX4_addHill_4 : decode cX4_addHill 4 = .ok (.iconst 3, 1) := by decide +kernel
theorem dX4_addHill_5 : decode cX4_addHill 5 = .ok (.if_icmp .ge 26, 3) := by decide +kernel
theorem dX4_addHill_8 : decode cX4_addHill 8 = .ok (.aload_n 1, 1) := by decide +kernel
theorem dX4_addHill_9 : decode cX4_addHill 9 = .ok (.aload_n 0, 1) := by decide +kernel
theorem dX4_addHill_10 : decode cX4_addHill 10 = .ok (.getfield 13, 3) := by decide +kernel
theorem dX4_addHill_13 : decode cX4_addHill 13 = .ok (.aload_n 0, 1) := by decide +kernel
theorem dX4_addHill_14 : decode cX4_addHill 14 = .ok (.getfield 23, 3) := by decide +kernel
theorem dX4_addHill_17 : decode cX4_addHill 17 = .ok (.aaload, 1) := by decide +kernel
theorem dX4_addHill_18 : decode cX4_addHill 18 = .ok (.invokestatic 37, 3) := by decide +kernel
theorem dX4_addHill_21 : decode cX4_addHill 21 = .ok (.aload_n 0, 1) := by decide +kernel
theorem dX4_addHill_22 : decode cX4_addHill 22 = .ok (.dup, 1) := by decide +kernel
theorem dX4_addHill_23 : decode cX4_addHill 23 = .ok (.getfield 23, 3) := by decide +kernel
theorem dX4_addHill_26 : decode cX4_addHill 26 = .ok (.iconst 1, 1) := by decide +kernel
theorem dX4_addHill_27 : decode cX4_addHill 27 = .ok (.iadd, 1) := by decide +kernel
theorem dX4_addHill_28 : decode cX4_addHill 28 = .ok (.putfield 23, 3) := by decide +kernel
theorem dX4_addHill_31 : decode cX4_addHill 31 = .ok (.return_, 1) := by decide +kernel
theorem dX4_addCloud_0 : decode cX4_addCloud 0 = .ok (.aload_n 0, 1) := by decide +kernel
theorem dX4_addCloud_1 : decode cX4_addCloud 1 = .ok (.getfield 27, 3) := by decide +kernel
theorem dX4_addCloud_4 : decode cX4_addCloud 4 = .ok (.iconst 4, 1) := by decide +kernel
theorem dX4_addCloud_5 : decode cX4_addCloud 5 = .ok (.if_icmp .ge 26, 3) := by decide +kernel
theorem dX4_addCloud_8 : decode cX4_addCloud 8 = .ok (.aload_n 1, 1) := by decide +kernel
theorem dX4_addCloud_9 : decode cX4_addCloud 9 = .ok (.aload_n 0, 1) := by decide +kernel
theorem dX4_addCloud_10 : decode cX4_addCloud 10 = .ok (.getfield 16, 3) := by decide +kernel
theorem dX4_addCloud_13 : decode cX4_addCloud 13 = .ok (.aload_n 0, 1) := by decide +kernel
theorem dX4_addCloud_14 : decode cX4_addCloud 14 = .ok (.getfield 27, 3) := by decide +kernel
theorem dX4_addCloud_17 : decode cX4_addCloud 17 = .ok (.aaload, 1) := by decide +kernel
theorem dX4_addCloud_18 : decode cX4_addCloud 18 = .ok (.invokestatic 37, 3) := by decide +kernel
theorem dX4_addCloud_21 : decode cX4_addCloud 21 = .ok (.aload_n 0, 1) := by decide +kernel
theorem dX4_addCloud_22 : decode cX4_addCloud 22 = .ok (.dup, 1) := by decide +kernel
theorem dX4_addCloud_23 : decode cX4_addCloud 23 = .ok (.getfield 27, 3) := by decide +kernel
theorem dX4_addCloud_26 : decode cX4_addCloud 26 = .ok (.iconst 1, 1) := by decide +kernel
theorem dX4_addCloud_27 : decode cX4_addCloud 27 = .ok (.iadd, 1) := by decide +kernel
theorem dX4_addCloud_28 : decode cX4_addCloud 28 = .ok (.putfield 27, 3) := by decide +kernel
theorem dX4_addCloud_31 : decode cX4_addCloud 31 = .ok (.return_, 1) := by decide +kernel
theorem dX4_addCliff_0 : decode cX4_addCliff 0 = .ok (.iload_n 1, 1) := by decide +kernel
theorem dX4_addCliff_1 : decode cX4_addCliff 1 = .ok (.bipush 6, 2) := by decide +kernel
theorem dX4_addCliff_3 : decode cX4_addCliff 3 = .ok (.invokestatic 33, 3) := by decide +kernel
theorem dX4_addCliff_6 : decode cX4_addCliff 6 = .ok (.ifCond .eq 22, 3) := by decide +kernel
theorem dX4_addCliff_9 : decode cX4_addCliff 9 = .ok (.aload_n 0, 1) := by decide +kernel
theorem dX4_addCliff_10 : decode cX4_addCliff 10 = .ok (.dup, 1) := by decide +kernel
theorem dX4_addCliff_11 : decode cX4_addCliff 11 = .ok (.getfield 30, 3) := by decide +kernel
theorem dX4_addCliff_14 : decode cX4_addCliff 14 = .ok (.iconst 1, 1) := by decide +kernel
theorem dX4_addCliff_15 : decode cX4_addCliff 15 = .ok (.iload_n 1, 1) := by decide +kernel
theorem dX4_addCliff_16 : decode cX4_addCliff 16 = .ok (.ishl, 1) := by decide +kernel
theorem dX4_addCliff_17 : decode cX4_addCliff 17 = .ok (.ior, 1) := by decide +kernel
theorem dX4_addCliff_18 : decode cX4_addCliff 18 = .ok (.putfield 30, 3) := by decide +kernel
theorem dX4_addCliff_21 : decode cX4_addCliff 21 = .ok (.aload_n 0, 1) := by decide +kernel
theorem dX4_addCliff_22 : decode cX4_addCliff 22 = .ok (.getfield 19, 3) := by decide +kernel
theorem dX4_addCliff_25 : decode cX4_addCliff 25 = .ok (.iload_n 1, 1) := by decide +kernel
theorem dX4_addCliff_26 : decode cX4_addCliff 26 = .ok (.iload_n 2, 1) := by decide +kernel
theorem dX4_addCliff_27 : decode cX4_addCliff 27 = .ok (.iastore, 1) := by decide +kernel
theorem dX4_addCliff_28 : decode cX4_addCliff 28 = .ok (.return_, 1) := by decide +kernel
theorem dX4_sunnyCells_0 : decode cX4_sunnyCells 0 = .ok (.aload_n 0, 1) := by decide +kernel
theorem dX4_sunnyCells_1 : decode cX4_sunnyCells 1 = .ok (.iload_n 2, 1) := by decide +kernel
theorem dX4_sunnyCells_2 : decode cX4_sunnyCells 2 = .ok (.invokevirtual 41, 3) := by decide +kernel
theorem dX4_sunnyCells_5 : decode cX4_sunnyCells 5 = .ok (.ifCond .eq 15, 3) := by decide +kernel
theorem dX4_sunnyCells_8 : decode cX4_sunnyCells 8 = .ok (.iload_n 1, 1) := by decide +kernel
theorem dX4_sunnyCells_9 : decode cX4_sunnyCells 9 = .ok (.aload_n 0, 1) := by decide +kernel
theorem dX4_sunnyCells_10 : decode cX4_sunnyCells 10 = .ok (.getfield 19, 3) := by decide +kernel
theorem dX4_sunnyCells_13 : decode cX4_sunnyCells 13 = .ok (.iload_n 2, 1) := by decide +kernel
theorem dX4_sunnyCells_14 : decode cX4_sunnyCells 14 = .ok (.iaload, 1) := by decide +kernel
theorem dX4_sunnyCells_15 : decode cX4_sunnyCells 15 = .ok (.if_icmp .ge 5, 3) := by decide +kernel
theorem dX4_sunnyCells_18 : decode cX4_sunnyCells 18 = .ok (.iconst 0, 1) := by decide +kernel
theorem dX4_sunnyCells_19 : decode cX4_sunnyCells 19 = .ok (.ireturn, 1) := by decide +kernel
theorem dX4_sunnyCells_20 : decode cX4_sunnyCells 20 = .ok (.sipush 1023, 3) := by decide +kernel
theorem dX4_sunnyCells_23 : decode cX4_sunnyCells 23 = .ok (.istore_n 3, 1) := by decide +kernel
theorem dX4_sunnyCells_24 : decode cX4_sunnyCells 24 = .ok (.iconst 0, 1) := by decide +kernel
theorem dX4_sunnyCells_25 : decode cX4_sunnyCells 25 = .ok (.istore 4, 2) := by decide +kernel
theorem dX4_sunnyCells_27 : decode cX4_sunnyCells 27 = .ok (.iload 4, 2) := by decide +kernel
theorem dX4_sunnyCells_29 : decode cX4_sunnyCells 29 = .ok (.aload_n 0, 1) := by decide +kernel
theorem dX4_sunnyCells_30 : decode cX4_sunnyCells 30 = .ok (.getfield 27, 3) := by decide +kernel
theorem dX4_sunnyCells_33 : decode cX4_sunnyCells 33 = .ok (.if_icmp .ge 50, 3) := by decide +kernel
theorem dX4_sunnyCells_36 : decode cX4_sunnyCells 36 = .ok (.aload_n 0, 1) := by decide +kernel
theorem dX4_sunnyCells_37 : decode cX4_sunnyCells 37 = .ok (.getfield 16, 3) := by decide +kernel
theorem dX4_sunnyCells_40 : decode cX4_sunnyCells 40 = .ok (.iload 4, 2) := by decide +kernel
theorem dX4_sunnyCells_42 : decode cX4_sunnyCells 42 = .ok (.aaload, 1) := by decide +kernel
theorem dX4_sunnyCells_43 : decode cX4_sunnyCells 43 = .ok (.astore 5, 2) := by decide +kernel
theorem dX4_sunnyCells_45 : decode cX4_sunnyCells 45 = .ok (.iload_n 1, 1) := by decide +kernel
theorem dX4_sunnyCells_46 : decode cX4_sunnyCells 46 = .ok (.aload 5, 2) := by decide +kernel
theorem dX4_sunnyCells_48 : decode cX4_sunnyCells 48 = .ok (.iconst 2, 1) := by decide +kernel
theorem dX4_sunnyCells_49 : decode cX4_sunnyCells 49 = .ok (.iaload, 1) := by decide +kernel
theorem dX4_sunnyCells_50 : decode cX4_sunnyCells 50 = .ok (.if_icmp .lt 27, 3) := by decide +kernel
theorem dX4_sunnyCells_53 : decode cX4_sunnyCells 53 = .ok (.iload_n 1, 1) := by decide +kernel
theorem dX4_sunnyCells_54 : decode cX4_sunnyCells 54 = .ok (.aload 5, 2) := by decide +kernel
theorem dX4_sunnyCells_56 : decode cX4_sunnyCells 56 = .ok (.iconst 3, 1) := by decide +kernel
theorem dX4_sunnyCells_57 : decode cX4_sunnyCells 57 = .ok (.iaload, 1) := by decide +kernel
theorem dX4_sunnyCells_58 : decode cX4_sunnyCells 58 = .ok (.if_icmp .gt 19, 3) := by decide +kernel
theorem dX4_sunnyCells_61 : decode cX4_sunnyCells 61 = .ok (.iload_n 3, 1) := by decide +kernel
theorem dX4_sunnyCells_62 : decode cX4_sunnyCells 62 = .ok (.aload 5, 2) := by decide +kernel
theorem dX4_sunnyCells_64 : decode cX4_sunnyCells 64 = .ok (.iconst 0, 1) := by decide +kernel
theorem dX4_sunnyCells_65 : decode cX4_sunnyCells 65 = .ok (.iaload, 1) := by decide +kernel
theorem dX4_sunnyCells_66 : decode cX4_sunnyCells 66 = .ok (.aload 5, 2) := by decide +kernel
theorem dX4_sunnyCells_68 : decode cX4_sunnyCells 68 = .ok (.iconst 1, 1) := by decide +kernel
theorem dX4_sunnyCells_69 : decode cX4_sunnyCells 69 = .ok (.iaload, 1) := by decide +kernel
theorem dX4_sunnyCells_70 : decode cX4_sunnyCells 70 = .ok (.invokestatic 45, 3) := by decide +kernel
theorem dX4_sunnyCells_73 : decode cX4_sunnyCells 73 = .ok (.iconst (-1), 1) := by decide +kernel
theorem dX4_sunnyCells_74 : decode cX4_sunnyCells 74 = .ok (.ixor, 1) := by decide +kernel
theorem dX4_sunnyCells_75 : decode cX4_sunnyCells 75 = .ok (.iand, 1) := by decide +kernel
theorem dX4_sunnyCells_76 : decode cX4_sunnyCells 76 = .ok (.istore_n 3, 1) := by decide +kernel
theorem dX4_sunnyCells_77 : decode cX4_sunnyCells 77 = .ok (.iinc 4 1, 3) := by decide +kernel
theorem dX4_sunnyCells_80 : decode cX4_sunnyCells 80 = .ok (.goto (-53), 3) := by decide +kernel
theorem dX4_sunnyCells_83 : decode cX4_sunnyCells 83 = .ok (.iload_n 3, 1) := by decide +kernel
theorem dX4_sunnyCells_84 : decode cX4_sunnyCells 84 = .ok (.ireturn, 1) := by decide +kernel
theorem dX4_view_0 : decode cX4_view 0 = .ok (.aload_n 0, 1) := by decide +kernel
theorem dX4_view_1 : decode cX4_view 1 = .ok (.getfield 13, 3) := by decide +kernel
theorem dX4_view_4 : decode cX4_view 4 = .ok (.iload_n 1, 1) := by decide +kernel
theorem dX4_view_5 : decode cX4_view 5 = .ok (.aaload, 1) := by decide +kernel
theorem dX4_view_6 : decode cX4_view 6 = .ok (.astore_n 3, 1) := by decide +kernel
theorem dX4_view_7 : decode cX4_view 7 = .ok (.iload_n 2, 1) := by decide +kernel
theorem dX4_view_8 : decode cX4_view 8 = .ok (.aload_n 3, 1) := by decide +kernel
theorem dX4_view_9 : decode cX4_view 9 = .ok (.iconst 2, 1) := by decide +kernel
theorem dX4_view_10 : decode cX4_view 10 = .ok (.iaload, 1) := by decide +kernel
theorem dX4_view_11 : decode cX4_view 11 = .ok (.if_icmp .lt 22, 3) := by decide +kernel
theorem dX4_view_14 : decode cX4_view 14 = .ok (.iload_n 2, 1) := by decide +kernel
theorem dX4_view_15 : decode cX4_view 15 = .ok (.aload_n 3, 1) := by decide +kernel
theorem dX4_view_16 : decode cX4_view 16 = .ok (.iconst 3, 1) := by decide +kernel
theorem dX4_view_17 : decode cX4_view 17 = .ok (.iaload, 1) := by decide +kernel
theorem dX4_view_18 : decode cX4_view 18 = .ok (.if_icmp .gt 15, 3) := by decide +kernel
theorem dX4_view_21 : decode cX4_view 21 = .ok (.aload_n 3, 1) := by decide +kernel
theorem dX4_view_22 : decode cX4_view 22 = .ok (.iconst 0, 1) := by decide +kernel
theorem dX4_view_23 : decode cX4_view 23 = .ok (.iaload, 1) := by decide +kernel
theorem dX4_view_24 : decode cX4_view 24 = .ok (.aload_n 3, 1) := by decide +kernel
theorem dX4_view_25 : decode cX4_view 25 = .ok (.iconst 1, 1) := by decide +kernel
theorem dX4_view_26 : decode cX4_view 26 = .ok (.iaload, 1) := by decide +kernel
theorem dX4_view_27 : decode cX4_view 27 = .ok (.invokestatic 45, 3) := by decide +kernel
theorem dX4_view_30 : decode cX4_view 30 = .ok (.goto 4, 3) := by decide +kernel
theorem dX4_view_33 : decode cX4_view 33 = .ok (.iconst 0, 1) := by decide +kernel
theorem dX4_view_34 : decode cX4_view 34 = .ok (.ireturn, 1) := by decide +kernel
theorem dX4_copyFrom_0 : decode cX4_copyFrom 0 = .ok (.aload_n 0, 1) := by decide +kernel
theorem dX4_copyFrom_1 : decode cX4_copyFrom 1 = .ok (.aload_n 1, 1) := by decide +kernel
theorem dX4_copyFrom_2 : decode cX4_copyFrom 2 = .ok (.getfield 23, 3) := by decide +kernel
theorem dX4_copyFrom_5 : decode cX4_copyFrom 5 = .ok (.putfield 23, 3) := by decide +kernel
theorem dX4_copyFrom_8 : decode cX4_copyFrom 8 = .ok (.iconst 0, 1) := by decide +kernel
theorem dX4_copyFrom_9 : decode cX4_copyFrom 9 = .ok (.istore_n 2, 1) := by decide +kernel
theorem dX4_copyFrom_10 : decode cX4_copyFrom 10 = .ok (.iload_n 2, 1) := by decide +kernel
theorem dX4_copyFrom_11 : decode cX4_copyFrom 11 = .ok (.aload_n 0, 1) := by decide +kernel
theorem dX4_copyFrom_12 : decode cX4_copyFrom 12 = .ok (.getfield 23, 3) := by decide +kernel
theorem dX4_copyFrom_15 : decode cX4_copyFrom 15 = .ok (.if_icmp .ge 24, 3) := by decide +kernel
theorem dX4_copyFrom_18 : decode cX4_copyFrom 18 = .ok (.aload_n 1, 1) := by decide +kernel
theorem dX4_copyFrom_19 : decode cX4_copyFrom 19 = .ok (.getfield 13, 3) := by decide +kernel
theorem dX4_copyFrom_22 : decode cX4_copyFrom 22 = .ok (.iload_n 2, 1) := by decide +kernel
theorem dX4_copyFrom_23 : decode cX4_copyFrom 23 = .ok (.aaload, 1) := by decide +kernel
theorem dX4_copyFrom_24 : decode cX4_copyFrom 24 = .ok (.aload_n 0, 1) := by decide +kernel
theorem dX4_copyFrom_25 : decode cX4_copyFrom 25 = .ok (.getfield 13, 3) := by decide +kernel
theorem dX4_copyFrom_28 : decode cX4_copyFrom 28 = .ok (.iload_n 2, 1) := by decide +kernel
theorem dX4_copyFrom_29 : decode cX4_copyFrom 29 = .ok (.aaload, 1) := by decide +kernel
theorem dX4_copyFrom_30 : decode cX4_copyFrom 30 = .ok (.invokestatic 37, 3) := by decide +kernel
theorem dX4_copyFrom_33 : decode cX4_copyFrom 33 = .ok (.iinc 2 1, 3) := by decide +kernel
theorem dX4_copyFrom_36 : decode cX4_copyFrom 36 = .ok (.goto (-26), 3) := by decide +kernel
theorem dX4_copyFrom_39 : decode cX4_copyFrom 39 = .ok (.aload_n 0, 1) := by decide +kernel
theorem dX4_copyFrom_40 : decode cX4_copyFrom 40 = .ok (.aload_n 1, 1) := by decide +kernel
theorem dX4_copyFrom_41 : decode cX4_copyFrom 41 = .ok (.getfield 27, 3) := by decide +kernel
theorem dX4_copyFrom_44 : decode cX4_copyFrom 44 = .ok (.putfield 27, 3) := by decide +kernel
theorem dX4_copyFrom_47 : decode cX4_copyFrom 47 = .ok (.iconst 0, 1) := by decide +kernel
theorem dX4_copyFrom_48 : decode cX4_copyFrom 48 = .ok (.istore_n 2, 1) := by decide +kernel
theorem dX4_copyFrom_49 : decode cX4_copyFrom 49 = .ok (.iload_n 2, 1) := by decide +kernel
theorem dX4_copyFrom_50 : decode cX4_copyFrom 50 = .ok (.aload_n 0, 1) := by decide +kernel
theorem dX4_copyFrom_51 : decode cX4_copyFrom 51 = .ok (.getfield 27, 3) := by decide +kernel
theorem dX4_copyFrom_54 : decode cX4_copyFrom 54 = .ok (.if_icmp .ge 24, 3) := by decide +kernel
theorem dX4_copyFrom_57 : decode cX4_copyFrom 57 = .ok (.aload_n 1, 1) := by decide +kernel
theorem dX4_copyFrom_58 : decode cX4_copyFrom 58 = .ok (.getfield 16, 3) := by decide +kernel
theorem dX4_copyFrom_61 : decode cX4_copyFrom 61 = .ok (.iload_n 2, 1) := by decide +kernel
theorem dX4_copyFrom_62 : decode cX4_copyFrom 62 = .ok (.aaload, 1) := by decide +kernel
theorem dX4_copyFrom_63 : decode cX4_copyFrom 63 = .ok (.aload_n 0, 1) := by decide +kernel
theorem dX4_copyFrom_64 : decode cX4_copyFrom 64 = .ok (.getfield 16, 3) := by decide +kernel
theorem dX4_copyFrom_67 : decode cX4_copyFrom 67 = .ok (.iload_n 2, 1) := by decide +kernel
theorem dX4_copyFrom_68 : decode cX4_copyFrom 68 = .ok (.aaload, 1) := by decide +kernel
theorem dX4_copyFrom_69 : decode cX4_copyFrom 69 = .ok (.invokestatic 37, 3) := by decide +kernel
theorem dX4_copyFrom_72 : decode cX4_copyFrom 72 = .ok (.iinc 2 1, 3) := by decide +kernel
theorem dX4_copyFrom_75 : decode cX4_copyFrom 75 = .ok (.goto (-26), 3) := by decide +kernel
theorem dX4_copyFrom_78 : decode cX4_copyFrom 78 = .ok (.aload_n 0, 1) := by decide +kernel
theorem dX4_copyFrom_79 : decode cX4_copyFrom 79 = .ok (.aload_n 1, 1) := by decide +kernel
theorem dX4_copyFrom_80 : decode cX4_copyFrom 80 = .ok (.getfield 30, 3) := by decide +kernel
theorem dX4_copyFrom_83 : decode cX4_copyFrom 83 = .ok (.putfield 30, 3) := by decide +kernel
theorem dX4_copyFrom_86 : decode cX4_copyFrom 86 = .ok (.aload_n 1, 1) := by decide +kernel
theorem dX4_copyFrom_87 : decode cX4_copyFrom 87 = .ok (.getfield 19, 3) := by decide +kernel
theorem dX4_copyFrom_90 : decode cX4_copyFrom 90 = .ok (.iconst 0, 1) := by decide +kernel
theorem dX4_copyFrom_91 : decode cX4_copyFrom 91 = .ok (.aload_n 0, 1) := by decide +kernel
theorem dX4_copyFrom_92 : decode cX4_copyFrom 92 = .ok (.getfield 19, 3) := by decide +kernel
theorem dX4_copyFrom_95 : decode cX4_copyFrom 95 = .ok (.iconst 0, 1) := by decide +kernel
theorem dX4_copyFrom_96 : decode cX4_copyFrom 96 = .ok (.bipush 6, 2) := by decide +kernel
theorem dX4_copyFrom_98 : decode cX4_copyFrom 98 = .ok (.invokestatic 49, 3) := by decide +kernel
theorem dX4_copyFrom_101 : decode cX4_copyFrom 101 = .ok (.return_, 1) := by decide +kernel
theorem dX4_copyFour_0 : decode cX4_copyFour 0 = .ok (.aload_n 0, 1) := by decide +kernel
theorem dX4_copyFour_1 : decode cX4_copyFour 1 = .ok (.iconst 0, 1) := by decide +kernel
theorem dX4_copyFour_2 : decode cX4_copyFour 2 = .ok (.aload_n 1, 1) := by decide +kernel
theorem dX4_copyFour_3 : decode cX4_copyFour 3 = .ok (.iconst 0, 1) := by decide +kernel
theorem dX4_copyFour_4 : decode cX4_copyFour 4 = .ok (.iconst 4, 1) := by decide +kernel
theorem dX4_copyFour_5 : decode cX4_copyFour 5 = .ok (.invokestatic 49, 3) := by decide +kernel
theorem dX4_copyFour_8 : decode cX4_copyFour 8 = .ok (.return_, 1) := by decide +kernel
theorem dX5_init_0 : decode cX5_init 0 = .ok (.aload_n 0, 1) := by decide +kernel
theorem dX5_init_1 : decode cX5_init 1 = .ok (.invokespecial 3, 3) := by decide +kernel
theorem dX5_init_4 : decode cX5_init 4 = .ok (.aload_n 0, 1) := by decide +kernel
theorem dX5_init_5 : decode cX5_init 5 = .ok (.new 9, 3) := by decide +kernel
theorem dX5_init_8 : decode cX5_init 8 = .ok (.dup, 1) := by decide +kernel
theorem dX5_init_9 : decode cX5_init 9 = .ok (.invokespecial 11, 3) := by decide +kernel
theorem dX5_init_12 : decode cX5_init 12 = .ok (.putfield 12, 3) := by decide +kernel
theorem dX5_init_15 : decode cX5_init 15 = .ok (.aload_n 0, 1) := by decide +kernel
theorem dX5_init_16 : decode cX5_init 16 = .ok (.iconst 4, 1) := by decide +kernel
theorem dX5_init_17 : decode cX5_init 17 = .ok (.newarray .int, 2) := by decide +kernel
theorem dX5_init_19 : decode cX5_init 19 = .ok (.putfield 18, 3) := by decide +kernel
theorem dX5_init_22 : decode cX5_init 22 = .ok (.return_, 1) := by decide +kernel
theorem dX5_firstFault_0 : decode cX5_firstFault 0 = .ok (.aload_n 0, 1) := by decide +kernel
theorem dX5_firstFault_1 : decode cX5_firstFault 1 = .ok (.getfield 12, 3) := by decide +kernel
theorem dX5_firstFault_4 : decode cX5_firstFault 4 = .ok (.invokevirtual 22, 3) := by decide +kernel
theorem dX5_firstFault_7 : decode cX5_firstFault 7 = .ok (.aload_n 0, 1) := by decide +kernel
theorem dX5_firstFault_8 : decode cX5_firstFault 8 = .ok (.iconst 0, 1) := by decide +kernel
theorem dX5_firstFault_9 : decode cX5_firstFault 9 = .ok (.putfield 25, 3) := by decide +kernel
theorem dX5_firstFault_12 : decode cX5_firstFault 12 = .ok (.aload_n 0, 1) := by decide +kernel
theorem dX5_firstFault_13 : decode cX5_firstFault 13 = .ok (.iconst 0, 1) := by decide +kernel
theorem dX5_firstFault_14 : decode cX5_firstFault 14 = .ok (.putfield 29, 3) := by decide +kernel
theorem dX5_firstFault_17 : decode cX5_firstFault 17 = .ok (.aload_n 0, 1) := by decide +kernel
theorem dX5_firstFault_18 : decode cX5_firstFault 18 = .ok (.iconst 0, 1) := by decide +kernel
theorem dX5_firstFault_19 : decode cX5_firstFault 19 = .ok (.putfield 32, 3) := by decide +kernel
theorem dX5_firstFault_22 : decode cX5_firstFault 22 = .ok (.iconst 0, 1) := by decide +kernel
theorem dX5_firstFault_23 : decode cX5_firstFault 23 = .ok (.istore_n 2, 1) := by decide +kernel
theorem dX5_firstFault_24 : decode cX5_firstFault 24 = .ok (.iload_n 2, 1) := by decide +kernel
theorem dX5_firstFault_25 : decode cX5_firstFault 25 = .ok (.aload_n 1, 1) := by decide +kernel
theorem dX5_firstFault_26 : decode cX5_firstFault 26 = .ok (.getfield 36, 3) := by decide +kernel
theorem dX5_firstFault_29 : decode cX5_firstFault 29 = .ok (.if_icmp .ge 28, 3) := by decide +kernel
theorem dX5_firstFault_32 : decode cX5_firstFault 32 = .ok (.aload_n 0, 1) := by decide +kernel
theorem dX5_firstFault_33 : decode cX5_firstFault 33 = .ok (.aload_n 1, 1) := by decide +kernel
theorem dX5_firstFault_34 : decode cX5_firstFault 34 = .ok (.getfield 41, 3) := by decide +kernel
theorem dX5_firstFault_37 : decode cX5_firstFault 37 = .ok (.iload_n 2, 1) := by decide +kernel
theorem dX5_firstFault_38 : decode cX5_firstFault 38 = .ok (.baload, 1) := by decide +kernel
theorem dX5_firstFault_39 : decode cX5_firstFault 39 = .ok (.sipush 255, 3) := by decide +kernel
theorem dX5_firstFault_42 : decode cX5_firstFault 42 = .ok (.iand, 1) := by decide +kernel
theorem dX5_firstFault_43 : decode cX5_firstFault 43 = .ok (.invokevirtual 45, 3) := by decide +kernel
theorem dX5_firstFault_46 : decode cX5_firstFault 46 = .ok (.ifCond .ne 5, 3) := by decide +kernel
theorem dX5_firstFault_49 : decode cX5_firstFault 49 = .ok (.iload_n 2, 1) := by decide +kernel
theorem dX5_firstFault_50 : decode cX5_firstFault 50 = .ok (.ireturn, 1) := by decide +kernel
theorem dX5_firstFault_51 : decode cX5_firstFault 51 = .ok (.iinc 2 1, 3) := by decide +kernel
theorem dX5_firstFault_54 : decode cX5_firstFault 54 = .ok (.goto (-30), 3) := by decide +kernel
theorem dX5_firstFault_57 : decode cX5_firstFault 57 = .ok (.aload_n 0, 1) := by decide +kernel
theorem dX5_firstFault_58 : decode cX5_firstFault 58 = .ok (.getfield 32, 3) := by decide +kernel
theorem dX5_firstFault_61 : decode cX5_firstFault 61 = .ok (.ifCond .eq 15, 3) := by decide +kernel
theorem dX5_firstFault_64 : decode cX5_firstFault 64 = .ok (.aload_n 0, 1) := by decide +kernel
theorem dX5_firstFault_65 : decode cX5_firstFault 65 = .ok (.getfield 29, 3) := by decide +kernel
theorem dX5_firstFault_68 : decode cX5_firstFault 68 = .ok (.ifCond .ne 8, 3) := by decide +kernel
theorem dX5_firstFault_71 : decode cX5_firstFault 71 = .ok (.bipush (-9), 2) := by decide +kernel
theorem dX5_firstFault_73 : decode cX5_firstFault 73 = .ok (.goto 7, 3) := by decide +kernel
theorem dX5_firstFault_76 : decode cX5_firstFault 76 = .ok (.aload_n 1, 1) := by decide +kernel
theorem dX5_firstFault_77 : decode cX5_firstFault 77 = .ok (.getfield 36, 3) := by decide +kernel
theorem dX5_firstFault_80 : decode cX5_firstFault 80 = .ok (.ireturn, 1) := by decide +kernel
theorem dX5_accepts_0 : decode cX5_accepts 0 = .ok (.aload_n 0, 1) := by decide +kernel
theorem dX5_accepts_1 : decode cX5_accepts 1 = .ok (.getfield 32, 3) := by decide +kernel
theorem dX5_accepts_4 : decode cX5_accepts 4 = .ok (.ifCond .ne 23, 3) := by decide +kernel
theorem dX5_accepts_7 : decode cX5_accepts 7 = .ok (.aload_n 0, 1) := by decide +kernel
theorem dX5_accepts_8 : decode cX5_accepts 8 = .ok (.iload_n 1, 1) := by decide +kernel
theorem dX5_accepts_9 : decode cX5_accepts 9 = .ok (.bipush 71, 2) := by decide +kernel
theorem dX5_accepts_11 : decode cX5_accepts 11 = .ok (.if_icmp .ne 7, 3) := by decide +kernel
theorem dX5_accepts_14 : decode cX5_accepts 14 = .ok (.iconst 1, 1) := by decide +kernel
theorem dX5_accepts_15 : decode cX5_accepts 15 = .ok (.goto 4, 3) := by decide +kernel
theorem dX5_accepts_18 : decode cX5_accepts 18 = .ok (.iconst 0, 1) := by decide +kernel
theorem dX5_accepts_19 : decode cX5_accepts 19 = .ok (.putfield 32, 3) := by decide +kernel
theorem dX5_accepts_22 : decode cX5_accepts 22 = .ok (.aload_n 0, 1) := by decide +kernel
theorem dX5_accepts_23 : decode cX5_accepts 23 = .ok (.getfield 32, 3) := by decide +kernel
theorem dX5_accepts_26 : decode cX5_accepts 26 = .ok (.ireturn, 1) := by decide +kernel
theorem dX5_accepts_27 : decode cX5_accepts 27 = .ok (.aload_n 0, 1) := by decide +kernel
theorem dX5_accepts_28 : decode cX5_accepts 28 = .ok (.getfield 29, 3) := by decide +kernel
theorem dX5_accepts_31 : decode cX5_accepts 31 = .ok (.ifCond .ne 33, 3) := by decide +kernel
theorem dX5_accepts_34 : decode cX5_accepts 34 = .ok (.aload_n 0, 1) := by decide +kernel
theorem dX5_accepts_35 : decode cX5_accepts 35 = .ok (.aload_n 0, 1) := by decide +kernel
theorem dX5_accepts_36 : decode cX5_accepts 36 = .ok (.iload_n 1, 1) := by decide +kernel
theorem dX5_accepts_37 : decode cX5_accepts 37 = .ok (.invokevirtual 49, 3) := by decide +kernel
theorem dX5_accepts_40 : decode cX5_accepts 40 = .ok (.ifCond .eq 7, 3) := by decide +kernel
theorem dX5_accepts_43 : decode cX5_accepts 43 = .ok (.iload_n 1, 1) := by decide +kernel
theorem dX5_accepts_44 : decode cX5_accepts 44 = .ok (.goto 4, 3) := by decide +kernel
theorem dX5_accepts_47 : decode cX5_accepts 47 = .ok (.iconst 0, 1) := by decide +kernel
theorem dX5_accepts_48 : decode cX5_accepts 48 = .ok (.putfield 29, 3) := by decide +kernel
theorem dX5_accepts_51 : decode cX5_accepts 51 = .ok (.aload_n 0, 1) := by decide +kernel
theorem dX5_accepts_52 : decode cX5_accepts 52 = .ok (.getfield 29, 3) := by decide +kernel
theorem dX5_accepts_55 : decode cX5_accepts 55 = .ok (.ifCond .eq 7, 3) := by decide +kernel
theorem dX5_accepts_58 : decode cX5_accepts 58 = .ok (.iconst 1, 1) := by decide +kernel
theorem dX5_accepts_59 : decode cX5_accepts 59 = .ok (.goto 4, 3) := by decide +kernel
theorem dX5_accepts_62 : decode cX5_accepts 62 = .ok (.iconst 0, 1) := by decide +kernel
theorem dX5_accepts_63 : decode cX5_accepts 63 = .ok (.ireturn, 1) := by decide +kernel
theorem dX5_accepts_64 : decode cX5_accepts 64 = .ok (.aload_n 0, 1) := by decide +kernel
theorem dX5_accepts_65 : decode cX5_accepts 65 = .ok (.getfield 29, 3) := by decide +kernel
theorem dX5_accepts_68 : decode cX5_accepts 68 = .ok (.bipush 66, 2) := by decide +kernel
theorem dX5_accepts_70 : decode cX5_accepts 70 = .ok (.if_icmp .ne 20, 3) := by decide +kernel
theorem dX5_accepts_73 : decode cX5_accepts 73 = .ok (.aload_n 0, 1) := by decide +kernel
theorem dX5_accepts_74 : decode cX5_accepts 74 = .ok (.getfield 25, 3) := by decide +kernel
theorem dX5_accepts_77 : decode cX5_accepts 77 = .ok (.ifCond .ne 13, 3) := by decide +kernel
theorem dX5_accepts_80 : decode cX5_accepts 80 = .ok (.ldc 52, 2) := by decide +kernel
theorem dX5_accepts_82 : decode cX5_accepts 82 = .ok (.iload_n 1, 1) := by decide +kernel
theorem dX5_accepts_83 : decode cX5_accepts 83 = .ok (.i2c, 1) := by decide +kernel
theorem dX5_accepts_84 : decode cX5_accepts 84 = .ok (.invokevirtual 54, 3) := by decide +kernel
theorem dX5_accepts_87 : decode cX5_accepts 87 = .ok (.goto 7, 3) := by decide +kernel
theorem dX5_accepts_90 : decode cX5_accepts 90 = .ok (.iload_n 1, 1) := by decide +kernel
theorem dX5_accepts_91 : decode cX5_accepts 91 = .ok (.invokestatic 60, 3) := by decide +kernel
theorem dX5_accepts_94 : decode cX5_accepts 94 = .ok (.istore_n 2, 1) := by decide +kernel
theorem dX5_accepts_95 : decode cX5_accepts 95 = .ok (.aload_n 0, 1) := by decide +kernel
theorem dX5_accepts_96 : decode cX5_accepts 96 = .ok (.getfield 25, 3) := by decide +kernel
theorem dX5_accepts_99 : decode cX5_accepts 99 = .ok (.aload_n 0, 1) := by decide +kernel
theorem dX5_accepts_100 : decode cX5_accepts 100 = .ok (.getfield 18, 3) := by decide +kernel
theorem dX5_accepts_103 : decode cX5_accepts 103 = .ok (.arraylength, 1) := by decide +kernel
theorem dX5_accepts_104 : decode cX5_accepts 104 = .ok (.invokestatic 63, 3) := by decide +kernel
theorem dX5_accepts_107 : decode cX5_accepts 107 = .ok (.ifCond .eq 11, 3) := by decide +kernel
theorem dX5_accepts_110 : decode cX5_accepts 110 = .ok (.aload_n 0, 1) := by decide +kernel
theorem dX5_accepts_111 : decode cX5_accepts 111 = .ok (.iload_n 2, 1) := by decide +kernel
theorem dX5_accepts_112 : decode cX5_accepts 112 = .ok (.invokevirtual 67, 3) := by decide +kernel
theorem dX5_accepts_115 : decode cX5_accepts 115 = .ok (.ifCond .ne 5, 3) := by decide +kernel
theorem dX5_accepts_118 : decode cX5_accepts 118 = .ok (.iconst 0, 1) := by decide +kernel
theorem dX5_accepts_119 : decode cX5_accepts 119 = .ok (.ireturn, 1) := by decide +kernel
theorem dX5_accepts_120 : decode cX5_accepts 120 = .ok (.aload_n 0, 1) := by decide +kernel
theorem dX5_accepts_121 : decode cX5_accepts 121 = .ok (.getfield 18, 3) := by decide +kernel
theorem dX5_accepts_124 : decode cX5_accepts 124 = .ok (.aload_n 0, 1) := by decide +kernel
theorem dX5_accepts_125 : decode cX5_accepts 125 = .ok (.getfield 25, 3) := by decide +kernel
theorem dX5_accepts_128 : decode cX5_accepts 128 = .ok (.iload_n 2, 1) := by decide +kernel
theorem dX5_accepts_129 : decode cX5_accepts 129 = .ok (.iastore, 1) := by decide +kernel
theorem dX5_accepts_130 : decode cX5_accepts 130 = .ok (.aload_n 0, 1) := by decide +kernel
theorem dX5_accepts_131 : decode cX5_accepts 131 = .ok (.dup, 1) := by decide +kernel
theorem dX5_accepts_132 : decode cX5_accepts 132 = .ok (.getfield 25, 3) := by decide +kernel
theorem dX5_accepts_135 : decode cX5_accepts 135 = .ok (.iconst 1, 1) := by decide +kernel
theorem dX5_accepts_136 : decode cX5_accepts 136 = .ok (.iadd, 1) := by decide +kernel
theorem dX5_accepts_137 : decode cX5_accepts 137 = .ok (.putfield 25, 3) := by decide +kernel
theorem dX5_accepts_140 : decode cX5_accepts 140 = .ok (.aload_n 0, 1) := by decide +kernel
theorem dX5_accepts_141 : decode cX5_accepts 141 = .ok (.getfield 25, 3) := by decide +kernel
theorem dX5_accepts_144 : decode cX5_accepts 144 = .ok (.aload_n 0, 1) := by decide +kernel
theorem dX5_accepts_145 : decode cX5_accepts 145 = .ok (.invokevirtual 70, 3) := by decide +kernel
theorem dX5_accepts_148 : decode cX5_accepts 148 = .ok (.if_icmp .ne 7, 3) := by decide +kernel
theorem dX5_accepts_151 : decode cX5_accepts 151 = .ok (.aload_n 0, 1) := by decide +kernel
theorem dX5_accepts_152 : decode cX5_accepts 152 = .ok (.invokevirtual 74, 3) := by decide +kernel
theorem dX5_accepts_155 : decode cX5_accepts 155 = .ok (.iconst 1, 1) := by decide +kernel
theorem dX5_accepts_156 : decode cX5_accepts 156 = .ok (.ireturn, 1) := by decide +kernel
theorem dX5_opensPart_0 : decode cX5_opensPart 0 = .ok (.iload_n 1, 1) := by decide +kernel
theorem dX5_opensPart_1 : decode cX5_opensPart 1 = .ok (.lookupswitch 125 #[(66, 43), (72, 64), (76, 84), (79, 105)], 43) := by decide +kernel
theorem dX5_opensPart_44 : decode cX5_opensPart 44 = .ok (.aload_n 0, 1) := by decide +kernel
theorem dX5_opensPart_45 : decode cX5_opensPart 45 = .ok (.getfield 12, 3) := by decide +kernel
theorem dX5_opensPart_48 : decode cX5_opensPart 48 = .ok (.getfield 77, 3) := by decide +kernel
theorem dX5_opensPart_51 : decode cX5_opensPart 51 = .ok (.getfield 81, 3) := by decide +kernel
theorem dX5_opensPart_54 : decode cX5_opensPart 54 = .ok (.bipush 8, 2) := by decide +kernel
theorem dX5_opensPart_56 : decode cX5_opensPart 56 = .ok (.if_icmp .ge 7, 3) := by decide +kernel
theorem dX5_opensPart_59 : decode cX5_opensPart 59 = .ok (.iconst 1, 1) := by decide +kernel
theorem dX5_opensPart_60 : decode cX5_opensPart 60 = .ok (.goto 4, 3) := by decide +kernel
theorem dX5_opensPart_63 : decode cX5_opensPart 63 = .ok (.iconst 0, 1) := by decide +kernel
theorem dX5_opensPart_64 : decode cX5_opensPart 64 = .ok (.ireturn, 1) := by decide +kernel
theorem dX5_opensPart_65 : decode cX5_opensPart 65 = .ok (.aload_n 0, 1) := by decide +kernel
theorem dX5_opensPart_66 : decode cX5_opensPart 66 = .ok (.getfield 12, 3) := by decide +kernel
theorem dX5_opensPart_69 : decode cX5_opensPart 69 = .ok (.getfield 84, 3) := by decide +kernel
theorem dX5_opensPart_72 : decode cX5_opensPart 72 = .ok (.getfield 88, 3) := by decide +kernel
theorem dX5_opensPart_75 : decode cX5_opensPart 75 = .ok (.iconst 3, 1) := by decide +kernel
theorem dX5_opensPart_76 : decode cX5_opensPart 76 = .ok (.if_icmp .ge 7, 3) := by decide +kernel
theorem dX5_opensPart_79 : decode cX5_opensPart 79 = .ok (.iconst 1, 1) := by decide +kernel
theorem dX5_opensPart_80 : decode cX5_opensPart 80 = .ok (.goto 4, 3) := by decide +kernel
theorem dX5_opensPart_83 : decode cX5_opensPart 83 = .ok (.iconst 0, 1) := by decide +kernel
theorem dX5_opensPart_84 : decode cX5_opensPart 84 = .ok (.ireturn, 1) := by decide +kernel
theorem dX5_opensPart_85 : decode cX5_opensPart 85 = .ok (.aload_n 0, 1) := by decide +kernel
theorem dX5_opensPart_86 : decode cX5_opensPart 86 = .ok (.getfield 12, 3) := by decide +kernel
theorem dX5_opensPart_89 : decode cX5_opensPart 89 = .ok (.getfield 84, 3) := by decide +kernel
theorem dX5_opensPart_92 : decode cX5_opensPart 92 = .ok (.getfield 93, 3) := by decide +kernel
theorem dX5_opensPart_95 : decode cX5_opensPart 95 = .ok (.bipush 63, 2) := by decide +kernel
theorem dX5_opensPart_97 : decode cX5_opensPart 97 = .ok (.if_icmp .eq 7, 3) := by decide +kernel
theorem dX5_opensPart_100 : decode cX5_opensPart 100 = .ok (.iconst 1, 1) := by decide +kernel
theorem dX5_opensPart_101 : decode cX5_opensPart 101 = .ok (.goto 4, 3) := by decide +kernel
theorem dX5_opensPart_104 : decode cX5_opensPart 104 = .ok (.iconst 0, 1) := by decide +kernel
theorem dX5_opensPart_105 : decode cX5_opensPart 105 = .ok (.ireturn, 1) := by decide +kernel
theorem dX5_opensPart_106 : decode cX5_opensPart 106 = .ok (.aload_n 0, 1) := by decide +kernel
theorem dX5_opensPart_107 : decode cX5_opensPart 107 = .ok (.getfield 12, 3) := by decide +kernel
theorem dX5_opensPart_110 : decode cX5_opensPart 110 = .ok (.getfield 84, 3) := by decide +kernel
theorem dX5_opensPart_113 : decode cX5_opensPart 113 = .ok (.getfield 96, 3) := by decide +kernel
theorem dX5_opensPart_116 : decode cX5_opensPart 116 = .ok (.iconst 4, 1) := by decide +kernel
theorem dX5_opensPart_117 : decode cX5_opensPart 117 = .ok (.if_icmp .ge 7, 3) := by decide +kernel
theorem dX5_opensPart_120 : decode cX5_opensPart 120 = .ok (.iconst 1, 1) := by decide +kernel
theorem dX5_opensPart_121 : decode cX5_opensPart 121 = .ok (.goto 4, 3) := by decide +kernel
theorem dX5_opensPart_124 : decode cX5_opensPart 124 = .ok (.iconst 0, 1) := by decide +kernel
theorem dX5_opensPart_125 : decode cX5_opensPart 125 = .ok (.ireturn, 1) := by decide +kernel
theorem dX5_opensPart_126 : decode cX5_opensPart 126 = .ok (.iconst 0, 1) := by decide +kernel
theorem dX5_opensPart_127 : decode cX5_opensPart 127 = .ok (.ireturn, 1) := by decide +kernel
theorem dX5_signsOfPart_0 : decode cX5_signsOfPart 0 = .ok (.aload_n 0, 1) := by decide +kernel
theorem dX5_signsOfPart_1 : decode cX5_signsOfPart 1 = .ok (.getfield 29, 3) := by decide +kernel
theorem dX5_signsOfPart_4 : decode cX5_signsOfPart 4 = .ok (.lookupswitch 32 #[(66, 28), (76, 30)], 28) := by decide +kernel
theorem dX5_signsOfPart_32 : decode cX5_signsOfPart 32 = .ok (.iconst 3, 1) := by decide +kernel
theorem dX5_signsOfPart_33 : decode cX5_signsOfPart 33 = .ok (.ireturn, 1) := by decide +kernel
theorem dX5_signsOfPart_34 : decode cX5_signsOfPart 34 = .ok (.iconst 2, 1) := by decide +kernel
theorem dX5_signsOfPart_35 : decode cX5_signsOfPart 35 = .ok (.ireturn, 1) := by decide +kernel
theorem dX5_signsOfPart_36 : decode cX5_signsOfPart 36 = .ok (.iconst 4, 1) := by decide +kernel
theorem dX5_signsOfPart_37 : decode cX5_signsOfPart 37 = .ok (.ireturn, 1) := by decide +kernel
theorem dX5_allows_0 : decode cX5_allows 0 = .ok (.aload_n 0, 1) := by decide +kernel
theorem dX5_allows_1 : decode cX5_allows 1 = .ok (.getfield 29, 3) := by decide +kernel
theorem dX5_allows_4 : decode cX5_allows 4 = .ok (.lookupswitch 56 #[(66, 36), (72, 48), (76, 42)], 36) := by decide +kernel
theorem dX5_allows_40 : decode cX5_allows 40 = .ok (.aload_n 0, 1) := by decide +kernel
theorem dX5_allows_41 : decode cX5_allows 41 = .ok (.iload_n 1, 1) := by decide +kernel
theorem dX5_allows_42 : decode cX5_allows 42 = .ok (.invokevirtual 99, 3) := by decide +kernel
theorem dX5_allows_45 : decode cX5_allows 45 = .ok (.ireturn, 1) := by decide +kernel
theorem dX5_allows_46 : decode cX5_allows 46 = .ok (.aload_n 0, 1) := by decide +kernel
theorem dX5_allows_47 : decode cX5_allows 47 = .ok (.iload_n 1, 1) := by decide +kernel
theorem dX5_allows_48 : decode cX5_allows 48 = .ok (.invokevirtual 102, 3) := by decide +kernel
theorem dX5_allows_51 : decode cX5_allows 51 = .ok (.ireturn, 1) := by decide +kernel
theorem dX5_allows_52 : decode cX5_allows 52 = .ok (.aload_n 0, 1) := by decide +kernel
theorem dX5_allows_53 : decode cX5_allows 53 = .ok (.iload_n 1, 1) := by decide +kernel
theorem dX5_allows_54 : decode cX5_allows 54 = .ok (.bipush 6, 2) := by decide +kernel
theorem dX5_allows_56 : decode cX5_allows 56 = .ok (.invokevirtual 105, 3) := by decide +kernel
theorem dX5_allows_59 : decode cX5_allows 59 = .ok (.ireturn, 1) := by decide +kernel
theorem dX5_allows_60 : decode cX5_allows 60 = .ok (.aload_n 0, 1) := by decide +kernel
theorem dX5_allows_61 : decode cX5_allows 61 = .ok (.iload_n 1, 1) := by decide +kernel
theorem dX5_allows_62 : decode cX5_allows 62 = .ok (.bipush 16, 2) := by decide +kernel
theorem dX5_allows_64 : decode cX5_allows 64 = .ok (.invokevirtual 105, 3) := by decide +kernel
theorem dX5_allows_67 : decode cX5_allows 67 = .ok (.ireturn, 1) := by decide +kernel
theorem dX5_allowsForBody_0 : decode cX5_allowsForBody 0 = .ok (.aload_n 0, 1) := by decide +kernel
theorem dX5_allowsForBody_1 : decode cX5_allowsForBody 1 = .ok (.getfield 25, 3) := by decide +kernel
theorem dX5_allowsForBody_4 : decode cX5_allowsForBody 4 = .ok (.ifCond .ne 10, 3) := by decide +kernel
theorem dX5_allowsForBody_7 : decode cX5_allowsForBody 7 = .ok (.iload_n 1, 1) := by decide +kernel
theorem dX5_allowsForBody_8 : decode cX5_allowsForBody 8 = .ok (.bipush 6, 2) := by decide +kernel
theorem dX5_allowsForBody_10 : decode cX5_allowsForBody 10 = .ok (.invokestatic 63, 3) := by decide +kernel
theorem dX5_allowsForBody_13 : decode cX5_allowsForBody 13 = .ok (.ireturn, 1) := by decide +kernel
theorem dX5_allowsForBody_14 : decode cX5_allowsForBody 14 = .ok (.aload_n 0, 1) := by decide +kernel
theorem dX5_allowsForBody_15 : decode cX5_allowsForBody 15 = .ok (.getfield 25, 3) := by decide +kernel
theorem dX5_allowsForBody_18 : decode cX5_allowsForBody 18 = .ok (.iconst 1, 1) := by decide +kernel
theorem dX5_allowsForBody_19 : decode cX5_allowsForBody 19 = .ok (.if_icmp .ne 36, 3) := by decide +kernel
theorem dX5_allowsForBody_22 : decode cX5_allowsForBody 22 = .ok (.iload_n 1, 1) := by decide +kernel
theorem dX5_allowsForBody_23 : decode cX5_allowsForBody 23 = .ok (.bipush 10, 2) := by decide +kernel
theorem dX5_allowsForBody_25 : decode cX5_allowsForBody 25 = .ok (.invokestatic 63, 3) := by decide +kernel
theorem dX5_allowsForBody_28 : decode cX5_allowsForBody 28 = .ok (.ifCond .eq 23, 3) := by decide +kernel
theorem dX5_allowsForBody_31 : decode cX5_allowsForBody 31 = .ok (.aload_n 0, 1) := by decide +kernel
theorem dX5_allowsForBody_32 : decode cX5_allowsForBody 32 = .ok (.getfield 12, 3) := by decide +kernel
theorem dX5_allowsForBody_35 : decode cX5_allowsForBody 35 = .ok (.getfield 77, 3) := by decide +kernel
theorem dX5_allowsForBody_38 : decode cX5_allowsForBody 38 = .ok (.iload_n 1, 1) := by decide +kernel
theorem dX5_allowsForBody_39 : decode cX5_allowsForBody 39 = .ok (.invokevirtual 108, 3) := by decide +kernel
theorem dX5_allowsForBody_42 : decode cX5_allowsForBody 42 = .ok (.bipush 6, 2) := by decide +kernel
theorem dX5_allowsForBody_44 : decode cX5_allowsForBody 44 = .ok (.if_icmp .ge 7, 3) := by decide +kernel
theorem dX5_allowsForBody_47 : decode cX5_allowsForBody 47 = .ok (.iconst 1, 1) := by decide +kernel
theorem dX5_allowsForBody_48 : decode cX5_allowsForBody 48 = .ok (.goto 41, 3) := by decide +kernel
theorem dX5_allowsForBody_51 : decode cX5_allowsForBody 51 = .ok (.iconst 0, 1) := by decide +kernel
theorem dX5_allowsForBody_52 : decode cX5_allowsForBody 52 = .ok (.goto 37, 3) := by decide +kernel
theorem dX5_allowsForBody_55 : decode cX5_allowsForBody 55 = .ok (.iload_n 1, 1) := by decide +kernel
theorem dX5_allowsForBody_56 : decode cX5_allowsForBody 56 = .ok (.bipush 6, 2) := by decide +kernel
theorem dX5_allowsForBody_58 : decode cX5_allowsForBody 58 = .ok (.invokestatic 63, 3) := by decide +kernel
theorem dX5_allowsForBody_61 : decode cX5_allowsForBody 61 = .ok (.ifCond .eq 27, 3) := by decide +kernel
theorem dX5_allowsForBody_64 : decode cX5_allowsForBody 64 = .ok (.aload_n 0, 1) := by decide +kernel
theorem dX5_allowsForBody_65 : decode cX5_allowsForBody 65 = .ok (.getfield 12, 3) := by decide +kernel
theorem dX5_allowsForBody_68 : decode cX5_allowsForBody 68 = .ok (.getfield 77, 3) := by decide +kernel
theorem dX5_allowsForBody_71 : decode cX5_allowsForBody 71 = .ok (.aload_n 0, 1) := by decide +kernel
theorem dX5_allowsForBody_72 : decode cX5_allowsForBody 72 = .ok (.getfield 18, 3) := by decide +kernel
theorem dX5_allowsForBody_75 : decode cX5_allowsForBody 75 = .ok (.iconst 1, 1) := by decide +kernel
theorem dX5_allowsForBody_76 : decode cX5_allowsForBody 76 = .ok (.iaload, 1) := by decide +kernel
theorem dX5_allowsForBody_77 : decode cX5_allowsForBody 77 = .ok (.iload_n 1, 1) := by decide +kernel
theorem dX5_allowsForBody_78 : decode cX5_allowsForBody 78 = .ok (.invokevirtual 111, 3) := by decide +kernel
theorem dX5_allowsForBody_81 : decode cX5_allowsForBody 81 = .ok (.ifCond .ne 7, 3) := by decide +kernel
theorem dX5_allowsForBody_84 : decode cX5_allowsForBody 84 = .ok (.iconst 1, 1) := by decide +kernel
theorem dX5_allowsForBody_85 : decode cX5_allowsForBody 85 = .ok (.goto 4, 3) := by decide +kernel
theorem dX5_allowsForBody_88 : decode cX5_allowsForBody 88 = .ok (.iconst 0, 1) := by decide +kernel
theorem dX5_allowsForBody_89 : decode cX5_allowsForBody 89 = .ok (.ireturn, 1) := by decide +kernel
theorem dX5_allowsForCliff_0 : decode cX5_allowsForCliff 0 = .ok (.aload_n 0, 1) := by decide +kernel
theorem dX5_allowsForCliff_1 : decode cX5_allowsForCliff 1 = .ok (.getfield 25, 3) := by decide +kernel
theorem dX5_allowsForCliff_4 : decode cX5_allowsForCliff 4 = .ok (.ifCond .ne 34, 3) := by decide +kernel
theorem dX5_allowsForCliff_7 : decode cX5_allowsForCliff 7 = .ok (.iload_n 1, 1) := by decide +kernel
theorem dX5_allowsForCliff_8 : decode cX5_allowsForCliff 8 = .ok (.bipush 6, 2) := by decide +kernel
theorem dX5_allowsForCliff_10 : decode cX5_allowsForCliff 10 = .ok (.invokestatic 63, 3) := by decide +kernel
theorem dX5_allowsForCliff_13 : decode cX5_allowsForCliff 13 = .ok (.ifCond .eq 21, 3) := by decide +kernel
theorem dX5_allowsForCliff_16 : decode cX5_allowsForCliff 16 = .ok (.aload_n 0, 1) := by decide +kernel
theorem dX5_allowsForCliff_17 : decode cX5_allowsForCliff 17 = .ok (.getfield 12, 3) := by decide +kernel
theorem dX5_allowsForCliff_20 : decode cX5_allowsForCliff 20 = .ok (.getfield 84, 3) := by decide +kernel
theorem dX5_allowsForCliff_23 : decode cX5_allowsForCliff 23 = .ok (.iload_n 1, 1) := by decide +kernel
theorem dX5_allowsForCliff_24 : decode cX5_allowsForCliff 24 = .ok (.invokevirtual 114, 3) := by decide +kernel
theorem dX5_allowsForCliff_27 : decode cX5_allowsForCliff 27 = .ok (.ifCond .ne 7, 3) := by decide +kernel
theorem dX5_allowsForCliff_30 : decode cX5_allowsForCliff 30 = .ok (.iconst 1, 1) := by decide +kernel
theorem dX5_allowsForCliff_31 : decode cX5_allowsForCliff 31 = .ok (.goto 11, 3) := by decide +kernel
theorem dX5_allowsForCliff_34 : decode cX5_allowsForCliff 34 = .ok (.iconst 0, 1) := by decide +kernel
theorem dX5_allowsForCliff_35 : decode cX5_allowsForCliff 35 = .ok (.goto 7, 3) := by decide +kernel
theorem dX5_allowsForCliff_38 : decode cX5_allowsForCliff 38 = .ok (.iload_n 1, 1) := by decide +kernel
theorem dX5_allowsForCliff_39 : decode cX5_allowsForCliff 39 = .ok (.invokestatic 117, 3) := by decide +kernel
theorem dX5_allowsForCliff_42 : decode cX5_allowsForCliff 42 = .ok (.ireturn, 1) := by decide +kernel
theorem dX5_allowsInRange_0 : decode cX5_allowsInRange 0 = .ok (.aload_n 0, 1) := by decide +kernel
theorem dX5_allowsInRange_1 : decode cX5_allowsInRange 1 = .ok (.getfield 25, 3) := by decide +kernel
theorem dX5_allowsInRange_4 : decode cX5_allowsInRange 4 = .ok (.iconst 1, 1) := by decide +kernel
theorem dX5_allowsInRange_5 : decode cX5_allowsInRange 5 = .ok (.if_icmp .ne 12, 3) := by decide +kernel
theorem dX5_allowsInRange_8 : decode cX5_allowsInRange 8 = .ok (.aload_n 0, 1) := by decide +kernel
theorem dX5_allowsInRange_9 : decode cX5_allowsInRange 9 = .ok (.getfield 18, 3) := by decide +kernel
theorem dX5_allowsInRange_12 : decode cX5_allowsInRange 12 = .ok (.iconst 0, 1) := by decide +kernel
theorem dX5_allowsInRange_13 : decode cX5_allowsInRange 13 = .ok (.iaload, 1) := by decide +kernel
theorem dX5_allowsInRange_14 : decode cX5_allowsInRange 14 = .ok (.goto 21, 3) := by decide +kernel
theorem dX5_allowsInRange_17 : decode cX5_allowsInRange 17 = .ok (.aload_n 0, 1) := by decide +kernel
theorem dX5_allowsInRange_18 : decode cX5_allowsInRange 18 = .ok (.getfield 25, 3) := by decide +kernel
theorem dX5_allowsInRange_21 : decode cX5_allowsInRange 21 = .ok (.iconst 3, 1) := by decide +kernel
theorem dX5_allowsInRange_22 : decode cX5_allowsInRange 22 = .ok (.if_icmp .ne 12, 3) := by decide +kernel
theorem dX5_allowsInRange_25 : decode cX5_allowsInRange 25 = .ok (.aload_n 0, 1) := by decide +kernel
theorem dX5_allowsInRange_26 : decode cX5_allowsInRange 26 = .ok (.getfield 18, 3) := by decide +kernel
theorem dX5_allowsInRange_29 : decode cX5_allowsInRange 29 = .ok (.iconst 2, 1) := by decide +kernel
theorem dX5_allowsInRange_30 : decode cX5_allowsInRange 30 = .ok (.iaload, 1) := by decide +kernel
theorem dX5_allowsInRange_31 : decode cX5_allowsInRange 31 = .ok (.goto 4, 3) := by decide +kernel
theorem dX5_allowsInRange_34 : decode cX5_allowsInRange 34 = .ok (.iconst 0, 1) := by decide +kernel
theorem dX5_allowsInRange_35 : decode cX5_allowsInRange 35 = .ok (.istore_n 3, 1) := by decide +kernel
theorem dX5_allowsInRange_36 : decode cX5_allowsInRange 36 = .ok (.iload_n 1, 1) := by decide +kernel
theorem dX5_allowsInRange_37 : decode cX5_allowsInRange 37 = .ok (.iload_n 3, 1) := by decide +kernel
theorem dX5_allowsInRange_38 : decode cX5_allowsInRange 38 = .ok (.if_icmp .lt 28, 3) := by decide +kernel
theorem dX5_allowsInRange_41 : decode cX5_allowsInRange 41 = .ok (.iload_n 1, 1) := by decide +kernel
theorem dX5_allowsInRange_42 : decode cX5_allowsInRange 42 = .ok (.aload_n 0, 1) := by decide +kernel
theorem dX5_allowsInRange_43 : decode cX5_allowsInRange 43 = .ok (.getfield 25, 3) := by decide +kernel
theorem dX5_allowsInRange_46 : decode cX5_allowsInRange 46 = .ok (.iconst 2, 1) := by decide +kernel
theorem dX5_allowsInRange_47 : decode cX5_allowsInRange 47 = .ok (.if_icmp .ge 8, 3) := by decide +kernel
theorem dX5_allowsInRange_50 : decode cX5_allowsInRange 50 = .ok (.bipush 10, 2) := by decide +kernel
theorem dX5_allowsInRange_52 : decode cX5_allowsInRange 52 = .ok (.goto 4, 3) := by decide +kernel
theorem dX5_allowsInRange_55 : decode cX5_allowsInRange 55 = .ok (.iload_n 2, 1) := by decide +kernel
theorem dX5_allowsInRange_56 : decode cX5_allowsInRange 56 = .ok (.invokestatic 63, 3) := by decide +kernel
theorem dX5_allowsInRange_59 : decode cX5_allowsInRange 59 = .ok (.ifCond .eq 7, 3) := by decide +kernel
theorem dX5_allowsInRange_62 : decode cX5_allowsInRange 62 = .ok (.iconst 1, 1) := by decide +kernel
theorem dX5_allowsInRange_63 : decode cX5_allowsInRange 63 = .ok (.goto 4, 3) := by decide +kernel
theorem dX5_allowsInRange_66 : decode cX5_allowsInRange 66 = .ok (.iconst 0, 1) := by decide +kernel
theorem dX5_allowsInRange_67 : decode cX5_allowsInRange 67 = .ok (.ireturn, 1) := by decide +kernel
theorem dX5_endPart_0 : decode cX5_endPart 0 = .ok (.aload_n 0, 1) := by decide +kernel
theorem dX5_endPart_1 : decode cX5_endPart 1 = .ok (.getfield 29, 3) := by decide +kernel
theorem dX5_endPart_4 : decode cX5_endPart 4 = .ok (.lookupswitch 119 #[(66, 36), (72, 77), (76, 94)], 36) := by decide +kernel
theorem dX5_endPart_40 : decode cX5_endPart 40 = .ok (.aload_n 0, 1) := by decide +kernel
theorem dX5_endPart_41 : decode cX5_endPart 41 = .ok (.getfield 12, 3) := by decide +kernel
theorem dX5_endPart_44 : decode cX5_endPart 44 = .ok (.getfield 77, 3) := by decide +kernel
theorem dX5_endPart_47 : decode cX5_endPart 47 = .ok (.aload_n 0, 1) := by decide +kernel
theorem dX5_endPart_48 : decode cX5_endPart 48 = .ok (.getfield 12, 3) := by decide +kernel
theorem dX5_endPart_51 : decode cX5_endPart 51 = .ok (.getfield 77, 3) := by decide +kernel
theorem dX5_endPart_54 : decode cX5_endPart 54 = .ok (.getfield 81, 3) := by decide +kernel
theorem dX5_endPart_57 : decode cX5_endPart 57 = .ok (.aload_n 0, 1) := by decide +kernel
theorem dX5_endPart_58 : decode cX5_endPart 58 = .ok (.getfield 18, 3) := by decide +kernel
theorem dX5_endPart_61 : decode cX5_endPart 61 = .ok (.iconst 0, 1) := by decide +kernel
theorem dX5_endPart_62 : decode cX5_endPart 62 = .ok (.iaload, 1) := by decide +kernel
theorem dX5_endPart_63 : decode cX5_endPart 63 = .ok (.aload_n 0, 1) := by decide +kernel
theorem dX5_endPart_64 : decode cX5_endPart 64 = .ok (.getfield 18, 3) := by decide +kernel
theorem dX5_endPart_67 : decode cX5_endPart 67 = .ok (.iconst 1, 1) := by decide +kernel
theorem dX5_endPart_68 : decode cX5_endPart 68 = .ok (.iaload, 1) := by decide +kernel
theorem dX5_endPart_69 : decode cX5_endPart 69 = .ok (.aload_n 0, 1) := by decide +kernel
theorem dX5_endPart_70 : decode cX5_endPart 70 = .ok (.getfield 18, 3) := by decide +kernel
theorem dX5_endPart_73 : decode cX5_endPart 73 = .ok (.iconst 2, 1) := by decide +kernel
theorem dX5_endPart_74 : decode cX5_endPart 74 = .ok (.iaload, 1) := by decide +kernel
theorem dX5_endPart_75 : decode cX5_endPart 75 = .ok (.invokevirtual 120, 3) := by decide +kernel
theorem dX5_endPart_78 : decode cX5_endPart 78 = .ok (.goto 59, 3) := by decide +kernel
theorem dX5_endPart_81 : decode cX5_endPart 81 = .ok (.aload_n 0, 1) := by decide +kernel
theorem dX5_endPart_82 : decode cX5_endPart 82 = .ok (.getfield 12, 3) := by decide +kernel
theorem dX5_endPart_85 : decode cX5_endPart 85 = .ok (.getfield 84, 3) := by decide +kernel
theorem dX5_endPart_88 : decode cX5_endPart 88 = .ok (.aload_n 0, 1) := by decide +kernel
theorem dX5_endPart_89 : decode cX5_endPart 89 = .ok (.getfield 18, 3) := by decide +kernel
theorem dX5_endPart_92 : decode cX5_endPart 92 = .ok (.invokevirtual 124, 3) := by decide +kernel
theorem dX5_endPart_95 : decode cX5_endPart 95 = .ok (.goto 42, 3) := by decide +kernel
theorem dX5_endPart_98 : decode cX5_endPart 98 = .ok (.aload_n 0, 1) := by decide +kernel
theorem dX5_endPart_99 : decode cX5_endPart 99 = .ok (.getfield 12, 3) := by decide +kernel
theorem dX5_endPart_102 : decode cX5_endPart 102 = .ok (.getfield 84, 3) := by decide +kernel
theorem dX5_endPart_105 : decode cX5_endPart 105 = .ok (.aload_n 0, 1) := by decide +kernel
theorem dX5_endPart_106 : decode cX5_endPart 106 = .ok (.getfield 18, 3) := by decide +kernel
theorem dX5_endPart_109 : decode cX5_endPart 109 = .ok (.iconst 0, 1) := by decide +kernel
theorem dX5_endPart_110 : decode cX5_endPart 110 = .ok (.iaload, 1) := by decide +kernel
theorem dX5_endPart_111 : decode cX5_endPart 111 = .ok (.aload_n 0, 1) := by decide +kernel
theorem dX5_endPart_112 : decode cX5_endPart 112 = .ok (.getfield 18, 3) := by decide +kernel
theorem dX5_endPart_115 : decode cX5_endPart 115 = .ok (.iconst 1, 1) := by decide +kernel
theorem dX5_endPart_116 : decode cX5_endPart 116 = .ok (.iaload, 1) := by decide +kernel
theorem dX5_endPart_117 : decode cX5_endPart 117 = .ok (.invokevirtual 128, 3) := by decide +kernel
theorem dX5_endPart_120 : decode cX5_endPart 120 = .ok (.goto 17, 3) := by decide +kernel
theorem dX5_endPart_123 : decode cX5_endPart 123 = .ok (.aload_n 0, 1) := by decide +kernel
theorem dX5_endPart_124 : decode cX5_endPart 124 = .ok (.getfield 12, 3) := by decide +kernel
theorem dX5_endPart_127 : decode cX5_endPart 127 = .ok (.getfield 84, 3) := by decide +kernel
theorem dX5_endPart_130 : decode cX5_endPart 130 = .ok (.aload_n 0, 1) := by decide +kernel
theorem dX5_endPart_131 : decode cX5_endPart 131 = .ok (.getfield 18, 3) := by decide +kernel
theorem dX5_endPart_134 : decode cX5_endPart 134 = .ok (.invokevirtual 132, 3) := by decide +kernel
theorem dX5_endPart_137 : decode cX5_endPart 137 = .ok (.aload_n 0, 1) := by decide +kernel
theorem dX5_endPart_138 : decode cX5_endPart 138 = .ok (.iconst 0, 1) := by decide +kernel
theorem dX5_endPart_139 : decode cX5_endPart 139 = .ok (.putfield 29, 3) := by decide +kernel
theorem dX5_endPart_142 : decode cX5_endPart 142 = .ok (.aload_n 0, 1) := by decide +kernel
theorem dX5_endPart_143 : decode cX5_endPart 143 = .ok (.iconst 0, 1) := by decide +kernel
theorem dX5_endPart_144 : decode cX5_endPart 144 = .ok (.putfield 25, 3) := by decide +kernel
theorem dX5_endPart_147 : decode cX5_endPart 147 = .ok (.return_, 1) := by decide +kernel
theorem dX5_valueOf_0 : decode cX5_valueOf 0 = .ok (.iload_n 0, 1) := by decide +kernel
theorem dX5_valueOf_1 : decode cX5_valueOf 1 = .ok (.bipush 48, 2) := by decide +kernel
theorem dX5_valueOf_3 : decode cX5_valueOf 3 = .ok (.if_icmp .lt 14, 3) := by decide +kernel
theorem dX5_valueOf_6 : decode cX5_valueOf 6 = .ok (.iload_n 0, 1) := by decide +kernel
theorem dX5_valueOf_7 : decode cX5_valueOf 7 = .ok (.bipush 57, 2) := by decide +kernel
theorem dX5_valueOf_9 : decode cX5_valueOf 9 = .ok (.if_icmp .gt 8, 3) := by decide +kernel
theorem dX5_valueOf_12 : decode cX5_valueOf 12 = .ok (.iload_n 0, 1) := by decide +kernel
theorem dX5_valueOf_13 : decode cX5_valueOf 13 = .ok (.bipush 48, 2) := by decide +kernel
theorem dX5_valueOf_15 : decode cX5_valueOf 15 = .ok (.isub, 1) := by decide +kernel
theorem dX5_valueOf_16 : decode cX5_valueOf 16 = .ok (.ireturn, 1) := by decide +kernel
theorem dX5_valueOf_17 : decode cX5_valueOf 17 = .ok (.iload_n 0, 1) := by decide +kernel
theorem dX5_valueOf_18 : decode cX5_valueOf 18 = .ok (.bipush 97, 2) := by decide +kernel
theorem dX5_valueOf_20 : decode cX5_valueOf 20 = .ok (.if_icmp .lt 19, 3) := by decide +kernel
theorem dX5_valueOf_23 : decode cX5_valueOf 23 = .ok (.iload_n 0, 1) := by decide +kernel
theorem dX5_valueOf_24 : decode cX5_valueOf 24 = .ok (.bipush 102, 2) := by decide +kernel
theorem dX5_valueOf_26 : decode cX5_valueOf 26 = .ok (.if_icmp .gt 13, 3) := by decide +kernel
theorem dX5_valueOf_29 : decode cX5_valueOf 29 = .ok (.iload_n 0, 1) := by decide +kernel
theorem dX5_valueOf_30 : decode cX5_valueOf 30 = .ok (.bipush 97, 2) := by decide +kernel
theorem dX5_valueOf_32 : decode cX5_valueOf 32 = .ok (.isub, 1) := by decide +kernel
theorem dX5_valueOf_33 : decode cX5_valueOf 33 = .ok (.bipush 10, 2) := by decide +kernel
theorem dX5_valueOf_35 : decode cX5_valueOf 35 = .ok (.iadd, 1) := by decide +kernel
theorem dX5_valueOf_36 : decode cX5_valueOf 36 = .ok (.goto 5, 3) := by decide +kernel
theorem dX5_valueOf_39 : decode cX5_valueOf 39 = .ok (.bipush (-9), 2) := by decide +kernel
theorem dX5_valueOf_41 : decode cX5_valueOf 41 = .ok (.ireturn, 1) := by decide +kernel
theorem dX6_init_0 : decode cX6_init 0 = .ok (.aload_n 0, 1) := by decide +kernel
theorem dX6_init_1 : decode cX6_init 1 = .ok (.invokespecial 3, 3) := by decide +kernel
theorem dX6_init_4 : decode cX6_init 4 = .ok (.aload_n 0, 1) := by decide +kernel
theorem dX6_init_5 : decode cX6_init 5 = .ok (.bipush 30, 2) := by decide +kernel
theorem dX6_init_7 : decode cX6_init 7 = .ok (.newarray .int, 2) := by decide +kernel
theorem dX6_init_9 : decode cX6_init 9 = .ok (.putfield 11, 3) := by decide +kernel
theorem dX6_init_12 : decode cX6_init 12 = .ok (.aload_n 0, 1) := by decide +kernel
theorem dX6_init_13 : decode cX6_init 13 = .ok (.bipush 30, 2) := by decide +kernel
theorem dX6_init_15 : decode cX6_init 15 = .ok (.newarray .int, 2) := by decide +kernel
theorem dX6_init_17 : decode cX6_init 17 = .ok (.putfield 15, 3) := by decide +kernel
theorem dX6_init_20 : decode cX6_init 20 = .ok (.aload_n 0, 1) := by decide +kernel
theorem dX6_init_21 : decode cX6_init 21 = .ok (.bipush 30, 2) := by decide +kernel
theorem dX6_init_23 : decode cX6_init 23 = .ok (.newarray .int, 2) := by decide +kernel
theorem dX6_init_25 : decode cX6_init 25 = .ok (.putfield 18, 3) := by decide +kernel
theorem dX6_init_28 : decode cX6_init 28 = .ok (.return_, 1) := by decide +kernel
theorem dX6_look_0 : decode cX6_look 0 = .ok (.aload_n 0, 1) := by decide +kernel
theorem dX6_look_1 : decode cX6_look 1 = .ok (.iconst 0, 1) := by decide +kernel
theorem dX6_look_2 : decode cX6_look 2 = .ok (.putfield 21, 3) := by decide +kernel
theorem dX6_look_5 : decode cX6_look 5 = .ok (.iconst 0, 1) := by decide +kernel
theorem dX6_look_6 : decode cX6_look 6 = .ok (.istore 4, 2) := by decide +kernel
theorem dX6_look_8 : decode cX6_look 8 = .ok (.iload 4, 2) := by decide +kernel
theorem dX6_look_10 : decode cX6_look 10 = .ok (.bipush 6, 2) := by decide +kernel
theorem dX6_look_12 : decode cX6_look 12 = .ok (.if_icmp .ge 33, 3) := by decide +kernel
theorem dX6_look_15 : decode cX6_look 15 = .ok (.aload_n 0, 1) := by decide +kernel
theorem dX6_look_16 : decode cX6_look 16 = .ok (.iload 4, 2) := by decide +kernel
theorem dX6_look_18 : decode cX6_look 18 = .ok (.aload_n 1, 1) := by decide +kernel
theorem dX6_look_19 : decode cX6_look 19 = .ok (.getfield 25, 3) := by decide +kernel
theorem dX6_look_22 : decode cX6_look 22 = .ok (.iload_n 2, 1) := by decide +kernel
theorem dX6_look_23 : decode cX6_look 23 = .ok (.iload 4, 2) := by decide +kernel
theorem dX6_look_25 : decode cX6_look 25 = .ok (.invokevirtual 31, 3) := by decide +kernel
theorem dX6_look_28 : decode cX6_look 28 = .ok (.aload_n 1, 1) := by decide +kernel
theorem dX6_look_29 : decode cX6_look 29 = .ok (.iload_n 3, 1) := by decide +kernel
theorem dX6_look_30 : decode cX6_look 30 = .ok (.iload 4, 2) := by decide +kernel
theorem dX6_look_32 : decode cX6_look 32 = .ok (.invokevirtual 37, 3) := by decide +kernel
theorem dX6_look_35 : decode cX6_look 35 = .ok (.iand, 1) := by decide +kernel
theorem dX6_look_36 : decode cX6_look 36 = .ok (.invokevirtual 40, 3) := by decide +kernel
theorem dX6_look_39 : decode cX6_look 39 = .ok (.iinc 4 1, 3) := by decide +kernel
theorem dX6_look_42 : decode cX6_look 42 = .ok (.goto (-34), 3) := by decide +kernel
theorem dX6_look_45 : decode cX6_look 45 = .ok (.return_, 1) := by decide +kernel
theorem dX6_addRunsOf_0 : decode cX6_addRunsOf 0 = .ok (.iconst 0, 1) := by decide +kernel
theorem dX6_addRunsOf_1 : decode cX6_addRunsOf 1 = .ok (.istore_n 3, 1) := by decide +kernel
theorem dX6_addRunsOf_2 : decode cX6_addRunsOf 2 = .ok (.iconst 0, 1) := by decide +kernel
theorem dX6_addRunsOf_3 : decode cX6_addRunsOf 3 = .ok (.istore 4, 2) := by decide +kernel
theorem dX6_addRunsOf_5 : decode cX6_addRunsOf 5 = .ok (.iload 4, 2) := by decide +kernel
theorem dX6_addRunsOf_7 : decode cX6_addRunsOf 7 = .ok (.bipush 10, 2) := by decide +kernel
theorem dX6_addRunsOf_9 : decode cX6_addRunsOf 9 = .ok (.if_icmp .gt 40, 3) := by decide +kernel
theorem dX6_addRunsOf_12 : decode cX6_addRunsOf 12 = .ok (.iload_n 2, 1) := by decide +kernel
theorem dX6_addRunsOf_13 : decode cX6_addRunsOf 13 = .ok (.iload 4, 2) := by decide +kernel
theorem dX6_addRunsOf_15 : decode cX6_addRunsOf 15 = .ok (.ishr, 1) := by decide +kernel
theorem dX6_addRunsOf_16 : decode cX6_addRunsOf 16 = .ok (.iconst 1, 1) := by decide +kernel
theorem dX6_addRunsOf_17 : decode cX6_addRunsOf 17 = .ok (.iand, 1) := by decide +kernel
theorem dX6_addRunsOf_18 : decode cX6_addRunsOf 18 = .ok (.ifCond .eq 9, 3) := by decide +kernel
theorem dX6_addRunsOf_21 : decode cX6_addRunsOf 21 = .ok (.iinc 3 1, 3) := by decide +kernel
theorem dX6_addRunsOf_24 : decode cX6_addRunsOf 24 = .ok (.goto 19, 3) := by decide +kernel
theorem dX6_addRunsOf_27 : decode cX6_addRunsOf 27 = .ok (.iload_n 3, 1) := by decide +kernel
theorem dX6_addRunsOf_28 : decode cX6_addRunsOf 28 = .ok (.ifCond .le 15, 3) := by decide +kernel
theorem dX6_addRunsOf_31 : decode cX6_addRunsOf 31 = .ok (.aload_n 0, 1) := by decide +kernel
theorem dX6_addRunsOf_32 : decode cX6_addRunsOf 32 = .ok (.iload_n 1, 1) := by decide +kernel
theorem dX6_addRunsOf_33 : decode cX6_addRunsOf 33 = .ok (.iload 4, 2) := by decide +kernel
theorem dX6_addRunsOf_35 : decode cX6_addRunsOf 35 = .ok (.iload_n 3, 1) := by decide +kernel
theorem dX6_addRunsOf_36 : decode cX6_addRunsOf 36 = .ok (.isub, 1) := by decide +kernel
theorem dX6_addRunsOf_37 : decode cX6_addRunsOf 37 = .ok (.iload_n 3, 1) := by decide +kernel
theorem dX6_addRunsOf_38 : decode cX6_addRunsOf 38 = .ok (.invokevirtual 44, 3) := by decide +kernel
theorem dX6_addRunsOf_41 : decode cX6_addRunsOf 41 = .ok (.iconst 0, 1) := by decide +kernel
theorem dX6_addRunsOf_42 : decode cX6_addRunsOf 42 = .ok (.istore_n 3, 1) := by decide +kernel
theorem dX6_addRunsOf_43 : decode cX6_addRunsOf 43 = .ok (.iinc 4 1, 3) := by decide +kernel
theorem dX6_addRunsOf_46 : decode cX6_addRunsOf 46 = .ok (.goto (-41), 3) := by decide +kernel
theorem dX6_addRunsOf_49 : decode cX6_addRunsOf 49 = .ok (.return_, 1) := by decide +kernel
theorem dX6_add_0 : decode cX6_add 0 = .ok (.aload_n 0, 1) := by decide +kernel
theorem dX6_add_1 : decode cX6_add 1 = .ok (.getfield 21, 3) := by decide +kernel
theorem dX6_add_4 : decode cX6_add 4 = .ok (.bipush 30, 2) := by decide +kernel
theorem dX6_add_6 : decode cX6_add 6 = .ok (.if_icmp .ge 43, 3) := by decide +kernel
theorem dX6_add_9 : decode cX6_add 9 = .ok (.aload_n 0, 1) := by decide +kernel
theorem dX6_add_10 : decode cX6_add 10 = .ok (.getfield 11, 3) := by decide +kernel
theorem dX6_add_13 : decode cX6_add 13 = .ok (.aload_n 0, 1) := by decide +kernel
theorem dX6_add_14 : decode cX6_add 14 = .ok (.getfield 21, 3) := by decide +kernel
theorem dX6_add_17 : decode cX6_add 17 = .ok (.iload_n 1, 1) := by decide +kernel
theorem dX6_add_18 : decode cX6_add 18 = .ok (.iastore, 1) := by decide +kernel
theorem dX6_add_19 : decode cX6_add 19 = .ok (.aload_n 0, 1) := by decide +kernel
theorem dX6_add_20 : decode cX6_add 20 = .ok (.getfield 15, 3) := by decide +kernel
theorem dX6_add_23 : decode cX6_add 23 = .ok (.aload_n 0, 1) := by decide +kernel
theorem dX6_add_24 : decode cX6_add 24 = .ok (.getfield 21, 3) := by decide +kernel
theorem dX6_add_27 : decode cX6_add 27 = .ok (.iload_n 2, 1) := by decide +kernel
theorem dX6_add_28 : decode cX6_add 28 = .ok (.iastore, 1) := by decide +kernel
theorem dX6_add_29 : decode cX6_add 29 = .ok (.aload_n 0, 1) := by decide +kernel
theorem dX6_add_30 : decode cX6_add 30 = .ok (.getfield 18, 3) := by decide +kernel
theorem dX6_add_33 : decode cX6_add 33 = .ok (.aload_n 0, 1) := by decide +kernel
theorem dX6_add_34 : decode cX6_add 34 = .ok (.getfield 21, 3) := by decide +kernel
theorem dX6_add_37 : decode cX6_add 37 = .ok (.iload_n 3, 1) := by decide +kernel
theorem dX6_add_38 : decode cX6_add 38 = .ok (.iastore, 1) := by decide +kernel
theorem dX6_add_39 : decode cX6_add 39 = .ok (.aload_n 0, 1) := by decide +kernel
theorem dX6_add_40 : decode cX6_add 40 = .ok (.dup, 1) := by decide +kernel
theorem dX6_add_41 : decode cX6_add 41 = .ok (.getfield 21, 3) := by decide +kernel
theorem dX6_add_44 : decode cX6_add 44 = .ok (.iconst 1, 1) := by decide +kernel
theorem dX6_add_45 : decode cX6_add 45 = .ok (.iadd, 1) := by decide +kernel
theorem dX6_add_46 : decode cX6_add 46 = .ok (.putfield 21, 3) := by decide +kernel
theorem dX6_add_49 : decode cX6_add 49 = .ok (.return_, 1) := by decide +kernel
theorem dX6_headsByRule_0 : decode cX6_headsByRule 0 = .ok (.iconst 0, 1) := by decide +kernel
theorem dX6_headsByRule_1 : decode cX6_headsByRule 1 = .ok (.istore_n 2, 1) := by decide +kernel
theorem dX6_headsByRule_2 : decode cX6_headsByRule 2 = .ok (.iconst 0, 1) := by decide +kernel
theorem dX6_headsByRule_3 : decode cX6_headsByRule 3 = .ok (.istore_n 3, 1) := by decide +kernel
theorem dX6_headsByRule_4 : decode cX6_headsByRule 4 = .ok (.iload_n 3, 1) := by decide +kernel
theorem dX6_headsByRule_5 : decode cX6_headsByRule 5 = .ok (.aload_n 0, 1) := by decide +kernel
theorem dX6_headsByRule_6 : decode cX6_headsByRule 6 = .ok (.getfield 21, 3) := by decide +kernel
theorem dX6_headsByRule_9 : decode cX6_headsByRule 9 = .ok (.if_icmp .ge 22, 3) := by decide +kernel
theorem dX6_headsByRule_12 : decode cX6_headsByRule 12 = .ok (.iload_n 2, 1) := by decide +kernel
theorem dX6_headsByRule_13 : decode cX6_headsByRule 13 = .ok (.aload_n 0, 1) := by decide +kernel
theorem dX6_headsByRule_14 : decode cX6_headsByRule 14 = .ok (.getfield 18, 3) := by decide +kernel
theorem dX6_headsByRule_17 : decode cX6_headsByRule 17 = .ok (.iload_n 3, 1) := by decide +kernel
theorem dX6_headsByRule_18 : decode cX6_headsByRule 18 = .ok (.iaload, 1) := by decide +kernel
theorem dX6_headsByRule_19 : decode cX6_headsByRule 19 = .ok (.iload_n 1, 1) := by decide +kernel
theorem dX6_headsByRule_20 : decode cX6_headsByRule 20 = .ok (.invokestatic 48, 3) := by decide +kernel
theorem dX6_headsByRule_23 : decode cX6_headsByRule 23 = .ok (.iadd, 1) := by decide +kernel
theorem dX6_headsByRule_24 : decode cX6_headsByRule 24 = .ok (.istore_n 2, 1) := by decide +kernel
theorem dX6_headsByRule_25 : decode cX6_headsByRule 25 = .ok (.iinc 3 1, 3) := by decide +kernel
theorem dX6_headsByRule_28 : decode cX6_headsByRule 28 = .ok (.goto (-24), 3) := by decide +kernel
theorem dX6_headsByRule_31 : decode cX6_headsByRule 31 = .ok (.iload_n 2, 1) := by decide +kernel
theorem dX6_headsByRule_32 : decode cX6_headsByRule 32 = .ok (.ireturn, 1) := by decide +kernel
theorem dX6_headsOfRun_0 : decode cX6_headsOfRun 0 = .ok (.iload_n 1, 1) := by decide +kernel
theorem dX6_headsOfRun_1 : decode cX6_headsOfRun 1 = .ok (.ifCond .le 8, 3) := by decide +kernel
theorem dX6_headsOfRun_4 : decode cX6_headsOfRun 4 = .ok (.iload_n 0, 1) := by decide +kernel
theorem dX6_headsOfRun_5 : decode cX6_headsOfRun 5 = .ok (.iload_n 1, 1) := by decide +kernel
theorem dX6_headsOfRun_6 : decode cX6_headsOfRun 6 = .ok (.if_icmp .gt 5, 3) := by decide +kernel
theorem dX6_headsOfRun_9 : decode cX6_headsOfRun 9 = .ok (.iconst 1, 1) := by decide +kernel
theorem dX6_headsOfRun_10 : decode cX6_headsOfRun 10 = .ok (.ireturn, 1) := by decide +kernel
theorem dX6_headsOfRun_11 : decode cX6_headsOfRun 11 = .ok (.iload_n 0, 1) := by decide +kernel
theorem dX6_headsOfRun_12 : decode cX6_headsOfRun 12 = .ok (.iload_n 1, 1) := by decide +kernel
theorem dX6_headsOfRun_13 : decode cX6_headsOfRun 13 = .ok (.irem, 1) := by decide +kernel
theorem dX6_headsOfRun_14 : decode cX6_headsOfRun 14 = .ok (.istore_n 2, 1) := by decide +kernel
theorem dX6_headsOfRun_15 : decode cX6_headsOfRun 15 = .ok (.iload_n 0, 1) := by decide +kernel
theorem dX6_headsOfRun_16 : decode cX6_headsOfRun 16 = .ok (.iload_n 1, 1) := by decide +kernel
theorem dX6_headsOfRun_17 : decode cX6_headsOfRun 17 = .ok (.idiv, 1) := by decide +kernel
theorem dX6_headsOfRun_18 : decode cX6_headsOfRun 18 = .ok (.iconst 2, 1) := by decide +kernel
theorem dX6_headsOfRun_19 : decode cX6_headsOfRun 19 = .ok (.iload_n 2, 1) := by decide +kernel
theorem dX6_headsOfRun_20 : decode cX6_headsOfRun 20 = .ok (.imul, 1) := by decide +kernel
theorem dX6_headsOfRun_21 : decode cX6_headsOfRun 21 = .ok (.iload_n 1, 1) := by decide +kernel
theorem dX6_headsOfRun_22 : decode cX6_headsOfRun 22 = .ok (.if_icmp .le 7, 3) := by decide +kernel
theorem dX6_headsOfRun_25 : decode cX6_headsOfRun 25 = .ok (.iconst 1, 1) := by decide +kernel
theorem dX6_headsOfRun_26 : decode cX6_headsOfRun 26 = .ok (.goto 4, 3) := by decide +kernel
theorem dX6_headsOfRun_29 : decode cX6_headsOfRun 29 = .ok (.iconst 0, 1) := by decide +kernel
theorem dX6_headsOfRun_30 : decode cX6_headsOfRun 30 = .ok (.iadd, 1) := by decide +kernel
theorem dX6_headsOfRun_31 : decode cX6_headsOfRun 31 = .ok (.ireturn, 1) := by decide +kernel
theorem dX7_init_0 : decode cX7_init 0 = .ok (.aload_n 0, 1) := by decide +kernel
theorem dX7_init_1 : decode cX7_init 1 = .ok (.invokespecial 1, 3) := by decide +kernel
theorem dX7_init_4 : decode cX7_init 4 = .ok (.aload_n 0, 1) := by decide +kernel
theorem dX7_init_5 : decode cX7_init 5 = .ok (.bipush 6, 2) := by decide +kernel
theorem dX7_init_7 : decode cX7_init 7 = .ok (.newarray .int, 2) := by decide +kernel
theorem dX7_init_9 : decode cX7_init 9 = .ok (.putfield 9, 3) := by decide +kernel
theorem dX7_init_12 : decode cX7_init 12 = .ok (.aload_n 0, 1) := by decide +kernel
theorem dX7_init_13 : decode cX7_init 13 = .ok (.bipush 6, 2) := by decide +kernel
theorem dX7_init_15 : decode cX7_init 15 = .ok (.newarray .int, 2) := by decide +kernel
theorem dX7_init_17 : decode cX7_init 17 = .ok (.putfield 13, 3) := by decide +kernel
theorem dX7_init_20 : decode cX7_init 20 = .ok (.return_, 1) := by decide +kernel
theorem dX7_add_0 : decode cX7_add 0 = .ok (.aload_n 0, 1) := by decide +kernel
theorem dX7_add_1 : decode cX7_add 1 = .ok (.getfield 16, 3) := by decide +kernel
theorem dX7_add_4 : decode cX7_add 4 = .ok (.bipush 6, 2) := by decide +kernel
theorem dX7_add_6 : decode cX7_add 6 = .ok (.if_icmp .ge 33, 3) := by decide +kernel
theorem dX7_add_9 : decode cX7_add 9 = .ok (.aload_n 0, 1) := by decide +kernel
theorem dX7_add_10 : decode cX7_add 10 = .ok (.getfield 9, 3) := by decide +kernel
theorem dX7_add_13 : decode cX7_add 13 = .ok (.aload_n 0, 1) := by decide +kernel
theorem dX7_add_14 : decode cX7_add 14 = .ok (.getfield 16, 3) := by decide +kernel
theorem dX7_add_17 : decode cX7_add 17 = .ok (.iload_n 1, 1) := by decide +kernel
theorem dX7_add_18 : decode cX7_add 18 = .ok (.iastore, 1) := by decide +kernel
theorem dX7_add_19 : decode cX7_add 19 = .ok (.aload_n 0, 1) := by decide +kernel
theorem dX7_add_20 : decode cX7_add 20 = .ok (.getfield 13, 3) := by decide +kernel
theorem dX7_add_23 : decode cX7_add 23 = .ok (.aload_n 0, 1) := by decide +kernel
theorem dX7_add_24 : decode cX7_add 24 = .ok (.getfield 16, 3) := by decide +kernel
theorem dX7_add_27 : decode cX7_add 27 = .ok (.iload_n 2, 1) := by decide +kernel
theorem dX7_add_28 : decode cX7_add 28 = .ok (.iastore, 1) := by decide +kernel
theorem dX7_add_29 : decode cX7_add 29 = .ok (.aload_n 0, 1) := by decide +kernel
theorem dX7_add_30 : decode cX7_add 30 = .ok (.dup, 1) := by decide +kernel
theorem dX7_add_31 : decode cX7_add 31 = .ok (.getfield 16, 3) := by decide +kernel
theorem dX7_add_34 : decode cX7_add 34 = .ok (.iconst 1, 1) := by decide +kernel
theorem dX7_add_35 : decode cX7_add 35 = .ok (.iadd, 1) := by decide +kernel
theorem dX7_add_36 : decode cX7_add 36 = .ok (.putfield 16, 3) := by decide +kernel
theorem dX7_add_39 : decode cX7_add 39 = .ok (.return_, 1) := by decide +kernel
theorem dX7_copyFrom_0 : decode cX7_copyFrom 0 = .ok (.aload_n 0, 1) := by decide +kernel
theorem dX7_copyFrom_1 : decode cX7_copyFrom 1 = .ok (.aload_n 1, 1) := by decide +kernel
theorem dX7_copyFrom_2 : decode cX7_copyFrom 2 = .ok (.getfield 16, 3) := by decide +kernel
theorem dX7_copyFrom_5 : decode cX7_copyFrom 5 = .ok (.putfield 16, 3) := by decide +kernel
theorem dX7_copyFrom_8 : decode cX7_copyFrom 8 = .ok (.iconst 0, 1) := by decide +kernel
theorem dX7_copyFrom_9 : decode cX7_copyFrom 9 = .ok (.istore_n 2, 1) := by decide +kernel
theorem dX7_copyFrom_10 : decode cX7_copyFrom 10 = .ok (.iload_n 2, 1) := by decide +kernel
theorem dX7_copyFrom_11 : decode cX7_copyFrom 11 = .ok (.aload_n 0, 1) := by decide +kernel
theorem dX7_copyFrom_12 : decode cX7_copyFrom 12 = .ok (.getfield 16, 3) := by decide +kernel
theorem dX7_copyFrom_15 : decode cX7_copyFrom 15 = .ok (.if_icmp .ge 33, 3) := by decide +kernel
theorem dX7_copyFrom_18 : decode cX7_copyFrom 18 = .ok (.aload_n 0, 1) := by decide +kernel
theorem dX7_copyFrom_19 : decode cX7_copyFrom 19 = .ok (.getfield 9, 3) := by decide +kernel
theorem dX7_copyFrom_22 : decode cX7_copyFrom 22 = .ok (.iload_n 2, 1) := by decide +kernel
theorem dX7_copyFrom_23 : decode cX7_copyFrom 23 = .ok (.aload_n 1, 1) := by decide +kernel
theorem dX7_copyFrom_24 : decode cX7_copyFrom 24 = .ok (.getfield 9, 3) := by decide +kernel
theorem dX7_copyFrom_27 : decode cX7_copyFrom 27 = .ok (.iload_n 2, 1) := by decide +kernel
theorem dX7_copyFrom_28 : decode cX7_copyFrom 28 = .ok (.iaload, 1) := by decide +kernel
theorem dX7_copyFrom_29 : decode cX7_copyFrom 29 = .ok (.iastore, 1) := by decide +kernel
theorem dX7_copyFrom_30 : decode cX7_copyFrom 30 = .ok (.aload_n 0, 1) := by decide +kernel
theorem dX7_copyFrom_31 : decode cX7_copyFrom 31 = .ok (.getfield 13, 3) := by decide +kernel
theorem dX7_copyFrom_34 : decode cX7_copyFrom 34 = .ok (.iload_n 2, 1) := by decide +kernel
theorem dX7_copyFrom_35 : decode cX7_copyFrom 35 = .ok (.aload_n 1, 1) := by decide +kernel
theorem dX7_copyFrom_36 : decode cX7_copyFrom 36 = .ok (.getfield 13, 3) := by decide +kernel
theorem dX7_copyFrom_39 : decode cX7_copyFrom 39 = .ok (.iload_n 2, 1) := by decide +kernel
theorem dX7_copyFrom_40 : decode cX7_copyFrom 40 = .ok (.iaload, 1) := by decide +kernel
theorem dX7_copyFrom_41 : decode cX7_copyFrom 41 = .ok (.iastore, 1) := by decide +kernel
theorem dX7_copyFrom_42 : decode cX7_copyFrom 42 = .ok (.iinc 2 1, 3) := by decide +kernel
theorem dX7_copyFrom_45 : decode cX7_copyFrom 45 = .ok (.goto (-35), 3) := by decide +kernel
theorem dX7_copyFrom_48 : decode cX7_copyFrom 48 = .ok (.return_, 1) := by decide +kernel
theorem dX8_init_0 : decode cX8_init 0 = .ok (.aload_n 0, 1) := by decide +kernel
theorem dX8_init_1 : decode cX8_init 1 = .ok (.invokespecial 1, 3) := by decide +kernel
theorem dX8_init_4 : decode cX8_init 4 = .ok (.aload_n 0, 1) := by decide +kernel
theorem dX8_init_5 : decode cX8_init 5 = .ok (.new 7, 3) := by decide +kernel
theorem dX8_init_8 : decode cX8_init 8 = .ok (.dup, 1) := by decide +kernel
theorem dX8_init_9 : decode cX8_init 9 = .ok (.invokespecial 9, 3) := by decide +kernel
theorem dX8_init_12 : decode cX8_init 12 = .ok (.putfield 10, 3) := by decide +kernel
theorem dX8_init_15 : decode cX8_init 15 = .ok (.aload_n 0, 1) := by decide +kernel
theorem dX8_init_16 : decode cX8_init 16 = .ok (.new 16, 3) := by decide +kernel
theorem dX8_init_19 : decode cX8_init 19 = .ok (.dup, 1) := by decide +kernel
theorem dX8_init_20 : decode cX8_init 20 = .ok (.invokespecial 18, 3) := by decide +kernel
theorem dX8_init_23 : decode cX8_init 23 = .ok (.putfield 19, 3) := by decide +kernel
theorem dX8_init_26 : decode cX8_init 26 = .ok (.return_, 1) := by decide +kernel
theorem dX9_init_0 : decode cX9_init 0 = .ok (.aload_n 0, 1) := by decide +kernel
theorem dX9_init_1 : decode cX9_init 1 = .ok (.invokespecial 1, 3) := by decide +kernel
theorem dX9_init_4 : decode cX9_init 4 = .ok (.aload_n 0, 1) := by decide +kernel
theorem dX9_init_5 : decode cX9_init 5 = .ok (.bipush 92, 2) := by decide +kernel
theorem dX9_init_7 : decode cX9_init 7 = .ok (.newarray .byte, 2) := by decide +kernel
theorem dX9_init_9 : decode cX9_init 9 = .ok (.putfield 9, 3) := by decide +kernel
theorem dX9_init_12 : decode cX9_init 12 = .ok (.return_, 1) := by decide +kernel
theorem dX9_add_0 : decode cX9_add 0 = .ok (.aload_n 0, 1) := by decide +kernel
theorem dX9_add_1 : decode cX9_add 1 = .ok (.getfield 13, 3) := by decide +kernel
theorem dX9_add_4 : decode cX9_add 4 = .ok (.bipush 92, 2) := by decide +kernel
theorem dX9_add_6 : decode cX9_add 6 = .ok (.if_icmp .ge 24, 3) := by decide +kernel
theorem dX9_add_9 : decode cX9_add 9 = .ok (.aload_n 0, 1) := by decide +kernel
theorem dX9_add_10 : decode cX9_add 10 = .ok (.getfield 9, 3) := by decide +kernel
theorem dX9_add_13 : decode cX9_add 13 = .ok (.aload_n 0, 1) := by decide +kernel
theorem dX9_add_14 : decode cX9_add 14 = .ok (.getfield 13, 3) := by decide +kernel
theorem dX9_add_17 : decode cX9_add 17 = .ok (.iload_n 1, 1) := by decide +kernel
theorem dX9_add_18 : decode cX9_add 18 = .ok (.i2b, 1) := by decide +kernel
theorem dX9_add_19 : decode cX9_add 19 = .ok (.bastore, 1) := by decide +kernel
theorem dX9_add_20 : decode cX9_add 20 = .ok (.aload_n 0, 1) := by decide +kernel
theorem dX9_add_21 : decode cX9_add 21 = .ok (.dup, 1) := by decide +kernel
theorem dX9_add_22 : decode cX9_add 22 = .ok (.getfield 13, 3) := by decide +kernel
theorem dX9_add_25 : decode cX9_add 25 = .ok (.iconst 1, 1) := by decide +kernel
theorem dX9_add_26 : decode cX9_add 26 = .ok (.iadd, 1) := by decide +kernel
theorem dX9_add_27 : decode cX9_add 27 = .ok (.putfield 13, 3) := by decide +kernel
theorem dX9_add_30 : decode cX9_add 30 = .ok (.return_, 1) := by decide +kernel
theorem dX10_init_0 : decode cX10_init 0 = .ok (.aload_n 0, 1) := by decide +kernel
theorem dX10_init_1 : decode cX10_init 1 = .ok (.invokespecial 1, 3) := by decide +kernel
theorem dX10_init_4 : decode cX10_init 4 = .ok (.aload_n 0, 1) := by decide +kernel
theorem dX10_init_5 : decode cX10_init 5 = .ok (.new 7, 3) := by decide +kernel
theorem dX10_init_8 : decode cX10_init 8 = .ok (.dup, 1) := by decide +kernel
theorem dX10_init_9 : decode cX10_init 9 = .ok (.invokespecial 9, 3) := by decide +kernel
theorem dX10_init_12 : decode cX10_init 12 = .ok (.putfield 10, 3) := by decide +kernel
theorem dX10_init_15 : decode cX10_init 15 = .ok (.aload_n 0, 1) := by decide +kernel
theorem dX10_init_16 : decode cX10_init 16 = .ok (.new 16, 3) := by decide +kernel
theorem dX10_init_19 : decode cX10_init 19 = .ok (.dup, 1) := by decide +kernel
theorem dX10_init_20 : decode cX10_init 20 = .ok (.invokespecial 18, 3) := by decide +kernel
theorem dX10_init_23 : decode cX10_init 23 = .ok (.putfield 19, 3) := by decide +kernel
theorem dX10_init_26 : decode cX10_init 26 = .ok (.aload_n 0, 1) := by decide +kernel
theorem dX10_init_27 : decode cX10_init 27 = .ok (.new 23, 3) := by decide +kernel
theorem dX10_init_30 : decode cX10_init 30 = .ok (.dup, 1) := by decide +kernel
theorem dX10_init_31 : decode cX10_init 31 = .ok (.invokespecial 25, 3) := by decide +kernel
theorem dX10_init_34 : decode cX10_init 34 = .ok (.putfield 26, 3) := by decide +kernel
theorem dX10_init_37 : decode cX10_init 37 = .ok (.aload_n 0, 1) := by decide +kernel
theorem dX10_init_38 : decode cX10_init 38 = .ok (.new 30, 3) := by decide +kernel
theorem dX10_init_41 : decode cX10_init 41 = .ok (.dup, 1) := by decide +kernel
theorem dX10_init_42 : decode cX10_init 42 = .ok (.invokespecial 32, 3) := by decide +kernel
theorem dX10_init_45 : decode cX10_init 45 = .ok (.putfield 33, 3) := by decide +kernel
theorem dX10_init_48 : decode cX10_init 48 = .ok (.aload_n 0, 1) := by decide +kernel
theorem dX10_init_49 : decode cX10_init 49 = .ok (.new 37, 3) := by decide +kernel
theorem dX10_init_52 : decode cX10_init 52 = .ok (.dup, 1) := by decide +kernel
theorem dX10_init_53 : decode cX10_init 53 = .ok (.invokespecial 39, 3) := by decide +kernel
theorem dX10_init_56 : decode cX10_init 56 = .ok (.putfield 40, 3) := by decide +kernel
