theorem dX10_init_59 : decode cX10_init 59 = .ok (.aload_n 0, 1) := by decide +kernel
theorem dX10_init_60 : decode cX10_init 60 = .ok (.new 44, 3) := by decide +kernel
theorem dX10_init_63 : decode cX10_init 63 = .ok (.dup, 1) := by decide +kernel
theorem dX10_init_64 : decode cX10_init 64 = .ok (.invokespecial 46, 3) := by decide +kernel
theorem dX10_init_67 : decode cX10_init 67 = .ok (.putfield 47, 3) := by decide +kernel
theorem dX10_init_70 : decode cX10_init 70 = .ok (.aload_n 0, 1) := by decide +kernel
theorem dX10_init_71 : decode cX10_init 71 = .ok (.new 51, 3) := by decide +kernel
theorem dX10_init_74 : decode cX10_init 74 = .ok (.dup, 1) := by decide +kernel
theorem dX10_init_75 : decode cX10_init 75 = .ok (.invokespecial 53, 3) := by decide +kernel
theorem dX10_init_78 : decode cX10_init 78 = .ok (.putfield 54, 3) := by decide +kernel
theorem dX10_init_81 : decode cX10_init 81 = .ok (.aload_n 0, 1) := by decide +kernel
theorem dX10_init_82 : decode cX10_init 82 = .ok (.iconst 2, 1) := by decide +kernel
theorem dX10_init_83 : decode cX10_init 83 = .ok (.anewarray 58, 3) := by decide +kernel
theorem dX10_init_86 : decode cX10_init 86 = .ok (.dup, 1) := by decide +kernel
theorem dX10_init_87 : decode cX10_init 87 = .ok (.iconst 0, 1) := by decide +kernel
theorem dX10_init_88 : decode cX10_init 88 = .ok (.new 58, 3) := by decide +kernel
theorem dX10_init_91 : decode cX10_init 91 = .ok (.dup, 1) := by decide +kernel
theorem dX10_init_92 : decode cX10_init 92 = .ok (.invokespecial 60, 3) := by decide +kernel
theorem dX10_init_95 : decode cX10_init 95 = .ok (.aastore, 1) := by decide +kernel
theorem dX10_init_96 : decode cX10_init 96 = .ok (.dup, 1) := by decide +kernel
theorem dX10_init_97 : decode cX10_init 97 = .ok (.iconst 1, 1) := by decide +kernel
theorem dX10_init_98 : decode cX10_init 98 = .ok (.new 58, 3) := by decide +kernel
theorem dX10_init_101 : decode cX10_init 101 = .ok (.dup, 1) := by decide +kernel
theorem dX10_init_102 : decode cX10_init 102 = .ok (.invokespecial 60, 3) := by decide +kernel
theorem dX10_init_105 : decode cX10_init 105 = .ok (.aastore, 1) := by decide +kernel
theorem dX10_init_106 : decode cX10_init 106 = .ok (.putfield 61, 3) := by decide +kernel
theorem dX10_init_109 : decode cX10_init 109 = .ok (.return_, 1) := by decide +kernel
theorem dX10_write_0 : decode cX10_write 0 = .ok (.iload_n 1, 1) := by decide +kernel
theorem dX10_write_1 : decode cX10_write 1 = .ok (.iconst 1, 1) := by decide +kernel
theorem dX10_write_2 : decode cX10_write 2 = .ok (.if_icmp .lt 9, 3) := by decide +kernel
theorem dX10_write_5 : decode cX10_write 5 = .ok (.iload_n 1, 1) := by decide +kernel
theorem dX10_write_6 : decode cX10_write 6 = .ok (.bipush 8, 2) := by decide +kernel
theorem dX10_write_8 : decode cX10_write 8 = .ok (.if_icmp .le 6, 3) := by decide +kernel
theorem dX10_write_11 : decode cX10_write 11 = .ok (.bipush (-2), 2) := by decide +kernel
theorem dX10_write_13 : decode cX10_write 13 = .ok (.ireturn, 1) := by decide +kernel
theorem dX10_write_14 : decode cX10_write 14 = .ok (.aload_n 0, 1) := by decide +kernel
theorem dX10_write_15 : decode cX10_write 15 = .ok (.getfield 10, 3) := by decide +kernel
theorem dX10_write_18 : decode cX10_write 18 = .ok (.getfield 65, 3) := by decide +kernel
theorem dX10_write_21 : decode cX10_write 21 = .ok (.iload_n 1, 1) := by decide +kernel
theorem dX10_write_22 : decode cX10_write 22 = .ok (.iadd, 1) := by decide +kernel
theorem dX10_write_23 : decode cX10_write 23 = .ok (.bipush 92, 2) := by decide +kernel
theorem dX10_write_25 : decode cX10_write 25 = .ok (.if_icmp .le 6, 3) := by decide +kernel
theorem dX10_write_28 : decode cX10_write 28 = .ok (.bipush (-4), 2) := by decide +kernel
theorem dX10_write_30 : decode cX10_write 30 = .ok (.ireturn, 1) := by decide +kernel
theorem dX10_write_31 : decode cX10_write 31 = .ok (.iload_n 1, 1) := by decide +kernel
theorem dX10_write_32 : decode cX10_write 32 = .ok (.iconst 1, 1) := by decide +kernel
theorem dX10_write_33 : decode cX10_write 33 = .ok (.isub, 1) := by decide +kernel
theorem dX10_write_34 : decode cX10_write 34 = .ok (.istore 4, 2) := by decide +kernel
theorem dX10_write_36 : decode cX10_write 36 = .ok (.iload 4, 2) := by decide +kernel
theorem dX10_write_38 : decode cX10_write 38 = .ok (.ifCond .lt 28, 3) := by decide +kernel
theorem dX10_write_41 : decode cX10_write 41 = .ok (.aload_n 0, 1) := by decide +kernel
theorem dX10_write_42 : decode cX10_write 42 = .ok (.getfield 10, 3) := by decide +kernel
theorem dX10_write_45 : decode cX10_write 45 = .ok (.lload_n 2, 1) := by decide +kernel
theorem dX10_write_46 : decode cX10_write 46 = .ok (.bipush 8, 2) := by decide +kernel
theorem dX10_write_48 : decode cX10_write 48 = .ok (.iload 4, 2) := by decide +kernel
theorem dX10_write_50 : decode cX10_write 50 = .ok (.imul, 1) := by decide +kernel
theorem dX10_write_51 : decode cX10_write 51 = .ok (.lushr, 1) := by decide +kernel
theorem dX10_write_52 : decode cX10_write 52 = .ok (.l2i, 1) := by decide +kernel
theorem dX10_write_53 : decode cX10_write 53 = .ok (.sipush 255, 3) := by decide +kernel
theorem dX10_write_56 : decode cX10_write 56 = .ok (.iand, 1) := by decide +kernel
theorem dX10_write_57 : decode cX10_write 57 = .ok (.invokevirtual 69, 3) := by decide +kernel
theorem dX10_write_60 : decode cX10_write 60 = .ok (.iinc 4 (-1), 3) := by decide +kernel
theorem dX10_write_63 : decode cX10_write 63 = .ok (.goto (-27), 3) := by decide +kernel
theorem dX10_write_66 : decode cX10_write 66 = .ok (.aload_n 0, 1) := by decide +kernel
theorem dX10_write_67 : decode cX10_write 67 = .ok (.getfield 10, 3) := by decide +kernel
theorem dX10_write_70 : decode cX10_write 70 = .ok (.getfield 65, 3) := by decide +kernel
theorem dX10_write_73 : decode cX10_write 73 = .ok (.ireturn, 1) := by decide +kernel
theorem dX10_wipe_0 : decode cX10_wipe 0 = .ok (.aload_n 0, 1) := by decide +kernel
theorem dX10_wipe_1 : decode cX10_wipe 1 = .ok (.getfield 10, 3) := by decide +kernel
theorem dX10_wipe_4 : decode cX10_wipe 4 = .ok (.getfield 65, 3) := by decide +kernel
theorem dX10_wipe_7 : decode cX10_wipe 7 = .ok (.istore_n 1, 1) := by decide +kernel
theorem dX10_wipe_8 : decode cX10_wipe 8 = .ok (.aload_n 0, 1) := by decide +kernel
theorem dX10_wipe_9 : decode cX10_wipe 9 = .ok (.getfield 10, 3) := by decide +kernel
theorem dX10_wipe_12 : decode cX10_wipe 12 = .ok (.iconst 0, 1) := by decide +kernel
theorem dX10_wipe_13 : decode cX10_wipe 13 = .ok (.putfield 65, 3) := by decide +kernel
theorem dX10_wipe_16 : decode cX10_wipe 16 = .ok (.iload_n 1, 1) := by decide +kernel
theorem dX10_wipe_17 : decode cX10_wipe 17 = .ok (.ireturn, 1) := by decide +kernel
theorem dX10_fault_0 : decode cX10_fault 0 = .ok (.aload_n 0, 1) := by decide +kernel
theorem dX10_fault_1 : decode cX10_fault 1 = .ok (.getfield 19, 3) := by decide +kernel
theorem dX10_fault_4 : decode cX10_fault 4 = .ok (.aload_n 0, 1) := by decide +kernel
theorem dX10_fault_5 : decode cX10_fault 5 = .ok (.getfield 10, 3) := by decide +kernel
theorem dX10_fault_8 : decode cX10_fault 8 = .ok (.invokevirtual 73, 3) := by decide +kernel
theorem dX10_fault_11 : decode cX10_fault 11 = .ok (.ireturn, 1) := by decide +kernel
theorem dX10_place_0 : decode cX10_place 0 = .ok (.aload_n 0, 1) := by decide +kernel
theorem dX10_place_1 : decode cX10_place 1 = .ok (.getfield 19, 3) := by decide +kernel
theorem dX10_place_4 : decode cX10_place 4 = .ok (.aload_n 0, 1) := by decide +kernel
theorem dX10_place_5 : decode cX10_place 5 = .ok (.getfield 10, 3) := by decide +kernel
theorem dX10_place_8 : decode cX10_place 8 = .ok (.invokevirtual 73, 3) := by decide +kernel
theorem dX10_place_11 : decode cX10_place 11 = .ok (.bipush (-9), 2) := by decide +kernel
theorem dX10_place_13 : decode cX10_place 13 = .ok (.if_icmp .eq 6, 3) := by decide +kernel
theorem dX10_place_16 : decode cX10_place 16 = .ok (.bipush (-3), 2) := by decide +kernel
theorem dX10_place_18 : decode cX10_place 18 = .ok (.ireturn, 1) := by decide +kernel
theorem dX10_place_19 : decode cX10_place 19 = .ok (.aload_n 0, 1) := by decide +kernel
theorem dX10_place_20 : decode cX10_place 20 = .ok (.getfield 26, 3) := by decide +kernel
theorem dX10_place_23 : decode cX10_place 23 = .ok (.aload_n 0, 1) := by decide +kernel
theorem dX10_place_24 : decode cX10_place 24 = .ok (.getfield 19, 3) := by decide +kernel
theorem dX10_place_27 : decode cX10_place 27 = .ok (.getfield 77, 3) := by decide +kernel
theorem dX10_place_30 : decode cX10_place 30 = .ok (.invokevirtual 80, 3) := by decide +kernel
theorem dX10_place_33 : decode cX10_place 33 = .ok (.aload_n 0, 1) := by decide +kernel
theorem dX10_place_34 : decode cX10_place 34 = .ok (.getfield 33, 3) := by decide +kernel
theorem dX10_place_37 : decode cX10_place 37 = .ok (.invokevirtual 84, 3) := by decide +kernel
theorem dX10_place_40 : decode cX10_place 40 = .ok (.iconst 0, 1) := by decide +kernel
theorem dX10_place_41 : decode cX10_place 41 = .ok (.istore_n 1, 1) := by decide +kernel
theorem dX10_place_42 : decode cX10_place 42 = .ok (.iload_n 1, 1) := by decide +kernel
theorem dX10_place_43 : decode cX10_place 43 = .ok (.iconst 2, 1) := by decide +kernel
theorem dX10_place_44 : decode cX10_place 44 = .ok (.if_icmp .ge 19, 3) := by decide +kernel
theorem dX10_place_47 : decode cX10_place 47 = .ok (.aload_n 0, 1) := by decide +kernel
theorem dX10_place_48 : decode cX10_place 48 = .ok (.getfield 61, 3) := by decide +kernel
theorem dX10_place_51 : decode cX10_place 51 = .ok (.iload_n 1, 1) := by decide +kernel
theorem dX10_place_52 : decode cX10_place 52 = .ok (.aaload, 1) := by decide +kernel
theorem dX10_place_53 : decode cX10_place 53 = .ok (.iconst 0, 1) := by decide +kernel
theorem dX10_place_54 : decode cX10_place 54 = .ok (.putfield 87, 3) := by decide +kernel
theorem dX10_place_57 : decode cX10_place 57 = .ok (.iinc 1 1, 3) := by decide +kernel
theorem dX10_place_60 : decode cX10_place 60 = .ok (.goto (-18), 3) := by decide +kernel
theorem dX10_place_63 : decode cX10_place 63 = .ok (.aload_n 0, 1) := by decide +kernel
theorem dX10_place_64 : decode cX10_place 64 = .ok (.getfield 26, 3) := by decide +kernel
theorem dX10_place_67 : decode cX10_place 67 = .ok (.getfield 91, 3) := by decide +kernel
theorem dX10_place_70 : decode cX10_place 70 = .ok (.getfield 95, 3) := by decide +kernel
theorem dX10_place_73 : decode cX10_place 73 = .ok (.ireturn, 1) := by decide +kernel
theorem dX10_body_0 : decode cX10_body 0 = .ok (.aload_n 0, 1) := by decide +kernel
theorem dX10_body_1 : decode cX10_body 1 = .ok (.getfield 26, 3) := by decide +kernel
theorem dX10_body_4 : decode cX10_body 4 = .ok (.getfield 91, 3) := by decide +kernel
theorem dX10_body_7 : decode cX10_body 7 = .ok (.astore_n 3, 1) := by decide +kernel
theorem dX10_body_8 : decode cX10_body 8 = .ok (.aload_n 3, 1) := by decide +kernel
theorem dX10_body_9 : decode cX10_body 9 = .ok (.iload_n 1, 1) := by decide +kernel
theorem dX10_body_10 : decode cX10_body 10 = .ok (.invokevirtual 98, 3) := by decide +kernel
theorem dX10_body_13 : decode cX10_body 13 = .ok (.ifCond .ne 5, 3) := by decide +kernel
theorem dX10_body_16 : decode cX10_body 16 = .ok (.iconst (-1), 1) := by decide +kernel
theorem dX10_body_17 : decode cX10_body 17 = .ok (.ireturn, 1) := by decide +kernel
theorem dX10_body_18 : decode cX10_body 18 = .ok (.iload_n 2, 1) := by decide +kernel
theorem dX10_body_19 : decode cX10_body 19 = .ok (.tableswitch 66 0 4 #[33, 40, 47, 54, 60], 33) := by decide +kernel
theorem dX10_body_52 : decode cX10_body 52 = .ok (.aload_n 3, 1) := by decide +kernel
theorem dX10_body_53 : decode cX10_body 53 = .ok (.getfield 102, 3) := by decide +kernel
theorem dX10_body_56 : decode cX10_body 56 = .ok (.iload_n 1, 1) := by decide +kernel
theorem dX10_body_57 : decode cX10_body 57 = .ok (.iaload, 1) := by decide +kernel
theorem dX10_body_58 : decode cX10_body 58 = .ok (.ireturn, 1) := by decide +kernel
theorem dX10_body_59 : decode cX10_body 59 = .ok (.aload_n 3, 1) := by decide +kernel
theorem dX10_body_60 : decode cX10_body 60 = .ok (.getfield 106, 3) := by decide +kernel
theorem dX10_body_63 : decode cX10_body 63 = .ok (.iload_n 1, 1) := by decide +kernel
theorem dX10_body_64 : decode cX10_body 64 = .ok (.iaload, 1) := by decide +kernel
theorem dX10_body_65 : decode cX10_body 65 = .ok (.ireturn, 1) := by decide +kernel
theorem dX10_body_66 : decode cX10_body 66 = .ok (.aload_n 3, 1) := by decide +kernel
theorem dX10_body_67 : decode cX10_body 67 = .ok (.getfield 109, 3) := by decide +kernel
theorem dX10_body_70 : decode cX10_body 70 = .ok (.iload_n 1, 1) := by decide +kernel
theorem dX10_body_71 : decode cX10_body 71 = .ok (.iaload, 1) := by decide +kernel
theorem dX10_body_72 : decode cX10_body 72 = .ok (.ireturn, 1) := by decide +kernel
theorem dX10_body_73 : decode cX10_body 73 = .ok (.aload_n 3, 1) := by decide +kernel
theorem dX10_body_74 : decode cX10_body 74 = .ok (.iload_n 1, 1) := by decide +kernel
theorem dX10_body_75 : decode cX10_body 75 = .ok (.invokevirtual 112, 3) := by decide +kernel
theorem dX10_body_78 : decode cX10_body 78 = .ok (.ireturn, 1) := by decide +kernel
theorem dX10_body_79 : decode cX10_body 79 = .ok (.aload_n 3, 1) := by decide +kernel
theorem dX10_body_80 : decode cX10_body 80 = .ok (.iload_n 1, 1) := by decide +kernel
theorem dX10_body_81 : decode cX10_body 81 = .ok (.invokevirtual 116, 3) := by decide +kernel
theorem dX10_body_84 : decode cX10_body 84 = .ok (.ireturn, 1) := by decide +kernel
theorem dX10_body_85 : decode cX10_body 85 = .ok (.bipush (-2), 2) := by decide +kernel
theorem dX10_body_87 : decode cX10_body 87 = .ok (.ireturn, 1) := by decide +kernel
theorem dX10_hill_0 : decode cX10_hill 0 = .ok (.aload_n 0, 1) := by decide +kernel
theorem dX10_hill_1 : decode cX10_hill 1 = .ok (.getfield 26, 3) := by decide +kernel
theorem dX10_hill_4 : decode cX10_hill 4 = .ok (.getfield 119, 3) := by decide +kernel
theorem dX10_hill_7 : decode cX10_hill 7 = .ok (.iload_n 1, 1) := by decide +kernel
theorem dX10_hill_8 : decode cX10_hill 8 = .ok (.invokevirtual 123, 3) := by decide +kernel
theorem dX10_hill_11 : decode cX10_hill 11 = .ok (.ifCond .ne 5, 3) := by decide +kernel
theorem dX10_hill_14 : decode cX10_hill 14 = .ok (.iconst (-1), 1) := by decide +kernel
theorem dX10_hill_15 : decode cX10_hill 15 = .ok (.ireturn, 1) := by decide +kernel
theorem dX10_hill_16 : decode cX10_hill 16 = .ok (.iload_n 2, 1) := by decide +kernel
theorem dX10_hill_17 : decode cX10_hill 17 = .ok (.iconst 4, 1) := by decide +kernel
theorem dX10_hill_18 : decode cX10_hill 18 = .ok (.invokestatic 128, 3) := by decide +kernel
theorem dX10_hill_21 : decode cX10_hill 21 = .ok (.ifCond .eq 20, 3) := by decide +kernel
theorem dX10_hill_24 : decode cX10_hill 24 = .ok (.aload_n 0, 1) := by decide +kernel
theorem dX10_hill_25 : decode cX10_hill 25 = .ok (.getfield 26, 3) := by decide +kernel
theorem dX10_hill_28 : decode cX10_hill 28 = .ok (.getfield 119, 3) := by decide +kernel
theorem dX10_hill_31 : decode cX10_hill 31 = .ok (.getfield 132, 3) := by decide +kernel
theorem dX10_hill_34 : decode cX10_hill 34 = .ok (.iload_n 1, 1) := by decide +kernel
theorem dX10_hill_35 : decode cX10_hill 35 = .ok (.aaload, 1) := by decide +kernel
theorem dX10_hill_36 : decode cX10_hill 36 = .ok (.iload_n 2, 1) := by decide +kernel
theorem dX10_hill_37 : decode cX10_hill 37 = .ok (.iaload, 1) := by decide +kernel
theorem dX10_hill_38 : decode cX10_hill 38 = .ok (.goto 5, 3) := by decide +kernel
theorem dX10_hill_41 : decode cX10_hill 41 = .ok (.bipush (-2), 2) := by decide +kernel
theorem dX10_hill_43 : decode cX10_hill 43 = .ok (.ireturn, 1) := by decide +kernel
theorem dX10_put_0 : decode cX10_put 0 = .ok (.aload_n 0, 1) := by decide +kernel
theorem dX10_put_1 : decode cX10_put 1 = .ok (.getfield 26, 3) := by decide +kernel
theorem dX10_put_4 : decode cX10_put 4 = .ok (.getfield 91, 3) := by decide +kernel
theorem dX10_put_7 : decode cX10_put 7 = .ok (.astore 4, 2) := by decide +kernel
theorem dX10_put_9 : decode cX10_put 9 = .ok (.iload_n 1, 1) := by decide +kernel
theorem dX10_put_10 : decode cX10_put 10 = .ok (.bipush 6, 2) := by decide +kernel
theorem dX10_put_12 : decode cX10_put 12 = .ok (.invokestatic 128, 3) := by decide +kernel
theorem dX10_put_15 : decode cX10_put 15 = .ok (.ifCond .eq 11, 3) := by decide +kernel
theorem dX10_put_18 : decode cX10_put 18 = .ok (.iload_n 2, 1) := by decide +kernel
theorem dX10_put_19 : decode cX10_put 19 = .ok (.iload_n 3, 1) := by decide +kernel
theorem dX10_put_20 : decode cX10_put 20 = .ok (.invokestatic 136, 3) := by decide +kernel
theorem dX10_put_23 : decode cX10_put 23 = .ok (.ifCond .ne 6, 3) := by decide +kernel
theorem dX10_put_26 : decode cX10_put 26 = .ok (.bipush (-2), 2) := by decide +kernel
theorem dX10_put_28 : decode cX10_put 28 = .ok (.ireturn, 1) := by decide +kernel
theorem dX10_put_29 : decode cX10_put 29 = .ok (.aload 4, 2) := by decide +kernel
theorem dX10_put_31 : decode cX10_put 31 = .ok (.iload_n 2, 1) := by decide +kernel
theorem dX10_put_32 : decode cX10_put 32 = .ok (.iload_n 3, 1) := by decide +kernel
theorem dX10_put_33 : decode cX10_put 33 = .ok (.invokevirtual 139, 3) := by decide +kernel
theorem dX10_put_36 : decode cX10_put 36 = .ok (.ifCond .eq 6, 3) := by decide +kernel
theorem dX10_put_39 : decode cX10_put 39 = .ok (.bipush (-3), 2) := by decide +kernel
theorem dX10_put_41 : decode cX10_put 41 = .ok (.ireturn, 1) := by decide +kernel
theorem dX10_put_42 : decode cX10_put 42 = .ok (.aload 4, 2) := by decide +kernel
theorem dX10_put_44 : decode cX10_put 44 = .ok (.getfield 95, 3) := by decide +kernel
theorem dX10_put_47 : decode cX10_put 47 = .ok (.bipush 8, 2) := by decide +kernel
theorem dX10_put_49 : decode cX10_put 49 = .ok (.if_icmp .lt 6, 3) := by decide +kernel
theorem dX10_put_52 : decode cX10_put 52 = .ok (.bipush (-4), 2) := by decide +kernel
theorem dX10_put_54 : decode cX10_put 54 = .ok (.ireturn, 1) := by decide +kernel
theorem dX10_put_55 : decode cX10_put 55 = .ok (.aload 4, 2) := by decide +kernel
theorem dX10_put_57 : decode cX10_put 57 = .ok (.getfield 95, 3) := by decide +kernel
theorem dX10_put_60 : decode cX10_put 60 = .ok (.istore 5, 2) := by decide +kernel
theorem dX10_put_62 : decode cX10_put 62 = .ok (.aload 4, 2) := by decide +kernel
theorem dX10_put_64 : decode cX10_put 64 = .ok (.iload 5, 2) := by decide +kernel
theorem dX10_put_66 : decode cX10_put 66 = .ok (.iload_n 1, 1) := by decide +kernel
theorem dX10_put_67 : decode cX10_put 67 = .ok (.iload_n 2, 1) := by decide +kernel
theorem dX10_put_68 : decode cX10_put 68 = .ok (.iload_n 3, 1) := by decide +kernel
theorem dX10_put_69 : decode cX10_put 69 = .ok (.invokevirtual 142, 3) := by decide +kernel
theorem dX10_put_72 : decode cX10_put 72 = .ok (.aload_n 0, 1) := by decide +kernel
theorem dX10_put_73 : decode cX10_put 73 = .ok (.getfield 33, 3) := by decide +kernel
theorem dX10_put_76 : decode cX10_put 76 = .ok (.iconst 0, 1) := by decide +kernel
theorem dX10_put_77 : decode cX10_put 77 = .ok (.iload 5, 2) := by decide +kernel
theorem dX10_put_79 : decode cX10_put 79 = .ok (.aload 4, 2) := by decide +kernel
theorem dX10_put_81 : decode cX10_put 81 = .ok (.invokevirtual 146, 3) := by decide +kernel
theorem dX10_put_84 : decode cX10_put 84 = .ok (.iload 5, 2) := by decide +kernel
theorem dX10_put_86 : decode cX10_put 86 = .ok (.ireturn, 1) := by decide +kernel
theorem dX10_move_0 : decode cX10_move 0 = .ok (.aload_n 0, 1) := by decide +kernel
theorem dX10_move_1 : decode cX10_move 1 = .ok (.getfield 26, 3) := by decide +kernel
theorem dX10_move_4 : decode cX10_move 4 = .ok (.getfield 91, 3) := by decide +kernel
theorem dX10_move_7 : decode cX10_move 7 = .ok (.astore 4, 2) := by decide +kernel
theorem dX10_move_9 : decode cX10_move 9 = .ok (.aload 4, 2) := by decide +kernel
theorem dX10_move_11 : decode cX10_move 11 = .ok (.iload_n 1, 1) := by decide +kernel
theorem dX10_move_12 : decode cX10_move 12 = .ok (.invokevirtual 98, 3) := by decide +kernel
theorem dX10_move_15 : decode cX10_move 15 = .ok (.ifCond .ne 5, 3) := by decide +kernel
theorem dX10_move_18 : decode cX10_move 18 = .ok (.iconst (-1), 1) := by decide +kernel
theorem dX10_move_19 : decode cX10_move 19 = .ok (.ireturn, 1) := by decide +kernel
theorem dX10_move_20 : decode cX10_move 20 = .ok (.iload_n 2, 1) := by decide +kernel
theorem dX10_move_21 : decode cX10_move 21 = .ok (.iload_n 3, 1) := by decide +kernel
theorem dX10_move_22 : decode cX10_move 22 = .ok (.invokestatic 136, 3) := by decide +kernel
theorem dX10_move_25 : decode cX10_move 25 = .ok (.ifCond .ne 6, 3) := by decide +kernel
theorem dX10_move_28 : decode cX10_move 28 = .ok (.bipush (-2), 2) := by decide +kernel
theorem dX10_move_30 : decode cX10_move 30 = .ok (.ireturn, 1) := by decide +kernel
theorem dX10_move_31 : decode cX10_move 31 = .ok (.aload 4, 2) := by decide +kernel
theorem dX10_move_33 : decode cX10_move 33 = .ok (.iload_n 2, 1) := by decide +kernel
theorem dX10_move_34 : decode cX10_move 34 = .ok (.iload_n 3, 1) := by decide +kernel
theorem dX10_move_35 : decode cX10_move 35 = .ok (.invokevirtual 139, 3) := by decide +kernel
theorem dX10_move_38 : decode cX10_move 38 = .ok (.ifCond .eq 6, 3) := by decide +kernel
theorem dX10_move_41 : decode cX10_move 41 = .ok (.bipush (-3), 2) := by decide +kernel
theorem dX10_move_43 : decode cX10_move 43 = .ok (.ireturn, 1) := by decide +kernel
theorem dX10_move_44 : decode cX10_move 44 = .ok (.iload_n 2, 1) := by decide +kernel
theorem dX10_move_45 : decode cX10_move 45 = .ok (.aload 4, 2) := by decide +kernel
theorem dX10_move_47 : decode cX10_move 47 = .ok (.getfield 106, 3) := by decide +kernel
theorem dX10_move_50 : decode cX10_move 50 = .ok (.iload_n 1, 1) := by decide +kernel
theorem dX10_move_51 : decode cX10_move 51 = .ok (.iaload, 1) := by decide +kernel
theorem dX10_move_52 : decode cX10_move 52 = .ok (.isub, 1) := by decide +kernel
theorem dX10_move_53 : decode cX10_move 53 = .ok (.invokestatic 150, 3) := by decide +kernel
theorem dX10_move_56 : decode cX10_move 56 = .ok (.iload_n 3, 1) := by decide +kernel
theorem dX10_move_57 : decode cX10_move 57 = .ok (.aload 4, 2) := by decide +kernel
theorem dX10_move_59 : decode cX10_move 59 = .ok (.getfield 109, 3) := by decide +kernel
theorem dX10_move_62 : decode cX10_move 62 = .ok (.iload_n 1, 1) := by decide +kernel
theorem dX10_move_63 : decode cX10_move 63 = .ok (.iaload, 1) := by decide +kernel
theorem dX10_move_64 : decode cX10_move 64 = .ok (.isub, 1) := by decide +kernel
theorem dX10_move_65 : decode cX10_move 65 = .ok (.invokestatic 150, 3) := by decide +kernel
theorem dX10_move_68 : decode cX10_move 68 = .ok (.iadd, 1) := by decide +kernel
theorem dX10_move_69 : decode cX10_move 69 = .ok (.istore 5, 2) := by decide +kernel
theorem dX10_move_71 : decode cX10_move 71 = .ok (.aload_n 0, 1) := by decide +kernel
theorem dX10_move_72 : decode cX10_move 72 = .ok (.getfield 33, 3) := by decide +kernel
theorem dX10_move_75 : decode cX10_move 75 = .ok (.iconst 1, 1) := by decide +kernel
theorem dX10_move_76 : decode cX10_move 76 = .ok (.iload_n 1, 1) := by decide +kernel
theorem dX10_move_77 : decode cX10_move 77 = .ok (.aload 4, 2) := by decide +kernel
theorem dX10_move_79 : decode cX10_move 79 = .ok (.invokevirtual 146, 3) := by decide +kernel
theorem dX10_move_82 : decode cX10_move 82 = .ok (.aload 4, 2) := by decide +kernel
theorem dX10_move_84 : decode cX10_move 84 = .ok (.getfield 106, 3) := by decide +kernel
theorem dX10_move_87 : decode cX10_move 87 = .ok (.iload_n 1, 1) := by decide +kernel
theorem dX10_move_88 : decode cX10_move 88 = .ok (.iload_n 2, 1) := by decide +kernel
theorem dX10_move_89 : decode cX10_move 89 = .ok (.iastore, 1) := by decide +kernel
theorem dX10_move_90 : decode cX10_move 90 = .ok (.aload 4, 2) := by decide +kernel
theorem dX10_move_92 : decode cX10_move 92 = .ok (.getfield 109, 3) := by decide +kernel
theorem dX10_move_95 : decode cX10_move 95 = .ok (.iload_n 1, 1) := by decide +kernel
theorem dX10_move_96 : decode cX10_move 96 = .ok (.iload_n 3, 1) := by decide +kernel
theorem dX10_move_97 : decode cX10_move 97 = .ok (.iastore, 1) := by decide +kernel
theorem dX10_move_98 : decode cX10_move 98 = .ok (.iload 5, 2) := by decide +kernel
theorem dX10_move_100 : decode cX10_move 100 = .ok (.ireturn, 1) := by decide +kernel
theorem dX10_take_0 : decode cX10_take 0 = .ok (.aload_n 0, 1) := by decide +kernel
theorem dX10_take_1 : decode cX10_take 1 = .ok (.getfield 26, 3) := by decide +kernel
theorem dX10_take_4 : decode cX10_take 4 = .ok (.getfield 91, 3) := by decide +kernel
theorem dX10_take_7 : decode cX10_take 7 = .ok (.astore_n 2, 1) := by decide +kernel
theorem dX10_take_8 : decode cX10_take 8 = .ok (.aload_n 2, 1) := by decide +kernel
theorem dX10_take_9 : decode cX10_take 9 = .ok (.iload_n 1, 1) := by decide +kernel
theorem dX10_take_10 : decode cX10_take 10 = .ok (.invokevirtual 98, 3) := by decide +kernel
theorem dX10_take_13 : decode cX10_take 13 = .ok (.ifCond .ne 5, 3) := by decide +kernel
theorem dX10_take_16 : decode cX10_take 16 = .ok (.iconst (-1), 1) := by decide +kernel
theorem dX10_take_17 : decode cX10_take 17 = .ok (.ireturn, 1) := by decide +kernel
theorem dX10_take_18 : decode cX10_take 18 = .ok (.aload_n 0, 1) := by decide +kernel
theorem dX10_take_19 : decode cX10_take 19 = .ok (.getfield 33, 3) := by decide +kernel
theorem dX10_take_22 : decode cX10_take 22 = .ok (.iconst 2, 1) := by decide +kernel
theorem dX10_take_23 : decode cX10_take 23 = .ok (.iload_n 1, 1) := by decide +kernel
theorem dX10_take_24 : decode cX10_take 24 = .ok (.aload_n 2, 1) := by decide +kernel
theorem dX10_take_25 : decode cX10_take 25 = .ok (.invokevirtual 146, 3) := by decide +kernel
theorem dX10_take_28 : decode cX10_take 28 = .ok (.aload_n 2, 1) := by decide +kernel
theorem dX10_take_29 : decode cX10_take 29 = .ok (.iload_n 1, 1) := by decide +kernel
theorem dX10_take_30 : decode cX10_take 30 = .ok (.invokevirtual 155, 3) := by decide +kernel
theorem dX10_take_33 : decode cX10_take 33 = .ok (.aload_n 2, 1) := by decide +kernel
theorem dX10_take_34 : decode cX10_take 34 = .ok (.getfield 95, 3) := by decide +kernel
theorem dX10_take_37 : decode cX10_take 37 = .ok (.ireturn, 1) := by decide +kernel
theorem dX10_back_0 : decode cX10_back 0 = .ok (.aload_n 0, 1) := by decide +kernel
theorem dX10_back_1 : decode cX10_back 1 = .ok (.getfield 33, 3) := by decide +kernel
theorem dX10_back_4 : decode cX10_back 4 = .ok (.getfield 158, 3) := by decide +kernel
theorem dX10_back_7 : decode cX10_back 7 = .ok (.ifCond .ne 6, 3) := by decide +kernel
theorem dX10_back_10 : decode cX10_back 10 = .ok (.bipush (-3), 2) := by decide +kernel
theorem dX10_back_12 : decode cX10_back 12 = .ok (.ireturn, 1) := by decide +kernel
theorem dX10_back_13 : decode cX10_back 13 = .ok (.aload_n 0, 1) := by decide +kernel
theorem dX10_back_14 : decode cX10_back 14 = .ok (.getfield 33, 3) := by decide +kernel
theorem dX10_back_17 : decode cX10_back 17 = .ok (.aload_n 0, 1) := by decide +kernel
theorem dX10_back_18 : decode cX10_back 18 = .ok (.getfield 26, 3) := by decide +kernel
theorem dX10_back_21 : decode cX10_back 21 = .ok (.getfield 91, 3) := by decide +kernel
theorem dX10_back_24 : decode cX10_back 24 = .ok (.invokevirtual 159, 3) := by decide +kernel
theorem dX10_back_27 : decode cX10_back 27 = .ok (.aload_n 0, 1) := by decide +kernel
theorem dX10_back_28 : decode cX10_back 28 = .ok (.getfield 33, 3) := by decide +kernel
theorem dX10_back_31 : decode cX10_back 31 = .ok (.getfield 158, 3) := by decide +kernel
theorem dX10_back_34 : decode cX10_back 34 = .ok (.ireturn, 1) := by decide +kernel
theorem dX10_shadow_0 : decode cX10_shadow 0 = .ok (.aload_n 0, 1) := by decide +kernel
theorem dX10_shadow_1 : decode cX10_shadow 1 = .ok (.getfield 26, 3) := by decide +kernel
theorem dX10_shadow_4 : decode cX10_shadow 4 = .ok (.getfield 91, 3) := by decide +kernel
theorem dX10_shadow_7 : decode cX10_shadow 7 = .ok (.iload_n 1, 1) := by decide +kernel
theorem dX10_shadow_8 : decode cX10_shadow 8 = .ok (.invokevirtual 98, 3) := by decide +kernel
theorem dX10_shadow_11 : decode cX10_shadow 11 = .ok (.ifCond .ne 5, 3) := by decide +kernel
theorem dX10_shadow_14 : decode cX10_shadow 14 = .ok (.iconst (-1), 1) := by decide +kernel
theorem dX10_shadow_15 : decode cX10_shadow 15 = .ok (.ireturn, 1) := by decide +kernel
theorem dX10_shadow_16 : decode cX10_shadow 16 = .ok (.iload_n 2, 1) := by decide +kernel
theorem dX10_shadow_17 : decode cX10_shadow 17 = .ok (.invokestatic 163, 3) := by decide +kernel
theorem dX10_shadow_20 : decode cX10_shadow 20 = .ok (.ifCond .eq 21, 3) := by decide +kernel
theorem dX10_shadow_23 : decode cX10_shadow 23 = .ok (.aload_n 0, 1) := by decide +kernel
theorem dX10_shadow_24 : decode cX10_shadow 24 = .ok (.getfield 26, 3) := by decide +kernel
theorem dX10_shadow_27 : decode cX10_shadow 27 = .ok (.getfield 91, 3) := by decide +kernel
theorem dX10_shadow_30 : decode cX10_shadow 30 = .ok (.iload_n 1, 1) := by decide +kernel
theorem dX10_shadow_31 : decode cX10_shadow 31 = .ok (.invokevirtual 112, 3) := by decide +kernel
theorem dX10_shadow_34 : decode cX10_shadow 34 = .ok (.iload_n 2, 1) := by decide +kernel
theorem dX10_shadow_35 : decode cX10_shadow 35 = .ok (.invokestatic 166, 3) := by decide +kernel
theorem dX10_shadow_38 : decode cX10_shadow 38 = .ok (.goto 5, 3) := by decide +kernel
theorem dX10_shadow_41 : decode cX10_shadow 41 = .ok (.bipush (-2), 2) := by decide +kernel
theorem dX10_shadow_43 : decode cX10_shadow 43 = .ok (.ireturn, 1) := by decide +kernel
theorem dX10_dark_0 : decode cX10_dark 0 = .ok (.iload_n 1, 1) := by decide +kernel
theorem dX10_dark_1 : decode cX10_dark 1 = .ok (.invokestatic 163, 3) := by decide +kernel
theorem dX10_dark_4 : decode cX10_dark 4 = .ok (.ifCond .eq 24, 3) := by decide +kernel
theorem dX10_dark_7 : decode cX10_dark 7 = .ok (.iload_n 2, 1) := by decide +kernel
theorem dX10_dark_8 : decode cX10_dark 8 = .ok (.bipush 6, 2) := by decide +kernel
theorem dX10_dark_10 : decode cX10_dark 10 = .ok (.invokestatic 128, 3) := by decide +kernel
theorem dX10_dark_13 : decode cX10_dark 13 = .ok (.ifCond .eq 15, 3) := by decide +kernel
theorem dX10_dark_16 : decode cX10_dark 16 = .ok (.aload_n 0, 1) := by decide +kernel
theorem dX10_dark_17 : decode cX10_dark 17 = .ok (.getfield 26, 3) := by decide +kernel
theorem dX10_dark_20 : decode cX10_dark 20 = .ok (.iload_n 1, 1) := by decide +kernel
theorem dX10_dark_21 : decode cX10_dark 21 = .ok (.iload_n 2, 1) := by decide +kernel
theorem dX10_dark_22 : decode cX10_dark 22 = .ok (.invokevirtual 170, 3) := by decide +kernel
theorem dX10_dark_25 : decode cX10_dark 25 = .ok (.goto 5, 3) := by decide +kernel
theorem dX10_dark_28 : decode cX10_dark 28 = .ok (.bipush (-2), 2) := by decide +kernel
theorem dX10_dark_30 : decode cX10_dark 30 = .ok (.ireturn, 1) := by decide +kernel
theorem dX10_runs_0 : decode cX10_runs 0 = .ok (.aload_n 0, 1) := by decide +kernel
theorem dX10_runs_1 : decode cX10_runs 1 = .ok (.getfield 26, 3) := by decide +kernel
theorem dX10_runs_4 : decode cX10_runs 4 = .ok (.getfield 119, 3) := by decide +kernel
theorem dX10_runs_7 : decode cX10_runs 7 = .ok (.iload_n 1, 1) := by decide +kernel
theorem dX10_runs_8 : decode cX10_runs 8 = .ok (.invokevirtual 123, 3) := by decide +kernel
theorem dX10_runs_11 : decode cX10_runs 11 = .ok (.ifCond .ne 5, 3) := by decide +kernel
theorem dX10_runs_14 : decode cX10_runs 14 = .ok (.iconst (-1), 1) := by decide +kernel
theorem dX10_runs_15 : decode cX10_runs 15 = .ok (.ireturn, 1) := by decide +kernel
theorem dX10_runs_16 : decode cX10_runs 16 = .ok (.iload_n 2, 1) := by decide +kernel
theorem dX10_runs_17 : decode cX10_runs 17 = .ok (.invokestatic 163, 3) := by decide +kernel
theorem dX10_runs_20 : decode cX10_runs 20 = .ok (.ifCond .ne 6, 3) := by decide +kernel
theorem dX10_runs_23 : decode cX10_runs 23 = .ok (.bipush (-2), 2) := by decide +kernel
theorem dX10_runs_25 : decode cX10_runs 25 = .ok (.ireturn, 1) := by decide +kernel
theorem dX10_runs_26 : decode cX10_runs 26 = .ok (.aload_n 0, 1) := by decide +kernel
theorem dX10_runs_27 : decode cX10_runs 27 = .ok (.getfield 40, 3) := by decide +kernel
theorem dX10_runs_30 : decode cX10_runs 30 = .ok (.aload_n 0, 1) := by decide +kernel
theorem dX10_runs_31 : decode cX10_runs 31 = .ok (.getfield 26, 3) := by decide +kernel
theorem dX10_runs_34 : decode cX10_runs 34 = .ok (.iload_n 1, 1) := by decide +kernel
theorem dX10_runs_35 : decode cX10_runs 35 = .ok (.iload_n 2, 1) := by decide +kernel
theorem dX10_runs_36 : decode cX10_runs 36 = .ok (.invokevirtual 173, 3) := by decide +kernel
theorem dX10_runs_39 : decode cX10_runs 39 = .ok (.aload_n 0, 1) := by decide +kernel
theorem dX10_runs_40 : decode cX10_runs 40 = .ok (.getfield 40, 3) := by decide +kernel
theorem dX10_runs_43 : decode cX10_runs 43 = .ok (.getfield 177, 3) := by decide +kernel
theorem dX10_runs_46 : decode cX10_runs 46 = .ok (.ireturn, 1) := by decide +kernel
theorem dX10_run_0 : decode cX10_run 0 = .ok (.aload_n 0, 1) := by decide +kernel
theorem dX10_run_1 : decode cX10_run 1 = .ok (.getfield 26, 3) := by decide +kernel
theorem dX10_run_4 : decode cX10_run 4 = .ok (.getfield 119, 3) := by decide +kernel
theorem dX10_run_7 : decode cX10_run 7 = .ok (.iload_n 1, 1) := by decide +kernel
theorem dX10_run_8 : decode cX10_run 8 = .ok (.invokevirtual 123, 3) := by decide +kernel
theorem dX10_run_11 : decode cX10_run 11 = .ok (.ifCond .ne 5, 3) := by decide +kernel
theorem dX10_run_14 : decode cX10_run 14 = .ok (.iconst (-1), 1) := by decide +kernel
theorem dX10_run_15 : decode cX10_run 15 = .ok (.ireturn, 1) := by decide +kernel
theorem dX10_run_16 : decode cX10_run 16 = .ok (.iload_n 2, 1) := by decide +kernel
theorem dX10_run_17 : decode cX10_run 17 = .ok (.invokestatic 163, 3) := by decide +kernel
theorem dX10_run_20 : decode cX10_run 20 = .ok (.ifCond .eq 12, 3) := by decide +kernel
theorem dX10_run_23 : decode cX10_run 23 = .ok (.iload 4, 2) := by decide +kernel
theorem dX10_run_25 : decode cX10_run 25 = .ok (.iconst 3, 1) := by decide +kernel
theorem dX10_run_26 : decode cX10_run 26 = .ok (.invokestatic 128, 3) := by decide +kernel
theorem dX10_run_29 : decode cX10_run 29 = .ok (.ifCond .ne 6, 3) := by decide +kernel
theorem dX10_run_32 : decode cX10_run 32 = .ok (.bipush (-2), 2) := by decide +kernel
theorem dX10_run_34 : decode cX10_run 34 = .ok (.ireturn, 1) := by decide +kernel
theorem dX10_run_35 : decode cX10_run 35 = .ok (.aload_n 0, 1) := by decide +kernel
theorem dX10_run_36 : decode cX10_run 36 = .ok (.getfield 40, 3) := by decide +kernel
theorem dX10_run_39 : decode cX10_run 39 = .ok (.aload_n 0, 1) := by decide +kernel
theorem dX10_run_40 : decode cX10_run 40 = .ok (.getfield 26, 3) := by decide +kernel
theorem dX10_run_43 : decode cX10_run 43 = .ok (.iload_n 1, 1) := by decide +kernel
theorem dX10_run_44 : decode cX10_run 44 = .ok (.iload_n 2, 1) := by decide +kernel
theorem dX10_run_45 : decode cX10_run 45 = .ok (.invokevirtual 173, 3) := by decide +kernel
theorem dX10_run_48 : decode cX10_run 48 = .ok (.iload_n 3, 1) := by decide +kernel
theorem dX10_run_49 : decode cX10_run 49 = .ok (.aload_n 0, 1) := by decide +kernel
theorem dX10_run_50 : decode cX10_run 50 = .ok (.getfield 40, 3) := by decide +kernel
theorem dX10_run_53 : decode cX10_run 53 = .ok (.getfield 177, 3) := by decide +kernel
theorem dX10_run_56 : decode cX10_run 56 = .ok (.invokestatic 128, 3) := by decide +kernel
theorem dX10_run_59 : decode cX10_run 59 = .ok (.ifCond .ne 6, 3) := by decide +kernel
theorem dX10_run_62 : decode cX10_run 62 = .ok (.bipush (-9), 2) := by decide +kernel
theorem dX10_run_64 : decode cX10_run 64 = .ok (.ireturn, 1) := by decide +kernel
theorem dX10_run_65 : decode cX10_run 65 = .ok (.iload 4, 2) := by decide +kernel
theorem dX10_run_67 : decode cX10_run 67 = .ok (.ifCond .ne 13, 3) := by decide +kernel
theorem dX10_run_70 : decode cX10_run 70 = .ok (.aload_n 0, 1) := by decide +kernel
theorem dX10_run_71 : decode cX10_run 71 = .ok (.getfield 40, 3) := by decide +kernel
theorem dX10_run_74 : decode cX10_run 74 = .ok (.getfield 178, 3) := by decide +kernel
theorem dX10_run_77 : decode cX10_run 77 = .ok (.iload_n 3, 1) := by decide +kernel
theorem dX10_run_78 : decode cX10_run 78 = .ok (.iaload, 1) := by decide +kernel
theorem dX10_run_79 : decode cX10_run 79 = .ok (.ireturn, 1) := by decide +kernel
theorem dX10_run_80 : decode cX10_run 80 = .ok (.iload 4, 2) := by decide +kernel
theorem dX10_run_82 : decode cX10_run 82 = .ok (.iconst 1, 1) := by decide +kernel
theorem dX10_run_83 : decode cX10_run 83 = .ok (.if_icmp .ne 15, 3) := by decide +kernel
theorem dX10_run_86 : decode cX10_run 86 = .ok (.aload_n 0, 1) := by decide +kernel
theorem dX10_run_87 : decode cX10_run 87 = .ok (.getfield 40, 3) := by decide +kernel
theorem dX10_run_90 : decode cX10_run 90 = .ok (.getfield 181, 3) := by decide +kernel
theorem dX10_run_93 : decode cX10_run 93 = .ok (.iload_n 3, 1) := by decide +kernel
theorem dX10_run_94 : decode cX10_run 94 = .ok (.iaload, 1) := by decide +kernel
theorem dX10_run_95 : decode cX10_run 95 = .ok (.goto 12, 3) := by decide +kernel
theorem dX10_run_98 : decode cX10_run 98 = .ok (.aload_n 0, 1) := by decide +kernel
theorem dX10_run_99 : decode cX10_run 99 = .ok (.getfield 40, 3) := by decide +kernel
theorem dX10_run_102 : decode cX10_run 102 = .ok (.getfield 184, 3) := by decide +kernel
theorem dX10_run_105 : decode cX10_run 105 = .ok (.iload_n 3, 1) := by decide +kernel
theorem dX10_run_106 : decode cX10_run 106 = .ok (.iaload, 1) := by decide +kernel
theorem dX10_run_107 : decode cX10_run 107 = .ok (.ireturn, 1) := by decide +kernel
theorem dX10_alone_0 : decode cX10_alone 0 = .ok (.iload_n 1, 1) := by decide +kernel
theorem dX10_alone_1 : decode cX10_alone 1 = .ok (.invokestatic 163, 3) := by decide +kernel
theorem dX10_alone_4 : decode cX10_alone 4 = .ok (.ifCond .eq 14, 3) := by decide +kernel
theorem dX10_alone_7 : decode cX10_alone 7 = .ok (.aload_n 0, 1) := by decide +kernel
theorem dX10_alone_8 : decode cX10_alone 8 = .ok (.getfield 26, 3) := by decide +kernel
theorem dX10_alone_11 : decode cX10_alone 11 = .ok (.iload_n 1, 1) := by decide +kernel
theorem dX10_alone_12 : decode cX10_alone 12 = .ok (.invokevirtual 187, 3) := by decide +kernel
theorem dX10_alone_15 : decode cX10_alone 15 = .ok (.goto 5, 3) := by decide +kernel
theorem dX10_alone_18 : decode cX10_alone 18 = .ok (.bipush (-2), 2) := by decide +kernel
theorem dX10_alone_20 : decode cX10_alone 20 = .ok (.ireturn, 1) := by decide +kernel
theorem dX10_counted_0 : decode cX10_counted 0 = .ok (.aload_n 0, 1) := by decide +kernel
theorem dX10_counted_1 : decode cX10_counted 1 = .ok (.getfield 26, 3) := by decide +kernel
theorem dX10_counted_4 : decode cX10_counted 4 = .ok (.getfield 119, 3) := by decide +kernel
theorem dX10_counted_7 : decode cX10_counted 7 = .ok (.iload_n 1, 1) := by decide +kernel
theorem dX10_counted_8 : decode cX10_counted 8 = .ok (.invokevirtual 123, 3) := by decide +kernel
theorem dX10_counted_11 : decode cX10_counted 11 = .ok (.ifCond .ne 5, 3) := by decide +kernel
theorem dX10_counted_14 : decode cX10_counted 14 = .ok (.iconst (-1), 1) := by decide +kernel
theorem dX10_counted_15 : decode cX10_counted 15 = .ok (.ireturn, 1) := by decide +kernel
theorem dX10_counted_16 : decode cX10_counted 16 = .ok (.iload_n 2, 1) := by decide +kernel
theorem dX10_counted_17 : decode cX10_counted 17 = .ok (.invokestatic 163, 3) := by decide +kernel
theorem dX10_counted_20 : decode cX10_counted 20 = .ok (.ifCond .eq 12, 3) := by decide +kernel
theorem dX10_counted_23 : decode cX10_counted 23 = .ok (.aload_n 0, 1) := by decide +kernel
theorem dX10_counted_24 : decode cX10_counted 24 = .ok (.iload_n 1, 1) := by decide +kernel
theorem dX10_counted_25 : decode cX10_counted 25 = .ok (.iload_n 2, 1) := by decide +kernel
theorem dX10_counted_26 : decode cX10_counted 26 = .ok (.invokevirtual 190, 3) := by decide +kernel
theorem dX10_counted_29 : decode cX10_counted 29 = .ok (.goto 5, 3) := by decide +kernel
theorem dX10_counted_32 : decode cX10_counted 32 = .ok (.bipush (-2), 2) := by decide +kernel
theorem dX10_counted_34 : decode cX10_counted 34 = .ok (.ireturn, 1) := by decide +kernel
theorem dX10_best_0 : decode cX10_best 0 = .ok (.aload_n 0, 1) := by decide +kernel
theorem dX10_best_1 : decode cX10_best 1 = .ok (.getfield 26, 3) := by decide +kernel
theorem dX10_best_4 : decode cX10_best 4 = .ok (.getfield 119, 3) := by decide +kernel
theorem dX10_best_7 : decode cX10_best 7 = .ok (.iload_n 1, 1) := by decide +kernel
theorem dX10_best_8 : decode cX10_best 8 = .ok (.invokevirtual 123, 3) := by decide +kernel
theorem dX10_best_11 : decode cX10_best 11 = .ok (.ifCond .ne 5, 3) := by decide +kernel
theorem dX10_best_14 : decode cX10_best 14 = .ok (.iconst (-1), 1) := by decide +kernel
theorem dX10_best_15 : decode cX10_best 15 = .ok (.ireturn, 1) := by decide +kernel
theorem dX10_best_16 : decode cX10_best 16 = .ok (.aload_n 0, 1) := by decide +kernel
theorem dX10_best_17 : decode cX10_best 17 = .ok (.getfield 26, 3) := by decide +kernel
theorem dX10_best_20 : decode cX10_best 20 = .ok (.getfield 91, 3) := by decide +kernel
theorem dX10_best_23 : decode cX10_best 23 = .ok (.invokevirtual 193, 3) := by decide +kernel
theorem dX10_best_26 : decode cX10_best 26 = .ok (.istore_n 2, 1) := by decide +kernel
theorem dX10_best_27 : decode cX10_best 27 = .ok (.iconst 0, 1) := by decide +kernel
theorem dX10_best_28 : decode cX10_best 28 = .ok (.istore_n 3, 1) := by decide +kernel
theorem dX10_best_29 : decode cX10_best 29 = .ok (.aload_n 0, 1) := by decide +kernel
theorem dX10_best_30 : decode cX10_best 30 = .ok (.iload_n 1, 1) := by decide +kernel
theorem dX10_best_31 : decode cX10_best 31 = .ok (.iconst 0, 1) := by decide +kernel
theorem dX10_best_32 : decode cX10_best 32 = .ok (.invokevirtual 190, 3) := by decide +kernel
theorem dX10_best_35 : decode cX10_best 35 = .ok (.iload_n 2, 1) := by decide +kernel
theorem dX10_best_36 : decode cX10_best 36 = .ok (.isub, 1) := by decide +kernel
theorem dX10_best_37 : decode cX10_best 37 = .ok (.invokestatic 150, 3) := by decide +kernel
theorem dX10_best_40 : decode cX10_best 40 = .ok (.istore 4, 2) := by decide +kernel
theorem dX10_best_42 : decode cX10_best 42 = .ok (.iconst 1, 1) := by decide +kernel
theorem dX10_best_43 : decode cX10_best 43 = .ok (.istore 5, 2) := by decide +kernel
theorem dX10_best_45 : decode cX10_best 45 = .ok (.iload 5, 2) := by decide +kernel
theorem dX10_best_47 : decode cX10_best 47 = .ok (.bipush 16, 2) := by decide +kernel
theorem dX10_best_49 : decode cX10_best 49 = .ok (.if_icmp .ge 37, 3) := by decide +kernel
theorem dX10_best_52 : decode cX10_best 52 = .ok (.aload_n 0, 1) := by decide +kernel
theorem dX10_best_53 : decode cX10_best 53 = .ok (.iload_n 1, 1) := by decide +kernel
theorem dX10_best_54 : decode cX10_best 54 = .ok (.iload 5, 2) := by decide +kernel
theorem dX10_best_56 : decode cX10_best 56 = .ok (.invokevirtual 190, 3) := by decide +kernel
theorem dX10_best_59 : decode cX10_best 59 = .ok (.iload_n 2, 1) := by decide +kernel
theorem dX10_best_60 : decode cX10_best 60 = .ok (.isub, 1) := by decide +kernel
theorem dX10_best_61 : decode cX10_best 61 = .ok (.invokestatic 150, 3) := by decide +kernel
theorem dX10_best_64 : decode cX10_best 64 = .ok (.istore 6, 2) := by decide +kernel
theorem dX10_best_66 : decode cX10_best 66 = .ok (.iload 6, 2) := by decide +kernel
theorem dX10_best_68 : decode cX10_best 68 = .ok (.iload 4, 2) := by decide +kernel
theorem dX10_best_70 : decode cX10_best 70 = .ok (.if_icmp .ge 10, 3) := by decide +kernel
theorem dX10_best_73 : decode cX10_best 73 = .ok (.iload 6, 2) := by decide +kernel
theorem dX10_best_75 : decode cX10_best 75 = .ok (.istore 4, 2) := by decide +kernel
theorem dX10_best_77 : decode cX10_best 77 = .ok (.iload 5, 2) := by decide +kernel
theorem dX10_best_79 : decode cX10_best 79 = .ok (.istore_n 3, 1) := by decide +kernel
theorem dX10_best_80 : decode cX10_best 80 = .ok (.iinc 5 1, 3) := by decide +kernel
theorem dX10_best_83 : decode cX10_best 83 = .ok (.goto (-38), 3) := by decide +kernel
theorem dX10_best_86 : decode cX10_best 86 = .ok (.iload_n 3, 1) := by decide +kernel
theorem dX10_best_87 : decode cX10_best 87 = .ok (.ireturn, 1) := by decide +kernel
theorem dX10_hide_0 : decode cX10_hide 0 = .ok (.iload_n 1, 1) := by decide +kernel
theorem dX10_hide_1 : decode cX10_hide 1 = .ok (.invokestatic 163, 3) := by decide +kernel
theorem dX10_hide_4 : decode cX10_hide 4 = .ok (.ifCond .eq 14, 3) := by decide +kernel
theorem dX10_hide_7 : decode cX10_hide 7 = .ok (.aload_n 0, 1) := by decide +kernel
theorem dX10_hide_8 : decode cX10_hide 8 = .ok (.getfield 26, 3) := by decide +kernel
theorem dX10_hide_11 : decode cX10_hide 11 = .ok (.iload_n 1, 1) := by decide +kernel
theorem dX10_hide_12 : decode cX10_hide 12 = .ok (.invokevirtual 197, 3) := by decide +kernel
theorem dX10_hide_15 : decode cX10_hide 15 = .ok (.goto 5, 3) := by decide +kernel
theorem dX10_hide_18 : decode cX10_hide 18 = .ok (.bipush (-2), 2) := by decide +kernel
theorem dX10_hide_20 : decode cX10_hide 20 = .ok (.ireturn, 1) := by decide +kernel
theorem dX10_sight_0 : decode cX10_sight 0 = .ok (.iload_n 1, 1) := by decide +kernel
theorem dX10_sight_1 : decode cX10_sight 1 = .ok (.invokestatic 163, 3) := by decide +kernel
theorem dX10_sight_4 : decode cX10_sight 4 = .ok (.ifCond .eq 13, 3) := by decide +kernel
theorem dX10_sight_7 : decode cX10_sight 7 = .ok (.iload_n 2, 1) := by decide +kernel
theorem dX10_sight_8 : decode cX10_sight 8 = .ok (.sipush 1024, 3) := by decide +kernel
theorem dX10_sight_11 : decode cX10_sight 11 = .ok (.invokestatic 128, 3) := by decide +kernel
theorem dX10_sight_14 : decode cX10_sight 14 = .ok (.ifCond .ne 6, 3) := by decide +kernel
theorem dX10_sight_17 : decode cX10_sight 17 = .ok (.bipush (-2), 2) := by decide +kernel
theorem dX10_sight_19 : decode cX10_sight 19 = .ok (.ireturn, 1) := by decide +kernel
theorem dX10_sight_20 : decode cX10_sight 20 = .ok (.aload_n 0, 1) := by decide +kernel
theorem dX10_sight_21 : decode cX10_sight 21 = .ok (.getfield 47, 3) := by decide +kernel
theorem dX10_sight_24 : decode cX10_sight 24 = .ok (.getfield 200, 3) := by decide +kernel
theorem dX10_sight_27 : decode cX10_sight 27 = .ok (.bipush 6, 2) := by decide +kernel
theorem dX10_sight_29 : decode cX10_sight 29 = .ok (.if_icmp .lt 6, 3) := by decide +kernel
theorem dX10_sight_32 : decode cX10_sight 32 = .ok (.bipush (-4), 2) := by decide +kernel
theorem dX10_sight_34 : decode cX10_sight 34 = .ok (.ireturn, 1) := by decide +kernel
theorem dX10_sight_35 : decode cX10_sight 35 = .ok (.aload_n 0, 1) := by decide +kernel
theorem dX10_sight_36 : decode cX10_sight 36 = .ok (.getfield 47, 3) := by decide +kernel
theorem dX10_sight_39 : decode cX10_sight 39 = .ok (.iload_n 1, 1) := by decide +kernel
theorem dX10_sight_40 : decode cX10_sight 40 = .ok (.iload_n 2, 1) := by decide +kernel
theorem dX10_sight_41 : decode cX10_sight 41 = .ok (.invokevirtual 201, 3) := by decide +kernel
theorem dX10_sight_44 : decode cX10_sight 44 = .ok (.aload_n 0, 1) := by decide +kernel
theorem dX10_sight_45 : decode cX10_sight 45 = .ok (.getfield 47, 3) := by decide +kernel
theorem dX10_sight_48 : decode cX10_sight 48 = .ok (.getfield 200, 3) := by decide +kernel
theorem dX10_sight_51 : decode cX10_sight 51 = .ok (.ireturn, 1) := by decide +kernel
theorem dX10_unsee_0 : decode cX10_unsee 0 = .ok (.aload_n 0, 1) := by decide +kernel
theorem dX10_unsee_1 : decode cX10_unsee 1 = .ok (.getfield 47, 3) := by decide +kernel
theorem dX10_unsee_4 : decode cX10_unsee 4 = .ok (.getfield 200, 3) := by decide +kernel
theorem dX10_unsee_7 : decode cX10_unsee 7 = .ok (.istore_n 1, 1) := by decide +kernel
theorem dX10_unsee_8 : decode cX10_unsee 8 = .ok (.aload_n 0, 1) := by decide +kernel
theorem dX10_unsee_9 : decode cX10_unsee 9 = .ok (.getfield 47, 3) := by decide +kernel
theorem dX10_unsee_12 : decode cX10_unsee 12 = .ok (.iconst 0, 1) := by decide +kernel
theorem dX10_unsee_13 : decode cX10_unsee 13 = .ok (.putfield 200, 3) := by decide +kernel
theorem dX10_unsee_16 : decode cX10_unsee 16 = .ok (.iload_n 1, 1) := by decide +kernel
theorem dX10_unsee_17 : decode cX10_unsee 17 = .ok (.ireturn, 1) := by decide +kernel
theorem dX10_fits_0 : decode cX10_fits 0 = .ok (.aload_n 0, 1) := by decide +kernel
theorem dX10_fits_1 : decode cX10_fits 1 = .ok (.getfield 54, 3) := by decide +kernel
theorem dX10_fits_4 : decode cX10_fits 4 = .ok (.aload_n 0, 1) := by decide +kernel
theorem dX10_fits_5 : decode cX10_fits 5 = .ok (.getfield 47, 3) := by decide +kernel
theorem dX10_fits_8 : decode cX10_fits 8 = .ok (.invokevirtual 204, 3) := by decide +kernel
theorem dX10_fits_11 : decode cX10_fits 11 = .ok (.aload_n 0, 1) := by decide +kernel
theorem dX10_fits_12 : decode cX10_fits 12 = .ok (.getfield 54, 3) := by decide +kernel
theorem dX10_fits_15 : decode cX10_fits 15 = .ok (.invokevirtual 208, 3) := by decide +kernel
theorem dX10_fits_18 : decode cX10_fits 18 = .ok (.ireturn, 1) := by decide +kernel
theorem dX10_people_0 : decode cX10_people 0 = .ok (.aload_n 0, 1) := by decide +kernel
theorem dX10_people_1 : decode cX10_people 1 = .ok (.getfield 54, 3) := by decide +kernel
theorem dX10_people_4 : decode cX10_people 4 = .ok (.aload_n 0, 1) := by decide +kernel
theorem dX10_people_5 : decode cX10_people 5 = .ok (.getfield 47, 3) := by decide +kernel
theorem dX10_people_8 : decode cX10_people 8 = .ok (.invokevirtual 204, 3) := by decide +kernel
theorem dX10_people_11 : decode cX10_people 11 = .ok (.aload_n 0, 1) := by decide +kernel
theorem dX10_people_12 : decode cX10_people 12 = .ok (.getfield 54, 3) := by decide +kernel
theorem dX10_people_15 : decode cX10_people 15 = .ok (.invokevirtual 211, 3) := by decide +kernel
theorem dX10_people_18 : decode cX10_people 18 = .ok (.ifCond .ne 6, 3) := by decide +kernel
theorem dX10_people_21 : decode cX10_people 21 = .ok (.bipush (-9), 2) := by decide +kernel
theorem dX10_people_23 : decode cX10_people 23 = .ok (.ireturn, 1) := by decide +kernel
theorem dX10_people_24 : decode cX10_people 24 = .ok (.iload_n 1, 1) := by decide +kernel
theorem dX10_people_25 : decode cX10_people 25 = .ok (.ifCond .eq 13, 3) := by decide +kernel
theorem dX10_people_28 : decode cX10_people 28 = .ok (.aload_n 0, 1) := by decide +kernel
theorem dX10_people_29 : decode cX10_people 29 = .ok (.getfield 54, 3) := by decide +kernel
theorem dX10_people_32 : decode cX10_people 32 = .ok (.invokevirtual 215, 3) := by decide +kernel
theorem dX10_people_35 : decode cX10_people 35 = .ok (.goto 10, 3) := by decide +kernel
theorem dX10_people_38 : decode cX10_people 38 = .ok (.aload_n 0, 1) := by decide +kernel
theorem dX10_people_39 : decode cX10_people 39 = .ok (.getfield 54, 3) := by decide +kernel
theorem dX10_people_42 : decode cX10_people 42 = .ok (.invokevirtual 218, 3) := by decide +kernel
theorem dX10_people_45 : decode cX10_people 45 = .ok (.ireturn, 1) := by decide +kernel
theorem dX10_sure_0 : decode cX10_sure 0 = .ok (.aload_n 0, 1) := by decide +kernel
theorem dX10_sure_1 : decode cX10_sure 1 = .ok (.getfield 54, 3) := by decide +kernel
theorem dX10_sure_4 : decode cX10_sure 4 = .ok (.aload_n 0, 1) := by decide +kernel
theorem dX10_sure_5 : decode cX10_sure 5 = .ok (.getfield 47, 3) := by decide +kernel
theorem dX10_sure_8 : decode cX10_sure 8 = .ok (.invokevirtual 204, 3) := by decide +kernel
theorem dX10_sure_11 : decode cX10_sure 11 = .ok (.aload_n 0, 1) := by decide +kernel
theorem dX10_sure_12 : decode cX10_sure 12 = .ok (.getfield 54, 3) := by decide +kernel
theorem dX10_sure_15 : decode cX10_sure 15 = .ok (.invokevirtual 211, 3) := by decide +kernel
theorem dX10_sure_18 : decode cX10_sure 18 = .ok (.ifCond .eq 13, 3) := by decide +kernel
theorem dX10_sure_21 : decode cX10_sure 21 = .ok (.aload_n 0, 1) := by decide +kernel
theorem dX10_sure_22 : decode cX10_sure 22 = .ok (.getfield 54, 3) := by decide +kernel
theorem dX10_sure_25 : decode cX10_sure 25 = .ok (.invokevirtual 221, 3) := by decide +kernel
theorem dX10_sure_28 : decode cX10_sure 28 = .ok (.goto 5, 3) := by decide +kernel
theorem dX10_sure_31 : decode cX10_sure 31 = .ok (.bipush (-9), 2) := by decide +kernel
theorem dX10_sure_33 : decode cX10_sure 33 = .ok (.ireturn, 1) := by decide +kernel
theorem dX10_next_0 : decode cX10_next 0 = .ok (.aload_n 0, 1) := by decide +kernel
theorem dX10_next_1 : decode cX10_next 1 = .ok (.getfield 54, 3) := by decide +kernel
theorem dX10_next_4 : decode cX10_next 4 = .ok (.aload_n 0, 1) := by decide +kernel
theorem dX10_next_5 : decode cX10_next 5 = .ok (.getfield 47, 3) := by decide +kernel
theorem dX10_next_8 : decode cX10_next 8 = .ok (.invokevirtual 204, 3) := by decide +kernel
theorem dX10_next_11 : decode cX10_next 11 = .ok (.aload_n 0, 1) := by decide +kernel
theorem dX10_next_12 : decode cX10_next 12 = .ok (.getfield 54, 3) := by decide +kernel
theorem dX10_next_15 : decode cX10_next 15 = .ok (.invokevirtual 211, 3) := by decide +kernel
theorem dX10_next_18 : decode cX10_next 18 = .ok (.ifCond .eq 13, 3) := by decide +kernel
theorem dX10_next_21 : decode cX10_next 21 = .ok (.aload_n 0, 1) := by decide +kernel
theorem dX10_next_22 : decode cX10_next 22 = .ok (.getfield 54, 3) := by decide +kernel
theorem dX10_next_25 : decode cX10_next 25 = .ok (.invokevirtual 224, 3) := by decide +kernel
theorem dX10_next_28 : decode cX10_next 28 = .ok (.goto 5, 3) := by decide +kernel
theorem dX10_next_31 : decode cX10_next 31 = .ok (.bipush (-9), 2) := by decide +kernel
theorem dX10_next_33 : decode cX10_next 33 = .ok (.ireturn, 1) := by decide +kernel
theorem dX10_keep_0 : decode cX10_keep 0 = .ok (.iload_n 1, 1) := by decide +kernel
theorem dX10_keep_1 : decode cX10_keep 1 = .ok (.iconst 2, 1) := by decide +kernel
theorem dX10_keep_2 : decode cX10_keep 2 = .ok (.invokestatic 128, 3) := by decide +kernel
theorem dX10_keep_5 : decode cX10_keep 5 = .ok (.ifCond .ne 5, 3) := by decide +kernel
theorem dX10_keep_8 : decode cX10_keep 8 = .ok (.iconst (-1), 1) := by decide +kernel
theorem dX10_keep_9 : decode cX10_keep 9 = .ok (.ireturn, 1) := by decide +kernel
theorem dX10_keep_10 : decode cX10_keep 10 = .ok (.aload_n 0, 1) := by decide +kernel
theorem dX10_keep_11 : decode cX10_keep 11 = .ok (.getfield 61, 3) := by decide +kernel
theorem dX10_keep_14 : decode cX10_keep 14 = .ok (.iload_n 1, 1) := by decide +kernel
theorem dX10_keep_15 : decode cX10_keep 15 = .ok (.aaload, 1) := by decide +kernel
theorem dX10_keep_16 : decode cX10_keep 16 = .ok (.getfield 227, 3) := by decide +kernel
theorem dX10_keep_19 : decode cX10_keep 19 = .ok (.aload_n 0, 1) := by decide +kernel
theorem dX10_keep_20 : decode cX10_keep 20 = .ok (.getfield 26, 3) := by decide +kernel
theorem dX10_keep_23 : decode cX10_keep 23 = .ok (.getfield 91, 3) := by decide +kernel
theorem dX10_keep_26 : decode cX10_keep 26 = .ok (.invokevirtual 228, 3) := by decide +kernel
theorem dX10_keep_29 : decode cX10_keep 29 = .ok (.aload_n 0, 1) := by decide +kernel
theorem dX10_keep_30 : decode cX10_keep 30 = .ok (.getfield 61, 3) := by decide +kernel
theorem dX10_keep_33 : decode cX10_keep 33 = .ok (.iload_n 1, 1) := by decide +kernel
theorem dX10_keep_34 : decode cX10_keep 34 = .ok (.aaload, 1) := by decide +kernel
theorem dX10_keep_35 : decode cX10_keep 35 = .ok (.getfield 230, 3) := by decide +kernel
theorem dX10_keep_38 : decode cX10_keep 38 = .ok (.aload_n 0, 1) := by decide +kernel
theorem dX10_keep_39 : decode cX10_keep 39 = .ok (.getfield 47, 3) := by decide +kernel
theorem dX10_keep_42 : decode cX10_keep 42 = .ok (.invokevirtual 231, 3) := by decide +kernel
theorem dX10_keep_45 : decode cX10_keep 45 = .ok (.aload_n 0, 1) := by decide +kernel
theorem dX10_keep_46 : decode cX10_keep 46 = .ok (.getfield 61, 3) := by decide +kernel
theorem dX10_keep_49 : decode cX10_keep 49 = .ok (.iload_n 1, 1) := by decide +kernel
theorem dX10_keep_50 : decode cX10_keep 50 = .ok (.aaload, 1) := by decide +kernel
theorem dX10_keep_51 : decode cX10_keep 51 = .ok (.iconst 1, 1) := by decide +kernel
theorem dX10_keep_52 : decode cX10_keep 52 = .ok (.putfield 87, 3) := by decide +kernel
theorem dX10_keep_55 : decode cX10_keep 55 = .ok (.aload_n 0, 1) := by decide +kernel
theorem dX10_keep_56 : decode cX10_keep 56 = .ok (.getfield 26, 3) := by decide +kernel
theorem dX10_keep_59 : decode cX10_keep 59 = .ok (.getfield 91, 3) := by decide +kernel
theorem dX10_keep_62 : decode cX10_keep 62 = .ok (.getfield 95, 3) := by decide +kernel
theorem dX10_keep_65 : decode cX10_keep 65 = .ok (.ireturn, 1) := by decide +kernel
theorem dX10_again_0 : decode cX10_again 0 = .ok (.iload_n 1, 1) := by decide +kernel
theorem dX10_again_1 : decode cX10_again 1 = .ok (.iconst 2, 1) := by decide +kernel
theorem dX10_again_2 : decode cX10_again 2 = .ok (.invokestatic 128, 3) := by decide +kernel
theorem dX10_again_5 : decode cX10_again 5 = .ok (.ifCond .ne 5, 3) := by decide +kernel
theorem dX10_again_8 : decode cX10_again 8 = .ok (.iconst (-1), 1) := by decide +kernel
theorem dX10_again_9 : decode cX10_again 9 = .ok (.ireturn, 1) := by decide +kernel
theorem dX10_again_10 : decode cX10_again 10 = .ok (.aload_n 0, 1) := by decide +kernel
theorem dX10_again_11 : decode cX10_again 11 = .ok (.getfield 61, 3) := by decide +kernel
theorem dX10_again_14 : decode cX10_again 14 = .ok (.iload_n 1, 1) := by decide +kernel
theorem dX10_again_15 : decode cX10_again 15 = .ok (.aaload, 1) := by decide +kernel
theorem dX10_again_16 : decode cX10_again 16 = .ok (.getfield 87, 3) := by decide +kernel
theorem dX10_again_19 : decode cX10_again 19 = .ok (.ifCond .ne 6, 3) := by decide +kernel
theorem dX10_again_22 : decode cX10_again 22 = .ok (.bipush (-3), 2) := by decide +kernel
theorem dX10_again_24 : decode cX10_again 24 = .ok (.ireturn, 1) := by decide +kernel
theorem dX10_again_25 : decode cX10_again 25 = .ok (.aload_n 0, 1) := by decide +kernel
theorem dX10_again_26 : decode cX10_again 26 = .ok (.getfield 26, 3) := by decide +kernel
theorem dX10_again_29 : decode cX10_again 29 = .ok (.getfield 91, 3) := by decide +kernel
theorem dX10_again_32 : decode cX10_again 32 = .ok (.aload_n 0, 1) := by decide +kernel
theorem dX10_again_33 : decode cX10_again 33 = .ok (.getfield 61, 3) := by decide +kernel
theorem dX10_again_36 : decode cX10_again 36 = .ok (.iload_n 1, 1) := by decide +kernel
theorem dX10_again_37 : decode cX10_again 37 = .ok (.aaload, 1) := by decide +kernel
theorem dX10_again_38 : decode cX10_again 38 = .ok (.getfield 227, 3) := by decide +kernel
theorem dX10_again_41 : decode cX10_again 41 = .ok (.invokevirtual 228, 3) := by decide +kernel
theorem dX10_again_44 : decode cX10_again 44 = .ok (.aload_n 0, 1) := by decide +kernel
theorem dX10_again_45 : decode cX10_again 45 = .ok (.getfield 47, 3) := by decide +kernel
theorem dX10_again_48 : decode cX10_again 48 = .ok (.aload_n 0, 1) := by decide +kernel
theorem dX10_again_49 : decode cX10_again 49 = .ok (.getfield 61, 3) := by decide +kernel
theorem dX10_again_52 : decode cX10_again 52 = .ok (.iload_n 1, 1) := by decide +kernel
theorem dX10_again_53 : decode cX10_again 53 = .ok (.aaload, 1) := by decide +kernel
theorem dX10_again_54 : decode cX10_again 54 = .ok (.getfield 230, 3) := by decide +kernel
theorem dX10_again_57 : decode cX10_again 57 = .ok (.invokevirtual 231, 3) := by decide +kernel
theorem dX10_again_60 : decode cX10_again 60 = .ok (.aload_n 0, 1) := by decide +kernel
theorem dX10_again_61 : decode cX10_again 61 = .ok (.getfield 33, 3) := by decide +kernel
theorem dX10_again_64 : decode cX10_again 64 = .ok (.invokevirtual 84, 3) := by decide +kernel
theorem dX10_again_67 : decode cX10_again 67 = .ok (.aload_n 0, 1) := by decide +kernel
theorem dX10_again_68 : decode cX10_again 68 = .ok (.getfield 26, 3) := by decide +kernel
theorem dX10_again_71 : decode cX10_again 71 = .ok (.getfield 91, 3) := by decide +kernel
theorem dX10_again_74 : decode cX10_again 74 = .ok (.getfield 95, 3) := by decide +kernel
theorem dX10_again_77 : decode cX10_again 77 = .ok (.ireturn, 1) := by decide +kernel
theorem dX10_count_0 : decode cX10_count 0 = .ok (.iload_n 1, 1) := by decide +kernel
theorem dX10_count_1 : decode cX10_count 1 = .ok (.tableswitch 126 0 7 #[47, 55, 66, 77, 88, 96, 104, 115], 47) := by decide +kernel
theorem dX10_count_48 : decode cX10_count 48 = .ok (.aload_n 0, 1) := by decide +kernel
theorem dX10_count_49 : decode cX10_count 49 = .ok (.getfield 10, 3) := by decide +kernel
theorem dX10_count_52 : decode cX10_count 52 = .ok (.getfield 65, 3) := by decide +kernel
theorem dX10_count_55 : decode cX10_count 55 = .ok (.ireturn, 1) := by decide +kernel
theorem dX10_count_56 : decode cX10_count 56 = .ok (.aload_n 0, 1) := by decide +kernel
theorem dX10_count_57 : decode cX10_count 57 = .ok (.getfield 26, 3) := by decide +kernel
theorem dX10_count_60 : decode cX10_count 60 = .ok (.getfield 91, 3) := by decide +kernel
theorem dX10_count_63 : decode cX10_count 63 = .ok (.getfield 95, 3) := by decide +kernel
theorem dX10_count_66 : decode cX10_count 66 = .ok (.ireturn, 1) := by decide +kernel
theorem dX10_count_67 : decode cX10_count 67 = .ok (.aload_n 0, 1) := by decide +kernel
theorem dX10_count_68 : decode cX10_count 68 = .ok (.getfield 26, 3) := by decide +kernel
theorem dX10_count_71 : decode cX10_count 71 = .ok (.getfield 119, 3) := by decide +kernel
theorem dX10_count_74 : decode cX10_count 74 = .ok (.getfield 233, 3) := by decide +kernel
theorem dX10_count_77 : decode cX10_count 77 = .ok (.ireturn, 1) := by decide +kernel
theorem dX10_count_78 : decode cX10_count 78 = .ok (.aload_n 0, 1) := by decide +kernel
theorem dX10_count_79 : decode cX10_count 79 = .ok (.getfield 26, 3) := by decide +kernel
theorem dX10_count_82 : decode cX10_count 82 = .ok (.getfield 91, 3) := by decide +kernel
theorem dX10_count_85 : decode cX10_count 85 = .ok (.invokevirtual 193, 3) := by decide +kernel
theorem dX10_count_88 : decode cX10_count 88 = .ok (.ireturn, 1) := by decide +kernel
theorem dX10_count_89 : decode cX10_count 89 = .ok (.aload_n 0, 1) := by decide +kernel
theorem dX10_count_90 : decode cX10_count 90 = .ok (.getfield 47, 3) := by decide +kernel
theorem dX10_count_93 : decode cX10_count 93 = .ok (.getfield 200, 3) := by decide +kernel
theorem dX10_count_96 : decode cX10_count 96 = .ok (.ireturn, 1) := by decide +kernel
theorem dX10_count_97 : decode cX10_count 97 = .ok (.aload_n 0, 1) := by decide +kernel
theorem dX10_count_98 : decode cX10_count 98 = .ok (.getfield 33, 3) := by decide +kernel
theorem dX10_count_101 : decode cX10_count 101 = .ok (.getfield 158, 3) := by decide +kernel
theorem dX10_count_104 : decode cX10_count 104 = .ok (.ireturn, 1) := by decide +kernel
theorem dX10_count_105 : decode cX10_count 105 = .ok (.aload_n 0, 1) := by decide +kernel
theorem dX10_count_106 : decode cX10_count 106 = .ok (.getfield 26, 3) := by decide +kernel
theorem dX10_count_109 : decode cX10_count 109 = .ok (.getfield 119, 3) := by decide +kernel
theorem dX10_count_112 : decode cX10_count 112 = .ok (.getfield 236, 3) := by decide +kernel
theorem dX10_count_115 : decode cX10_count 115 = .ok (.ireturn, 1) := by decide +kernel
theorem dX10_count_116 : decode cX10_count 116 = .ok (.aload_n 0, 1) := by decide +kernel
theorem dX10_count_117 : decode cX10_count 117 = .ok (.getfield 26, 3) := by decide +kernel
theorem dX10_count_120 : decode cX10_count 120 = .ok (.getfield 119, 3) := by decide +kernel
theorem dX10_count_123 : decode cX10_count 123 = .ok (.getfield 239, 3) := by decide +kernel
theorem dX10_count_126 : decode cX10_count 126 = .ok (.ireturn, 1) := by decide +kernel
theorem dX10_count_127 : decode cX10_count 127 = .ok (.bipush (-2), 2) := by decide +kernel
theorem dX10_count_129 : decode cX10_count 129 = .ok (.ireturn, 1) := by decide +kernel
theorem dX10_countByRule_0 : decode cX10_countByRule 0 = .ok (.aload_n 0, 1) := by decide +kernel
theorem dX10_countByRule_1 : decode cX10_countByRule 1 = .ok (.getfield 40, 3) := by decide +kernel
theorem dX10_countByRule_4 : decode cX10_countByRule 4 = .ok (.aload_n 0, 1) := by decide +kernel
theorem dX10_countByRule_5 : decode cX10_countByRule 5 = .ok (.getfield 26, 3) := by decide +kernel
theorem dX10_countByRule_8 : decode cX10_countByRule 8 = .ok (.iload_n 1, 1) := by decide +kernel
theorem dX10_countByRule_9 : decode cX10_countByRule 9 = .ok (.iload_n 2, 1) := by decide +kernel
theorem dX10_countByRule_10 : decode cX10_countByRule 10 = .ok (.invokevirtual 173, 3) := by decide +kernel
theorem dX10_countByRule_13 : decode cX10_countByRule 13 = .ok (.aload_n 0, 1) := by decide +kernel
theorem dX10_countByRule_14 : decode cX10_countByRule 14 = .ok (.getfield 40, 3) := by decide +kernel
theorem dX10_countByRule_17 : decode cX10_countByRule 17 = .ok (.getstatic 242, 3) := by decide +kernel
theorem dX10_countByRule_20 : decode cX10_countByRule 20 = .ok (.iconst 0, 1) := by decide +kernel
theorem dX10_countByRule_21 : decode cX10_countByRule 21 = .ok (.iaload, 1) := by decide +kernel
theorem dX10_countByRule_22 : decode cX10_countByRule 22 = .ok (.iload_n 2, 1) := by decide +kernel
theorem dX10_countByRule_23 : decode cX10_countByRule 23 = .ok (.invokestatic 166, 3) := by decide +kernel
theorem dX10_countByRule_26 : decode cX10_countByRule 26 = .ok (.invokevirtual 245, 3) := by decide +kernel
theorem dX10_countByRule_29 : decode cX10_countByRule 29 = .ok (.ireturn, 1) := by decide +kernel
theorem dX10_isBelow_0 : decode cX10_isBelow 0 = .ok (.iload_n 0, 1) := by decide +kernel
theorem dX10_isBelow_1 : decode cX10_isBelow 1 = .ok (.ifCond .lt 12, 3) := by decide +kernel
theorem dX10_isBelow_4 : decode cX10_isBelow 4 = .ok (.iload_n 0, 1) := by decide +kernel
theorem dX10_isBelow_5 : decode cX10_isBelow 5 = .ok (.iload_n 1, 1) := by decide +kernel
theorem dX10_isBelow_6 : decode cX10_isBelow 6 = .ok (.if_icmp .ge 7, 3) := by decide +kernel
theorem dX10_isBelow_9 : decode cX10_isBelow 9 = .ok (.iconst 1, 1) := by decide +kernel
theorem dX10_isBelow_10 : decode cX10_isBelow 10 = .ok (.goto 4, 3) := by decide +kernel
theorem dX10_isBelow_13 : decode cX10_isBelow 13 = .ok (.iconst 0, 1) := by decide +kernel
theorem dX10_isBelow_14 : decode cX10_isBelow 14 = .ok (.ireturn, 1) := by decide +kernel
theorem dX10_isMinute_0 : decode cX10_isMinute 0 = .ok (.iload_n 0, 1) := by decide +kernel
theorem dX10_isMinute_1 : decode cX10_isMinute 1 = .ok (.bipush 16, 2) := by decide +kernel
theorem dX10_isMinute_3 : decode cX10_isMinute 3 = .ok (.invokestatic 128, 3) := by decide +kernel
theorem dX10_isMinute_6 : decode cX10_isMinute 6 = .ok (.ireturn, 1) := by decide +kernel
theorem dX10_isCell_0 : decode cX10_isCell 0 = .ok (.iload_n 0, 1) := by decide +kernel
theorem dX10_isCell_1 : decode cX10_isCell 1 = .ok (.bipush 10, 2) := by decide +kernel
theorem dX10_isCell_3 : decode cX10_isCell 3 = .ok (.invokestatic 128, 3) := by decide +kernel
theorem dX10_isCell_6 : decode cX10_isCell 6 = .ok (.ifCond .eq 16, 3) := by decide +kernel
theorem dX10_isCell_9 : decode cX10_isCell 9 = .ok (.iload_n 1, 1) := by decide +kernel
theorem dX10_isCell_10 : decode cX10_isCell 10 = .ok (.bipush 6, 2) := by decide +kernel
theorem dX10_isCell_12 : decode cX10_isCell 12 = .ok (.invokestatic 128, 3) := by decide +kernel
theorem dX10_isCell_15 : decode cX10_isCell 15 = .ok (.ifCond .eq 7, 3) := by decide +kernel
theorem dX10_isCell_18 : decode cX10_isCell 18 = .ok (.iconst 1, 1) := by decide +kernel
theorem dX10_isCell_19 : decode cX10_isCell 19 = .ok (.goto 4, 3) := by decide +kernel
theorem dX10_isCell_22 : decode cX10_isCell 22 = .ok (.iconst 0, 1) := by decide +kernel
theorem dX10_isCell_23 : decode cX10_isCell 23 = .ok (.ireturn, 1) := by decide +kernel
theorem dX10_lengthOfShadow_0 : decode cX10_lengthOfShadow 0 = .ok (.iload_n 0, 1) := by decide +kernel
theorem dX10_lengthOfShadow_1 : decode cX10_lengthOfShadow 1 = .ok (.iload_n 1, 1) := by decide +kernel
theorem dX10_lengthOfShadow_2 : decode cX10_lengthOfShadow 2 = .ok (.bipush 8, 2) := by decide +kernel
theorem dX10_lengthOfShadow_4 : decode cX10_lengthOfShadow 4 = .ok (.isub, 1) := by decide +kernel
theorem dX10_lengthOfShadow_5 : decode cX10_lengthOfShadow 5 = .ok (.invokestatic 150, 3) := by decide +kernel
theorem dX10_lengthOfShadow_8 : decode cX10_lengthOfShadow 8 = .ok (.imul, 1) := by decide +kernel
theorem dX10_lengthOfShadow_9 : decode cX10_lengthOfShadow 9 = .ok (.iconst 4, 1) := by decide +kernel
theorem dX10_lengthOfShadow_10 : decode cX10_lengthOfShadow 10 = .ok (.idiv, 1) := by decide +kernel
theorem dX10_lengthOfShadow_11 : decode cX10_lengthOfShadow 11 = .ok (.ireturn, 1) := by decide +kernel
theorem dX10_reach_0 : decode cX10_reach 0 = .ok (.iload_n 0, 1) := by decide +kernel
theorem dX10_reach_1 : decode cX10_reach 1 = .ok (.iload_n 2, 1) := by decide +kernel
theorem dX10_reach_2 : decode cX10_reach 2 = .ok (.invokestatic 166, 3) := by decide +kernel
theorem dX10_reach_5 : decode cX10_reach 5 = .ok (.istore_n 3, 1) := by decide +kernel
theorem dX10_reach_6 : decode cX10_reach 6 = .ok (.iload_n 2, 1) := by decide +kernel
theorem dX10_reach_7 : decode cX10_reach 7 = .ok (.bipush 8, 2) := by decide +kernel
theorem dX10_reach_9 : decode cX10_reach 9 = .ok (.if_icmp .ge 15, 3) := by decide +kernel
theorem dX10_reach_12 : decode cX10_reach 12 = .ok (.iload_n 1, 1) := by decide +kernel
theorem dX10_reach_13 : decode cX10_reach 13 = .ok (.iload_n 3, 1) := by decide +kernel
theorem dX10_reach_14 : decode cX10_reach 14 = .ok (.isub, 1) := by decide +kernel
theorem dX10_reach_15 : decode cX10_reach 15 = .ok (.iload_n 1, 1) := by decide +kernel
theorem dX10_reach_16 : decode cX10_reach 16 = .ok (.iconst 1, 1) := by decide +kernel
theorem dX10_reach_17 : decode cX10_reach 17 = .ok (.isub, 1) := by decide +kernel
theorem dX10_reach_18 : decode cX10_reach 18 = .ok (.invokestatic 248, 3) := by decide +kernel
theorem dX10_reach_21 : decode cX10_reach 21 = .ok (.goto 12, 3) := by decide +kernel
theorem dX10_reach_24 : decode cX10_reach 24 = .ok (.iload_n 1, 1) := by decide +kernel
theorem dX10_reach_25 : decode cX10_reach 25 = .ok (.iconst 1, 1) := by decide +kernel
theorem dX10_reach_26 : decode cX10_reach 26 = .ok (.iadd, 1) := by decide +kernel
theorem dX10_reach_27 : decode cX10_reach 27 = .ok (.iload_n 1, 1) := by decide +kernel
theorem dX10_reach_28 : decode cX10_reach 28 = .ok (.iload_n 3, 1) := by decide +kernel
theorem dX10_reach_29 : decode cX10_reach 29 = .ok (.iadd, 1) := by decide +kernel
theorem dX10_reach_30 : decode cX10_reach 30 = .ok (.invokestatic 248, 3) := by decide +kernel
theorem dX10_reach_33 : decode cX10_reach 33 = .ok (.ireturn, 1) := by decide +kernel
theorem dX10_columnBits_0 : decode cX10_columnBits 0 = .ok (.iload_n 0, 1) := by decide +kernel
theorem dX10_columnBits_1 : decode cX10_columnBits 1 = .ok (.iconst 0, 1) := by decide +kernel
theorem dX10_columnBits_2 : decode cX10_columnBits 2 = .ok (.invokestatic 251, 3) := by decide +kernel
theorem dX10_columnBits_5 : decode cX10_columnBits 5 = .ok (.istore_n 2, 1) := by decide +kernel
theorem dX10_columnBits_6 : decode cX10_columnBits 6 = .ok (.iload_n 1, 1) := by decide +kernel
theorem dX10_columnBits_7 : decode cX10_columnBits 7 = .ok (.bipush 9, 2) := by decide +kernel
theorem dX10_columnBits_9 : decode cX10_columnBits 9 = .ok (.invokestatic 254, 3) := by decide +kernel
theorem dX10_columnBits_12 : decode cX10_columnBits 12 = .ok (.istore_n 3, 1) := by decide +kernel
theorem dX10_columnBits_13 : decode cX10_columnBits 13 = .ok (.iload_n 2, 1) := by decide +kernel
theorem dX10_columnBits_14 : decode cX10_columnBits 14 = .ok (.iload_n 3, 1) := by decide +kernel
theorem dX10_columnBits_15 : decode cX10_columnBits 15 = .ok (.if_icmp .le 7, 3) := by decide +kernel
theorem dX10_columnBits_18 : decode cX10_columnBits 18 = .ok (.iconst 0, 1) := by decide +kernel
theorem dX10_columnBits_19 : decode cX10_columnBits 19 = .ok (.goto 12, 3) := by decide +kernel
theorem dX10_columnBits_22 : decode cX10_columnBits 22 = .ok (.iconst 1, 1) := by decide +kernel
theorem dX10_columnBits_23 : decode cX10_columnBits 23 = .ok (.iload_n 3, 1) := by decide +kernel
theorem dX10_columnBits_24 : decode cX10_columnBits 24 = .ok (.iconst 1, 1) := by decide +kernel
theorem dX10_columnBits_25 : decode cX10_columnBits 25 = .ok (.iadd, 1) := by decide +kernel
theorem dX10_columnBits_26 : decode cX10_columnBits 26 = .ok (.ishl, 1) := by decide +kernel
theorem dX10_columnBits_27 : decode cX10_columnBits 27 = .ok (.iconst 1, 1) := by decide +kernel
theorem dX10_columnBits_28 : decode cX10_columnBits 28 = .ok (.iload_n 2, 1) := by decide +kernel
theorem dX10_columnBits_29 : decode cX10_columnBits 29 = .ok (.ishl, 1) := by decide +kernel
theorem dX10_columnBits_30 : decode cX10_columnBits 30 = .ok (.isub, 1) := by decide +kernel
theorem dX10_columnBits_31 : decode cX10_columnBits 31 = .ok (.ireturn, 1) := by decide +kernel
theorem dX11_init_0 : decode cX11_init 0 = .ok (.aload_n 0, 1) := by decide +kernel
theorem dX11_init_1 : decode cX11_init 1 = .ok (.invokespecial 1, 3) := by decide +kernel
theorem dX11_init_4 : decode cX11_init 4 = .ok (.aload_n 0, 1) := by decide +kernel
theorem dX11_init_5 : decode cX11_init 5 = .ok (.bipush 24, 2) := by decide +kernel
theorem dX11_init_7 : decode cX11_init 7 = .ok (.newarray .int, 2) := by decide +kernel
theorem dX11_init_9 : decode cX11_init 9 = .ok (.putfield 7, 3) := by decide +kernel
theorem dX11_init_12 : decode cX11_init 12 = .ok (.aload_n 0, 1) := by decide +kernel
theorem dX11_init_13 : decode cX11_init 13 = .ok (.bipush 12, 2) := by decide +kernel
theorem dX11_init_15 : decode cX11_init 15 = .ok (.newarray .int, 2) := by decide +kernel
theorem dX11_init_17 : decode cX11_init 17 = .ok (.putfield 13, 3) := by decide +kernel
theorem dX11_init_20 : decode cX11_init 20 = .ok (.aload_n 0, 1) := by decide +kernel
theorem dX11_init_21 : decode cX11_init 21 = .ok (.bipush 16, 2) := by decide +kernel
theorem dX11_init_23 : decode cX11_init 23 = .ok (.newarray .int, 2) := by decide +kernel
theorem dX11_init_25 : decode cX11_init 25 = .ok (.putfield 16, 3) := by decide +kernel
theorem dX11_init_28 : decode cX11_init 28 = .ok (.aload_n 0, 1) := by decide +kernel
theorem dX11_init_29 : decode cX11_init 29 = .ok (.bipush 6, 2) := by decide +kernel
theorem dX11_init_31 : decode cX11_init 31 = .ok (.newarray .int, 2) := by decide +kernel
theorem dX11_init_33 : decode cX11_init 33 = .ok (.putfield 19, 3) := by decide +kernel
theorem dX11_init_36 : decode cX11_init 36 = .ok (.aload_n 0, 1) := by decide +kernel
theorem dX11_init_37 : decode cX11_init 37 = .ok (.bipush 24, 2) := by decide +kernel
theorem dX11_init_39 : decode cX11_init 39 = .ok (.newarray .int, 2) := by decide +kernel
theorem dX11_init_41 : decode cX11_init 41 = .ok (.putfield 22, 3) := by decide +kernel
theorem dX11_init_44 : decode cX11_init 44 = .ok (.aload_n 0, 1) := by decide +kernel
theorem dX11_init_45 : decode cX11_init 45 = .ok (.bipush 12, 2) := by decide +kernel
theorem dX11_init_47 : decode cX11_init 47 = .ok (.newarray .int, 2) := by decide +kernel
theorem dX11_init_49 : decode cX11_init 49 = .ok (.putfield 25, 3) := by decide +kernel
theorem dX11_init_52 : decode cX11_init 52 = .ok (.aload_n 0, 1) := by decide +kernel
theorem dX11_init_53 : decode cX11_init 53 = .ok (.bipush 16, 2) := by decide +kernel
theorem dX11_init_55 : decode cX11_init 55 = .ok (.newarray .int, 2) := by decide +kernel
theorem dX11_init_57 : decode cX11_init 57 = .ok (.putfield 28, 3) := by decide +kernel
theorem dX11_init_60 : decode cX11_init 60 = .ok (.aload_n 0, 1) := by decide +kernel
theorem dX11_init_61 : decode cX11_init 61 = .ok (.bipush 6, 2) := by decide +kernel
theorem dX11_init_63 : decode cX11_init 63 = .ok (.newarray .int, 2) := by decide +kernel
theorem dX11_init_65 : decode cX11_init 65 = .ok (.putfield 31, 3) := by decide +kernel
theorem dX11_init_68 : decode cX11_init 68 = .ok (.aload_n 0, 1) := by decide +kernel
theorem dX11_init_69 : decode cX11_init 69 = .ok (.bipush 92, 2) := by decide +kernel
theorem dX11_init_71 : decode cX11_init 71 = .ok (.newarray .int, 2) := by decide +kernel
theorem dX11_init_73 : decode cX11_init 73 = .ok (.putfield 34, 3) := by decide +kernel
theorem dX11_init_76 : decode cX11_init 76 = .ok (.aload_n 0, 1) := by decide +kernel
theorem dX11_init_77 : decode cX11_init 77 = .ok (.sipush 400, 3) := by decide +kernel
theorem dX11_init_80 : decode cX11_init 80 = .ok (.newarray .int, 2) := by decide +kernel
theorem dX11_init_82 : decode cX11_init 82 = .ok (.putfield 37, 3) := by decide +kernel
theorem dX11_init_85 : decode cX11_init 85 = .ok (.aload_n 0, 1) := by decide +kernel
theorem dX11_init_86 : decode cX11_init 86 = .ok (.bipush 90, 2) := by decide +kernel
theorem dX11_init_88 : decode cX11_init 88 = .ok (.newarray .int, 2) := by decide +kernel
theorem dX11_init_90 : decode cX11_init 90 = .ok (.putfield 40, 3) := by decide +kernel
theorem dX11_init_93 : decode cX11_init 93 = .ok (.aload_n 0, 1) := by decide +kernel
theorem dX11_init_94 : decode cX11_init 94 = .ok (.bipush 6, 2) := by decide +kernel
theorem dX11_init_96 : decode cX11_init 96 = .ok (.newarray .int, 2) := by decide +kernel
theorem dX11_init_98 : decode cX11_init 98 = .ok (.putfield 43, 3) := by decide +kernel
theorem dX11_init_101 : decode cX11_init 101 = .ok (.aload_n 0, 1) := by decide +kernel
theorem dX11_init_102 : decode cX11_init 102 = .ok (.bipush 6, 2) := by decide +kernel
theorem dX11_init_104 : decode cX11_init 104 = .ok (.newarray .int, 2) := by decide +kernel
theorem dX11_init_106 : decode cX11_init 106 = .ok (.putfield 46, 3) := by decide +kernel
theorem dX11_init_109 : decode cX11_init 109 = .ok (.aload_n 0, 1) := by decide +kernel
theorem dX11_init_110 : decode cX11_init 110 = .ok (.sipush 480, 3) := by decide +kernel
theorem dX11_init_113 : decode cX11_init 113 = .ok (.newarray .int, 2) := by decide +kernel
theorem dX11_init_115 : decode cX11_init 115 = .ok (.putfield 49, 3) := by decide +kernel
theorem dX11_init_118 : decode cX11_init 118 = .ok (.aload_n 0, 1) := by decide +kernel
theorem dX11_init_119 : decode cX11_init 119 = .ok (.sipush 16384, 3) := by decide +kernel
theorem dX11_init_122 : decode cX11_init 122 = .ok (.newarray .boolean, 2) := by decide +kernel
theorem dX11_init_124 : decode cX11_init 124 = .ok (.putfield 52, 3) := by decide +kernel
theorem dX11_init_127 : decode cX11_init 127 = .ok (.aload_n 0, 1) := by decide +kernel
theorem dX11_init_128 : decode cX11_init 128 = .ok (.iconst 2, 1) := by decide +kernel
theorem dX11_init_129 : decode cX11_init 129 = .ok (.newarray .boolean, 2) := by decide +kernel
theorem dX11_init_131 : decode cX11_init 131 = .ok (.putfield 56, 3) := by decide +kernel
theorem dX11_init_134 : decode cX11_init 134 = .ok (.aload_n 0, 1) := by decide +kernel
theorem dX11_init_135 : decode cX11_init 135 = .ok (.bipush 50, 2) := by decide +kernel
theorem dX11_init_137 : decode cX11_init 137 = .ok (.newarray .int, 2) := by decide +kernel
theorem dX11_init_139 : decode cX11_init 139 = .ok (.putfield 59, 3) := by decide +kernel
theorem dX11_init_142 : decode cX11_init 142 = .ok (.aload_n 0, 1) := by decide +kernel
theorem dX11_init_143 : decode cX11_init 143 = .ok (.bipush 12, 2) := by decide +kernel
theorem dX11_init_145 : decode cX11_init 145 = .ok (.newarray .int, 2) := by decide +kernel
theorem dX11_init_147 : decode cX11_init 147 = .ok (.putfield 62, 3) := by decide +kernel
theorem dX11_init_150 : decode cX11_init 150 = .ok (.aload_n 0, 1) := by decide +kernel
theorem dX11_init_151 : decode cX11_init 151 = .ok (.bipush 12, 2) := by decide +kernel
theorem dX11_init_153 : decode cX11_init 153 = .ok (.newarray .int, 2) := by decide +kernel
theorem dX11_init_155 : decode cX11_init 155 = .ok (.putfield 65, 3) := by decide +kernel
theorem dX11_init_158 : decode cX11_init 158 = .ok (.aload_n 0, 1) := by decide +kernel
theorem dX11_init_159 : decode cX11_init 159 = .ok (.iconst 2, 1) := by decide +kernel
theorem dX11_init_160 : decode cX11_init 160 = .ok (.newarray .int, 2) := by decide +kernel
theorem dX11_init_162 : decode cX11_init 162 = .ok (.putfield 68, 3) := by decide +kernel
theorem dX11_init_165 : decode cX11_init 165 = .ok (.aload_n 0, 1) := by decide +kernel
theorem dX11_init_166 : decode cX11_init 166 = .ok (.iconst 0, 1) := by decide +kernel
theorem dX11_init_167 : decode cX11_init 167 = .ok (.putfield 71, 3) := by decide +kernel
theorem dX11_init_170 : decode cX11_init 170 = .ok (.return_, 1) := by decide +kernel
theorem dX11_in_0 : decode cX11_in 0 = .ok (.lload_n 0, 1) := by decide +kernel
theorem dX11_in_1 : decode cX11_in 1 = .ok (.lload_n 2, 1) := by decide +kernel
theorem dX11_in_2 : decode cX11_in 2 = .ok (.lcmp, 1) := by decide +kernel
theorem dX11_in_3 : decode cX11_in 3 = .ok (.ifCond .lt 14, 3) := by decide +kernel
theorem dX11_in_6 : decode cX11_in 6 = .ok (.lload_n 0, 1) := by decide +kernel
theorem dX11_in_7 : decode cX11_in 7 = .ok (.lload 4, 2) := by decide +kernel
theorem dX11_in_9 : decode cX11_in 9 = .ok (.lcmp, 1) := by decide +kernel
theorem dX11_in_10 : decode cX11_in 10 = .ok (.ifCond .gt 7, 3) := by decide +kernel
theorem dX11_in_13 : decode cX11_in 13 = .ok (.iconst 1, 1) := by decide +kernel
theorem dX11_in_14 : decode cX11_in 14 = .ok (.goto 4, 3) := by decide +kernel
theorem dX11_in_17 : decode cX11_in 17 = .ok (.iconst 0, 1) := by decide +kernel
theorem dX11_in_18 : decode cX11_in 18 = .ok (.ireturn, 1) := by decide +kernel
theorem dX11_write_0 : decode cX11_write 0 = .ok (.iload_n 1, 1) := by decide +kernel
theorem dX11_write_1 : decode cX11_write 1 = .ok (.i2l, 1) := by decide +kernel
theorem dX11_write_2 : decode cX11_write 2 = .ok (.lconst 1, 1) := by decide +kernel
theorem dX11_write_3 : decode cX11_write 3 = .ok (.ldc2_w 75, 3) := by decide +kernel
theorem dX11_write_6 : decode cX11_write 6 = .ok (.invokestatic 77, 3) := by decide +kernel
theorem dX11_write_9 : decode cX11_write 9 = .ok (.ifCond .ne 6, 3) := by decide +kernel
theorem dX11_write_12 : decode cX11_write 12 = .ok (.bipush (-2), 2) := by decide +kernel
theorem dX11_write_14 : decode cX11_write 14 = .ok (.ireturn, 1) := by decide +kernel
theorem dX11_write_15 : decode cX11_write 15 = .ok (.aload_n 0, 1) := by decide +kernel
theorem dX11_write_16 : decode cX11_write 16 = .ok (.getfield 81, 3) := by decide +kernel
theorem dX11_write_19 : decode cX11_write 19 = .ok (.iload_n 1, 1) := by decide +kernel
theorem dX11_write_20 : decode cX11_write 20 = .ok (.iadd, 1) := by decide +kernel
theorem dX11_write_21 : decode cX11_write 21 = .ok (.bipush 92, 2) := by decide +kernel
theorem dX11_write_23 : decode cX11_write 23 = .ok (.if_icmp .le 6, 3) := by decide +kernel
theorem dX11_write_26 : decode cX11_write 26 = .ok (.bipush (-4), 2) := by decide +kernel
theorem dX11_write_28 : decode cX11_write 28 = .ok (.ireturn, 1) := by decide +kernel
theorem dX11_write_29 : decode cX11_write 29 = .ok (.iload_n 1, 1) := by decide +kernel
theorem dX11_write_30 : decode cX11_write 30 = .ok (.iconst 1, 1) := by decide +kernel
theorem dX11_write_31 : decode cX11_write 31 = .ok (.isub, 1) := by decide +kernel
theorem dX11_write_32 : decode cX11_write 32 = .ok (.istore 4, 2) := by decide +kernel
theorem dX11_write_34 : decode cX11_write 34 = .ok (.iload 4, 2) := by decide +kernel
theorem dX11_write_36 : decode cX11_write 36 = .ok (.ifCond .lt 40, 3) := by decide +kernel
theorem dX11_write_39 : decode cX11_write 39 = .ok (.aload_n 0, 1) := by decide +kernel
theorem dX11_write_40 : decode cX11_write 40 = .ok (.getfield 34, 3) := by decide +kernel
theorem dX11_write_43 : decode cX11_write 43 = .ok (.aload_n 0, 1) := by decide +kernel
theorem dX11_write_44 : decode cX11_write 44 = .ok (.getfield 81, 3) := by decide +kernel
theorem dX11_write_47 : decode cX11_write 47 = .ok (.lload_n 2, 1) := by decide +kernel
theorem dX11_write_48 : decode cX11_write 48 = .ok (.bipush 8, 2) := by decide +kernel
theorem dX11_write_50 : decode cX11_write 50 = .ok (.iload 4, 2) := by decide +kernel
theorem dX11_write_52 : decode cX11_write 52 = .ok (.imul, 1) := by decide +kernel
theorem dX11_write_53 : decode cX11_write 53 = .ok (.lshr, 1) := by decide +kernel
theorem dX11_write_54 : decode cX11_write 54 = .ok (.ldc2_w 84, 3) := by decide +kernel
theorem dX11_write_57 : decode cX11_write 57 = .ok (.land, 1) := by decide +kernel
theorem dX11_write_58 : decode cX11_write 58 = .ok (.l2i, 1) := by decide +kernel
theorem dX11_write_59 : decode cX11_write 59 = .ok (.iastore, 1) := by decide +kernel
theorem dX11_write_60 : decode cX11_write 60 = .ok (.aload_n 0, 1) := by decide +kernel
theorem dX11_write_61 : decode cX11_write 61 = .ok (.dup, 1) := by decide +kernel
theorem dX11_write_62 : decode cX11_write 62 = .ok (.getfield 81, 3) := by decide +kernel
theorem dX11_write_65 : decode cX11_write 65 = .ok (.iconst 1, 1) := by decide +kernel
theorem dX11_write_66 : decode cX11_write 66 = .ok (.iadd, 1) := by decide +kernel
theorem dX11_write_67 : decode cX11_write 67 = .ok (.putfield 81, 3) := by decide +kernel
theorem dX11_write_70 : decode cX11_write 70 = .ok (.iinc 4 (-1), 3) := by decide +kernel
theorem dX11_write_73 : decode cX11_write 73 = .ok (.goto (-39), 3) := by decide +kernel
theorem dX11_write_76 : decode cX11_write 76 = .ok (.aload_n 0, 1) := by decide +kernel
theorem dX11_write_77 : decode cX11_write 77 = .ok (.getfield 81, 3) := by decide +kernel
theorem dX11_write_80 : decode cX11_write 80 = .ok (.ireturn, 1) := by decide +kernel
theorem dX11_wipe_0 : decode cX11_wipe 0 = .ok (.aload_n 0, 1) := by decide +kernel
theorem dX11_wipe_1 : decode cX11_wipe 1 = .ok (.getfield 81, 3) := by decide +kernel
theorem dX11_wipe_4 : decode cX11_wipe 4 = .ok (.istore_n 1, 1) := by decide +kernel
theorem dX11_wipe_5 : decode cX11_wipe 5 = .ok (.aload_n 0, 1) := by decide +kernel
theorem dX11_wipe_6 : decode cX11_wipe 6 = .ok (.iconst 0, 1) := by decide +kernel
theorem dX11_wipe_7 : decode cX11_wipe 7 = .ok (.putfield 81, 3) := by decide +kernel
theorem dX11_wipe_10 : decode cX11_wipe 10 = .ok (.iload_n 1, 1) := by decide +kernel
theorem dX11_wipe_11 : decode cX11_wipe 11 = .ok (.ireturn, 1) := by decide +kernel
theorem dX11_fail_0 : decode cX11_fail 0 = .ok (.aload_n 0, 1) := by decide +kernel
theorem dX11_fail_1 : decode cX11_fail 1 = .ok (.aload_n 0, 1) := by decide +kernel
theorem dX11_fail_2 : decode cX11_fail 2 = .ok (.getfield 86, 3) := by decide +kernel
theorem dX11_fail_5 : decode cX11_fail 5 = .ok (.bipush (-9), 2) := by decide +kernel
theorem dX11_fail_7 : decode cX11_fail 7 = .ok (.if_icmp .ne 10, 3) := by decide +kernel
theorem dX11_fail_10 : decode cX11_fail 10 = .ok (.aload_n 0, 1) := by decide +kernel
theorem dX11_fail_11 : decode cX11_fail 11 = .ok (.getfield 89, 3) := by decide +kernel
theorem dX11_fail_14 : decode cX11_fail 14 = .ok (.goto 7, 3) := by decide +kernel
theorem dX11_fail_17 : decode cX11_fail 17 = .ok (.aload_n 0, 1) := by decide +kernel
theorem dX11_fail_18 : decode cX11_fail 18 = .ok (.getfield 86, 3) := by decide +kernel
theorem dX11_fail_21 : decode cX11_fail 21 = .ok (.putfield 86, 3) := by decide +kernel
theorem dX11_fail_24 : decode cX11_fail 24 = .ok (.return_, 1) := by decide +kernel
theorem dX11_sign_0 : decode cX11_sign 0 = .ok (.aload_n 0, 1) := by decide +kernel
theorem dX11_sign_1 : decode cX11_sign 1 = .ok (.getfield 86, 3) := by decide +kernel
theorem dX11_sign_4 : decode cX11_sign 4 = .ok (.bipush (-9), 2) := by decide +kernel
theorem dX11_sign_6 : decode cX11_sign 6 = .ok (.if_icmp .ne 26, 3) := by decide +kernel
theorem dX11_sign_9 : decode cX11_sign 9 = .ok (.aload_n 0, 1) := by decide +kernel
theorem dX11_sign_10 : decode cX11_sign 10 = .ok (.getfield 89, 3) := by decide +kernel
theorem dX11_sign_13 : decode cX11_sign 13 = .ok (.aload_n 0, 1) := by decide +kernel
theorem dX11_sign_14 : decode cX11_sign 14 = .ok (.getfield 81, 3) := by decide +kernel
theorem dX11_sign_17 : decode cX11_sign 17 = .ok (.if_icmp .ge 15, 3) := by decide +kernel
theorem dX11_sign_20 : decode cX11_sign 20 = .ok (.aload_n 0, 1) := by decide +kernel
theorem dX11_sign_21 : decode cX11_sign 21 = .ok (.getfield 34, 3) := by decide +kernel
theorem dX11_sign_24 : decode cX11_sign 24 = .ok (.aload_n 0, 1) := by decide +kernel
theorem dX11_sign_25 : decode cX11_sign 25 = .ok (.getfield 89, 3) := by decide +kernel
theorem dX11_sign_28 : decode cX11_sign 28 = .ok (.iaload, 1) := by decide +kernel
theorem dX11_sign_29 : decode cX11_sign 29 = .ok (.goto 4, 3) := by decide +kernel
theorem dX11_sign_32 : decode cX11_sign 32 = .ok (.iconst 0, 1) := by decide +kernel
theorem dX11_sign_33 : decode cX11_sign 33 = .ok (.istore_n 2, 1) := by decide +kernel
theorem dX11_sign_34 : decode cX11_sign 34 = .ok (.iload_n 2, 1) := by decide +kernel
theorem dX11_sign_35 : decode cX11_sign 35 = .ok (.i2l, 1) := by decide +kernel
theorem dX11_sign_36 : decode cX11_sign 36 = .ok (.ldc2_w 92, 3) := by decide +kernel
theorem dX11_sign_39 : decode cX11_sign 39 = .ok (.ldc2_w 94, 3) := by decide +kernel
theorem dX11_sign_42 : decode cX11_sign 42 = .ok (.invokestatic 77, 3) := by decide +kernel
theorem dX11_sign_45 : decode cX11_sign 45 = .ok (.ifCond .eq 10, 3) := by decide +kernel
theorem dX11_sign_48 : decode cX11_sign 48 = .ok (.iload_n 2, 1) := by decide +kernel
theorem dX11_sign_49 : decode cX11_sign 49 = .ok (.bipush 48, 2) := by decide +kernel
theorem dX11_sign_51 : decode cX11_sign 51 = .ok (.isub, 1) := by decide +kernel
theorem dX11_sign_52 : decode cX11_sign 52 = .ok (.goto 25, 3) := by decide +kernel
theorem dX11_sign_55 : decode cX11_sign 55 = .ok (.iload_n 2, 1) := by decide +kernel
theorem dX11_sign_56 : decode cX11_sign 56 = .ok (.i2l, 1) := by decide +kernel
theorem dX11_sign_57 : decode cX11_sign 57 = .ok (.ldc2_w 96, 3) := by decide +kernel
theorem dX11_sign_60 : decode cX11_sign 60 = .ok (.ldc2_w 98, 3) := by decide +kernel
theorem dX11_sign_63 : decode cX11_sign 63 = .ok (.invokestatic 77, 3) := by decide +kernel
theorem dX11_sign_66 : decode cX11_sign 66 = .ok (.ifCond .eq 10, 3) := by decide +kernel
theorem dX11_sign_69 : decode cX11_sign 69 = .ok (.iload_n 2, 1) := by decide +kernel
theorem dX11_sign_70 : decode cX11_sign 70 = .ok (.bipush 87, 2) := by decide +kernel
theorem dX11_sign_72 : decode cX11_sign 72 = .ok (.isub, 1) := by decide +kernel
theorem dX11_sign_73 : decode cX11_sign 73 = .ok (.goto 4, 3) := by decide +kernel
theorem dX11_sign_76 : decode cX11_sign 76 = .ok (.iconst (-1), 1) := by decide +kernel
theorem dX11_sign_77 : decode cX11_sign 77 = .ok (.istore_n 3, 1) := by decide +kernel
theorem dX11_sign_78 : decode cX11_sign 78 = .ok (.iload_n 3, 1) := by decide +kernel
theorem dX11_sign_79 : decode cX11_sign 79 = .ok (.ifCond .lt 11, 3) := by decide +kernel
theorem dX11_sign_82 : decode cX11_sign 82 = .ok (.iload_n 1, 1) := by decide +kernel
theorem dX11_sign_83 : decode cX11_sign 83 = .ok (.iload_n 3, 1) := by decide +kernel
theorem dX11_sign_84 : decode cX11_sign 84 = .ok (.ishr, 1) := by decide +kernel
theorem dX11_sign_85 : decode cX11_sign 85 = .ok (.iconst 1, 1) := by decide +kernel
theorem dX11_sign_86 : decode cX11_sign 86 = .ok (.iand, 1) := by decide +kernel
theorem dX11_sign_87 : decode cX11_sign 87 = .ok (.ifCond .ne 9, 3) := by decide +kernel
theorem dX11_sign_90 : decode cX11_sign 90 = .ok (.aload_n 0, 1) := by decide +kernel
theorem dX11_sign_91 : decode cX11_sign 91 = .ok (.invokevirtual 100, 3) := by decide +kernel
theorem dX11_sign_94 : decode cX11_sign 94 = .ok (.iconst 0, 1) := by decide +kernel
theorem dX11_sign_95 : decode cX11_sign 95 = .ok (.ireturn, 1) := by decide +kernel
theorem dX11_sign_96 : decode cX11_sign 96 = .ok (.aload_n 0, 1) := by decide +kernel
theorem dX11_sign_97 : decode cX11_sign 97 = .ok (.dup, 1) := by decide +kernel
theorem dX11_sign_98 : decode cX11_sign 98 = .ok (.getfield 89, 3) := by decide +kernel
theorem dX11_sign_101 : decode cX11_sign 101 = .ok (.iconst 1, 1) := by decide +kernel
theorem dX11_sign_102 : decode cX11_sign 102 = .ok (.iadd, 1) := by decide +kernel
theorem dX11_sign_103 : decode cX11_sign 103 = .ok (.putfield 89, 3) := by decide +kernel
theorem dX11_sign_106 : decode cX11_sign 106 = .ok (.iload_n 3, 1) := by decide +kernel
theorem dX11_sign_107 : decode cX11_sign 107 = .ok (.ireturn, 1) := by decide +kernel
theorem dX11_bits_0 : decode cX11_bits 0 = .ok (.iconst 1, 1) := by decide +kernel
theorem dX11_bits_1 : decode cX11_bits 1 = .ok (.iload_n 1, 1) := by decide +kernel
theorem dX11_bits_2 : decode cX11_bits 2 = .ok (.iconst 1, 1) := by decide +kernel
theorem dX11_bits_3 : decode cX11_bits 3 = .ok (.iadd, 1) := by decide +kernel
theorem dX11_bits_4 : decode cX11_bits 4 = .ok (.ishl, 1) := by decide +kernel
theorem dX11_bits_5 : decode cX11_bits 5 = .ok (.iconst 1, 1) := by decide +kernel
theorem dX11_bits_6 : decode cX11_bits 6 = .ok (.iload_n 0, 1) := by decide +kernel
theorem dX11_bits_7 : decode cX11_bits 7 = .ok (.ishl, 1) := by decide +kernel
theorem dX11_bits_8 : decode cX11_bits 8 = .ok (.isub, 1) := by decide +kernel
theorem dX11_bits_9 : decode cX11_bits 9 = .ok (.ireturn, 1) := by decide +kernel
theorem dX11_kindOf_0 : decode cX11_kindOf 0 = .ok (.iload_n 0, 1) := by decide +kernel
theorem dX11_kindOf_1 : decode cX11_kindOf 1 = .ok (.tableswitch 107 97 116 #[103, 107, 97, 107, 107, 107, 107, 107, 107, 107, 99, 107, 95, 107, 107, 107, 107, 107, 101, 105], 95) := by decide +kernel
theorem dX11_kindOf_96 : decode cX11_kindOf 96 = .ok (.iconst 0, 1) := by decide +kernel
theorem dX11_kindOf_97 : decode cX11_kindOf 97 = .ok (.ireturn, 1) := by decide +kernel
theorem dX11_kindOf_98 : decode cX11_kindOf 98 = .ok (.iconst 1, 1) := by decide +kernel
theorem dX11_kindOf_99 : decode cX11_kindOf 99 = .ok (.ireturn, 1) := by decide +kernel
theorem dX11_kindOf_100 : decode cX11_kindOf 100 = .ok (.iconst 2, 1) := by decide +kernel
theorem dX11_kindOf_101 : decode cX11_kindOf 101 = .ok (.ireturn, 1) := by decide +kernel
theorem dX11_kindOf_102 : decode cX11_kindOf 102 = .ok (.iconst 3, 1) := by decide +kernel
theorem dX11_kindOf_103 : decode cX11_kindOf 103 = .ok (.ireturn, 1) := by decide +kernel
theorem dX11_kindOf_104 : decode cX11_kindOf 104 = .ok (.iconst 4, 1) := by decide +kernel
theorem dX11_kindOf_105 : decode cX11_kindOf 105 = .ok (.ireturn, 1) := by decide +kernel
theorem dX11_kindOf_106 : decode cX11_kindOf 106 = .ok (.iconst 5, 1) := by decide +kernel
theorem dX11_kindOf_107 : decode cX11_kindOf 107 = .ok (.ireturn, 1) := by decide +kernel
theorem dX11_kindOf_108 : decode cX11_kindOf 108 = .ok (.bipush (-9), 2) := by decide +kernel
theorem dX11_kindOf_110 : decode cX11_kindOf 110 = .ok (.ireturn, 1) := by decide +kernel
theorem dX11_freeRows_0 : decode cX11_freeRows 0 = .ok (.bipush 63, 2) := by decide +kernel
theorem dX11_freeRows_2 : decode cX11_freeRows 2 = .ok (.istore_n 2, 1) := by decide +kernel
theorem dX11_freeRows_3 : decode cX11_freeRows 3 = .ok (.iconst 0, 1) := by decide +kernel
theorem dX11_freeRows_4 : decode cX11_freeRows 4 = .ok (.istore_n 3, 1) := by decide +kernel
theorem dX11_freeRows_5 : decode cX11_freeRows 5 = .ok (.iload_n 3, 1) := by decide +kernel
theorem dX11_freeRows_6 : decode cX11_freeRows 6 = .ok (.aload_n 0, 1) := by decide +kernel
theorem dX11_freeRows_7 : decode cX11_freeRows 7 = .ok (.getfield 103, 3) := by decide +kernel
theorem dX11_freeRows_10 : decode cX11_freeRows 10 = .ok (.if_icmp .ge 44, 3) := by decide +kernel
theorem dX11_freeRows_13 : decode cX11_freeRows 13 = .ok (.iload_n 2, 1) := by decide +kernel
theorem dX11_freeRows_14 : decode cX11_freeRows 14 = .ok (.aload_n 0, 1) := by decide +kernel
theorem dX11_freeRows_15 : decode cX11_freeRows 15 = .ok (.getfield 7, 3) := by decide +kernel
theorem dX11_freeRows_18 : decode cX11_freeRows 18 = .ok (.iconst 3, 1) := by decide +kernel
theorem dX11_freeRows_19 : decode cX11_freeRows 19 = .ok (.iload_n 3, 1) := by decide +kernel
theorem dX11_freeRows_20 : decode cX11_freeRows 20 = .ok (.imul, 1) := by decide +kernel
theorem dX11_freeRows_21 : decode cX11_freeRows 21 = .ok (.iconst 1, 1) := by decide +kernel
theorem dX11_freeRows_22 : decode cX11_freeRows 22 = .ok (.iadd, 1) := by decide +kernel
theorem dX11_freeRows_23 : decode cX11_freeRows 23 = .ok (.iaload, 1) := by decide +kernel
theorem dX11_freeRows_24 : decode cX11_freeRows 24 = .ok (.iload_n 1, 1) := by decide +kernel
theorem dX11_freeRows_25 : decode cX11_freeRows 25 = .ok (.if_icmp .ne 20, 3) := by decide +kernel
theorem dX11_freeRows_28 : decode cX11_freeRows 28 = .ok (.iconst 1, 1) := by decide +kernel
theorem dX11_freeRows_29 : decode cX11_freeRows 29 = .ok (.aload_n 0, 1) := by decide +kernel
theorem dX11_freeRows_30 : decode cX11_freeRows 30 = .ok (.getfield 7, 3) := by decide +kernel
theorem dX11_freeRows_33 : decode cX11_freeRows 33 = .ok (.iconst 3, 1) := by decide +kernel
theorem dX11_freeRows_34 : decode cX11_freeRows 34 = .ok (.iload_n 3, 1) := by decide +kernel
theorem dX11_freeRows_35 : decode cX11_freeRows 35 = .ok (.imul, 1) := by decide +kernel
theorem dX11_freeRows_36 : decode cX11_freeRows 36 = .ok (.iconst 2, 1) := by decide +kernel
theorem dX11_freeRows_37 : decode cX11_freeRows 37 = .ok (.iadd, 1) := by decide +kernel
theorem dX11_freeRows_38 : decode cX11_freeRows 38 = .ok (.iaload, 1) := by decide +kernel
theorem dX11_freeRows_39 : decode cX11_freeRows 39 = .ok (.ishl, 1) := by decide +kernel
theorem dX11_freeRows_40 : decode cX11_freeRows 40 = .ok (.iconst (-1), 1) := by decide +kernel
theorem dX11_freeRows_41 : decode cX11_freeRows 41 = .ok (.ixor, 1) := by decide +kernel
theorem dX11_freeRows_42 : decode cX11_freeRows 42 = .ok (.goto 4, 3) := by decide +kernel
theorem dX11_freeRows_45 : decode cX11_freeRows 45 = .ok (.iconst (-1), 1) := by decide +kernel
theorem dX11_freeRows_46 : decode cX11_freeRows 46 = .ok (.iand, 1) := by decide +kernel
theorem dX11_freeRows_47 : decode cX11_freeRows 47 = .ok (.istore_n 2, 1) := by decide +kernel
theorem dX11_freeRows_48 : decode cX11_freeRows 48 = .ok (.iinc 3 1, 3) := by decide +kernel
theorem dX11_freeRows_51 : decode cX11_freeRows 51 = .ok (.goto (-46), 3) := by decide +kernel
theorem dX11_freeRows_54 : decode cX11_freeRows 54 = .ok (.iload_n 2, 1) := by decide +kernel
theorem dX11_freeRows_55 : decode cX11_freeRows 55 = .ok (.ireturn, 1) := by decide +kernel
theorem dX11_readBodyPart_0 : decode cX11_readBodyPart 0 = .ok (.aload_n 0, 1) := by decide +kernel
theorem dX11_readBodyPart_1 : decode cX11_readBodyPart 1 = .ok (.dup, 1) := by decide +kernel
theorem dX11_readBodyPart_2 : decode cX11_readBodyPart 2 = .ok (.getfield 89, 3) := by decide +kernel
theorem dX11_readBodyPart_5 : decode cX11_readBodyPart 5 = .ok (.iconst 1, 1) := by decide +kernel
theorem dX11_readBodyPart_6 : decode cX11_readBodyPart 6 = .ok (.iadd, 1) := by decide +kernel
theorem dX11_readBodyPart_7 : decode cX11_readBodyPart 7 = .ok (.putfield 89, 3) := by decide +kernel
theorem dX11_readBodyPart_10 : decode cX11_readBodyPart 10 = .ok (.aload_n 0, 1) := by decide +kernel
theorem dX11_readBodyPart_11 : decode cX11_readBodyPart 11 = .ok (.getfield 86, 3) := by decide +kernel
theorem dX11_readBodyPart_14 : decode cX11_readBodyPart 14 = .ok (.bipush (-9), 2) := by decide +kernel
theorem dX11_readBodyPart_16 : decode cX11_readBodyPart 16 = .ok (.if_icmp .ne 29, 3) := by decide +kernel
theorem dX11_readBodyPart_19 : decode cX11_readBodyPart 19 = .ok (.aload_n 0, 1) := by decide +kernel
theorem dX11_readBodyPart_20 : decode cX11_readBodyPart 20 = .ok (.getfield 89, 3) := by decide +kernel
theorem dX11_readBodyPart_23 : decode cX11_readBodyPart 23 = .ok (.aload_n 0, 1) := by decide +kernel
theorem dX11_readBodyPart_24 : decode cX11_readBodyPart 24 = .ok (.getfield 81, 3) := by decide +kernel
theorem dX11_readBodyPart_27 : decode cX11_readBodyPart 27 = .ok (.if_icmp .ge 18, 3) := by decide +kernel
theorem dX11_readBodyPart_30 : decode cX11_readBodyPart 30 = .ok (.aload_n 0, 1) := by decide +kernel
theorem dX11_readBodyPart_31 : decode cX11_readBodyPart 31 = .ok (.getfield 34, 3) := by decide +kernel
theorem dX11_readBodyPart_34 : decode cX11_readBodyPart 34 = .ok (.aload_n 0, 1) := by decide +kernel
theorem dX11_readBodyPart_35 : decode cX11_readBodyPart 35 = .ok (.getfield 89, 3) := by decide +kernel
theorem dX11_readBodyPart_38 : decode cX11_readBodyPart 38 = .ok (.iaload, 1) := by decide +kernel
theorem dX11_readBodyPart_39 : decode cX11_readBodyPart 39 = .ok (.invokestatic 106, 3) := by decide +kernel
theorem dX11_readBodyPart_42 : decode cX11_readBodyPart 42 = .ok (.goto 5, 3) := by decide +kernel
theorem dX11_readBodyPart_45 : decode cX11_readBodyPart 45 = .ok (.bipush (-9), 2) := by decide +kernel
theorem dX11_readBodyPart_47 : decode cX11_readBodyPart 47 = .ok (.istore_n 1, 1) := by decide +kernel
theorem dX11_readBodyPart_48 : decode cX11_readBodyPart 48 = .ok (.iload_n 1, 1) := by decide +kernel
theorem dX11_readBodyPart_49 : decode cX11_readBodyPart 49 = .ok (.bipush (-9), 2) := by decide +kernel
theorem dX11_readBodyPart_51 : decode cX11_readBodyPart 51 = .ok (.if_icmp .ne 8, 3) := by decide +kernel
theorem dX11_readBodyPart_54 : decode cX11_readBodyPart 54 = .ok (.aload_n 0, 1) := by decide +kernel
theorem dX11_readBodyPart_55 : decode cX11_readBodyPart 55 = .ok (.invokevirtual 100, 3) := by decide +kernel
theorem dX11_readBodyPart_58 : decode cX11_readBodyPart 58 = .ok (.return_, 1) := by decide +kernel
theorem dX11_readBodyPart_59 : decode cX11_readBodyPart 59 = .ok (.aload_n 0, 1) := by decide +kernel
theorem dX11_readBodyPart_60 : decode cX11_readBodyPart 60 = .ok (.dup, 1) := by decide +kernel
theorem dX11_readBodyPart_61 : decode cX11_readBodyPart 61 = .ok (.getfield 89, 3) := by decide +kernel
theorem dX11_readBodyPart_64 : decode cX11_readBodyPart 64 = .ok (.iconst 1, 1) := by decide +kernel
theorem dX11_readBodyPart_65 : decode cX11_readBodyPart 65 = .ok (.iadd, 1) := by decide +kernel
theorem dX11_readBodyPart_66 : decode cX11_readBodyPart 66 = .ok (.putfield 89, 3) := by decide +kernel
theorem dX11_readBodyPart_69 : decode cX11_readBodyPart 69 = .ok (.iconst 0, 1) := by decide +kernel
theorem dX11_readBodyPart_70 : decode cX11_readBodyPart 70 = .ok (.istore_n 2, 1) := by decide +kernel
theorem dX11_readBodyPart_71 : decode cX11_readBodyPart 71 = .ok (.iconst 0, 1) := by decide +kernel
theorem dX11_readBodyPart_72 : decode cX11_readBodyPart 72 = .ok (.istore_n 3, 1) := by decide +kernel
theorem dX11_readBodyPart_73 : decode cX11_readBodyPart 73 = .ok (.iload_n 3, 1) := by decide +kernel
theorem dX11_readBodyPart_74 : decode cX11_readBodyPart 74 = .ok (.bipush 10, 2) := by decide +kernel
theorem dX11_readBodyPart_76 : decode cX11_readBodyPart 76 = .ok (.if_icmp .ge 27, 3) := by decide +kernel
theorem dX11_readBodyPart_79 : decode cX11_readBodyPart 79 = .ok (.iload_n 2, 1) := by decide +kernel
theorem dX11_readBodyPart_80 : decode cX11_readBodyPart 80 = .ok (.aload_n 0, 1) := by decide +kernel
theorem dX11_readBodyPart_81 : decode cX11_readBodyPart 81 = .ok (.iload_n 3, 1) := by decide +kernel
theorem dX11_readBodyPart_82 : decode cX11_readBodyPart 82 = .ok (.invokevirtual 110, 3) := by decide +kernel
theorem dX11_readBodyPart_85 : decode cX11_readBodyPart 85 = .ok (.ifCond .eq 9, 3) := by decide +kernel
theorem dX11_readBodyPart_88 : decode cX11_readBodyPart 88 = .ok (.iconst 1, 1) := by decide +kernel
theorem dX11_readBodyPart_89 : decode cX11_readBodyPart 89 = .ok (.iload_n 3, 1) := by decide +kernel
theorem dX11_readBodyPart_90 : decode cX11_readBodyPart 90 = .ok (.ishl, 1) := by decide +kernel
theorem dX11_readBodyPart_91 : decode cX11_readBodyPart 91 = .ok (.goto 4, 3) := by decide +kernel
theorem dX11_readBodyPart_94 : decode cX11_readBodyPart 94 = .ok (.iconst 0, 1) := by decide +kernel
theorem dX11_readBodyPart_95 : decode cX11_readBodyPart 95 = .ok (.ior, 1) := by decide +kernel
theorem dX11_readBodyPart_96 : decode cX11_readBodyPart 96 = .ok (.istore_n 2, 1) := by decide +kernel
theorem dX11_readBodyPart_97 : decode cX11_readBodyPart 97 = .ok (.iinc 3 1, 3) := by decide +kernel
theorem dX11_readBodyPart_100 : decode cX11_readBodyPart 100 = .ok (.goto (-27), 3) := by decide +kernel
theorem dX11_readBodyPart_103 : decode cX11_readBodyPart 103 = .ok (.aload_n 0, 1) := by decide +kernel
theorem dX11_readBodyPart_104 : decode cX11_readBodyPart 104 = .ok (.iload_n 2, 1) := by decide +kernel
theorem dX11_readBodyPart_105 : decode cX11_readBodyPart 105 = .ok (.invokevirtual 113, 3) := by decide +kernel
theorem dX11_readBodyPart_108 : decode cX11_readBodyPart 108 = .ok (.istore_n 3, 1) := by decide +kernel
theorem dX11_readBodyPart_109 : decode cX11_readBodyPart 109 = .ok (.aload_n 0, 1) := by decide +kernel
theorem dX11_readBodyPart_110 : decode cX11_readBodyPart 110 = .ok (.aload_n 0, 1) := by decide +kernel
theorem dX11_readBodyPart_111 : decode cX11_readBodyPart 111 = .ok (.iload_n 3, 1) := by decide +kernel
theorem dX11_readBodyPart_112 : decode cX11_readBodyPart 112 = .ok (.invokevirtual 110, 3) := by decide +kernel
theorem dX11_readBodyPart_115 : decode cX11_readBodyPart 115 = .ok (.invokevirtual 113, 3) := by decide +kernel
theorem dX11_readBodyPart_118 : decode cX11_readBodyPart 118 = .ok (.istore 4, 2) := by decide +kernel
theorem dX11_readBodyPart_120 : decode cX11_readBodyPart 120 = .ok (.aload_n 0, 1) := by decide +kernel
theorem dX11_readBodyPart_121 : decode cX11_readBodyPart 121 = .ok (.getfield 7, 3) := by decide +kernel
theorem dX11_readBodyPart_124 : decode cX11_readBodyPart 124 = .ok (.iconst 3, 1) := by decide +kernel
theorem dX11_readBodyPart_125 : decode cX11_readBodyPart 125 = .ok (.aload_n 0, 1) := by decide +kernel
theorem dX11_readBodyPart_126 : decode cX11_readBodyPart 126 = .ok (.getfield 103, 3) := by decide +kernel
theorem dX11_readBodyPart_129 : decode cX11_readBodyPart 129 = .ok (.imul, 1) := by decide +kernel
theorem dX11_readBodyPart_130 : decode cX11_readBodyPart 130 = .ok (.iload_n 1, 1) := by decide +kernel
theorem dX11_readBodyPart_131 : decode cX11_readBodyPart 131 = .ok (.iastore, 1) := by decide +kernel
theorem dX11_readBodyPart_132 : decode cX11_readBodyPart 132 = .ok (.aload_n 0, 1) := by decide +kernel
theorem dX11_readBodyPart_133 : decode cX11_readBodyPart 133 = .ok (.getfield 7, 3) := by decide +kernel
theorem dX11_readBodyPart_136 : decode cX11_readBodyPart 136 = .ok (.iconst 3, 1) := by decide +kernel
theorem dX11_readBodyPart_137 : decode cX11_readBodyPart 137 = .ok (.aload_n 0, 1) := by decide +kernel
theorem dX11_readBodyPart_138 : decode cX11_readBodyPart 138 = .ok (.getfield 103, 3) := by decide +kernel
theorem dX11_readBodyPart_141 : decode cX11_readBodyPart 141 = .ok (.imul, 1) := by decide +kernel
theorem dX11_readBodyPart_142 : decode cX11_readBodyPart 142 = .ok (.iconst 1, 1) := by decide +kernel
theorem dX11_readBodyPart_143 : decode cX11_readBodyPart 143 = .ok (.iadd, 1) := by decide +kernel
theorem dX11_readBodyPart_144 : decode cX11_readBodyPart 144 = .ok (.iload_n 3, 1) := by decide +kernel
theorem dX11_readBodyPart_145 : decode cX11_readBodyPart 145 = .ok (.iastore, 1) := by decide +kernel
theorem dX11_readBodyPart_146 : decode cX11_readBodyPart 146 = .ok (.aload_n 0, 1) := by decide +kernel
theorem dX11_readBodyPart_147 : decode cX11_readBodyPart 147 = .ok (.getfield 7, 3) := by decide +kernel
theorem dX11_readBodyPart_150 : decode cX11_readBodyPart 150 = .ok (.iconst 3, 1) := by decide +kernel
theorem dX11_readBodyPart_151 : decode cX11_readBodyPart 151 = .ok (.aload_n 0, 1) := by decide +kernel
theorem dX11_readBodyPart_152 : decode cX11_readBodyPart 152 = .ok (.getfield 103, 3) := by decide +kernel
theorem dX11_readBodyPart_155 : decode cX11_readBodyPart 155 = .ok (.imul, 1) := by decide +kernel
theorem dX11_readBodyPart_156 : decode cX11_readBodyPart 156 = .ok (.iconst 2, 1) := by decide +kernel
theorem dX11_readBodyPart_157 : decode cX11_readBodyPart 157 = .ok (.iadd, 1) := by decide +kernel
theorem dX11_readBodyPart_158 : decode cX11_readBodyPart 158 = .ok (.iload 4, 2) := by decide +kernel
theorem dX11_readBodyPart_160 : decode cX11_readBodyPart 160 = .ok (.iastore, 1) := by decide +kernel
theorem dX11_readBodyPart_161 : decode cX11_readBodyPart 161 = .ok (.aload_n 0, 1) := by decide +kernel
theorem dX11_readBodyPart_162 : decode cX11_readBodyPart 162 = .ok (.dup, 1) := by decide +kernel
theorem dX11_readBodyPart_163 : decode cX11_readBodyPart 163 = .ok (.getfield 103, 3) := by decide +kernel
theorem dX11_readBodyPart_166 : decode cX11_readBodyPart 166 = .ok (.iconst 1, 1) := by decide +kernel
theorem dX11_readBodyPart_167 : decode cX11_readBodyPart 167 = .ok (.iadd, 1) := by decide +kernel
theorem dX11_readBodyPart_168 : decode cX11_readBodyPart 168 = .ok (.putfield 103, 3) := by decide +kernel
theorem dX11_readBodyPart_171 : decode cX11_readBodyPart 171 = .ok (.return_, 1) := by decide +kernel
theorem dX11_untold_0 : decode cX11_untold 0 = .ok (.iconst 0, 1) := by decide +kernel
theorem dX11_untold_1 : decode cX11_untold 1 = .ok (.istore_n 1, 1) := by decide +kernel
theorem dX11_untold_2 : decode cX11_untold 2 = .ok (.iconst 0, 1) := by decide +kernel
theorem dX11_untold_3 : decode cX11_untold 3 = .ok (.istore_n 2, 1) := by decide +kernel
theorem dX11_untold_4 : decode cX11_untold 4 = .ok (.iload_n 2, 1) := by decide +kernel
theorem dX11_untold_5 : decode cX11_untold 5 = .ok (.bipush 6, 2) := by decide +kernel
theorem dX11_untold_7 : decode cX11_untold 7 = .ok (.if_icmp .ge 30, 3) := by decide +kernel
theorem dX11_untold_10 : decode cX11_untold 10 = .ok (.iload_n 1, 1) := by decide +kernel
theorem dX11_untold_11 : decode cX11_untold 11 = .ok (.aload_n 0, 1) := by decide +kernel
theorem dX11_untold_12 : decode cX11_untold 12 = .ok (.getfield 19, 3) := by decide +kernel
theorem dX11_untold_15 : decode cX11_untold 15 = .ok (.iload_n 2, 1) := by decide +kernel
theorem dX11_untold_16 : decode cX11_untold 16 = .ok (.iaload, 1) := by decide +kernel
theorem dX11_untold_17 : decode cX11_untold 17 = .ok (.bipush (-9), 2) := by decide +kernel
theorem dX11_untold_19 : decode cX11_untold 19 = .ok (.if_icmp .ne 9, 3) := by decide +kernel
theorem dX11_untold_22 : decode cX11_untold 22 = .ok (.iconst 1, 1) := by decide +kernel
theorem dX11_untold_23 : decode cX11_untold 23 = .ok (.iload_n 2, 1) := by decide +kernel
theorem dX11_untold_24 : decode cX11_untold 24 = .ok (.ishl, 1) := by decide +kernel
theorem dX11_untold_25 : decode cX11_untold 25 = .ok (.goto 4, 3) := by decide +kernel
theorem dX11_untold_28 : decode cX11_untold 28 = .ok (.iconst 0, 1) := by decide +kernel
theorem dX11_untold_29 : decode cX11_untold 29 = .ok (.ior, 1) := by decide +kernel
theorem dX11_untold_30 : decode cX11_untold 30 = .ok (.istore_n 1, 1) := by decide +kernel
theorem dX11_untold_31 : decode cX11_untold 31 = .ok (.iinc 2 1, 3) := by decide +kernel
theorem dX11_untold_34 : decode cX11_untold 34 = .ok (.goto (-30), 3) := by decide +kernel
theorem dX11_untold_37 : decode cX11_untold 37 = .ok (.iload_n 1, 1) := by decide +kernel
theorem dX11_untold_38 : decode cX11_untold 38 = .ok (.ireturn, 1) := by decide +kernel
theorem dX11_readText_0 : decode cX11_readText 0 = .ok (.aload_n 0, 1) := by decide +kernel
theorem dX11_readText_1 : decode cX11_readText 1 = .ok (.iconst 0, 1) := by decide +kernel
theorem dX11_readText_2 : decode cX11_readText 2 = .ok (.putfield 89, 3) := by decide +kernel
theorem dX11_readText_5 : decode cX11_readText 5 = .ok (.aload_n 0, 1) := by decide +kernel
theorem dX11_readText_6 : decode cX11_readText 6 = .ok (.bipush (-9), 2) := by decide +kernel
theorem dX11_readText_8 : decode cX11_readText 8 = .ok (.putfield 86, 3) := by decide +kernel
theorem dX11_readText_11 : decode cX11_readText 11 = .ok (.aload_n 0, 1) := by decide +kernel
theorem dX11_readText_12 : decode cX11_readText 12 = .ok (.iconst 0, 1) := by decide +kernel
theorem dX11_readText_13 : decode cX11_readText 13 = .ok (.putfield 103, 3) := by decide +kernel
theorem dX11_readText_16 : decode cX11_readText 16 = .ok (.aload_n 0, 1) := by decide +kernel
theorem dX11_readText_17 : decode cX11_readText 17 = .ok (.iconst 0, 1) := by decide +kernel
theorem dX11_readText_18 : decode cX11_readText 18 = .ok (.putfield 116, 3) := by decide +kernel
theorem dX11_readText_21 : decode cX11_readText 21 = .ok (.aload_n 0, 1) := by decide +kernel
theorem dX11_readText_22 : decode cX11_readText 22 = .ok (.iconst 0, 1) := by decide +kernel
theorem dX11_readText_23 : decode cX11_readText 23 = .ok (.putfield 119, 3) := by decide +kernel
theorem dX11_readText_26 : decode cX11_readText 26 = .ok (.iconst 0, 1) := by decide +kernel
theorem dX11_readText_27 : decode cX11_readText 27 = .ok (.istore_n 1, 1) := by decide +kernel
theorem dX11_readText_28 : decode cX11_readText 28 = .ok (.iload_n 1, 1) := by decide +kernel
theorem dX11_readText_29 : decode cX11_readText 29 = .ok (.bipush 6, 2) := by decide +kernel
theorem dX11_readText_31 : decode cX11_readText 31 = .ok (.if_icmp .ge 17, 3) := by decide +kernel
theorem dX11_readText_34 : decode cX11_readText 34 = .ok (.aload_n 0, 1) := by decide +kernel
theorem dX11_readText_35 : decode cX11_readText 35 = .ok (.getfield 19, 3) := by decide +kernel
theorem dX11_readText_38 : decode cX11_readText 38 = .ok (.iload_n 1, 1) := by decide +kernel
theorem dX11_readText_39 : decode cX11_readText 39 = .ok (.bipush (-9), 2) := by decide +kernel
theorem dX11_readText_41 : decode cX11_readText 41 = .ok (.iastore, 1) := by decide +kernel
theorem dX11_readText_42 : decode cX11_readText 42 = .ok (.iinc 1 1, 3) := by decide +kernel
theorem dX11_readText_45 : decode cX11_readText 45 = .ok (.goto (-17), 3) := by decide +kernel
theorem dX11_readText_48 : decode cX11_readText 48 = .ok (.aload_n 0, 1) := by decide +kernel
theorem dX11_readText_49 : decode cX11_readText 49 = .ok (.getfield 81, 3) := by decide +kernel
theorem dX11_readText_52 : decode cX11_readText 52 = .ok (.ifCond .eq 14, 3) := by decide +kernel
theorem dX11_readText_55 : decode cX11_readText 55 = .ok (.aload_n 0, 1) := by decide +kernel
theorem dX11_readText_56 : decode cX11_readText 56 = .ok (.getfield 34, 3) := by decide +kernel
theorem dX11_readText_59 : decode cX11_readText 59 = .ok (.iconst 0, 1) := by decide +kernel
theorem dX11_readText_60 : decode cX11_readText 60 = .ok (.iaload, 1) := by decide +kernel
theorem dX11_readText_61 : decode cX11_readText 61 = .ok (.bipush 71, 2) := by decide +kernel
theorem dX11_readText_63 : decode cX11_readText 63 = .ok (.if_icmp .eq 5, 3) := by decide +kernel
theorem dX11_readText_66 : decode cX11_readText 66 = .ok (.iconst 0, 1) := by decide +kernel
theorem dX11_readText_67 : decode cX11_readText 67 = .ok (.ireturn, 1) := by decide +kernel
theorem dX11_readText_68 : decode cX11_readText 68 = .ok (.aload_n 0, 1) := by decide +kernel
theorem dX11_readText_69 : decode cX11_readText 69 = .ok (.iconst 1, 1) := by decide +kernel
theorem dX11_readText_70 : decode cX11_readText 70 = .ok (.putfield 89, 3) := by decide +kernel
theorem dX11_readText_73 : decode cX11_readText 73 = .ok (.aload_n 0, 1) := by decide +kernel
theorem dX11_readText_74 : decode cX11_readText 74 = .ok (.getfield 86, 3) := by decide +kernel
theorem dX11_readText_77 : decode cX11_readText 77 = .ok (.bipush (-9), 2) := by decide +kernel
theorem dX11_readText_79 : decode cX11_readText 79 = .ok (.if_icmp .ne 30, 3) := by decide +kernel
theorem dX11_readText_82 : decode cX11_readText 82 = .ok (.aload_n 0, 1) := by decide +kernel
theorem dX11_readText_83 : decode cX11_readText 83 = .ok (.getfield 89, 3) := by decide +kernel
theorem dX11_readText_86 : decode cX11_readText 86 = .ok (.aload_n 0, 1) := by decide +kernel
theorem dX11_readText_87 : decode cX11_readText 87 = .ok (.getfield 81, 3) := by decide +kernel
theorem dX11_readText_90 : decode cX11_readText 90 = .ok (.if_icmp .ge 19, 3) := by decide +kernel
theorem dX11_readText_93 : decode cX11_readText 93 = .ok (.aload_n 0, 1) := by decide +kernel
theorem dX11_readText_94 : decode cX11_readText 94 = .ok (.aload_n 0, 1) := by decide +kernel
theorem dX11_readText_95 : decode cX11_readText 95 = .ok (.getfield 34, 3) := by decide +kernel
theorem dX11_readText_98 : decode cX11_readText 98 = .ok (.aload_n 0, 1) := by decide +kernel
theorem dX11_readText_99 : decode cX11_readText 99 = .ok (.getfield 89, 3) := by decide +kernel
theorem dX11_readText_102 : decode cX11_readText 102 = .ok (.iaload, 1) := by decide +kernel
theorem dX11_readText_103 : decode cX11_readText 103 = .ok (.invokevirtual 122, 3) := by decide +kernel
theorem dX11_readText_106 : decode cX11_readText 106 = .ok (.goto (-33), 3) := by decide +kernel
theorem dX11_readText_109 : decode cX11_readText 109 = .ok (.aload_n 0, 1) := by decide +kernel
theorem dX11_readText_110 : decode cX11_readText 110 = .ok (.getfield 86, 3) := by decide +kernel
theorem dX11_readText_113 : decode cX11_readText 113 = .ok (.ireturn, 1) := by decide +kernel
theorem dX11_readPart_0 : decode cX11_readPart 0 = .ok (.iload_n 1, 1) := by decide +kernel
theorem dX11_readPart_1 : decode cX11_readPart 1 = .ok (.bipush 66, 2) := by decide +kernel
theorem dX11_readPart_3 : decode cX11_readPart 3 = .ok (.if_icmp .ne 19, 3) := by decide +kernel
theorem dX11_readPart_6 : decode cX11_readPart 6 = .ok (.aload_n 0, 1) := by decide +kernel
theorem dX11_readPart_7 : decode cX11_readPart 7 = .ok (.getfield 103, 3) := by decide +kernel
theorem dX11_readPart_10 : decode cX11_readPart 10 = .ok (.bipush 8, 2) := by decide +kernel
theorem dX11_readPart_12 : decode cX11_readPart 12 = .ok (.if_icmp .ge 10, 3) := by decide +kernel
theorem dX11_readPart_15 : decode cX11_readPart 15 = .ok (.aload_n 0, 1) := by decide +kernel
theorem dX11_readPart_16 : decode cX11_readPart 16 = .ok (.invokevirtual 126, 3) := by decide +kernel
theorem dX11_readPart_19 : decode cX11_readPart 19 = .ok (.goto 320, 3) := by decide +kernel
theorem dX11_readPart_22 : decode cX11_readPart 22 = .ok (.iload_n 1, 1) := by decide +kernel
theorem dX11_readPart_23 : decode cX11_readPart 23 = .ok (.bipush 72, 2) := by decide +kernel
theorem dX11_readPart_25 : decode cX11_readPart 25 = .ok (.if_icmp .ne 121, 3) := by decide +kernel
theorem dX11_readPart_28 : decode cX11_readPart 28 = .ok (.aload_n 0, 1) := by decide +kernel
theorem dX11_readPart_29 : decode cX11_readPart 29 = .ok (.getfield 116, 3) := by decide +kernel
theorem dX11_readPart_32 : decode cX11_readPart 32 = .ok (.iconst 3, 1) := by decide +kernel
theorem dX11_readPart_33 : decode cX11_readPart 33 = .ok (.if_icmp .ge 113, 3) := by decide +kernel
theorem dX11_readPart_36 : decode cX11_readPart 36 = .ok (.aload_n 0, 1) := by decide +kernel
theorem dX11_readPart_37 : decode cX11_readPart 37 = .ok (.dup, 1) := by decide +kernel
theorem dX11_readPart_38 : decode cX11_readPart 38 = .ok (.getfield 89, 3) := by decide +kernel
theorem dX11_readPart_41 : decode cX11_readPart 41 = .ok (.iconst 1, 1) := by decide +kernel
theorem dX11_readPart_42 : decode cX11_readPart 42 = .ok (.iadd, 1) := by decide +kernel
theorem dX11_readPart_43 : decode cX11_readPart 43 = .ok (.putfield 89, 3) := by decide +kernel
theorem dX11_readPart_46 : decode cX11_readPart 46 = .ok (.iconst 4, 1) := by decide +kernel
theorem dX11_readPart_47 : decode cX11_readPart 47 = .ok (.aload_n 0, 1) := by decide +kernel
theorem dX11_readPart_48 : decode cX11_readPart 48 = .ok (.getfield 116, 3) := by decide +kernel
theorem dX11_readPart_51 : decode cX11_readPart 51 = .ok (.imul, 1) := by decide +kernel
theorem dX11_readPart_52 : decode cX11_readPart 52 = .ok (.istore_n 2, 1) := by decide +kernel
theorem dX11_readPart_53 : decode cX11_readPart 53 = .ok (.aload_n 0, 1) := by decide +kernel
theorem dX11_readPart_54 : decode cX11_readPart 54 = .ok (.getfield 13, 3) := by decide +kernel
theorem dX11_readPart_57 : decode cX11_readPart 57 = .ok (.iload_n 2, 1) := by decide +kernel
theorem dX11_readPart_58 : decode cX11_readPart 58 = .ok (.aload_n 0, 1) := by decide +kernel
theorem dX11_readPart_59 : decode cX11_readPart 59 = .ok (.iconst 0, 1) := by decide +kernel
theorem dX11_readPart_60 : decode cX11_readPart 60 = .ok (.bipush 9, 2) := by decide +kernel
theorem dX11_readPart_62 : decode cX11_readPart 62 = .ok (.invokestatic 129, 3) := by decide +kernel
theorem dX11_readPart_65 : decode cX11_readPart 65 = .ok (.invokevirtual 113, 3) := by decide +kernel
theorem dX11_readPart_68 : decode cX11_readPart 68 = .ok (.iastore, 1) := by decide +kernel
theorem dX11_readPart_69 : decode cX11_readPart 69 = .ok (.aload_n 0, 1) := by decide +kernel
theorem dX11_readPart_70 : decode cX11_readPart 70 = .ok (.getfield 13, 3) := by decide +kernel
theorem dX11_readPart_73 : decode cX11_readPart 73 = .ok (.iload_n 2, 1) := by decide +kernel
theorem dX11_readPart_74 : decode cX11_readPart 74 = .ok (.iconst 1, 1) := by decide +kernel
theorem dX11_readPart_75 : decode cX11_readPart 75 = .ok (.iadd, 1) := by decide +kernel
theorem dX11_readPart_76 : decode cX11_readPart 76 = .ok (.aload_n 0, 1) := by decide +kernel
theorem dX11_readPart_77 : decode cX11_readPart 77 = .ok (.aload_n 0, 1) := by decide +kernel
theorem dX11_readPart_78 : decode cX11_readPart 78 = .ok (.getfield 13, 3) := by decide +kernel
theorem dX11_readPart_81 : decode cX11_readPart 81 = .ok (.iload_n 2, 1) := by decide +kernel
theorem dX11_readPart_82 : decode cX11_readPart 82 = .ok (.iaload, 1) := by decide +kernel
theorem dX11_readPart_83 : decode cX11_readPart 83 = .ok (.bipush 9, 2) := by decide +kernel
theorem dX11_readPart_85 : decode cX11_readPart 85 = .ok (.invokestatic 129, 3) := by decide +kernel
theorem dX11_readPart_88 : decode cX11_readPart 88 = .ok (.invokevirtual 113, 3) := by decide +kernel
theorem dX11_readPart_91 : decode cX11_readPart 91 = .ok (.iastore, 1) := by decide +kernel
theorem dX11_readPart_92 : decode cX11_readPart 92 = .ok (.aload_n 0, 1) := by decide +kernel
theorem dX11_readPart_93 : decode cX11_readPart 93 = .ok (.getfield 13, 3) := by decide +kernel
theorem dX11_readPart_96 : decode cX11_readPart 96 = .ok (.iload_n 2, 1) := by decide +kernel
theorem dX11_readPart_97 : decode cX11_readPart 97 = .ok (.iconst 2, 1) := by decide +kernel
theorem dX11_readPart_98 : decode cX11_readPart 98 = .ok (.iadd, 1) := by decide +kernel
theorem dX11_readPart_99 : decode cX11_readPart 99 = .ok (.aload_n 0, 1) := by decide +kernel
theorem dX11_readPart_100 : decode cX11_readPart 100 = .ok (.iconst 0, 1) := by decide +kernel
theorem dX11_readPart_101 : decode cX11_readPart 101 = .ok (.iconst 5, 1) := by decide +kernel
theorem dX11_readPart_102 : decode cX11_readPart 102 = .ok (.invokestatic 129, 3) := by decide +kernel
theorem dX11_readPart_105 : decode cX11_readPart 105 = .ok (.invokevirtual 113, 3) := by decide +kernel
theorem dX11_readPart_108 : decode cX11_readPart 108 = .ok (.iastore, 1) := by decide +kernel
theorem dX11_readPart_109 : decode cX11_readPart 109 = .ok (.aload_n 0, 1) := by decide +kernel
theorem dX11_readPart_110 : decode cX11_readPart 110 = .ok (.getfield 13, 3) := by decide +kernel
theorem dX11_readPart_113 : decode cX11_readPart 113 = .ok (.iload_n 2, 1) := by decide +kernel
theorem dX11_readPart_114 : decode cX11_readPart 114 = .ok (.iconst 3, 1) := by decide +kernel
theorem dX11_readPart_115 : decode cX11_readPart 115 = .ok (.iadd, 1) := by decide +kernel
theorem dX11_readPart_116 : decode cX11_readPart 116 = .ok (.aload_n 0, 1) := by decide +kernel
theorem dX11_readPart_117 : decode cX11_readPart 117 = .ok (.aload_n 0, 1) := by decide +kernel
theorem dX11_readPart_118 : decode cX11_readPart 118 = .ok (.getfield 13, 3) := by decide +kernel
theorem dX11_readPart_121 : decode cX11_readPart 121 = .ok (.iload_n 2, 1) := by decide +kernel
theorem dX11_readPart_122 : decode cX11_readPart 122 = .ok (.iconst 2, 1) := by decide +kernel
theorem dX11_readPart_123 : decode cX11_readPart 123 = .ok (.iadd, 1) := by decide +kernel
theorem dX11_readPart_124 : decode cX11_readPart 124 = .ok (.iaload, 1) := by decide +kernel
theorem dX11_readPart_125 : decode cX11_readPart 125 = .ok (.iconst 5, 1) := by decide +kernel
theorem dX11_readPart_126 : decode cX11_readPart 126 = .ok (.invokestatic 129, 3) := by decide +kernel
theorem dX11_readPart_129 : decode cX11_readPart 129 = .ok (.invokevirtual 113, 3) := by decide +kernel
theorem dX11_readPart_132 : decode cX11_readPart 132 = .ok (.iastore, 1) := by decide +kernel
theorem dX11_readPart_133 : decode cX11_readPart 133 = .ok (.aload_n 0, 1) := by decide +kernel
theorem dX11_readPart_134 : decode cX11_readPart 134 = .ok (.dup, 1) := by decide +kernel
theorem dX11_readPart_135 : decode cX11_readPart 135 = .ok (.getfield 116, 3) := by decide +kernel
theorem dX11_readPart_138 : decode cX11_readPart 138 = .ok (.iconst 1, 1) := by decide +kernel
theorem dX11_readPart_139 : decode cX11_readPart 139 = .ok (.iadd, 1) := by decide +kernel
theorem dX11_readPart_140 : decode cX11_readPart 140 = .ok (.putfield 116, 3) := by decide +kernel
theorem dX11_readPart_143 : decode cX11_readPart 143 = .ok (.goto 196, 3) := by decide +kernel
theorem dX11_readPart_146 : decode cX11_readPart 146 = .ok (.iload_n 1, 1) := by decide +kernel
theorem dX11_readPart_147 : decode cX11_readPart 147 = .ok (.bipush 76, 2) := by decide +kernel
theorem dX11_readPart_149 : decode cX11_readPart 149 = .ok (.if_icmp .ne 64, 3) := by decide +kernel
theorem dX11_readPart_152 : decode cX11_readPart 152 = .ok (.aload_n 0, 1) := by decide +kernel
theorem dX11_readPart_153 : decode cX11_readPart 153 = .ok (.invokevirtual 133, 3) := by decide +kernel
theorem dX11_readPart_156 : decode cX11_readPart 156 = .ok (.ifCond .eq 57, 3) := by decide +kernel
theorem dX11_readPart_159 : decode cX11_readPart 159 = .ok (.aload_n 0, 1) := by decide +kernel
theorem dX11_readPart_160 : decode cX11_readPart 160 = .ok (.dup, 1) := by decide +kernel
theorem dX11_readPart_161 : decode cX11_readPart 161 = .ok (.getfield 89, 3) := by decide +kernel
theorem dX11_readPart_164 : decode cX11_readPart 164 = .ok (.iconst 1, 1) := by decide +kernel
theorem dX11_readPart_165 : decode cX11_readPart 165 = .ok (.iadd, 1) := by decide +kernel
theorem dX11_readPart_166 : decode cX11_readPart 166 = .ok (.putfield 89, 3) := by decide +kernel
theorem dX11_readPart_169 : decode cX11_readPart 169 = .ok (.aload_n 0, 1) := by decide +kernel
theorem dX11_readPart_170 : decode cX11_readPart 170 = .ok (.aload_n 0, 1) := by decide +kernel
theorem dX11_readPart_171 : decode cX11_readPart 171 = .ok (.invokevirtual 133, 3) := by decide +kernel
theorem dX11_readPart_174 : decode cX11_readPart 174 = .ok (.invokevirtual 113, 3) := by decide +kernel
theorem dX11_readPart_177 : decode cX11_readPart 177 = .ok (.istore_n 2, 1) := by decide +kernel
theorem dX11_readPart_178 : decode cX11_readPart 178 = .ok (.aload_n 0, 1) := by decide +kernel
theorem dX11_readPart_179 : decode cX11_readPart 179 = .ok (.ldc 137, 2) := by decide +kernel
theorem dX11_readPart_181 : decode cX11_readPart 181 = .ok (.invokevirtual 113, 3) := by decide +kernel
theorem dX11_readPart_184 : decode cX11_readPart 184 = .ok (.istore_n 3, 1) := by decide +kernel
theorem dX11_readPart_185 : decode cX11_readPart 185 = .ok (.aload_n 0, 1) := by decide +kernel
theorem dX11_readPart_186 : decode cX11_readPart 186 = .ok (.getfield 19, 3) := by decide +kernel
theorem dX11_readPart_189 : decode cX11_readPart 189 = .ok (.iload_n 2, 1) := by decide +kernel
theorem dX11_readPart_190 : decode cX11_readPart 190 = .ok (.aload_n 0, 1) := by decide +kernel
theorem dX11_readPart_191 : decode cX11_readPart 191 = .ok (.getfield 86, 3) := by decide +kernel
theorem dX11_readPart_194 : decode cX11_readPart 194 = .ok (.bipush (-9), 2) := by decide +kernel
theorem dX11_readPart_196 : decode cX11_readPart 196 = .ok (.if_icmp .ne 7, 3) := by decide +kernel
theorem dX11_readPart_199 : decode cX11_readPart 199 = .ok (.iload_n 3, 1) := by decide +kernel
theorem dX11_readPart_200 : decode cX11_readPart 200 = .ok (.goto 9, 3) := by decide +kernel
theorem dX11_readPart_203 : decode cX11_readPart 203 = .ok (.aload_n 0, 1) := by decide +kernel
theorem dX11_readPart_204 : decode cX11_readPart 204 = .ok (.getfield 19, 3) := by decide +kernel
theorem dX11_readPart_207 : decode cX11_readPart 207 = .ok (.iload_n 2, 1) := by decide +kernel
theorem dX11_readPart_208 : decode cX11_readPart 208 = .ok (.iaload, 1) := by decide +kernel
theorem dX11_readPart_209 : decode cX11_readPart 209 = .ok (.iastore, 1) := by decide +kernel
theorem dX11_readPart_210 : decode cX11_readPart 210 = .ok (.goto 129, 3) := by decide +kernel
theorem dX11_readPart_213 : decode cX11_readPart 213 = .ok (.iload_n 1, 1) := by decide +kernel
theorem dX11_readPart_214 : decode cX11_readPart 214 = .ok (.bipush 79, 2) := by decide +kernel
theorem dX11_readPart_216 : decode cX11_readPart 216 = .ok (.if_icmp .ne 119, 3) := by decide +kernel
theorem dX11_readPart_219 : decode cX11_readPart 219 = .ok (.aload_n 0, 1) := by decide +kernel
theorem dX11_readPart_220 : decode cX11_readPart 220 = .ok (.getfield 119, 3) := by decide +kernel
theorem dX11_readPart_223 : decode cX11_readPart 223 = .ok (.iconst 4, 1) := by decide +kernel
theorem dX11_readPart_224 : decode cX11_readPart 224 = .ok (.if_icmp .ge 111, 3) := by decide +kernel
theorem dX11_readPart_227 : decode cX11_readPart 227 = .ok (.aload_n 0, 1) := by decide +kernel
theorem dX11_readPart_228 : decode cX11_readPart 228 = .ok (.dup, 1) := by decide +kernel
theorem dX11_readPart_229 : decode cX11_readPart 229 = .ok (.getfield 89, 3) := by decide +kernel
theorem dX11_readPart_232 : decode cX11_readPart 232 = .ok (.iconst 1, 1) := by decide +kernel
theorem dX11_readPart_233 : decode cX11_readPart 233 = .ok (.iadd, 1) := by decide +kernel
theorem dX11_readPart_234 : decode cX11_readPart 234 = .ok (.putfield 89, 3) := by decide +kernel
theorem dX11_readPart_237 : decode cX11_readPart 237 = .ok (.iconst 4, 1) := by decide +kernel
theorem dX11_readPart_238 : decode cX11_readPart 238 = .ok (.aload_n 0, 1) := by decide +kernel
theorem dX11_readPart_239 : decode cX11_readPart 239 = .ok (.getfield 119, 3) := by decide +kernel
theorem dX11_readPart_242 : decode cX11_readPart 242 = .ok (.imul, 1) := by decide +kernel
theorem dX11_readPart_243 : decode cX11_readPart 243 = .ok (.istore_n 2, 1) := by decide +kernel
theorem dX11_readPart_244 : decode cX11_readPart 244 = .ok (.aload_n 0, 1) := by decide +kernel
theorem dX11_readPart_245 : decode cX11_readPart 245 = .ok (.getfield 16, 3) := by decide +kernel
theorem dX11_readPart_248 : decode cX11_readPart 248 = .ok (.iload_n 2, 1) := by decide +kernel
theorem dX11_readPart_249 : decode cX11_readPart 249 = .ok (.aload_n 0, 1) := by decide +kernel
theorem dX11_readPart_250 : decode cX11_readPart 250 = .ok (.iconst 0, 1) := by decide +kernel
theorem dX11_readPart_251 : decode cX11_readPart 251 = .ok (.bipush 9, 2) := by decide +kernel
theorem dX11_readPart_253 : decode cX11_readPart 253 = .ok (.invokestatic 129, 3) := by decide +kernel
theorem dX11_readPart_256 : decode cX11_readPart 256 = .ok (.invokevirtual 113, 3) := by decide +kernel
theorem dX11_readPart_259 : decode cX11_readPart 259 = .ok (.iastore, 1) := by decide +kernel
theorem dX11_readPart_260 : decode cX11_readPart 260 = .ok (.aload_n 0, 1) := by decide +kernel
theorem dX11_readPart_261 : decode cX11_readPart 261 = .ok (.getfield 16, 3) := by decide +kernel
theorem dX11_readPart_264 : decode cX11_readPart 264 = .ok (.iload_n 2, 1) := by decide +kernel
theorem dX11_readPart_265 : decode cX11_readPart 265 = .ok (.iconst 1, 1) := by decide +kernel
theorem dX11_readPart_266 : decode cX11_readPart 266 = .ok (.iadd, 1) := by decide +kernel
theorem dX11_readPart_267 : decode cX11_readPart 267 = .ok (.aload_n 0, 1) := by decide +kernel
theorem dX11_readPart_268 : decode cX11_readPart 268 = .ok (.aload_n 0, 1) := by decide +kernel
theorem dX11_readPart_269 : decode cX11_readPart 269 = .ok (.getfield 16, 3) := by decide +kernel
theorem dX11_readPart_272 : decode cX11_readPart 272 = .ok (.iload_n 2, 1) := by decide +kernel
theorem dX11_readPart_273 : decode cX11_readPart 273 = .ok (.iaload, 1) := by decide +kernel
theorem dX11_readPart_274 : decode cX11_readPart 274 = .ok (.bipush 9, 2) := by decide +kernel
theorem dX11_readPart_276 : decode cX11_readPart 276 = .ok (.invokestatic 129, 3) := by decide +kernel
theorem dX11_readPart_279 : decode cX11_readPart 279 = .ok (.invokevirtual 113, 3) := by decide +kernel
theorem dX11_readPart_282 : decode cX11_readPart 282 = .ok (.iastore, 1) := by decide +kernel
theorem dX11_readPart_283 : decode cX11_readPart 283 = .ok (.aload_n 0, 1) := by decide +kernel
theorem dX11_readPart_284 : decode cX11_readPart 284 = .ok (.getfield 16, 3) := by decide +kernel
theorem dX11_readPart_287 : decode cX11_readPart 287 = .ok (.iload_n 2, 1) := by decide +kernel
theorem dX11_readPart_288 : decode cX11_readPart 288 = .ok (.iconst 2, 1) := by decide +kernel
theorem dX11_readPart_289 : decode cX11_readPart 289 = .ok (.iadd, 1) := by decide +kernel
theorem dX11_readPart_290 : decode cX11_readPart 290 = .ok (.aload_n 0, 1) := by decide +kernel
theorem dX11_readPart_291 : decode cX11_readPart 291 = .ok (.ldc 137, 2) := by decide +kernel
theorem dX11_readPart_293 : decode cX11_readPart 293 = .ok (.invokevirtual 113, 3) := by decide +kernel
theorem dX11_readPart_296 : decode cX11_readPart 296 = .ok (.iastore, 1) := by decide +kernel
theorem dX11_readPart_297 : decode cX11_readPart 297 = .ok (.aload_n 0, 1) := by decide +kernel
theorem dX11_readPart_298 : decode cX11_readPart 298 = .ok (.getfield 16, 3) := by decide +kernel
theorem dX11_readPart_301 : decode cX11_readPart 301 = .ok (.iload_n 2, 1) := by decide +kernel
theorem dX11_readPart_302 : decode cX11_readPart 302 = .ok (.iconst 3, 1) := by decide +kernel
theorem dX11_readPart_303 : decode cX11_readPart 303 = .ok (.iadd, 1) := by decide +kernel
theorem dX11_readPart_304 : decode cX11_readPart 304 = .ok (.aload_n 0, 1) := by decide +kernel
theorem dX11_readPart_305 : decode cX11_readPart 305 = .ok (.aload_n 0, 1) := by decide +kernel
theorem dX11_readPart_306 : decode cX11_readPart 306 = .ok (.getfield 16, 3) := by decide +kernel
theorem dX11_readPart_309 : decode cX11_readPart 309 = .ok (.iload_n 2, 1) := by decide +kernel
theorem dX11_readPart_310 : decode cX11_readPart 310 = .ok (.iconst 2, 1) := by decide +kernel
theorem dX11_readPart_311 : decode cX11_readPart 311 = .ok (.iadd, 1) := by decide +kernel
theorem dX11_readPart_312 : decode cX11_readPart 312 = .ok (.iaload, 1) := by decide +kernel
theorem dX11_readPart_313 : decode cX11_readPart 313 = .ok (.bipush 15, 2) := by decide +kernel
theorem dX11_readPart_315 : decode cX11_readPart 315 = .ok (.invokestatic 129, 3) := by decide +kernel
theorem dX11_readPart_318 : decode cX11_readPart 318 = .ok (.invokevirtual 113, 3) := by decide +kernel
theorem dX11_readPart_321 : decode cX11_readPart 321 = .ok (.iastore, 1) := by decide +kernel
theorem dX11_readPart_322 : decode cX11_readPart 322 = .ok (.aload_n 0, 1) := by decide +kernel
theorem dX11_readPart_323 : decode cX11_readPart 323 = .ok (.dup, 1) := by decide +kernel
theorem dX11_readPart_324 : decode cX11_readPart 324 = .ok (.getfield 119, 3) := by decide +kernel
theorem dX11_readPart_327 : decode cX11_readPart 327 = .ok (.iconst 1, 1) := by decide +kernel
theorem dX11_readPart_328 : decode cX11_readPart 328 = .ok (.iadd, 1) := by decide +kernel
theorem dX11_readPart_329 : decode cX11_readPart 329 = .ok (.putfield 119, 3) := by decide +kernel
theorem dX11_readPart_332 : decode cX11_readPart 332 = .ok (.goto 7, 3) := by decide +kernel
theorem dX11_readPart_335 : decode cX11_readPart 335 = .ok (.aload_n 0, 1) := by decide +kernel
theorem dX11_readPart_336 : decode cX11_readPart 336 = .ok (.invokevirtual 100, 3) := by decide +kernel
theorem dX11_readPart_339 : decode cX11_readPart 339 = .ok (.return_, 1) := by decide +kernel
theorem dX11_fault_0 : decode cX11_fault 0 = .ok (.aload_n 0, 1) := by decide +kernel
theorem dX11_fault_1 : decode cX11_fault 1 = .ok (.invokevirtual 138, 3) := by decide +kernel
theorem dX11_fault_4 : decode cX11_fault 4 = .ok (.ireturn, 1) := by decide +kernel
theorem dX11_place_0 : decode cX11_place 0 = .ok (.aload_n 0, 1) := by decide +kernel
theorem dX11_place_1 : decode cX11_place 1 = .ok (.invokevirtual 138, 3) := by decide +kernel
theorem dX11_place_4 : decode cX11_place 4 = .ok (.bipush (-9), 2) := by decide +kernel
theorem dX11_place_6 : decode cX11_place 6 = .ok (.if_icmp .eq 6, 3) := by decide +kernel
theorem dX11_place_9 : decode cX11_place 9 = .ok (.bipush (-3), 2) := by decide +kernel
theorem dX11_place_11 : decode cX11_place 11 = .ok (.ireturn, 1) := by decide +kernel
theorem dX11_place_12 : decode cX11_place 12 = .ok (.aload_n 0, 1) := by decide +kernel
theorem dX11_place_13 : decode cX11_place 13 = .ok (.aload_n 0, 1) := by decide +kernel
theorem dX11_place_14 : decode cX11_place 14 = .ok (.getfield 103, 3) := by decide +kernel
theorem dX11_place_17 : decode cX11_place 17 = .ok (.putfield 71, 3) := by decide +kernel
theorem dX11_place_20 : decode cX11_place 20 = .ok (.aload_n 0, 1) := by decide +kernel
theorem dX11_place_21 : decode cX11_place 21 = .ok (.aload_n 0, 1) := by decide +kernel
theorem dX11_place_22 : decode cX11_place 22 = .ok (.getfield 116, 3) := by decide +kernel
theorem dX11_place_25 : decode cX11_place 25 = .ok (.putfield 141, 3) := by decide +kernel
theorem dX11_place_28 : decode cX11_place 28 = .ok (.aload_n 0, 1) := by decide +kernel
theorem dX11_place_29 : decode cX11_place 29 = .ok (.aload_n 0, 1) := by decide +kernel
theorem dX11_place_30 : decode cX11_place 30 = .ok (.getfield 119, 3) := by decide +kernel
theorem dX11_place_33 : decode cX11_place 33 = .ok (.putfield 144, 3) := by decide +kernel
theorem dX11_place_36 : decode cX11_place 36 = .ok (.iconst 0, 1) := by decide +kernel
theorem dX11_place_37 : decode cX11_place 37 = .ok (.istore_n 1, 1) := by decide +kernel
theorem dX11_place_38 : decode cX11_place 38 = .ok (.iload_n 1, 1) := by decide +kernel
theorem dX11_place_39 : decode cX11_place 39 = .ok (.bipush 24, 2) := by decide +kernel
theorem dX11_place_41 : decode cX11_place 41 = .ok (.if_icmp .ge 21, 3) := by decide +kernel
theorem dX11_place_44 : decode cX11_place 44 = .ok (.aload_n 0, 1) := by decide +kernel
theorem dX11_place_45 : decode cX11_place 45 = .ok (.getfield 22, 3) := by decide +kernel
theorem dX11_place_48 : decode cX11_place 48 = .ok (.iload_n 1, 1) := by decide +kernel
theorem dX11_place_49 : decode cX11_place 49 = .ok (.aload_n 0, 1) := by decide +kernel
theorem dX11_place_50 : decode cX11_place 50 = .ok (.getfield 7, 3) := by decide +kernel
theorem dX11_place_53 : decode cX11_place 53 = .ok (.iload_n 1, 1) := by decide +kernel
theorem dX11_place_54 : decode cX11_place 54 = .ok (.iaload, 1) := by decide +kernel
theorem dX11_place_55 : decode cX11_place 55 = .ok (.iastore, 1) := by decide +kernel
theorem dX11_place_56 : decode cX11_place 56 = .ok (.iinc 1 1, 3) := by decide +kernel
theorem dX11_place_59 : decode cX11_place 59 = .ok (.goto (-21), 3) := by decide +kernel
theorem dX11_place_62 : decode cX11_place 62 = .ok (.iconst 0, 1) := by decide +kernel
theorem dX11_place_63 : decode cX11_place 63 = .ok (.istore_n 1, 1) := by decide +kernel
theorem dX11_place_64 : decode cX11_place 64 = .ok (.iload_n 1, 1) := by decide +kernel
theorem dX11_place_65 : decode cX11_place 65 = .ok (.bipush 12, 2) := by decide +kernel
theorem dX11_place_67 : decode cX11_place 67 = .ok (.if_icmp .ge 21, 3) := by decide +kernel
theorem dX11_place_70 : decode cX11_place 70 = .ok (.aload_n 0, 1) := by decide +kernel
theorem dX11_place_71 : decode cX11_place 71 = .ok (.getfield 25, 3) := by decide +kernel
theorem dX11_place_74 : decode cX11_place 74 = .ok (.iload_n 1, 1) := by decide +kernel
theorem dX11_place_75 : decode cX11_place 75 = .ok (.aload_n 0, 1) := by decide +kernel
theorem dX11_place_76 : decode cX11_place 76 = .ok (.getfield 13, 3) := by decide +kernel
theorem dX11_place_79 : decode cX11_place 79 = .ok (.iload_n 1, 1) := by decide +kernel
theorem dX11_place_80 : decode cX11_place 80 = .ok (.iaload, 1) := by decide +kernel
theorem dX11_place_81 : decode cX11_place 81 = .ok (.iastore, 1) := by decide +kernel
theorem dX11_place_82 : decode cX11_place 82 = .ok (.iinc 1 1, 3) := by decide +kernel
theorem dX11_place_85 : decode cX11_place 85 = .ok (.goto (-21), 3) := by decide +kernel
theorem dX11_place_88 : decode cX11_place 88 = .ok (.iconst 0, 1) := by decide +kernel
theorem dX11_place_89 : decode cX11_place 89 = .ok (.istore_n 1, 1) := by decide +kernel
theorem dX11_place_90 : decode cX11_place 90 = .ok (.iload_n 1, 1) := by decide +kernel
theorem dX11_place_91 : decode cX11_place 91 = .ok (.bipush 16, 2) := by decide +kernel
theorem dX11_place_93 : decode cX11_place 93 = .ok (.if_icmp .ge 21, 3) := by decide +kernel
theorem dX11_place_96 : decode cX11_place 96 = .ok (.aload_n 0, 1) := by decide +kernel
theorem dX11_place_97 : decode cX11_place 97 = .ok (.getfield 28, 3) := by decide +kernel
theorem dX11_place_100 : decode cX11_place 100 = .ok (.iload_n 1, 1) := by decide +kernel
theorem dX11_place_101 : decode cX11_place 101 = .ok (.aload_n 0, 1) := by decide +kernel
theorem dX11_place_102 : decode cX11_place 102 = .ok (.getfield 16, 3) := by decide +kernel
theorem dX11_place_105 : decode cX11_place 105 = .ok (.iload_n 1, 1) := by decide +kernel
theorem dX11_place_106 : decode cX11_place 106 = .ok (.iaload, 1) := by decide +kernel
theorem dX11_place_107 : decode cX11_place 107 = .ok (.iastore, 1) := by decide +kernel
theorem dX11_place_108 : decode cX11_place 108 = .ok (.iinc 1 1, 3) := by decide +kernel
theorem dX11_place_111 : decode cX11_place 111 = .ok (.goto (-21), 3) := by decide +kernel
theorem dX11_place_114 : decode cX11_place 114 = .ok (.aload_n 0, 1) := by decide +kernel
theorem dX11_place_115 : decode cX11_place 115 = .ok (.iconst 0, 1) := by decide +kernel
theorem dX11_place_116 : decode cX11_place 116 = .ok (.putfield 147, 3) := by decide +kernel
theorem dX11_place_119 : decode cX11_place 119 = .ok (.iconst 0, 1) := by decide +kernel
theorem dX11_place_120 : decode cX11_place 120 = .ok (.istore_n 1, 1) := by decide +kernel
theorem dX11_place_121 : decode cX11_place 121 = .ok (.iload_n 1, 1) := by decide +kernel
theorem dX11_place_122 : decode cX11_place 122 = .ok (.bipush 6, 2) := by decide +kernel
theorem dX11_place_124 : decode cX11_place 124 = .ok (.if_icmp .ge 63, 3) := by decide +kernel
theorem dX11_place_127 : decode cX11_place 127 = .ok (.aload_n 0, 1) := by decide +kernel
theorem dX11_place_128 : decode cX11_place 128 = .ok (.dup, 1) := by decide +kernel
theorem dX11_place_129 : decode cX11_place 129 = .ok (.getfield 147, 3) := by decide +kernel
theorem dX11_place_132 : decode cX11_place 132 = .ok (.aload_n 0, 1) := by decide +kernel
theorem dX11_place_133 : decode cX11_place 133 = .ok (.getfield 19, 3) := by decide +kernel
theorem dX11_place_136 : decode cX11_place 136 = .ok (.iload_n 1, 1) := by decide +kernel
theorem dX11_place_137 : decode cX11_place 137 = .ok (.iaload, 1) := by decide +kernel
theorem dX11_place_138 : decode cX11_place 138 = .ok (.bipush (-9), 2) := by decide +kernel
theorem dX11_place_140 : decode cX11_place 140 = .ok (.if_icmp .ne 7, 3) := by decide +kernel
theorem dX11_place_143 : decode cX11_place 143 = .ok (.iconst 0, 1) := by decide +kernel
theorem dX11_place_144 : decode cX11_place 144 = .ok (.goto 6, 3) := by decide +kernel
theorem dX11_place_147 : decode cX11_place 147 = .ok (.iconst 1, 1) := by decide +kernel
theorem dX11_place_148 : decode cX11_place 148 = .ok (.iload_n 1, 1) := by decide +kernel
theorem dX11_place_149 : decode cX11_place 149 = .ok (.ishl, 1) := by decide +kernel
theorem dX11_place_150 : decode cX11_place 150 = .ok (.ior, 1) := by decide +kernel
theorem dX11_place_151 : decode cX11_place 151 = .ok (.putfield 147, 3) := by decide +kernel
theorem dX11_place_154 : decode cX11_place 154 = .ok (.aload_n 0, 1) := by decide +kernel
theorem dX11_place_155 : decode cX11_place 155 = .ok (.getfield 31, 3) := by decide +kernel
theorem dX11_place_158 : decode cX11_place 158 = .ok (.iload_n 1, 1) := by decide +kernel
theorem dX11_place_159 : decode cX11_place 159 = .ok (.aload_n 0, 1) := by decide +kernel
theorem dX11_place_160 : decode cX11_place 160 = .ok (.getfield 19, 3) := by decide +kernel
theorem dX11_place_163 : decode cX11_place 163 = .ok (.iload_n 1, 1) := by decide +kernel
theorem dX11_place_164 : decode cX11_place 164 = .ok (.iaload, 1) := by decide +kernel
theorem dX11_place_165 : decode cX11_place 165 = .ok (.bipush (-9), 2) := by decide +kernel
theorem dX11_place_167 : decode cX11_place 167 = .ok (.if_icmp .ne 7, 3) := by decide +kernel
theorem dX11_place_170 : decode cX11_place 170 = .ok (.iconst 0, 1) := by decide +kernel
theorem dX11_place_171 : decode cX11_place 171 = .ok (.goto 9, 3) := by decide +kernel
theorem dX11_place_174 : decode cX11_place 174 = .ok (.aload_n 0, 1) := by decide +kernel
theorem dX11_place_175 : decode cX11_place 175 = .ok (.getfield 19, 3) := by decide +kernel
theorem dX11_place_178 : decode cX11_place 178 = .ok (.iload_n 1, 1) := by decide +kernel
theorem dX11_place_179 : decode cX11_place 179 = .ok (.iaload, 1) := by decide +kernel
theorem dX11_place_180 : decode cX11_place 180 = .ok (.iastore, 1) := by decide +kernel
theorem dX11_place_181 : decode cX11_place 181 = .ok (.iinc 1 1, 3) := by decide +kernel
theorem dX11_place_184 : decode cX11_place 184 = .ok (.goto (-63), 3) := by decide +kernel
theorem dX11_place_187 : decode cX11_place 187 = .ok (.aload_n 0, 1) := by decide +kernel
theorem dX11_place_188 : decode cX11_place 188 = .ok (.iconst 0, 1) := by decide +kernel
theorem dX11_place_189 : decode cX11_place 189 = .ok (.putfield 150, 3) := by decide +kernel
theorem dX11_place_192 : decode cX11_place 192 = .ok (.aload_n 0, 1) := by decide +kernel
theorem dX11_place_193 : decode cX11_place 193 = .ok (.getfield 56, 3) := by decide +kernel
theorem dX11_place_196 : decode cX11_place 196 = .ok (.iconst 0, 1) := by decide +kernel
theorem dX11_place_197 : decode cX11_place 197 = .ok (.iconst 0, 1) := by decide +kernel
theorem dX11_place_198 : decode cX11_place 198 = .ok (.bastore, 1) := by decide +kernel
theorem dX11_place_199 : decode cX11_place 199 = .ok (.aload_n 0, 1) := by decide +kernel
theorem dX11_place_200 : decode cX11_place 200 = .ok (.getfield 56, 3) := by decide +kernel
theorem dX11_place_203 : decode cX11_place 203 = .ok (.iconst 1, 1) := by decide +kernel
theorem dX11_place_204 : decode cX11_place 204 = .ok (.iconst 0, 1) := by decide +kernel
theorem dX11_place_205 : decode cX11_place 205 = .ok (.bastore, 1) := by decide +kernel
theorem dX11_place_206 : decode cX11_place 206 = .ok (.aload_n 0, 1) := by decide +kernel
theorem dX11_place_207 : decode cX11_place 207 = .ok (.getfield 71, 3) := by decide +kernel
theorem dX11_place_210 : decode cX11_place 210 = .ok (.ireturn, 1) := by decide +kernel
theorem dX11_isBody_0 : decode cX11_isBody 0 = .ok (.iload_n 1, 1) := by decide +kernel
theorem dX11_isBody_1 : decode cX11_isBody 1 = .ok (.i2l, 1) := by decide +kernel
theorem dX11_isBody_2 : decode cX11_isBody 2 = .ok (.lconst 0, 1) := by decide +kernel
theorem dX11_isBody_3 : decode cX11_isBody 3 = .ok (.aload_n 0, 1) := by decide +kernel
theorem dX11_isBody_4 : decode cX11_isBody 4 = .ok (.getfield 71, 3) := by decide +kernel
theorem dX11_isBody_7 : decode cX11_isBody 7 = .ok (.iconst 1, 1) := by decide +kernel
theorem dX11_isBody_8 : decode cX11_isBody 8 = .ok (.isub, 1) := by decide +kernel
theorem dX11_isBody_9 : decode cX11_isBody 9 = .ok (.i2l, 1) := by decide +kernel
theorem dX11_isBody_10 : decode cX11_isBody 10 = .ok (.invokestatic 77, 3) := by decide +kernel
theorem dX11_isBody_13 : decode cX11_isBody 13 = .ok (.ireturn, 1) := by decide +kernel
theorem dX11_isHill_0 : decode cX11_isHill 0 = .ok (.iload_n 1, 1) := by decide +kernel
theorem dX11_isHill_1 : decode cX11_isHill 1 = .ok (.i2l, 1) := by decide +kernel
theorem dX11_isHill_2 : decode cX11_isHill 2 = .ok (.lconst 0, 1) := by decide +kernel
theorem dX11_isHill_3 : decode cX11_isHill 3 = .ok (.aload_n 0, 1) := by decide +kernel
theorem dX11_isHill_4 : decode cX11_isHill 4 = .ok (.getfield 141, 3) := by decide +kernel
theorem dX11_isHill_7 : decode cX11_isHill 7 = .ok (.iconst 1, 1) := by decide +kernel
theorem dX11_isHill_8 : decode cX11_isHill 8 = .ok (.isub, 1) := by decide +kernel
theorem dX11_isHill_9 : decode cX11_isHill 9 = .ok (.i2l, 1) := by decide +kernel
theorem dX11_isHill_10 : decode cX11_isHill 10 = .ok (.invokestatic 77, 3) := by decide +kernel
theorem dX11_isHill_13 : decode cX11_isHill 13 = .ok (.ireturn, 1) := by decide +kernel
theorem dX11_highOf_0 : decode cX11_highOf 0 = .ok (.iload_n 0, 1) := by decide +kernel
theorem dX11_highOf_1 : decode cX11_highOf 1 = .ok (.iconst 1, 1) := by decide +kernel
theorem dX11_highOf_2 : decode cX11_highOf 2 = .ok (.if_icmp .eq 8, 3) := by decide +kernel
theorem dX11_highOf_5 : decode cX11_highOf 5 = .ok (.iload_n 0, 1) := by decide +kernel
theorem dX11_highOf_6 : decode cX11_highOf 6 = .ok (.iconst 2, 1) := by decide +kernel
theorem dX11_highOf_7 : decode cX11_highOf 7 = .ok (.if_icmp .ne 7, 3) := by decide +kernel
theorem dX11_highOf_10 : decode cX11_highOf 10 = .ok (.iconst 3, 1) := by decide +kernel
theorem dX11_highOf_11 : decode cX11_highOf 11 = .ok (.goto 14, 3) := by decide +kernel
theorem dX11_highOf_14 : decode cX11_highOf 14 = .ok (.iload_n 0, 1) := by decide +kernel
theorem dX11_highOf_15 : decode cX11_highOf 15 = .ok (.iconst 4, 1) := by decide +kernel
theorem dX11_highOf_16 : decode cX11_highOf 16 = .ok (.if_icmp .ne 7, 3) := by decide +kernel
theorem dX11_highOf_19 : decode cX11_highOf 19 = .ok (.iconst 4, 1) := by decide +kernel
theorem dX11_highOf_20 : decode cX11_highOf 20 = .ok (.goto 5, 3) := by decide +kernel
theorem dX11_highOf_23 : decode cX11_highOf 23 = .ok (.bipush 6, 2) := by decide +kernel
theorem dX11_highOf_25 : decode cX11_highOf 25 = .ok (.ireturn, 1) := by decide +kernel
theorem dX11_manyOf_0 : decode cX11_manyOf 0 = .ok (.iload_n 0, 1) := by decide +kernel
theorem dX11_manyOf_1 : decode cX11_manyOf 1 = .ok (.iconst 3, 1) := by decide +kernel
theorem dX11_manyOf_2 : decode cX11_manyOf 2 = .ok (.if_icmp .ne 7, 3) := by decide +kernel
theorem dX11_manyOf_5 : decode cX11_manyOf 5 = .ok (.iconst 0, 1) := by decide +kernel
theorem dX11_manyOf_6 : decode cX11_manyOf 6 = .ok (.goto 13, 3) := by decide +kernel
theorem dX11_manyOf_9 : decode cX11_manyOf 9 = .ok (.iload_n 0, 1) := by decide +kernel
theorem dX11_manyOf_10 : decode cX11_manyOf 10 = .ok (.iconst 3, 1) := by decide +kernel
theorem dX11_manyOf_11 : decode cX11_manyOf 11 = .ok (.if_icmp .le 7, 3) := by decide +kernel
theorem dX11_manyOf_14 : decode cX11_manyOf 14 = .ok (.iconst 2, 1) := by decide +kernel
theorem dX11_manyOf_15 : decode cX11_manyOf 15 = .ok (.goto 4, 3) := by decide +kernel
theorem dX11_manyOf_18 : decode cX11_manyOf 18 = .ok (.iconst 1, 1) := by decide +kernel
theorem dX11_manyOf_19 : decode cX11_manyOf 19 = .ok (.ireturn, 1) := by decide +kernel
theorem dX11_body_0 : decode cX11_body 0 = .ok (.aload_n 0, 1) := by decide +kernel
theorem dX11_body_1 : decode cX11_body 1 = .ok (.iload_n 1, 1) := by decide +kernel
theorem dX11_body_2 : decode cX11_body 2 = .ok (.invokevirtual 153, 3) := by decide +kernel
theorem dX11_body_5 : decode cX11_body 5 = .ok (.ifCond .ne 5, 3) := by decide +kernel
theorem dX11_body_8 : decode cX11_body 8 = .ok (.iconst (-1), 1) := by decide +kernel
theorem dX11_body_9 : decode cX11_body 9 = .ok (.ireturn, 1) := by decide +kernel
theorem dX11_body_10 : decode cX11_body 10 = .ok (.iload_n 2, 1) := by decide +kernel
theorem dX11_body_11 : decode cX11_body 11 = .ok (.tableswitch 68 0 4 #[33, 33, 33, 44, 56], 33) := by decide +kernel
theorem dX11_body_44 : decode cX11_body 44 = .ok (.aload_n 0, 1) := by decide +kernel
theorem dX11_body_45 : decode cX11_body 45 = .ok (.getfield 22, 3) := by decide +kernel
theorem dX11_body_48 : decode cX11_body 48 = .ok (.iconst 3, 1) := by decide +kernel
theorem dX11_body_49 : decode cX11_body 49 = .ok (.iload_n 1, 1) := by decide +kernel
theorem dX11_body_50 : decode cX11_body 50 = .ok (.imul, 1) := by decide +kernel
theorem dX11_body_51 : decode cX11_body 51 = .ok (.iload_n 2, 1) := by decide +kernel
theorem dX11_body_52 : decode cX11_body 52 = .ok (.iadd, 1) := by decide +kernel
theorem dX11_body_53 : decode cX11_body 53 = .ok (.iaload, 1) := by decide +kernel
theorem dX11_body_54 : decode cX11_body 54 = .ok (.ireturn, 1) := by decide +kernel
theorem dX11_body_55 : decode cX11_body 55 = .ok (.aload_n 0, 1) := by decide +kernel
theorem dX11_body_56 : decode cX11_body 56 = .ok (.getfield 22, 3) := by decide +kernel
theorem dX11_body_59 : decode cX11_body 59 = .ok (.iconst 3, 1) := by decide +kernel
theorem dX11_body_60 : decode cX11_body 60 = .ok (.iload_n 1, 1) := by decide +kernel
theorem dX11_body_61 : decode cX11_body 61 = .ok (.imul, 1) := by decide +kernel
theorem dX11_body_62 : decode cX11_body 62 = .ok (.iaload, 1) := by decide +kernel
theorem dX11_body_63 : decode cX11_body 63 = .ok (.invokestatic 157, 3) := by decide +kernel
theorem dX11_body_66 : decode cX11_body 66 = .ok (.ireturn, 1) := by decide +kernel
theorem dX11_body_67 : decode cX11_body 67 = .ok (.aload_n 0, 1) := by decide +kernel
theorem dX11_body_68 : decode cX11_body 68 = .ok (.getfield 22, 3) := by decide +kernel
theorem dX11_body_71 : decode cX11_body 71 = .ok (.iconst 3, 1) := by decide +kernel
theorem dX11_body_72 : decode cX11_body 72 = .ok (.iload_n 1, 1) := by decide +kernel
theorem dX11_body_73 : decode cX11_body 73 = .ok (.imul, 1) := by decide +kernel
theorem dX11_body_74 : decode cX11_body 74 = .ok (.iaload, 1) := by decide +kernel
theorem dX11_body_75 : decode cX11_body 75 = .ok (.invokestatic 160, 3) := by decide +kernel
theorem dX11_body_78 : decode cX11_body 78 = .ok (.ireturn, 1) := by decide +kernel
theorem dX11_body_79 : decode cX11_body 79 = .ok (.bipush (-2), 2) := by decide +kernel
theorem dX11_body_81 : decode cX11_body 81 = .ok (.ireturn, 1) := by decide +kernel
theorem dX11_hill_0 : decode cX11_hill 0 = .ok (.aload_n 0, 1) := by decide +kernel
theorem dX11_hill_1 : decode cX11_hill 1 = .ok (.iload_n 1, 1) := by decide +kernel
theorem dX11_hill_2 : decode cX11_hill 2 = .ok (.invokevirtual 163, 3) := by decide +kernel
theorem dX11_hill_5 : decode cX11_hill 5 = .ok (.ifCond .ne 5, 3) := by decide +kernel
theorem dX11_hill_8 : decode cX11_hill 8 = .ok (.iconst (-1), 1) := by decide +kernel
theorem dX11_hill_9 : decode cX11_hill 9 = .ok (.ireturn, 1) := by decide +kernel
theorem dX11_hill_10 : decode cX11_hill 10 = .ok (.iload_n 2, 1) := by decide +kernel
theorem dX11_hill_11 : decode cX11_hill 11 = .ok (.i2l, 1) := by decide +kernel
theorem dX11_hill_12 : decode cX11_hill 12 = .ok (.lconst 0, 1) := by decide +kernel
theorem dX11_hill_13 : decode cX11_hill 13 = .ok (.ldc2_w 166, 3) := by decide +kernel
theorem dX11_hill_16 : decode cX11_hill 16 = .ok (.invokestatic 77, 3) := by decide +kernel
theorem dX11_hill_19 : decode cX11_hill 19 = .ok (.ifCond .eq 16, 3) := by decide +kernel
theorem dX11_hill_22 : decode cX11_hill 22 = .ok (.aload_n 0, 1) := by decide +kernel
theorem dX11_hill_23 : decode cX11_hill 23 = .ok (.getfield 25, 3) := by decide +kernel
theorem dX11_hill_26 : decode cX11_hill 26 = .ok (.iconst 4, 1) := by decide +kernel
theorem dX11_hill_27 : decode cX11_hill 27 = .ok (.iload_n 1, 1) := by decide +kernel
theorem dX11_hill_28 : decode cX11_hill 28 = .ok (.imul, 1) := by decide +kernel
theorem dX11_hill_29 : decode cX11_hill 29 = .ok (.iload_n 2, 1) := by decide +kernel
theorem dX11_hill_30 : decode cX11_hill 30 = .ok (.iadd, 1) := by decide +kernel
theorem dX11_hill_31 : decode cX11_hill 31 = .ok (.iaload, 1) := by decide +kernel
theorem dX11_hill_32 : decode cX11_hill 32 = .ok (.goto 5, 3) := by decide +kernel
theorem dX11_hill_35 : decode cX11_hill 35 = .ok (.bipush (-2), 2) := by decide +kernel
theorem dX11_hill_37 : decode cX11_hill 37 = .ok (.ireturn, 1) := by decide +kernel
theorem dX11_keepAct_0 : decode cX11_keepAct 0 = .ok (.iconst 0, 1) := by decide +kernel
theorem dX11_keepAct_1 : decode cX11_keepAct 1 = .ok (.istore_n 1, 1) := by decide +kernel
theorem dX11_keepAct_2 : decode cX11_keepAct 2 = .ok (.iload_n 1, 1) := by decide +kernel
theorem dX11_keepAct_3 : decode cX11_keepAct 3 = .ok (.bipush 24, 2) := by decide +kernel
theorem dX11_keepAct_5 : decode cX11_keepAct 5 = .ok (.if_icmp .ge 29, 3) := by decide +kernel
theorem dX11_keepAct_8 : decode cX11_keepAct 8 = .ok (.aload_n 0, 1) := by decide +kernel
theorem dX11_keepAct_9 : decode cX11_keepAct 9 = .ok (.getfield 37, 3) := by decide +kernel
theorem dX11_keepAct_12 : decode cX11_keepAct 12 = .ok (.bipush 25, 2) := by decide +kernel
theorem dX11_keepAct_14 : decode cX11_keepAct 14 = .ok (.aload_n 0, 1) := by decide +kernel
theorem dX11_keepAct_15 : decode cX11_keepAct 15 = .ok (.getfield 168, 3) := by decide +kernel
theorem dX11_keepAct_18 : decode cX11_keepAct 18 = .ok (.imul, 1) := by decide +kernel
theorem dX11_keepAct_19 : decode cX11_keepAct 19 = .ok (.iload_n 1, 1) := by decide +kernel
theorem dX11_keepAct_20 : decode cX11_keepAct 20 = .ok (.iadd, 1) := by decide +kernel
theorem dX11_keepAct_21 : decode cX11_keepAct 21 = .ok (.aload_n 0, 1) := by decide +kernel
theorem dX11_keepAct_22 : decode cX11_keepAct 22 = .ok (.getfield 22, 3) := by decide +kernel
theorem dX11_keepAct_25 : decode cX11_keepAct 25 = .ok (.iload_n 1, 1) := by decide +kernel
theorem dX11_keepAct_26 : decode cX11_keepAct 26 = .ok (.iaload, 1) := by decide +kernel
theorem dX11_keepAct_27 : decode cX11_keepAct 27 = .ok (.iastore, 1) := by decide +kernel
theorem dX11_keepAct_28 : decode cX11_keepAct 28 = .ok (.iinc 1 1, 3) := by decide +kernel
theorem dX11_keepAct_31 : decode cX11_keepAct 31 = .ok (.goto (-29), 3) := by decide +kernel
theorem dX11_keepAct_34 : decode cX11_keepAct 34 = .ok (.aload_n 0, 1) := by decide +kernel
theorem dX11_keepAct_35 : decode cX11_keepAct 35 = .ok (.getfield 37, 3) := by decide +kernel
theorem dX11_keepAct_38 : decode cX11_keepAct 38 = .ok (.bipush 25, 2) := by decide +kernel
theorem dX11_keepAct_40 : decode cX11_keepAct 40 = .ok (.aload_n 0, 1) := by decide +kernel
theorem dX11_keepAct_41 : decode cX11_keepAct 41 = .ok (.getfield 168, 3) := by decide +kernel
theorem dX11_keepAct_44 : decode cX11_keepAct 44 = .ok (.imul, 1) := by decide +kernel
theorem dX11_keepAct_45 : decode cX11_keepAct 45 = .ok (.bipush 24, 2) := by decide +kernel
theorem dX11_keepAct_47 : decode cX11_keepAct 47 = .ok (.iadd, 1) := by decide +kernel
theorem dX11_keepAct_48 : decode cX11_keepAct 48 = .ok (.aload_n 0, 1) := by decide +kernel
theorem dX11_keepAct_49 : decode cX11_keepAct 49 = .ok (.getfield 71, 3) := by decide +kernel
theorem dX11_keepAct_52 : decode cX11_keepAct 52 = .ok (.iastore, 1) := by decide +kernel
theorem dX11_keepAct_53 : decode cX11_keepAct 53 = .ok (.aload_n 0, 1) := by decide +kernel
theorem dX11_keepAct_54 : decode cX11_keepAct 54 = .ok (.aload_n 0, 1) := by decide +kernel
theorem dX11_keepAct_55 : decode cX11_keepAct 55 = .ok (.getfield 168, 3) := by decide +kernel
theorem dX11_keepAct_58 : decode cX11_keepAct 58 = .ok (.iconst 1, 1) := by decide +kernel
theorem dX11_keepAct_59 : decode cX11_keepAct 59 = .ok (.iadd, 1) := by decide +kernel
theorem dX11_keepAct_60 : decode cX11_keepAct 60 = .ok (.bipush 16, 2) := by decide +kernel
theorem dX11_keepAct_62 : decode cX11_keepAct 62 = .ok (.irem, 1) := by decide +kernel
theorem dX11_keepAct_63 : decode cX11_keepAct 63 = .ok (.putfield 168, 3) := by decide +kernel
theorem dX11_keepAct_66 : decode cX11_keepAct 66 = .ok (.aload_n 0, 1) := by decide +kernel
theorem dX11_keepAct_67 : decode cX11_keepAct 67 = .ok (.aload_n 0, 1) := by decide +kernel
theorem dX11_keepAct_68 : decode cX11_keepAct 68 = .ok (.getfield 150, 3) := by decide +kernel
theorem dX11_keepAct_71 : decode cX11_keepAct 71 = .ok (.bipush 16, 2) := by decide +kernel
theorem dX11_keepAct_73 : decode cX11_keepAct 73 = .ok (.if_icmp .ge 12, 3) := by decide +kernel
theorem dX11_keepAct_76 : decode cX11_keepAct 76 = .ok (.aload_n 0, 1) := by decide +kernel
theorem dX11_keepAct_77 : decode cX11_keepAct 77 = .ok (.getfield 150, 3) := by decide +kernel
theorem dX11_keepAct_80 : decode cX11_keepAct 80 = .ok (.iconst 1, 1) := by decide +kernel
theorem dX11_keepAct_81 : decode cX11_keepAct 81 = .ok (.iadd, 1) := by decide +kernel
theorem dX11_keepAct_82 : decode cX11_keepAct 82 = .ok (.goto 5, 3) := by decide +kernel
theorem dX11_keepAct_85 : decode cX11_keepAct 85 = .ok (.bipush 16, 2) := by decide +kernel
theorem dX11_keepAct_87 : decode cX11_keepAct 87 = .ok (.putfield 150, 3) := by decide +kernel
theorem dX11_keepAct_90 : decode cX11_keepAct 90 = .ok (.return_, 1) := by decide +kernel
theorem dX11_isCell_0 : decode cX11_isCell 0 = .ok (.iload_n 0, 1) := by decide +kernel
theorem dX11_isCell_1 : decode cX11_isCell 1 = .ok (.i2l, 1) := by decide +kernel
theorem dX11_isCell_2 : decode cX11_isCell 2 = .ok (.lconst 0, 1) := by decide +kernel
theorem dX11_isCell_3 : decode cX11_isCell 3 = .ok (.ldc2_w 171, 3) := by decide +kernel
theorem dX11_isCell_6 : decode cX11_isCell 6 = .ok (.invokestatic 77, 3) := by decide +kernel
theorem dX11_isCell_9 : decode cX11_isCell 9 = .ok (.ifCond .eq 19, 3) := by decide +kernel
theorem dX11_isCell_12 : decode cX11_isCell 12 = .ok (.iload_n 1, 1) := by decide +kernel
theorem dX11_isCell_13 : decode cX11_isCell 13 = .ok (.i2l, 1) := by decide +kernel
theorem dX11_isCell_14 : decode cX11_isCell 14 = .ok (.lconst 0, 1) := by decide +kernel
theorem dX11_isCell_15 : decode cX11_isCell 15 = .ok (.ldc2_w 173, 3) := by decide +kernel
theorem dX11_isCell_18 : decode cX11_isCell 18 = .ok (.invokestatic 77, 3) := by decide +kernel
theorem dX11_isCell_21 : decode cX11_isCell 21 = .ok (.ifCond .eq 7, 3) := by decide +kernel
theorem dX11_isCell_24 : decode cX11_isCell 24 = .ok (.iconst 1, 1) := by decide +kernel
theorem dX11_isCell_25 : decode cX11_isCell 25 = .ok (.goto 4, 3) := by decide +kernel
theorem dX11_isCell_28 : decode cX11_isCell 28 = .ok (.iconst 0, 1) := by decide +kernel
theorem dX11_isCell_29 : decode cX11_isCell 29 = .ok (.ireturn, 1) := by decide +kernel
theorem dX11_isTaken_0 : decode cX11_isTaken 0 = .ok (.iconst 0, 1) := by decide +kernel
theorem dX11_isTaken_1 : decode cX11_isTaken 1 = .ok (.istore_n 3, 1) := by decide +kernel
theorem dX11_isTaken_2 : decode cX11_isTaken 2 = .ok (.iconst 0, 1) := by decide +kernel
theorem dX11_isTaken_3 : decode cX11_isTaken 3 = .ok (.istore 4, 2) := by decide +kernel
theorem dX11_isTaken_5 : decode cX11_isTaken 5 = .ok (.iload 4, 2) := by decide +kernel
theorem dX11_isTaken_7 : decode cX11_isTaken 7 = .ok (.aload_n 0, 1) := by decide +kernel
theorem dX11_isTaken_8 : decode cX11_isTaken 8 = .ok (.getfield 71, 3) := by decide +kernel
theorem dX11_isTaken_11 : decode cX11_isTaken 11 = .ok (.if_icmp .ge 49, 3) := by decide +kernel
theorem dX11_isTaken_14 : decode cX11_isTaken 14 = .ok (.iload_n 3, 1) := by decide +kernel
theorem dX11_isTaken_15 : decode cX11_isTaken 15 = .ok (.ifCond .ne 33, 3) := by decide +kernel
theorem dX11_isTaken_18 : decode cX11_isTaken 18 = .ok (.aload_n 0, 1) := by decide +kernel
theorem dX11_isTaken_19 : decode cX11_isTaken 19 = .ok (.getfield 22, 3) := by decide +kernel
theorem dX11_isTaken_22 : decode cX11_isTaken 22 = .ok (.iconst 3, 1) := by decide +kernel
theorem dX11_isTaken_23 : decode cX11_isTaken 23 = .ok (.iload 4, 2) := by decide +kernel
theorem dX11_isTaken_25 : decode cX11_isTaken 25 = .ok (.imul, 1) := by decide +kernel
theorem dX11_isTaken_26 : decode cX11_isTaken 26 = .ok (.iconst 1, 1) := by decide +kernel
theorem dX11_isTaken_27 : decode cX11_isTaken 27 = .ok (.iadd, 1) := by decide +kernel
theorem dX11_isTaken_28 : decode cX11_isTaken 28 = .ok (.iaload, 1) := by decide +kernel
theorem dX11_isTaken_29 : decode cX11_isTaken 29 = .ok (.iload_n 1, 1) := by decide +kernel
theorem dX11_isTaken_30 : decode cX11_isTaken 30 = .ok (.if_icmp .ne 22, 3) := by decide +kernel
theorem dX11_isTaken_33 : decode cX11_isTaken 33 = .ok (.aload_n 0, 1) := by decide +kernel
theorem dX11_isTaken_34 : decode cX11_isTaken 34 = .ok (.getfield 22, 3) := by decide +kernel
theorem dX11_isTaken_37 : decode cX11_isTaken 37 = .ok (.iconst 3, 1) := by decide +kernel
theorem dX11_isTaken_38 : decode cX11_isTaken 38 = .ok (.iload 4, 2) := by decide +kernel
theorem dX11_isTaken_40 : decode cX11_isTaken 40 = .ok (.imul, 1) := by decide +kernel
theorem dX11_isTaken_41 : decode cX11_isTaken 41 = .ok (.iconst 2, 1) := by decide +kernel
theorem dX11_isTaken_42 : decode cX11_isTaken 42 = .ok (.iadd, 1) := by decide +kernel
theorem dX11_isTaken_43 : decode cX11_isTaken 43 = .ok (.iaload, 1) := by decide +kernel
theorem dX11_isTaken_44 : decode cX11_isTaken 44 = .ok (.iload_n 2, 1) := by decide +kernel
theorem dX11_isTaken_45 : decode cX11_isTaken 45 = .ok (.if_icmp .ne 7, 3) := by decide +kernel
theorem dX11_isTaken_48 : decode cX11_isTaken 48 = .ok (.iconst 1, 1) := by decide +kernel
theorem dX11_isTaken_49 : decode cX11_isTaken 49 = .ok (.goto 4, 3) := by decide +kernel
theorem dX11_isTaken_52 : decode cX11_isTaken 52 = .ok (.iconst 0, 1) := by decide +kernel
theorem dX11_isTaken_53 : decode cX11_isTaken 53 = .ok (.istore_n 3, 1) := by decide +kernel
theorem dX11_isTaken_54 : decode cX11_isTaken 54 = .ok (.iinc 4 1, 3) := by decide +kernel
theorem dX11_isTaken_57 : decode cX11_isTaken 57 = .ok (.goto (-52), 3) := by decide +kernel
theorem dX11_isTaken_60 : decode cX11_isTaken 60 = .ok (.iload_n 3, 1) := by decide +kernel
theorem dX11_isTaken_61 : decode cX11_isTaken 61 = .ok (.ireturn, 1) := by decide +kernel
theorem dX11_put_0 : decode cX11_put 0 = .ok (.iload_n 1, 1) := by decide +kernel
theorem dX11_put_1 : decode cX11_put 1 = .ok (.i2l, 1) := by decide +kernel
theorem dX11_put_2 : decode cX11_put 2 = .ok (.lconst 0, 1) := by decide +kernel
theorem dX11_put_3 : decode cX11_put 3 = .ok (.ldc2_w 173, 3) := by decide +kernel
theorem dX11_put_6 : decode cX11_put 6 = .ok (.invokestatic 77, 3) := by decide +kernel
theorem dX11_put_9 : decode cX11_put 9 = .ok (.ifCond .eq 11, 3) := by decide +kernel
theorem dX11_put_12 : decode cX11_put 12 = .ok (.iload_n 2, 1) := by decide +kernel
theorem dX11_put_13 : decode cX11_put 13 = .ok (.iload_n 3, 1) := by decide +kernel
theorem dX11_put_14 : decode cX11_put 14 = .ok (.invokestatic 175, 3) := by decide +kernel
theorem dX11_put_17 : decode cX11_put 17 = .ok (.ifCond .ne 6, 3) := by decide +kernel
theorem dX11_put_20 : decode cX11_put 20 = .ok (.bipush (-2), 2) := by decide +kernel
theorem dX11_put_22 : decode cX11_put 22 = .ok (.ireturn, 1) := by decide +kernel
theorem dX11_put_23 : decode cX11_put 23 = .ok (.aload_n 0, 1) := by decide +kernel
theorem dX11_put_24 : decode cX11_put 24 = .ok (.iload_n 2, 1) := by decide +kernel
theorem dX11_put_25 : decode cX11_put 25 = .ok (.iload_n 3, 1) := by decide +kernel
theorem dX11_put_26 : decode cX11_put 26 = .ok (.invokevirtual 179, 3) := by decide +kernel
theorem dX11_put_29 : decode cX11_put 29 = .ok (.ifCond .eq 6, 3) := by decide +kernel
theorem dX11_put_32 : decode cX11_put 32 = .ok (.bipush (-3), 2) := by decide +kernel
theorem dX11_put_34 : decode cX11_put 34 = .ok (.ireturn, 1) := by decide +kernel
theorem dX11_put_35 : decode cX11_put 35 = .ok (.aload_n 0, 1) := by decide +kernel
theorem dX11_put_36 : decode cX11_put 36 = .ok (.getfield 71, 3) := by decide +kernel
theorem dX11_put_39 : decode cX11_put 39 = .ok (.bipush 8, 2) := by decide +kernel
theorem dX11_put_41 : decode cX11_put 41 = .ok (.if_icmp .ne 6, 3) := by decide +kernel
theorem dX11_put_44 : decode cX11_put 44 = .ok (.bipush (-4), 2) := by decide +kernel
theorem dX11_put_46 : decode cX11_put 46 = .ok (.ireturn, 1) := by decide +kernel
theorem dX11_put_47 : decode cX11_put 47 = .ok (.aload_n 0, 1) := by decide +kernel
theorem dX11_put_48 : decode cX11_put 48 = .ok (.invokevirtual 182, 3) := by decide +kernel
theorem dX11_put_51 : decode cX11_put 51 = .ok (.aload_n 0, 1) := by decide +kernel
theorem dX11_put_52 : decode cX11_put 52 = .ok (.getfield 22, 3) := by decide +kernel
theorem dX11_put_55 : decode cX11_put 55 = .ok (.iconst 3, 1) := by decide +kernel
theorem dX11_put_56 : decode cX11_put 56 = .ok (.aload_n 0, 1) := by decide +kernel
theorem dX11_put_57 : decode cX11_put 57 = .ok (.getfield 71, 3) := by decide +kernel
theorem dX11_put_60 : decode cX11_put 60 = .ok (.imul, 1) := by decide +kernel
theorem dX11_put_61 : decode cX11_put 61 = .ok (.iload_n 1, 1) := by decide +kernel
theorem dX11_put_62 : decode cX11_put 62 = .ok (.iastore, 1) := by decide +kernel
theorem dX11_put_63 : decode cX11_put 63 = .ok (.aload_n 0, 1) := by decide +kernel
theorem dX11_put_64 : decode cX11_put 64 = .ok (.getfield 22, 3) := by decide +kernel
theorem dX11_put_67 : decode cX11_put 67 = .ok (.iconst 3, 1) := by decide +kernel
theorem dX11_put_68 : decode cX11_put 68 = .ok (.aload_n 0, 1) := by decide +kernel
theorem dX11_put_69 : decode cX11_put 69 = .ok (.getfield 71, 3) := by decide +kernel
theorem dX11_put_72 : decode cX11_put 72 = .ok (.imul, 1) := by decide +kernel
theorem dX11_put_73 : decode cX11_put 73 = .ok (.iconst 1, 1) := by decide +kernel
theorem dX11_put_74 : decode cX11_put 74 = .ok (.iadd, 1) := by decide +kernel
theorem dX11_put_75 : decode cX11_put 75 = .ok (.iload_n 2, 1) := by decide +kernel
theorem dX11_put_76 : decode cX11_put 76 = .ok (.iastore, 1) := by decide +kernel
theorem dX11_put_77 : decode cX11_put 77 = .ok (.aload_n 0, 1) := by decide +kernel
theorem dX11_put_78 : decode cX11_put 78 = .ok (.getfield 22, 3) := by decide +kernel
theorem dX11_put_81 : decode cX11_put 81 = .ok (.iconst 3, 1) := by decide +kernel
theorem dX11_put_82 : decode cX11_put 82 = .ok (.aload_n 0, 1) := by decide +kernel
theorem dX11_put_83 : decode cX11_put 83 = .ok (.getfield 71, 3) := by decide +kernel
theorem dX11_put_86 : decode cX11_put 86 = .ok (.imul, 1) := by decide +kernel
theorem dX11_put_87 : decode cX11_put 87 = .ok (.iconst 2, 1) := by decide +kernel
theorem dX11_put_88 : decode cX11_put 88 = .ok (.iadd, 1) := by decide +kernel
theorem dX11_put_89 : decode cX11_put 89 = .ok (.iload_n 3, 1) := by decide +kernel
theorem dX11_put_90 : decode cX11_put 90 = .ok (.iastore, 1) := by decide +kernel
theorem dX11_put_91 : decode cX11_put 91 = .ok (.aload_n 0, 1) := by decide +kernel
theorem dX11_put_92 : decode cX11_put 92 = .ok (.dup, 1) := by decide +kernel
theorem dX11_put_93 : decode cX11_put 93 = .ok (.getfield 71, 3) := by decide +kernel
theorem dX11_put_96 : decode cX11_put 96 = .ok (.iconst 1, 1) := by decide +kernel
theorem dX11_put_97 : decode cX11_put 97 = .ok (.iadd, 1) := by decide +kernel
theorem dX11_put_98 : decode cX11_put 98 = .ok (.putfield 71, 3) := by decide +kernel
theorem dX11_put_101 : decode cX11_put 101 = .ok (.aload_n 0, 1) := by decide +kernel
theorem dX11_put_102 : decode cX11_put 102 = .ok (.getfield 71, 3) := by decide +kernel
theorem dX11_put_105 : decode cX11_put 105 = .ok (.iconst 1, 1) := by decide +kernel
theorem dX11_put_106 : decode cX11_put 106 = .ok (.isub, 1) := by decide +kernel
theorem dX11_put_107 : decode cX11_put 107 = .ok (.ireturn, 1) := by decide +kernel
theorem dX11_without_0 : decode cX11_without 0 = .ok (.iload_n 0, 1) := by decide +kernel
theorem dX11_without_1 : decode cX11_without 1 = .ok (.ifCond .ge 8, 3) := by decide +kernel
theorem dX11_without_4 : decode cX11_without 4 = .ok (.iload_n 0, 1) := by decide +kernel
theorem dX11_without_5 : decode cX11_without 5 = .ok (.ineg, 1) := by decide +kernel
theorem dX11_without_6 : decode cX11_without 6 = .ok (.goto 4, 3) := by decide +kernel
theorem dX11_without_9 : decode cX11_without 9 = .ok (.iload_n 0, 1) := by decide +kernel
theorem dX11_without_10 : decode cX11_without 10 = .ok (.ireturn, 1) := by decide +kernel
theorem dX11_move_0 : decode cX11_move 0 = .ok (.aload_n 0, 1) := by decide +kernel
theorem dX11_move_1 : decode cX11_move 1 = .ok (.iload_n 1, 1) := by decide +kernel
theorem dX11_move_2 : decode cX11_move 2 = .ok (.invokevirtual 153, 3) := by decide +kernel
theorem dX11_move_5 : decode cX11_move 5 = .ok (.ifCond .ne 5, 3) := by decide +kernel
theorem dX11_move_8 : decode cX11_move 8 = .ok (.iconst (-1), 1) := by decide +kernel
theorem dX11_move_9 : decode cX11_move 9 = .ok (.ireturn, 1) := by decide +kernel
theorem dX11_move_10 : decode cX11_move 10 = .ok (.iload_n 2, 1) := by decide +kernel
theorem dX11_move_11 : decode cX11_move 11 = .ok (.iload_n 3, 1) := by decide +kernel
theorem dX11_move_12 : decode cX11_move 12 = .ok (.invokestatic 175, 3) := by decide +kernel
theorem dX11_move_15 : decode cX11_move 15 = .ok (.ifCond .ne 6, 3) := by decide +kernel
theorem dX11_move_18 : decode cX11_move 18 = .ok (.bipush (-2), 2) := by decide +kernel
theorem dX11_move_20 : decode cX11_move 20 = .ok (.ireturn, 1) := by decide +kernel
theorem dX11_move_21 : decode cX11_move 21 = .ok (.aload_n 0, 1) := by decide +kernel
theorem dX11_move_22 : decode cX11_move 22 = .ok (.iload_n 2, 1) := by decide +kernel
theorem dX11_move_23 : decode cX11_move 23 = .ok (.iload_n 3, 1) := by decide +kernel
theorem dX11_move_24 : decode cX11_move 24 = .ok (.invokevirtual 179, 3) := by decide +kernel
theorem dX11_move_27 : decode cX11_move 27 = .ok (.ifCond .eq 6, 3) := by decide +kernel
theorem dX11_move_30 : decode cX11_move 30 = .ok (.bipush (-3), 2) := by decide +kernel
theorem dX11_move_32 : decode cX11_move 32 = .ok (.ireturn, 1) := by decide +kernel
theorem dX11_move_33 : decode cX11_move 33 = .ok (.aload_n 0, 1) := by decide +kernel
theorem dX11_move_34 : decode cX11_move 34 = .ok (.invokevirtual 182, 3) := by decide +kernel
theorem dX11_move_37 : decode cX11_move 37 = .ok (.aload_n 0, 1) := by decide +kernel
theorem dX11_move_38 : decode cX11_move 38 = .ok (.getfield 22, 3) := by decide +kernel
theorem dX11_move_41 : decode cX11_move 41 = .ok (.iconst 3, 1) := by decide +kernel
theorem dX11_move_42 : decode cX11_move 42 = .ok (.iload_n 1, 1) := by decide +kernel
theorem dX11_move_43 : decode cX11_move 43 = .ok (.imul, 1) := by decide +kernel
theorem dX11_move_44 : decode cX11_move 44 = .ok (.iconst 1, 1) := by decide +kernel
theorem dX11_move_45 : decode cX11_move 45 = .ok (.iadd, 1) := by decide +kernel
theorem dX11_move_46 : decode cX11_move 46 = .ok (.iaload, 1) := by decide +kernel
theorem dX11_move_47 : decode cX11_move 47 = .ok (.iload_n 2, 1) := by decide +kernel
theorem dX11_move_48 : decode cX11_move 48 = .ok (.isub, 1) := by decide +kernel
theorem dX11_move_49 : decode cX11_move 49 = .ok (.invokestatic 185, 3) := by decide +kernel
theorem dX11_move_52 : decode cX11_move 52 = .ok (.aload_n 0, 1) := by decide +kernel
theorem dX11_move_53 : decode cX11_move 53 = .ok (.getfield 22, 3) := by decide +kernel
theorem dX11_move_56 : decode cX11_move 56 = .ok (.iconst 3, 1) := by decide +kernel
theorem dX11_move_57 : decode cX11_move 57 = .ok (.iload_n 1, 1) := by decide +kernel
theorem dX11_move_58 : decode cX11_move 58 = .ok (.imul, 1) := by decide +kernel
theorem dX11_move_59 : decode cX11_move 59 = .ok (.iconst 2, 1) := by decide +kernel
theorem dX11_move_60 : decode cX11_move 60 = .ok (.iadd, 1) := by decide +kernel
theorem dX11_move_61 : decode cX11_move 61 = .ok (.iaload, 1) := by decide +kernel
theorem dX11_move_62 : decode cX11_move 62 = .ok (.iload_n 3, 1) := by decide +kernel
theorem dX11_move_63 : decode cX11_move 63 = .ok (.isub, 1) := by decide +kernel
theorem dX11_move_64 : decode cX11_move 64 = .ok (.invokestatic 185, 3) := by decide +kernel
theorem dX11_move_67 : decode cX11_move 67 = .ok (.iadd, 1) := by decide +kernel
theorem dX11_move_68 : decode cX11_move 68 = .ok (.istore 4, 2) := by decide +kernel
theorem dX11_move_70 : decode cX11_move 70 = .ok (.aload_n 0, 1) := by decide +kernel
theorem dX11_move_71 : decode cX11_move 71 = .ok (.getfield 22, 3) := by decide +kernel
theorem dX11_move_74 : decode cX11_move 74 = .ok (.iconst 3, 1) := by decide +kernel
theorem dX11_move_75 : decode cX11_move 75 = .ok (.iload_n 1, 1) := by decide +kernel
theorem dX11_move_76 : decode cX11_move 76 = .ok (.imul, 1) := by decide +kernel
theorem dX11_move_77 : decode cX11_move 77 = .ok (.iconst 1, 1) := by decide +kernel
theorem dX11_move_78 : decode cX11_move 78 = .ok (.iadd, 1) := by decide +kernel
theorem dX11_move_79 : decode cX11_move 79 = .ok (.iload_n 2, 1) := by decide +kernel
theorem dX11_move_80 : decode cX11_move 80 = .ok (.iastore, 1) := by decide +kernel
theorem dX11_move_81 : decode cX11_move 81 = .ok (.aload_n 0, 1) := by decide +kernel
theorem dX11_move_82 : decode cX11_move 82 = .ok (.getfield 22, 3) := by decide +kernel
theorem dX11_move_85 : decode cX11_move 85 = .ok (.iconst 3, 1) := by decide +kernel
theorem dX11_move_86 : decode cX11_move 86 = .ok (.iload_n 1, 1) := by decide +kernel
theorem dX11_move_87 : decode cX11_move 87 = .ok (.imul, 1) := by decide +kernel
theorem dX11_move_88 : decode cX11_move 88 = .ok (.iconst 2, 1) := by decide +kernel
theorem dX11_move_89 : decode cX11_move 89 = .ok (.iadd, 1) := by decide +kernel
theorem dX11_move_90 : decode cX11_move 90 = .ok (.iload_n 3, 1) := by decide +kernel
theorem dX11_move_91 : decode cX11_move 91 = .ok (.iastore, 1) := by decide +kernel
theorem dX11_move_92 : decode cX11_move 92 = .ok (.iload 4, 2) := by decide +kernel
theorem dX11_move_94 : decode cX11_move 94 = .ok (.ireturn, 1) := by decide +kernel
theorem dX11_take_0 : decode cX11_take 0 = .ok (.aload_n 0, 1) := by decide +kernel
theorem dX11_take_1 : decode cX11_take 1 = .ok (.iload_n 1, 1) := by decide +kernel
theorem dX11_take_2 : decode cX11_take 2 = .ok (.invokevirtual 153, 3) := by decide +kernel
theorem dX11_take_5 : decode cX11_take 5 = .ok (.ifCond .ne 5, 3) := by decide +kernel
theorem dX11_take_8 : decode cX11_take 8 = .ok (.iconst (-1), 1) := by decide +kernel
theorem dX11_take_9 : decode cX11_take 9 = .ok (.ireturn, 1) := by decide +kernel
theorem dX11_take_10 : decode cX11_take 10 = .ok (.aload_n 0, 1) := by decide +kernel
theorem dX11_take_11 : decode cX11_take 11 = .ok (.invokevirtual 182, 3) := by decide +kernel
theorem dX11_take_14 : decode cX11_take 14 = .ok (.aload_n 0, 1) := by decide +kernel
theorem dX11_take_15 : decode cX11_take 15 = .ok (.dup, 1) := by decide +kernel
theorem dX11_take_16 : decode cX11_take 16 = .ok (.getfield 71, 3) := by decide +kernel
theorem dX11_take_19 : decode cX11_take 19 = .ok (.iconst 1, 1) := by decide +kernel
theorem dX11_take_20 : decode cX11_take 20 = .ok (.isub, 1) := by decide +kernel
theorem dX11_take_21 : decode cX11_take 21 = .ok (.putfield 71, 3) := by decide +kernel
theorem dX11_take_24 : decode cX11_take 24 = .ok (.iconst 3, 1) := by decide +kernel
theorem dX11_take_25 : decode cX11_take 25 = .ok (.iload_n 1, 1) := by decide +kernel
theorem dX11_take_26 : decode cX11_take 26 = .ok (.imul, 1) := by decide +kernel
theorem dX11_take_27 : decode cX11_take 27 = .ok (.istore_n 2, 1) := by decide +kernel
theorem dX11_take_28 : decode cX11_take 28 = .ok (.iload_n 2, 1) := by decide +kernel
theorem dX11_take_29 : decode cX11_take 29 = .ok (.iconst 3, 1) := by decide +kernel
theorem dX11_take_30 : decode cX11_take 30 = .ok (.aload_n 0, 1) := by decide +kernel
theorem dX11_take_31 : decode cX11_take 31 = .ok (.getfield 71, 3) := by decide +kernel
theorem dX11_take_34 : decode cX11_take 34 = .ok (.imul, 1) := by decide +kernel
theorem dX11_take_35 : decode cX11_take 35 = .ok (.if_icmp .ge 23, 3) := by decide +kernel
theorem dX11_take_38 : decode cX11_take 38 = .ok (.aload_n 0, 1) := by decide +kernel
theorem dX11_take_39 : decode cX11_take 39 = .ok (.getfield 22, 3) := by decide +kernel
theorem dX11_take_42 : decode cX11_take 42 = .ok (.iload_n 2, 1) := by decide +kernel
theorem dX11_take_43 : decode cX11_take 43 = .ok (.aload_n 0, 1) := by decide +kernel
theorem dX11_take_44 : decode cX11_take 44 = .ok (.getfield 22, 3) := by decide +kernel
theorem dX11_take_47 : decode cX11_take 47 = .ok (.iload_n 2, 1) := by decide +kernel
theorem dX11_take_48 : decode cX11_take 48 = .ok (.iconst 3, 1) := by decide +kernel
theorem dX11_take_49 : decode cX11_take 49 = .ok (.iadd, 1) := by decide +kernel
theorem dX11_take_50 : decode cX11_take 50 = .ok (.iaload, 1) := by decide +kernel
theorem dX11_take_51 : decode cX11_take 51 = .ok (.iastore, 1) := by decide +kernel
theorem dX11_take_52 : decode cX11_take 52 = .ok (.iinc 2 1, 3) := by decide +kernel
theorem dX11_take_55 : decode cX11_take 55 = .ok (.goto (-27), 3) := by decide +kernel
theorem dX11_take_58 : decode cX11_take 58 = .ok (.aload_n 0, 1) := by decide +kernel
theorem dX11_take_59 : decode cX11_take 59 = .ok (.getfield 71, 3) := by decide +kernel
theorem dX11_take_62 : decode cX11_take 62 = .ok (.ireturn, 1) := by decide +kernel
theorem dX11_back_0 : decode cX11_back 0 = .ok (.aload_n 0, 1) := by decide +kernel
theorem dX11_back_1 : decode cX11_back 1 = .ok (.getfield 150, 3) := by decide +kernel
theorem dX11_back_4 : decode cX11_back 4 = .ok (.ifCond .ne 6, 3) := by decide +kernel
theorem dX11_back_7 : decode cX11_back 7 = .ok (.bipush (-3), 2) := by decide +kernel
theorem dX11_back_9 : decode cX11_back 9 = .ok (.ireturn, 1) := by decide +kernel
theorem dX11_back_10 : decode cX11_back 10 = .ok (.aload_n 0, 1) := by decide +kernel
theorem dX11_back_11 : decode cX11_back 11 = .ok (.dup, 1) := by decide +kernel
theorem dX11_back_12 : decode cX11_back 12 = .ok (.getfield 150, 3) := by decide +kernel
theorem dX11_back_15 : decode cX11_back 15 = .ok (.iconst 1, 1) := by decide +kernel
theorem dX11_back_16 : decode cX11_back 16 = .ok (.isub, 1) := by decide +kernel
theorem dX11_back_17 : decode cX11_back 17 = .ok (.putfield 150, 3) := by decide +kernel
theorem dX11_back_20 : decode cX11_back 20 = .ok (.aload_n 0, 1) := by decide +kernel
theorem dX11_back_21 : decode cX11_back 21 = .ok (.aload_n 0, 1) := by decide +kernel
theorem dX11_back_22 : decode cX11_back 22 = .ok (.getfield 168, 3) := by decide +kernel
theorem dX11_back_25 : decode cX11_back 25 = .ok (.bipush 15, 2) := by decide +kernel
theorem dX11_back_27 : decode cX11_back 27 = .ok (.iadd, 1) := by decide +kernel
theorem dX11_back_28 : decode cX11_back 28 = .ok (.bipush 16, 2) := by decide +kernel
theorem dX11_back_30 : decode cX11_back 30 = .ok (.irem, 1) := by decide +kernel
theorem dX11_back_31 : decode cX11_back 31 = .ok (.putfield 168, 3) := by decide +kernel
theorem dX11_back_34 : decode cX11_back 34 = .ok (.iconst 0, 1) := by decide +kernel
theorem dX11_back_35 : decode cX11_back 35 = .ok (.istore_n 1, 1) := by decide +kernel
theorem dX11_back_36 : decode cX11_back 36 = .ok (.iload_n 1, 1) := by decide +kernel
theorem dX11_back_37 : decode cX11_back 37 = .ok (.bipush 24, 2) := by decide +kernel
theorem dX11_back_39 : decode cX11_back 39 = .ok (.if_icmp .ge 29, 3) := by decide +kernel
theorem dX11_back_42 : decode cX11_back 42 = .ok (.aload_n 0, 1) := by decide +kernel
theorem dX11_back_43 : decode cX11_back 43 = .ok (.getfield 22, 3) := by decide +kernel
theorem dX11_back_46 : decode cX11_back 46 = .ok (.iload_n 1, 1) := by decide +kernel
theorem dX11_back_47 : decode cX11_back 47 = .ok (.aload_n 0, 1) := by decide +kernel
theorem dX11_back_48 : decode cX11_back 48 = .ok (.getfield 37, 3) := by decide +kernel
theorem dX11_back_51 : decode cX11_back 51 = .ok (.bipush 25, 2) := by decide +kernel
theorem dX11_back_53 : decode cX11_back 53 = .ok (.aload_n 0, 1) := by decide +kernel
theorem dX11_back_54 : decode cX11_back 54 = .ok (.getfield 168, 3) := by decide +kernel
theorem dX11_back_57 : decode cX11_back 57 = .ok (.imul, 1) := by decide +kernel
theorem dX11_back_58 : decode cX11_back 58 = .ok (.iload_n 1, 1) := by decide +kernel
theorem dX11_back_59 : decode cX11_back 59 = .ok (.iadd, 1) := by decide +kernel
theorem dX11_back_60 : decode cX11_back 60 = .ok (.iaload, 1) := by decide +kernel
theorem dX11_back_61 : decode cX11_back 61 = .ok (.iastore, 1) := by decide +kernel
theorem dX11_back_62 : decode cX11_back 62 = .ok (.iinc 1 1, 3) := by decide +kernel
theorem dX11_back_65 : decode cX11_back 65 = .ok (.goto (-29), 3) := by decide +kernel
theorem dX11_back_68 : decode cX11_back 68 = .ok (.aload_n 0, 1) := by decide +kernel
theorem dX11_back_69 : decode cX11_back 69 = .ok (.aload_n 0, 1) := by decide +kernel
theorem dX11_back_70 : decode cX11_back 70 = .ok (.getfield 37, 3) := by decide +kernel
theorem dX11_back_73 : decode cX11_back 73 = .ok (.bipush 25, 2) := by decide +kernel
theorem dX11_back_75 : decode cX11_back 75 = .ok (.aload_n 0, 1) := by decide +kernel
theorem dX11_back_76 : decode cX11_back 76 = .ok (.getfield 168, 3) := by decide +kernel
theorem dX11_back_79 : decode cX11_back 79 = .ok (.imul, 1) := by decide +kernel
theorem dX11_back_80 : decode cX11_back 80 = .ok (.bipush 24, 2) := by decide +kernel
theorem dX11_back_82 : decode cX11_back 82 = .ok (.iadd, 1) := by decide +kernel
theorem dX11_back_83 : decode cX11_back 83 = .ok (.iaload, 1) := by decide +kernel
theorem dX11_back_84 : decode cX11_back 84 = .ok (.putfield 71, 3) := by decide +kernel
theorem dX11_back_87 : decode cX11_back 87 = .ok (.aload_n 0, 1) := by decide +kernel
theorem dX11_back_88 : decode cX11_back 88 = .ok (.getfield 150, 3) := by decide +kernel
theorem dX11_back_91 : decode cX11_back 91 = .ok (.ireturn, 1) := by decide +kernel
theorem dX11_isMinute_0 : decode cX11_isMinute 0 = .ok (.iload_n 0, 1) := by decide +kernel
theorem dX11_isMinute_1 : decode cX11_isMinute 1 = .ok (.i2l, 1) := by decide +kernel
theorem dX11_isMinute_2 : decode cX11_isMinute 2 = .ok (.lconst 0, 1) := by decide +kernel
theorem dX11_isMinute_3 : decode cX11_isMinute 3 = .ok (.ldc2_w 188, 3) := by decide +kernel
theorem dX11_isMinute_6 : decode cX11_isMinute 6 = .ok (.invokestatic 77, 3) := by decide +kernel
theorem dX11_isMinute_9 : decode cX11_isMinute 9 = .ok (.ireturn, 1) := by decide +kernel
theorem dX11_longAt_0 : decode cX11_longAt 0 = .ok (.iload_n 0, 1) := by decide +kernel
theorem dX11_longAt_1 : decode cX11_longAt 1 = .ok (.iload_n 1, 1) := by decide +kernel
theorem dX11_longAt_2 : decode cX11_longAt 2 = .ok (.bipush 8, 2) := by decide +kernel
theorem dX11_longAt_4 : decode cX11_longAt 4 = .ok (.isub, 1) := by decide +kernel
theorem dX11_longAt_5 : decode cX11_longAt 5 = .ok (.invokestatic 185, 3) := by decide +kernel
theorem dX11_longAt_8 : decode cX11_longAt 8 = .ok (.imul, 1) := by decide +kernel
theorem dX11_longAt_9 : decode cX11_longAt 9 = .ok (.iconst 4, 1) := by decide +kernel
theorem dX11_longAt_10 : decode cX11_longAt 10 = .ok (.idiv, 1) := by decide +kernel
theorem dX11_longAt_11 : decode cX11_longAt 11 = .ok (.ireturn, 1) := by decide +kernel
theorem dX11_reach_0 : decode cX11_reach 0 = .ok (.iload_n 0, 1) := by decide +kernel
theorem dX11_reach_1 : decode cX11_reach 1 = .ok (.iload_n 2, 1) := by decide +kernel
theorem dX11_reach_2 : decode cX11_reach 2 = .ok (.invokestatic 190, 3) := by decide +kernel
theorem dX11_reach_5 : decode cX11_reach 5 = .ok (.istore_n 3, 1) := by decide +kernel
theorem dX11_reach_6 : decode cX11_reach 6 = .ok (.iconst 0, 1) := by decide +kernel
theorem dX11_reach_7 : decode cX11_reach 7 = .ok (.istore 4, 2) := by decide +kernel
theorem dX11_reach_9 : decode cX11_reach 9 = .ok (.iconst 0, 1) := by decide +kernel
theorem dX11_reach_10 : decode cX11_reach 10 = .ok (.istore 5, 2) := by decide +kernel
theorem dX11_reach_12 : decode cX11_reach 12 = .ok (.iload 5, 2) := by decide +kernel
theorem dX11_reach_14 : decode cX11_reach 14 = .ok (.bipush 10, 2) := by decide +kernel
theorem dX11_reach_16 : decode cX11_reach 16 = .ok (.if_icmp .ge 76, 3) := by decide +kernel
theorem dX11_reach_19 : decode cX11_reach 19 = .ok (.iload_n 2, 1) := by decide +kernel
theorem dX11_reach_20 : decode cX11_reach 20 = .ok (.bipush 8, 2) := by decide +kernel
theorem dX11_reach_22 : decode cX11_reach 22 = .ok (.if_icmp .ge 25, 3) := by decide +kernel
theorem dX11_reach_25 : decode cX11_reach 25 = .ok (.iload 5, 2) := by decide +kernel
theorem dX11_reach_27 : decode cX11_reach 27 = .ok (.iload_n 1, 1) := by decide +kernel
theorem dX11_reach_28 : decode cX11_reach 28 = .ok (.if_icmp .ge 15, 3) := by decide +kernel
theorem dX11_reach_31 : decode cX11_reach 31 = .ok (.iload 5, 2) := by decide +kernel
theorem dX11_reach_33 : decode cX11_reach 33 = .ok (.iload_n 1, 1) := by decide +kernel
theorem dX11_reach_34 : decode cX11_reach 34 = .ok (.iload_n 3, 1) := by decide +kernel
theorem dX11_reach_35 : decode cX11_reach 35 = .ok (.isub, 1) := by decide +kernel
theorem dX11_reach_36 : decode cX11_reach 36 = .ok (.if_icmp .lt 7, 3) := by decide +kernel
theorem dX11_reach_39 : decode cX11_reach 39 = .ok (.iconst 1, 1) := by decide +kernel
theorem dX11_reach_40 : decode cX11_reach 40 = .ok (.goto 26, 3) := by decide +kernel
theorem dX11_reach_43 : decode cX11_reach 43 = .ok (.iconst 0, 1) := by decide +kernel
theorem dX11_reach_44 : decode cX11_reach 44 = .ok (.goto 22, 3) := by decide +kernel
theorem dX11_reach_47 : decode cX11_reach 47 = .ok (.iload 5, 2) := by decide +kernel
theorem dX11_reach_49 : decode cX11_reach 49 = .ok (.iload_n 1, 1) := by decide +kernel
theorem dX11_reach_50 : decode cX11_reach 50 = .ok (.if_icmp .le 15, 3) := by decide +kernel
theorem dX11_reach_53 : decode cX11_reach 53 = .ok (.iload 5, 2) := by decide +kernel
theorem dX11_reach_55 : decode cX11_reach 55 = .ok (.iload_n 1, 1) := by decide +kernel
theorem dX11_reach_56 : decode cX11_reach 56 = .ok (.iload_n 3, 1) := by decide +kernel
theorem dX11_reach_57 : decode cX11_reach 57 = .ok (.iadd, 1) := by decide +kernel
theorem dX11_reach_58 : decode cX11_reach 58 = .ok (.if_icmp .gt 7, 3) := by decide +kernel
theorem dX11_reach_61 : decode cX11_reach 61 = .ok (.iconst 1, 1) := by decide +kernel
theorem dX11_reach_62 : decode cX11_reach 62 = .ok (.goto 4, 3) := by decide +kernel
theorem dX11_reach_65 : decode cX11_reach 65 = .ok (.iconst 0, 1) := by decide +kernel
theorem dX11_reach_66 : decode cX11_reach 66 = .ok (.istore 6, 2) := by decide +kernel
theorem dX11_reach_68 : decode cX11_reach 68 = .ok (.iload 4, 2) := by decide +kernel
theorem dX11_reach_70 : decode cX11_reach 70 = .ok (.iload 6, 2) := by decide +kernel
theorem dX11_reach_72 : decode cX11_reach 72 = .ok (.ifCond .eq 10, 3) := by decide +kernel
theorem dX11_reach_75 : decode cX11_reach 75 = .ok (.iconst 1, 1) := by decide +kernel
theorem dX11_reach_76 : decode cX11_reach 76 = .ok (.iload 5, 2) := by decide +kernel
theorem dX11_reach_78 : decode cX11_reach 78 = .ok (.ishl, 1) := by decide +kernel
theorem dX11_reach_79 : decode cX11_reach 79 = .ok (.goto 4, 3) := by decide +kernel
theorem dX11_reach_82 : decode cX11_reach 82 = .ok (.iconst 0, 1) := by decide +kernel
theorem dX11_reach_83 : decode cX11_reach 83 = .ok (.ior, 1) := by decide +kernel
theorem dX11_reach_84 : decode cX11_reach 84 = .ok (.istore 4, 2) := by decide +kernel
theorem dX11_reach_86 : decode cX11_reach 86 = .ok (.iinc 5 1, 3) := by decide +kernel
theorem dX11_reach_89 : decode cX11_reach 89 = .ok (.goto (-77), 3) := by decide +kernel
theorem dX11_reach_92 : decode cX11_reach 92 = .ok (.iload 4, 2) := by decide +kernel
theorem dX11_reach_94 : decode cX11_reach 94 = .ok (.ireturn, 1) := by decide +kernel
theorem dX11_lit_0 : decode cX11_lit 0 = .ok (.iload_n 1, 1) := by decide +kernel
theorem dX11_lit_1 : decode cX11_lit 1 = .ok (.aload_n 0, 1) := by decide +kernel
theorem dX11_lit_2 : decode cX11_lit 2 = .ok (.getfield 31, 3) := by decide +kernel
theorem dX11_lit_5 : decode cX11_lit 5 = .ok (.iload_n 2, 1) := by decide +kernel
theorem dX11_lit_6 : decode cX11_lit 6 = .ok (.iaload, 1) := by decide +kernel
theorem dX11_lit_7 : decode cX11_lit 7 = .ok (.if_icmp .lt 9, 3) := by decide +kernel
theorem dX11_lit_10 : decode cX11_lit 10 = .ok (.sipush 1023, 3) := by decide +kernel
theorem dX11_lit_13 : decode cX11_lit 13 = .ok (.goto 4, 3) := by decide +kernel
