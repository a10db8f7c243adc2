theorem dX11_lit_16 : decode cX11_lit 16 = .ok (.iconst 0, 1) := by decide +kernel
theorem dX11_lit_17 : decode cX11_lit 17 = .ok (.istore_n 3, 1) := by decide +kernel
theorem dX11_lit_18 : decode cX11_lit 18 = .ok (.iconst 0, 1) := by decide +kernel
theorem dX11_lit_19 : decode cX11_lit 19 = .ok (.istore 4, 2) := by decide +kernel
theorem dX11_lit_21 : decode cX11_lit 21 = .ok (.iload 4, 2) := by decide +kernel
theorem dX11_lit_23 : decode cX11_lit 23 = .ok (.aload_n 0, 1) := by decide +kernel
theorem dX11_lit_24 : decode cX11_lit 24 = .ok (.getfield 144, 3) := by decide +kernel
theorem dX11_lit_27 : decode cX11_lit 27 = .ok (.if_icmp .ge 83, 3) := by decide +kernel
theorem dX11_lit_30 : decode cX11_lit 30 = .ok (.iload_n 1, 1) := by decide +kernel
theorem dX11_lit_31 : decode cX11_lit 31 = .ok (.aload_n 0, 1) := by decide +kernel
theorem dX11_lit_32 : decode cX11_lit 32 = .ok (.getfield 28, 3) := by decide +kernel
theorem dX11_lit_35 : decode cX11_lit 35 = .ok (.iconst 4, 1) := by decide +kernel
theorem dX11_lit_36 : decode cX11_lit 36 = .ok (.iload 4, 2) := by decide +kernel
theorem dX11_lit_38 : decode cX11_lit 38 = .ok (.imul, 1) := by decide +kernel
theorem dX11_lit_39 : decode cX11_lit 39 = .ok (.iconst 2, 1) := by decide +kernel
theorem dX11_lit_40 : decode cX11_lit 40 = .ok (.iadd, 1) := by decide +kernel
theorem dX11_lit_41 : decode cX11_lit 41 = .ok (.iaload, 1) := by decide +kernel
theorem dX11_lit_42 : decode cX11_lit 42 = .ok (.if_icmp .lt 22, 3) := by decide +kernel
theorem dX11_lit_45 : decode cX11_lit 45 = .ok (.iload_n 1, 1) := by decide +kernel
theorem dX11_lit_46 : decode cX11_lit 46 = .ok (.aload_n 0, 1) := by decide +kernel
theorem dX11_lit_47 : decode cX11_lit 47 = .ok (.getfield 28, 3) := by decide +kernel
theorem dX11_lit_50 : decode cX11_lit 50 = .ok (.iconst 4, 1) := by decide +kernel
theorem dX11_lit_51 : decode cX11_lit 51 = .ok (.iload 4, 2) := by decide +kernel
theorem dX11_lit_53 : decode cX11_lit 53 = .ok (.imul, 1) := by decide +kernel
theorem dX11_lit_54 : decode cX11_lit 54 = .ok (.iconst 3, 1) := by decide +kernel
theorem dX11_lit_55 : decode cX11_lit 55 = .ok (.iadd, 1) := by decide +kernel
theorem dX11_lit_56 : decode cX11_lit 56 = .ok (.iaload, 1) := by decide +kernel
theorem dX11_lit_57 : decode cX11_lit 57 = .ok (.if_icmp .gt 7, 3) := by decide +kernel
theorem dX11_lit_60 : decode cX11_lit 60 = .ok (.iconst 1, 1) := by decide +kernel
theorem dX11_lit_61 : decode cX11_lit 61 = .ok (.goto 4, 3) := by decide +kernel
theorem dX11_lit_64 : decode cX11_lit 64 = .ok (.iconst 0, 1) := by decide +kernel
theorem dX11_lit_65 : decode cX11_lit 65 = .ok (.istore 5, 2) := by decide +kernel
theorem dX11_lit_67 : decode cX11_lit 67 = .ok (.iload_n 3, 1) := by decide +kernel
theorem dX11_lit_68 : decode cX11_lit 68 = .ok (.iload 5, 2) := by decide +kernel
theorem dX11_lit_70 : decode cX11_lit 70 = .ok (.ifCond .eq 31, 3) := by decide +kernel
theorem dX11_lit_73 : decode cX11_lit 73 = .ok (.aload_n 0, 1) := by decide +kernel
theorem dX11_lit_74 : decode cX11_lit 74 = .ok (.getfield 28, 3) := by decide +kernel
theorem dX11_lit_77 : decode cX11_lit 77 = .ok (.iconst 4, 1) := by decide +kernel
theorem dX11_lit_78 : decode cX11_lit 78 = .ok (.iload 4, 2) := by decide +kernel
theorem dX11_lit_80 : decode cX11_lit 80 = .ok (.imul, 1) := by decide +kernel
theorem dX11_lit_81 : decode cX11_lit 81 = .ok (.iaload, 1) := by decide +kernel
theorem dX11_lit_82 : decode cX11_lit 82 = .ok (.aload_n 0, 1) := by decide +kernel
theorem dX11_lit_83 : decode cX11_lit 83 = .ok (.getfield 28, 3) := by decide +kernel
theorem dX11_lit_86 : decode cX11_lit 86 = .ok (.iconst 4, 1) := by decide +kernel
theorem dX11_lit_87 : decode cX11_lit 87 = .ok (.iload 4, 2) := by decide +kernel
theorem dX11_lit_89 : decode cX11_lit 89 = .ok (.imul, 1) := by decide +kernel
theorem dX11_lit_90 : decode cX11_lit 90 = .ok (.iconst 1, 1) := by decide +kernel
theorem dX11_lit_91 : decode cX11_lit 91 = .ok (.iadd, 1) := by decide +kernel
theorem dX11_lit_92 : decode cX11_lit 92 = .ok (.iaload, 1) := by decide +kernel
theorem dX11_lit_93 : decode cX11_lit 93 = .ok (.invokestatic 129, 3) := by decide +kernel
theorem dX11_lit_96 : decode cX11_lit 96 = .ok (.iconst (-1), 1) := by decide +kernel
theorem dX11_lit_97 : decode cX11_lit 97 = .ok (.ixor, 1) := by decide +kernel
theorem dX11_lit_98 : decode cX11_lit 98 = .ok (.goto 4, 3) := by decide +kernel
theorem dX11_lit_101 : decode cX11_lit 101 = .ok (.iconst (-1), 1) := by decide +kernel
theorem dX11_lit_102 : decode cX11_lit 102 = .ok (.iand, 1) := by decide +kernel
theorem dX11_lit_103 : decode cX11_lit 103 = .ok (.istore_n 3, 1) := by decide +kernel
theorem dX11_lit_104 : decode cX11_lit 104 = .ok (.iinc 4 1, 3) := by decide +kernel
theorem dX11_lit_107 : decode cX11_lit 107 = .ok (.goto (-86), 3) := by decide +kernel
theorem dX11_lit_110 : decode cX11_lit 110 = .ok (.iload_n 3, 1) := by decide +kernel
theorem dX11_lit_111 : decode cX11_lit 111 = .ok (.ireturn, 1) := by decide +kernel
theorem dX11_darkOf_0 : decode cX11_darkOf 0 = .ok (.iconst 0, 1) := by decide +kernel
theorem dX11_darkOf_1 : decode cX11_darkOf 1 = .ok (.istore_n 3, 1) := by decide +kernel
theorem dX11_darkOf_2 : decode cX11_darkOf 2 = .ok (.iconst 0, 1) := by decide +kernel
theorem dX11_darkOf_3 : decode cX11_darkOf 3 = .ok (.istore 4, 2) := by decide +kernel
theorem dX11_darkOf_5 : decode cX11_darkOf 5 = .ok (.iload 4, 2) := by decide +kernel
theorem dX11_darkOf_7 : decode cX11_darkOf 7 = .ok (.aload_n 0, 1) := by decide +kernel
theorem dX11_darkOf_8 : decode cX11_darkOf 8 = .ok (.getfield 71, 3) := by decide +kernel
theorem dX11_darkOf_11 : decode cX11_darkOf 11 = .ok (.if_icmp .ge 58, 3) := by decide +kernel
theorem dX11_darkOf_14 : decode cX11_darkOf 14 = .ok (.iload_n 3, 1) := by decide +kernel
theorem dX11_darkOf_15 : decode cX11_darkOf 15 = .ok (.aload_n 0, 1) := by decide +kernel
theorem dX11_darkOf_16 : decode cX11_darkOf 16 = .ok (.getfield 22, 3) := by decide +kernel
theorem dX11_darkOf_19 : decode cX11_darkOf 19 = .ok (.iconst 3, 1) := by decide +kernel
theorem dX11_darkOf_20 : decode cX11_darkOf 20 = .ok (.iload 4, 2) := by decide +kernel
theorem dX11_darkOf_22 : decode cX11_darkOf 22 = .ok (.imul, 1) := by decide +kernel
theorem dX11_darkOf_23 : decode cX11_darkOf 23 = .ok (.iconst 2, 1) := by decide +kernel
theorem dX11_darkOf_24 : decode cX11_darkOf 24 = .ok (.iadd, 1) := by decide +kernel
theorem dX11_darkOf_25 : decode cX11_darkOf 25 = .ok (.iaload, 1) := by decide +kernel
theorem dX11_darkOf_26 : decode cX11_darkOf 26 = .ok (.iload_n 2, 1) := by decide +kernel
theorem dX11_darkOf_27 : decode cX11_darkOf 27 = .ok (.if_icmp .ne 33, 3) := by decide +kernel
theorem dX11_darkOf_30 : decode cX11_darkOf 30 = .ok (.aload_n 0, 1) := by decide +kernel
theorem dX11_darkOf_31 : decode cX11_darkOf 31 = .ok (.getfield 22, 3) := by decide +kernel
theorem dX11_darkOf_34 : decode cX11_darkOf 34 = .ok (.iconst 3, 1) := by decide +kernel
theorem dX11_darkOf_35 : decode cX11_darkOf 35 = .ok (.iload 4, 2) := by decide +kernel
theorem dX11_darkOf_37 : decode cX11_darkOf 37 = .ok (.imul, 1) := by decide +kernel
theorem dX11_darkOf_38 : decode cX11_darkOf 38 = .ok (.iaload, 1) := by decide +kernel
theorem dX11_darkOf_39 : decode cX11_darkOf 39 = .ok (.invokestatic 157, 3) := by decide +kernel
theorem dX11_darkOf_42 : decode cX11_darkOf 42 = .ok (.aload_n 0, 1) := by decide +kernel
theorem dX11_darkOf_43 : decode cX11_darkOf 43 = .ok (.getfield 22, 3) := by decide +kernel
theorem dX11_darkOf_46 : decode cX11_darkOf 46 = .ok (.iconst 3, 1) := by decide +kernel
theorem dX11_darkOf_47 : decode cX11_darkOf 47 = .ok (.iload 4, 2) := by decide +kernel
theorem dX11_darkOf_49 : decode cX11_darkOf 49 = .ok (.imul, 1) := by decide +kernel
theorem dX11_darkOf_50 : decode cX11_darkOf 50 = .ok (.iconst 1, 1) := by decide +kernel
theorem dX11_darkOf_51 : decode cX11_darkOf 51 = .ok (.iadd, 1) := by decide +kernel
theorem dX11_darkOf_52 : decode cX11_darkOf 52 = .ok (.iaload, 1) := by decide +kernel
theorem dX11_darkOf_53 : decode cX11_darkOf 53 = .ok (.iload_n 1, 1) := by decide +kernel
theorem dX11_darkOf_54 : decode cX11_darkOf 54 = .ok (.invokestatic 193, 3) := by decide +kernel
theorem dX11_darkOf_57 : decode cX11_darkOf 57 = .ok (.goto 4, 3) := by decide +kernel
theorem dX11_darkOf_60 : decode cX11_darkOf 60 = .ok (.iconst 0, 1) := by decide +kernel
theorem dX11_darkOf_61 : decode cX11_darkOf 61 = .ok (.ior, 1) := by decide +kernel
theorem dX11_darkOf_62 : decode cX11_darkOf 62 = .ok (.istore_n 3, 1) := by decide +kernel
theorem dX11_darkOf_63 : decode cX11_darkOf 63 = .ok (.iinc 4 1, 3) := by decide +kernel
theorem dX11_darkOf_66 : decode cX11_darkOf 66 = .ok (.goto (-61), 3) := by decide +kernel
theorem dX11_darkOf_69 : decode cX11_darkOf 69 = .ok (.iload_n 3, 1) := by decide +kernel
theorem dX11_darkOf_70 : decode cX11_darkOf 70 = .ok (.aload_n 0, 1) := by decide +kernel
theorem dX11_darkOf_71 : decode cX11_darkOf 71 = .ok (.iload_n 1, 1) := by decide +kernel
theorem dX11_darkOf_72 : decode cX11_darkOf 72 = .ok (.iload_n 2, 1) := by decide +kernel
theorem dX11_darkOf_73 : decode cX11_darkOf 73 = .ok (.invokevirtual 197, 3) := by decide +kernel
theorem dX11_darkOf_76 : decode cX11_darkOf 76 = .ok (.iand, 1) := by decide +kernel
theorem dX11_darkOf_77 : decode cX11_darkOf 77 = .ok (.ireturn, 1) := by decide +kernel
theorem dX11_shadow_0 : decode cX11_shadow 0 = .ok (.aload_n 0, 1) := by decide +kernel
theorem dX11_shadow_1 : decode cX11_shadow 1 = .ok (.iload_n 1, 1) := by decide +kernel
theorem dX11_shadow_2 : decode cX11_shadow 2 = .ok (.invokevirtual 153, 3) := by decide +kernel
theorem dX11_shadow_5 : decode cX11_shadow 5 = .ok (.ifCond .ne 5, 3) := by decide +kernel
theorem dX11_shadow_8 : decode cX11_shadow 8 = .ok (.iconst (-1), 1) := by decide +kernel
theorem dX11_shadow_9 : decode cX11_shadow 9 = .ok (.ireturn, 1) := by decide +kernel
theorem dX11_shadow_10 : decode cX11_shadow 10 = .ok (.iload_n 2, 1) := by decide +kernel
theorem dX11_shadow_11 : decode cX11_shadow 11 = .ok (.invokestatic 200, 3) := by decide +kernel
theorem dX11_shadow_14 : decode cX11_shadow 14 = .ok (.ifCond .eq 21, 3) := by decide +kernel
theorem dX11_shadow_17 : decode cX11_shadow 17 = .ok (.aload_n 0, 1) := by decide +kernel
theorem dX11_shadow_18 : decode cX11_shadow 18 = .ok (.getfield 22, 3) := by decide +kernel
theorem dX11_shadow_21 : decode cX11_shadow 21 = .ok (.iconst 3, 1) := by decide +kernel
theorem dX11_shadow_22 : decode cX11_shadow 22 = .ok (.iload_n 1, 1) := by decide +kernel
theorem dX11_shadow_23 : decode cX11_shadow 23 = .ok (.imul, 1) := by decide +kernel
theorem dX11_shadow_24 : decode cX11_shadow 24 = .ok (.iaload, 1) := by decide +kernel
theorem dX11_shadow_25 : decode cX11_shadow 25 = .ok (.invokestatic 157, 3) := by decide +kernel
theorem dX11_shadow_28 : decode cX11_shadow 28 = .ok (.iload_n 2, 1) := by decide +kernel
theorem dX11_shadow_29 : decode cX11_shadow 29 = .ok (.invokestatic 190, 3) := by decide +kernel
theorem dX11_shadow_32 : decode cX11_shadow 32 = .ok (.goto 5, 3) := by decide +kernel
theorem dX11_shadow_35 : decode cX11_shadow 35 = .ok (.bipush (-2), 2) := by decide +kernel
theorem dX11_shadow_37 : decode cX11_shadow 37 = .ok (.ireturn, 1) := by decide +kernel
theorem dX11_dark_0 : decode cX11_dark 0 = .ok (.iload_n 1, 1) := by decide +kernel
theorem dX11_dark_1 : decode cX11_dark 1 = .ok (.invokestatic 200, 3) := by decide +kernel
theorem dX11_dark_4 : decode cX11_dark 4 = .ok (.ifCond .eq 24, 3) := by decide +kernel
theorem dX11_dark_7 : decode cX11_dark 7 = .ok (.iload_n 2, 1) := by decide +kernel
theorem dX11_dark_8 : decode cX11_dark 8 = .ok (.i2l, 1) := by decide +kernel
theorem dX11_dark_9 : decode cX11_dark 9 = .ok (.lconst 0, 1) := by decide +kernel
theorem dX11_dark_10 : decode cX11_dark 10 = .ok (.ldc2_w 173, 3) := by decide +kernel
theorem dX11_dark_13 : decode cX11_dark 13 = .ok (.invokestatic 77, 3) := by decide +kernel
theorem dX11_dark_16 : decode cX11_dark 16 = .ok (.ifCond .eq 12, 3) := by decide +kernel
theorem dX11_dark_19 : decode cX11_dark 19 = .ok (.aload_n 0, 1) := by decide +kernel
theorem dX11_dark_20 : decode cX11_dark 20 = .ok (.iload_n 1, 1) := by decide +kernel
theorem dX11_dark_21 : decode cX11_dark 21 = .ok (.iload_n 2, 1) := by decide +kernel
theorem dX11_dark_22 : decode cX11_dark 22 = .ok (.invokevirtual 203, 3) := by decide +kernel
theorem dX11_dark_25 : decode cX11_dark 25 = .ok (.goto 5, 3) := by decide +kernel
theorem dX11_dark_28 : decode cX11_dark 28 = .ok (.bipush (-2), 2) := by decide +kernel
theorem dX11_dark_30 : decode cX11_dark 30 = .ok (.ireturn, 1) := by decide +kernel
theorem dX11_layRuns_0 : decode cX11_layRuns 0 = .ok (.iconst 0, 1) := by decide +kernel
theorem dX11_layRuns_1 : decode cX11_layRuns 1 = .ok (.istore_n 3, 1) := by decide +kernel
theorem dX11_layRuns_2 : decode cX11_layRuns 2 = .ok (.aload_n 0, 1) := by decide +kernel
theorem dX11_layRuns_3 : decode cX11_layRuns 3 = .ok (.getfield 25, 3) := by decide +kernel
theorem dX11_layRuns_6 : decode cX11_layRuns 6 = .ok (.iconst 4, 1) := by decide +kernel
theorem dX11_layRuns_7 : decode cX11_layRuns 7 = .ok (.iload_n 1, 1) := by decide +kernel
theorem dX11_layRuns_8 : decode cX11_layRuns 8 = .ok (.imul, 1) := by decide +kernel
theorem dX11_layRuns_9 : decode cX11_layRuns 9 = .ok (.iaload, 1) := by decide +kernel
theorem dX11_layRuns_10 : decode cX11_layRuns 10 = .ok (.aload_n 0, 1) := by decide +kernel
theorem dX11_layRuns_11 : decode cX11_layRuns 11 = .ok (.getfield 25, 3) := by decide +kernel
theorem dX11_layRuns_14 : decode cX11_layRuns 14 = .ok (.iconst 4, 1) := by decide +kernel
theorem dX11_layRuns_15 : decode cX11_layRuns 15 = .ok (.iload_n 1, 1) := by decide +kernel
theorem dX11_layRuns_16 : decode cX11_layRuns 16 = .ok (.imul, 1) := by decide +kernel
theorem dX11_layRuns_17 : decode cX11_layRuns 17 = .ok (.iconst 1, 1) := by decide +kernel
theorem dX11_layRuns_18 : decode cX11_layRuns 18 = .ok (.iadd, 1) := by decide +kernel
theorem dX11_layRuns_19 : decode cX11_layRuns 19 = .ok (.iaload, 1) := by decide +kernel
theorem dX11_layRuns_20 : decode cX11_layRuns 20 = .ok (.invokestatic 129, 3) := by decide +kernel
theorem dX11_layRuns_23 : decode cX11_layRuns 23 = .ok (.istore 4, 2) := by decide +kernel
theorem dX11_layRuns_25 : decode cX11_layRuns 25 = .ok (.aload_n 0, 1) := by decide +kernel
theorem dX11_layRuns_26 : decode cX11_layRuns 26 = .ok (.getfield 25, 3) := by decide +kernel
theorem dX11_layRuns_29 : decode cX11_layRuns 29 = .ok (.iconst 4, 1) := by decide +kernel
theorem dX11_layRuns_30 : decode cX11_layRuns 30 = .ok (.iload_n 1, 1) := by decide +kernel
theorem dX11_layRuns_31 : decode cX11_layRuns 31 = .ok (.imul, 1) := by decide +kernel
theorem dX11_layRuns_32 : decode cX11_layRuns 32 = .ok (.iconst 2, 1) := by decide +kernel
theorem dX11_layRuns_33 : decode cX11_layRuns 33 = .ok (.iadd, 1) := by decide +kernel
theorem dX11_layRuns_34 : decode cX11_layRuns 34 = .ok (.iaload, 1) := by decide +kernel
theorem dX11_layRuns_35 : decode cX11_layRuns 35 = .ok (.istore 5, 2) := by decide +kernel
theorem dX11_layRuns_37 : decode cX11_layRuns 37 = .ok (.iload 5, 2) := by decide +kernel
theorem dX11_layRuns_39 : decode cX11_layRuns 39 = .ok (.aload_n 0, 1) := by decide +kernel
theorem dX11_layRuns_40 : decode cX11_layRuns 40 = .ok (.getfield 25, 3) := by decide +kernel
theorem dX11_layRuns_43 : decode cX11_layRuns 43 = .ok (.iconst 4, 1) := by decide +kernel
theorem dX11_layRuns_44 : decode cX11_layRuns 44 = .ok (.iload_n 1, 1) := by decide +kernel
theorem dX11_layRuns_45 : decode cX11_layRuns 45 = .ok (.imul, 1) := by decide +kernel
theorem dX11_layRuns_46 : decode cX11_layRuns 46 = .ok (.iconst 3, 1) := by decide +kernel
theorem dX11_layRuns_47 : decode cX11_layRuns 47 = .ok (.iadd, 1) := by decide +kernel
theorem dX11_layRuns_48 : decode cX11_layRuns 48 = .ok (.iaload, 1) := by decide +kernel
theorem dX11_layRuns_49 : decode cX11_layRuns 49 = .ok (.if_icmp .gt 145, 3) := by decide +kernel
theorem dX11_layRuns_52 : decode cX11_layRuns 52 = .ok (.aload_n 0, 1) := by decide +kernel
theorem dX11_layRuns_53 : decode cX11_layRuns 53 = .ok (.iload_n 2, 1) := by decide +kernel
theorem dX11_layRuns_54 : decode cX11_layRuns 54 = .ok (.iload 5, 2) := by decide +kernel
theorem dX11_layRuns_56 : decode cX11_layRuns 56 = .ok (.invokevirtual 203, 3) := by decide +kernel
theorem dX11_layRuns_59 : decode cX11_layRuns 59 = .ok (.iload 4, 2) := by decide +kernel
theorem dX11_layRuns_61 : decode cX11_layRuns 61 = .ok (.iand, 1) := by decide +kernel
theorem dX11_layRuns_62 : decode cX11_layRuns 62 = .ok (.istore 6, 2) := by decide +kernel
theorem dX11_layRuns_64 : decode cX11_layRuns 64 = .ok (.iconst 0, 1) := by decide +kernel
theorem dX11_layRuns_65 : decode cX11_layRuns 65 = .ok (.istore 7, 2) := by decide +kernel
theorem dX11_layRuns_67 : decode cX11_layRuns 67 = .ok (.iload 7, 2) := by decide +kernel
theorem dX11_layRuns_69 : decode cX11_layRuns 69 = .ok (.bipush 10, 2) := by decide +kernel
theorem dX11_layRuns_71 : decode cX11_layRuns 71 = .ok (.if_icmp .ge 117, 3) := by decide +kernel
theorem dX11_layRuns_74 : decode cX11_layRuns 74 = .ok (.iload 6, 2) := by decide +kernel
theorem dX11_layRuns_76 : decode cX11_layRuns 76 = .ok (.iload 7, 2) := by decide +kernel
theorem dX11_layRuns_78 : decode cX11_layRuns 78 = .ok (.ishr, 1) := by decide +kernel
theorem dX11_layRuns_79 : decode cX11_layRuns 79 = .ok (.iconst 1, 1) := by decide +kernel
theorem dX11_layRuns_80 : decode cX11_layRuns 80 = .ok (.iand, 1) := by decide +kernel
theorem dX11_layRuns_81 : decode cX11_layRuns 81 = .ok (.iconst 1, 1) := by decide +kernel
theorem dX11_layRuns_82 : decode cX11_layRuns 82 = .ok (.if_icmp .ne 7, 3) := by decide +kernel
theorem dX11_layRuns_85 : decode cX11_layRuns 85 = .ok (.iconst 1, 1) := by decide +kernel
theorem dX11_layRuns_86 : decode cX11_layRuns 86 = .ok (.goto 4, 3) := by decide +kernel
theorem dX11_layRuns_89 : decode cX11_layRuns 89 = .ok (.iconst 0, 1) := by decide +kernel
theorem dX11_layRuns_90 : decode cX11_layRuns 90 = .ok (.istore 8, 2) := by decide +kernel
theorem dX11_layRuns_92 : decode cX11_layRuns 92 = .ok (.iload 7, 2) := by decide +kernel
theorem dX11_layRuns_94 : decode cX11_layRuns 94 = .ok (.ifCond .le 20, 3) := by decide +kernel
theorem dX11_layRuns_97 : decode cX11_layRuns 97 = .ok (.iload 6, 2) := by decide +kernel
theorem dX11_layRuns_99 : decode cX11_layRuns 99 = .ok (.iload 7, 2) := by decide +kernel
theorem dX11_layRuns_101 : decode cX11_layRuns 101 = .ok (.iconst 1, 1) := by decide +kernel
theorem dX11_layRuns_102 : decode cX11_layRuns 102 = .ok (.isub, 1) := by decide +kernel
theorem dX11_layRuns_103 : decode cX11_layRuns 103 = .ok (.ishr, 1) := by decide +kernel
theorem dX11_layRuns_104 : decode cX11_layRuns 104 = .ok (.iconst 1, 1) := by decide +kernel
theorem dX11_layRuns_105 : decode cX11_layRuns 105 = .ok (.iand, 1) := by decide +kernel
theorem dX11_layRuns_106 : decode cX11_layRuns 106 = .ok (.iconst 1, 1) := by decide +kernel
theorem dX11_layRuns_107 : decode cX11_layRuns 107 = .ok (.if_icmp .ne 7, 3) := by decide +kernel
theorem dX11_layRuns_110 : decode cX11_layRuns 110 = .ok (.iconst 1, 1) := by decide +kernel
theorem dX11_layRuns_111 : decode cX11_layRuns 111 = .ok (.goto 4, 3) := by decide +kernel
theorem dX11_layRuns_114 : decode cX11_layRuns 114 = .ok (.iconst 0, 1) := by decide +kernel
theorem dX11_layRuns_115 : decode cX11_layRuns 115 = .ok (.istore 9, 2) := by decide +kernel
theorem dX11_layRuns_117 : decode cX11_layRuns 117 = .ok (.iload 8, 2) := by decide +kernel
theorem dX11_layRuns_119 : decode cX11_layRuns 119 = .ok (.ifCond .eq 44, 3) := by decide +kernel
theorem dX11_layRuns_122 : decode cX11_layRuns 122 = .ok (.iload 9, 2) := by decide +kernel
theorem dX11_layRuns_124 : decode cX11_layRuns 124 = .ok (.ifCond .ne 39, 3) := by decide +kernel
theorem dX11_layRuns_127 : decode cX11_layRuns 127 = .ok (.aload_n 0, 1) := by decide +kernel
theorem dX11_layRuns_128 : decode cX11_layRuns 128 = .ok (.getfield 40, 3) := by decide +kernel
theorem dX11_layRuns_131 : decode cX11_layRuns 131 = .ok (.iconst 3, 1) := by decide +kernel
theorem dX11_layRuns_132 : decode cX11_layRuns 132 = .ok (.iload_n 3, 1) := by decide +kernel
theorem dX11_layRuns_133 : decode cX11_layRuns 133 = .ok (.imul, 1) := by decide +kernel
theorem dX11_layRuns_134 : decode cX11_layRuns 134 = .ok (.iload 5, 2) := by decide +kernel
theorem dX11_layRuns_136 : decode cX11_layRuns 136 = .ok (.iastore, 1) := by decide +kernel
theorem dX11_layRuns_137 : decode cX11_layRuns 137 = .ok (.aload_n 0, 1) := by decide +kernel
theorem dX11_layRuns_138 : decode cX11_layRuns 138 = .ok (.getfield 40, 3) := by decide +kernel
theorem dX11_layRuns_141 : decode cX11_layRuns 141 = .ok (.iconst 3, 1) := by decide +kernel
theorem dX11_layRuns_142 : decode cX11_layRuns 142 = .ok (.iload_n 3, 1) := by decide +kernel
theorem dX11_layRuns_143 : decode cX11_layRuns 143 = .ok (.imul, 1) := by decide +kernel
theorem dX11_layRuns_144 : decode cX11_layRuns 144 = .ok (.iconst 1, 1) := by decide +kernel
theorem dX11_layRuns_145 : decode cX11_layRuns 145 = .ok (.iadd, 1) := by decide +kernel
theorem dX11_layRuns_146 : decode cX11_layRuns 146 = .ok (.iload 7, 2) := by decide +kernel
theorem dX11_layRuns_148 : decode cX11_layRuns 148 = .ok (.iastore, 1) := by decide +kernel
theorem dX11_layRuns_149 : decode cX11_layRuns 149 = .ok (.aload_n 0, 1) := by decide +kernel
theorem dX11_layRuns_150 : decode cX11_layRuns 150 = .ok (.getfield 40, 3) := by decide +kernel
theorem dX11_layRuns_153 : decode cX11_layRuns 153 = .ok (.iconst 3, 1) := by decide +kernel
theorem dX11_layRuns_154 : decode cX11_layRuns 154 = .ok (.iload_n 3, 1) := by decide +kernel
theorem dX11_layRuns_155 : decode cX11_layRuns 155 = .ok (.imul, 1) := by decide +kernel
theorem dX11_layRuns_156 : decode cX11_layRuns 156 = .ok (.iconst 2, 1) := by decide +kernel
theorem dX11_layRuns_157 : decode cX11_layRuns 157 = .ok (.iadd, 1) := by decide +kernel
theorem dX11_layRuns_158 : decode cX11_layRuns 158 = .ok (.iconst 0, 1) := by decide +kernel
theorem dX11_layRuns_159 : decode cX11_layRuns 159 = .ok (.iastore, 1) := by decide +kernel
theorem dX11_layRuns_160 : decode cX11_layRuns 160 = .ok (.iinc 3 1, 3) := by decide +kernel
theorem dX11_layRuns_163 : decode cX11_layRuns 163 = .ok (.iload 8, 2) := by decide +kernel
theorem dX11_layRuns_165 : decode cX11_layRuns 165 = .ok (.ifCond .eq 17, 3) := by decide +kernel
theorem dX11_layRuns_168 : decode cX11_layRuns 168 = .ok (.aload_n 0, 1) := by decide +kernel
theorem dX11_layRuns_169 : decode cX11_layRuns 169 = .ok (.getfield 40, 3) := by decide +kernel
theorem dX11_layRuns_172 : decode cX11_layRuns 172 = .ok (.iconst 3, 1) := by decide +kernel
theorem dX11_layRuns_173 : decode cX11_layRuns 173 = .ok (.iload_n 3, 1) := by decide +kernel
theorem dX11_layRuns_174 : decode cX11_layRuns 174 = .ok (.imul, 1) := by decide +kernel
theorem dX11_layRuns_175 : decode cX11_layRuns 175 = .ok (.iconst 1, 1) := by decide +kernel
theorem dX11_layRuns_176 : decode cX11_layRuns 176 = .ok (.isub, 1) := by decide +kernel
theorem dX11_layRuns_177 : decode cX11_layRuns 177 = .ok (.dup2, 1) := by decide +kernel
theorem dX11_layRuns_178 : decode cX11_layRuns 178 = .ok (.iaload, 1) := by decide +kernel
theorem dX11_layRuns_179 : decode cX11_layRuns 179 = .ok (.iconst 1, 1) := by decide +kernel
theorem dX11_layRuns_180 : decode cX11_layRuns 180 = .ok (.iadd, 1) := by decide +kernel
theorem dX11_layRuns_181 : decode cX11_layRuns 181 = .ok (.iastore, 1) := by decide +kernel
theorem dX11_layRuns_182 : decode cX11_layRuns 182 = .ok (.iinc 7 1, 3) := by decide +kernel
theorem dX11_layRuns_185 : decode cX11_layRuns 185 = .ok (.goto (-118), 3) := by decide +kernel
theorem dX11_layRuns_188 : decode cX11_layRuns 188 = .ok (.iinc 5 1, 3) := by decide +kernel
theorem dX11_layRuns_191 : decode cX11_layRuns 191 = .ok (.goto (-154), 3) := by decide +kernel
theorem dX11_layRuns_194 : decode cX11_layRuns 194 = .ok (.iload_n 3, 1) := by decide +kernel
theorem dX11_layRuns_195 : decode cX11_layRuns 195 = .ok (.ireturn, 1) := by decide +kernel
theorem dX11_runs_0 : decode cX11_runs 0 = .ok (.aload_n 0, 1) := by decide +kernel
theorem dX11_runs_1 : decode cX11_runs 1 = .ok (.iload_n 1, 1) := by decide +kernel
theorem dX11_runs_2 : decode cX11_runs 2 = .ok (.invokevirtual 163, 3) := by decide +kernel
theorem dX11_runs_5 : decode cX11_runs 5 = .ok (.ifCond .ne 5, 3) := by decide +kernel
theorem dX11_runs_8 : decode cX11_runs 8 = .ok (.iconst (-1), 1) := by decide +kernel
theorem dX11_runs_9 : decode cX11_runs 9 = .ok (.ireturn, 1) := by decide +kernel
theorem dX11_runs_10 : decode cX11_runs 10 = .ok (.iload_n 2, 1) := by decide +kernel
theorem dX11_runs_11 : decode cX11_runs 11 = .ok (.invokestatic 200, 3) := by decide +kernel
theorem dX11_runs_14 : decode cX11_runs 14 = .ok (.ifCond .eq 12, 3) := by decide +kernel
theorem dX11_runs_17 : decode cX11_runs 17 = .ok (.aload_n 0, 1) := by decide +kernel
theorem dX11_runs_18 : decode cX11_runs 18 = .ok (.iload_n 1, 1) := by decide +kernel
theorem dX11_runs_19 : decode cX11_runs 19 = .ok (.iload_n 2, 1) := by decide +kernel
theorem dX11_runs_20 : decode cX11_runs 20 = .ok (.invokevirtual 206, 3) := by decide +kernel
theorem dX11_runs_23 : decode cX11_runs 23 = .ok (.goto 5, 3) := by decide +kernel
theorem dX11_runs_26 : decode cX11_runs 26 = .ok (.bipush (-2), 2) := by decide +kernel
theorem dX11_runs_28 : decode cX11_runs 28 = .ok (.ireturn, 1) := by decide +kernel
theorem dX11_run_0 : decode cX11_run 0 = .ok (.aload_n 0, 1) := by decide +kernel
theorem dX11_run_1 : decode cX11_run 1 = .ok (.iload_n 1, 1) := by decide +kernel
theorem dX11_run_2 : decode cX11_run 2 = .ok (.invokevirtual 163, 3) := by decide +kernel
theorem dX11_run_5 : decode cX11_run 5 = .ok (.ifCond .ne 5, 3) := by decide +kernel
theorem dX11_run_8 : decode cX11_run 8 = .ok (.iconst (-1), 1) := by decide +kernel
theorem dX11_run_9 : decode cX11_run 9 = .ok (.ireturn, 1) := by decide +kernel
theorem dX11_run_10 : decode cX11_run 10 = .ok (.iload_n 2, 1) := by decide +kernel
theorem dX11_run_11 : decode cX11_run 11 = .ok (.invokestatic 200, 3) := by decide +kernel
theorem dX11_run_14 : decode cX11_run 14 = .ok (.ifCond .eq 16, 3) := by decide +kernel
theorem dX11_run_17 : decode cX11_run 17 = .ok (.iload 4, 2) := by decide +kernel
theorem dX11_run_19 : decode cX11_run 19 = .ok (.i2l, 1) := by decide +kernel
theorem dX11_run_20 : decode cX11_run 20 = .ok (.lconst 0, 1) := by decide +kernel
theorem dX11_run_21 : decode cX11_run 21 = .ok (.ldc2_w 209, 3) := by decide +kernel
theorem dX11_run_24 : decode cX11_run 24 = .ok (.invokestatic 77, 3) := by decide +kernel
theorem dX11_run_27 : decode cX11_run 27 = .ok (.ifCond .ne 6, 3) := by decide +kernel
theorem dX11_run_30 : decode cX11_run 30 = .ok (.bipush (-2), 2) := by decide +kernel
theorem dX11_run_32 : decode cX11_run 32 = .ok (.ireturn, 1) := by decide +kernel
theorem dX11_run_33 : decode cX11_run 33 = .ok (.iload_n 3, 1) := by decide +kernel
theorem dX11_run_34 : decode cX11_run 34 = .ok (.i2l, 1) := by decide +kernel
theorem dX11_run_35 : decode cX11_run 35 = .ok (.lconst 0, 1) := by decide +kernel
theorem dX11_run_36 : decode cX11_run 36 = .ok (.aload_n 0, 1) := by decide +kernel
theorem dX11_run_37 : decode cX11_run 37 = .ok (.iload_n 1, 1) := by decide +kernel
theorem dX11_run_38 : decode cX11_run 38 = .ok (.iload_n 2, 1) := by decide +kernel
theorem dX11_run_39 : decode cX11_run 39 = .ok (.invokevirtual 206, 3) := by decide +kernel
theorem dX11_run_42 : decode cX11_run 42 = .ok (.iconst 1, 1) := by decide +kernel
theorem dX11_run_43 : decode cX11_run 43 = .ok (.isub, 1) := by decide +kernel
theorem dX11_run_44 : decode cX11_run 44 = .ok (.i2l, 1) := by decide +kernel
theorem dX11_run_45 : decode cX11_run 45 = .ok (.invokestatic 77, 3) := by decide +kernel
theorem dX11_run_48 : decode cX11_run 48 = .ok (.ifCond .eq 17, 3) := by decide +kernel
theorem dX11_run_51 : decode cX11_run 51 = .ok (.aload_n 0, 1) := by decide +kernel
theorem dX11_run_52 : decode cX11_run 52 = .ok (.getfield 40, 3) := by decide +kernel
theorem dX11_run_55 : decode cX11_run 55 = .ok (.iconst 3, 1) := by decide +kernel
theorem dX11_run_56 : decode cX11_run 56 = .ok (.iload_n 3, 1) := by decide +kernel
theorem dX11_run_57 : decode cX11_run 57 = .ok (.imul, 1) := by decide +kernel
theorem dX11_run_58 : decode cX11_run 58 = .ok (.iload 4, 2) := by decide +kernel
theorem dX11_run_60 : decode cX11_run 60 = .ok (.iadd, 1) := by decide +kernel
theorem dX11_run_61 : decode cX11_run 61 = .ok (.iaload, 1) := by decide +kernel
theorem dX11_run_62 : decode cX11_run 62 = .ok (.goto 5, 3) := by decide +kernel
theorem dX11_run_65 : decode cX11_run 65 = .ok (.bipush (-9), 2) := by decide +kernel
theorem dX11_run_67 : decode cX11_run 67 = .ok (.ireturn, 1) := by decide +kernel
theorem dX11_alone_0 : decode cX11_alone 0 = .ok (.iload_n 1, 1) := by decide +kernel
theorem dX11_alone_1 : decode cX11_alone 1 = .ok (.invokestatic 200, 3) := by decide +kernel
theorem dX11_alone_4 : decode cX11_alone 4 = .ok (.ifCond .ne 6, 3) := by decide +kernel
theorem dX11_alone_7 : decode cX11_alone 7 = .ok (.bipush (-2), 2) := by decide +kernel
theorem dX11_alone_9 : decode cX11_alone 9 = .ok (.ireturn, 1) := by decide +kernel
theorem dX11_alone_10 : decode cX11_alone 10 = .ok (.iconst 0, 1) := by decide +kernel
theorem dX11_alone_11 : decode cX11_alone 11 = .ok (.istore_n 2, 1) := by decide +kernel
theorem dX11_alone_12 : decode cX11_alone 12 = .ok (.iconst 0, 1) := by decide +kernel
theorem dX11_alone_13 : decode cX11_alone 13 = .ok (.istore_n 3, 1) := by decide +kernel
theorem dX11_alone_14 : decode cX11_alone 14 = .ok (.iload_n 3, 1) := by decide +kernel
theorem dX11_alone_15 : decode cX11_alone 15 = .ok (.aload_n 0, 1) := by decide +kernel
theorem dX11_alone_16 : decode cX11_alone 16 = .ok (.getfield 71, 3) := by decide +kernel
theorem dX11_alone_19 : decode cX11_alone 19 = .ok (.if_icmp .ge 156, 3) := by decide +kernel
theorem dX11_alone_22 : decode cX11_alone 22 = .ok (.aload_n 0, 1) := by decide +kernel
theorem dX11_alone_23 : decode cX11_alone 23 = .ok (.getfield 22, 3) := by decide +kernel
theorem dX11_alone_26 : decode cX11_alone 26 = .ok (.iconst 3, 1) := by decide +kernel
theorem dX11_alone_27 : decode cX11_alone 27 = .ok (.iload_n 3, 1) := by decide +kernel
theorem dX11_alone_28 : decode cX11_alone 28 = .ok (.imul, 1) := by decide +kernel
theorem dX11_alone_29 : decode cX11_alone 29 = .ok (.iconst 2, 1) := by decide +kernel
theorem dX11_alone_30 : decode cX11_alone 30 = .ok (.iadd, 1) := by decide +kernel
theorem dX11_alone_31 : decode cX11_alone 31 = .ok (.iaload, 1) := by decide +kernel
theorem dX11_alone_32 : decode cX11_alone 32 = .ok (.istore 4, 2) := by decide +kernel
theorem dX11_alone_34 : decode cX11_alone 34 = .ok (.aload_n 0, 1) := by decide +kernel
theorem dX11_alone_35 : decode cX11_alone 35 = .ok (.getfield 22, 3) := by decide +kernel
theorem dX11_alone_38 : decode cX11_alone 38 = .ok (.iconst 3, 1) := by decide +kernel
theorem dX11_alone_39 : decode cX11_alone 39 = .ok (.iload_n 3, 1) := by decide +kernel
theorem dX11_alone_40 : decode cX11_alone 40 = .ok (.imul, 1) := by decide +kernel
theorem dX11_alone_41 : decode cX11_alone 41 = .ok (.iaload, 1) := by decide +kernel
theorem dX11_alone_42 : decode cX11_alone 42 = .ok (.invokestatic 157, 3) := by decide +kernel
theorem dX11_alone_45 : decode cX11_alone 45 = .ok (.aload_n 0, 1) := by decide +kernel
theorem dX11_alone_46 : decode cX11_alone 46 = .ok (.getfield 22, 3) := by decide +kernel
theorem dX11_alone_49 : decode cX11_alone 49 = .ok (.iconst 3, 1) := by decide +kernel
theorem dX11_alone_50 : decode cX11_alone 50 = .ok (.iload_n 3, 1) := by decide +kernel
theorem dX11_alone_51 : decode cX11_alone 51 = .ok (.imul, 1) := by decide +kernel
theorem dX11_alone_52 : decode cX11_alone 52 = .ok (.iconst 1, 1) := by decide +kernel
theorem dX11_alone_53 : decode cX11_alone 53 = .ok (.iadd, 1) := by decide +kernel
theorem dX11_alone_54 : decode cX11_alone 54 = .ok (.iaload, 1) := by decide +kernel
theorem dX11_alone_55 : decode cX11_alone 55 = .ok (.iload_n 1, 1) := by decide +kernel
theorem dX11_alone_56 : decode cX11_alone 56 = .ok (.invokestatic 193, 3) := by decide +kernel
theorem dX11_alone_59 : decode cX11_alone 59 = .ok (.aload_n 0, 1) := by decide +kernel
theorem dX11_alone_60 : decode cX11_alone 60 = .ok (.iload_n 1, 1) := by decide +kernel
theorem dX11_alone_61 : decode cX11_alone 61 = .ok (.iload 4, 2) := by decide +kernel
theorem dX11_alone_63 : decode cX11_alone 63 = .ok (.invokevirtual 197, 3) := by decide +kernel
theorem dX11_alone_66 : decode cX11_alone 66 = .ok (.iand, 1) := by decide +kernel
theorem dX11_alone_67 : decode cX11_alone 67 = .ok (.istore 5, 2) := by decide +kernel
theorem dX11_alone_69 : decode cX11_alone 69 = .ok (.iconst 0, 1) := by decide +kernel
theorem dX11_alone_70 : decode cX11_alone 70 = .ok (.istore 6, 2) := by decide +kernel
theorem dX11_alone_72 : decode cX11_alone 72 = .ok (.iconst 0, 1) := by decide +kernel
theorem dX11_alone_73 : decode cX11_alone 73 = .ok (.istore 7, 2) := by decide +kernel
theorem dX11_alone_75 : decode cX11_alone 75 = .ok (.iload 7, 2) := by decide +kernel
theorem dX11_alone_77 : decode cX11_alone 77 = .ok (.aload_n 0, 1) := by decide +kernel
theorem dX11_alone_78 : decode cX11_alone 78 = .ok (.getfield 71, 3) := by decide +kernel
theorem dX11_alone_81 : decode cX11_alone 81 = .ok (.if_icmp .ge 67, 3) := by decide +kernel
theorem dX11_alone_84 : decode cX11_alone 84 = .ok (.iload 6, 2) := by decide +kernel
theorem dX11_alone_86 : decode cX11_alone 86 = .ok (.iload 7, 2) := by decide +kernel
theorem dX11_alone_88 : decode cX11_alone 88 = .ok (.iload_n 3, 1) := by decide +kernel
theorem dX11_alone_89 : decode cX11_alone 89 = .ok (.if_icmp .eq 49, 3) := by decide +kernel
theorem dX11_alone_92 : decode cX11_alone 92 = .ok (.aload_n 0, 1) := by decide +kernel
theorem dX11_alone_93 : decode cX11_alone 93 = .ok (.getfield 22, 3) := by decide +kernel
theorem dX11_alone_96 : decode cX11_alone 96 = .ok (.iconst 3, 1) := by decide +kernel
theorem dX11_alone_97 : decode cX11_alone 97 = .ok (.iload 7, 2) := by decide +kernel
theorem dX11_alone_99 : decode cX11_alone 99 = .ok (.imul, 1) := by decide +kernel
theorem dX11_alone_100 : decode cX11_alone 100 = .ok (.iconst 2, 1) := by decide +kernel
theorem dX11_alone_101 : decode cX11_alone 101 = .ok (.iadd, 1) := by decide +kernel
theorem dX11_alone_102 : decode cX11_alone 102 = .ok (.iaload, 1) := by decide +kernel
theorem dX11_alone_103 : decode cX11_alone 103 = .ok (.iload 4, 2) := by decide +kernel
theorem dX11_alone_105 : decode cX11_alone 105 = .ok (.if_icmp .ne 33, 3) := by decide +kernel
theorem dX11_alone_108 : decode cX11_alone 108 = .ok (.aload_n 0, 1) := by decide +kernel
theorem dX11_alone_109 : decode cX11_alone 109 = .ok (.getfield 22, 3) := by decide +kernel
theorem dX11_alone_112 : decode cX11_alone 112 = .ok (.iconst 3, 1) := by decide +kernel
theorem dX11_alone_113 : decode cX11_alone 113 = .ok (.iload 7, 2) := by decide +kernel
theorem dX11_alone_115 : decode cX11_alone 115 = .ok (.imul, 1) := by decide +kernel
theorem dX11_alone_116 : decode cX11_alone 116 = .ok (.iaload, 1) := by decide +kernel
theorem dX11_alone_117 : decode cX11_alone 117 = .ok (.invokestatic 157, 3) := by decide +kernel
theorem dX11_alone_120 : decode cX11_alone 120 = .ok (.aload_n 0, 1) := by decide +kernel
theorem dX11_alone_121 : decode cX11_alone 121 = .ok (.getfield 22, 3) := by decide +kernel
theorem dX11_alone_124 : decode cX11_alone 124 = .ok (.iconst 3, 1) := by decide +kernel
theorem dX11_alone_125 : decode cX11_alone 125 = .ok (.iload 7, 2) := by decide +kernel
theorem dX11_alone_127 : decode cX11_alone 127 = .ok (.imul, 1) := by decide +kernel
theorem dX11_alone_128 : decode cX11_alone 128 = .ok (.iconst 1, 1) := by decide +kernel
theorem dX11_alone_129 : decode cX11_alone 129 = .ok (.iadd, 1) := by decide +kernel
theorem dX11_alone_130 : decode cX11_alone 130 = .ok (.iaload, 1) := by decide +kernel
theorem dX11_alone_131 : decode cX11_alone 131 = .ok (.iload_n 1, 1) := by decide +kernel
theorem dX11_alone_132 : decode cX11_alone 132 = .ok (.invokestatic 193, 3) := by decide +kernel
theorem dX11_alone_135 : decode cX11_alone 135 = .ok (.goto 4, 3) := by decide +kernel
theorem dX11_alone_138 : decode cX11_alone 138 = .ok (.iconst 0, 1) := by decide +kernel
theorem dX11_alone_139 : decode cX11_alone 139 = .ok (.ior, 1) := by decide +kernel
theorem dX11_alone_140 : decode cX11_alone 140 = .ok (.istore 6, 2) := by decide +kernel
theorem dX11_alone_142 : decode cX11_alone 142 = .ok (.iinc 7 1, 3) := by decide +kernel
theorem dX11_alone_145 : decode cX11_alone 145 = .ok (.goto (-70), 3) := by decide +kernel
theorem dX11_alone_148 : decode cX11_alone 148 = .ok (.iload_n 2, 1) := by decide +kernel
theorem dX11_alone_149 : decode cX11_alone 149 = .ok (.iload 5, 2) := by decide +kernel
theorem dX11_alone_151 : decode cX11_alone 151 = .ok (.ifCond .eq 15, 3) := by decide +kernel
theorem dX11_alone_154 : decode cX11_alone 154 = .ok (.iload 5, 2) := by decide +kernel
theorem dX11_alone_156 : decode cX11_alone 156 = .ok (.iload 6, 2) := by decide +kernel
theorem dX11_alone_158 : decode cX11_alone 158 = .ok (.iand, 1) := by decide +kernel
theorem dX11_alone_159 : decode cX11_alone 159 = .ok (.ifCond .ne 7, 3) := by decide +kernel
theorem dX11_alone_162 : decode cX11_alone 162 = .ok (.iconst 1, 1) := by decide +kernel
theorem dX11_alone_163 : decode cX11_alone 163 = .ok (.goto 4, 3) := by decide +kernel
theorem dX11_alone_166 : decode cX11_alone 166 = .ok (.iconst 0, 1) := by decide +kernel
theorem dX11_alone_167 : decode cX11_alone 167 = .ok (.iadd, 1) := by decide +kernel
theorem dX11_alone_168 : decode cX11_alone 168 = .ok (.istore_n 2, 1) := by decide +kernel
theorem dX11_alone_169 : decode cX11_alone 169 = .ok (.iinc 3 1, 3) := by decide +kernel
theorem dX11_alone_172 : decode cX11_alone 172 = .ok (.goto (-158), 3) := by decide +kernel
theorem dX11_alone_175 : decode cX11_alone 175 = .ok (.iload_n 2, 1) := by decide +kernel
theorem dX11_alone_176 : decode cX11_alone 176 = .ok (.ireturn, 1) := by decide +kernel
theorem dX11_countedOf_0 : decode cX11_countedOf 0 = .ok (.aload_n 0, 1) := by decide +kernel
theorem dX11_countedOf_1 : decode cX11_countedOf 1 = .ok (.iload_n 1, 1) := by decide +kernel
theorem dX11_countedOf_2 : decode cX11_countedOf 2 = .ok (.iload_n 2, 1) := by decide +kernel
theorem dX11_countedOf_3 : decode cX11_countedOf 3 = .ok (.invokevirtual 206, 3) := by decide +kernel
theorem dX11_countedOf_6 : decode cX11_countedOf 6 = .ok (.istore_n 3, 1) := by decide +kernel
theorem dX11_countedOf_7 : decode cX11_countedOf 7 = .ok (.bipush 6, 2) := by decide +kernel
theorem dX11_countedOf_9 : decode cX11_countedOf 9 = .ok (.iload_n 2, 1) := by decide +kernel
theorem dX11_countedOf_10 : decode cX11_countedOf 10 = .ok (.invokestatic 190, 3) := by decide +kernel
theorem dX11_countedOf_13 : decode cX11_countedOf 13 = .ok (.istore 4, 2) := by decide +kernel
theorem dX11_countedOf_15 : decode cX11_countedOf 15 = .ok (.iconst 0, 1) := by decide +kernel
theorem dX11_countedOf_16 : decode cX11_countedOf 16 = .ok (.istore 5, 2) := by decide +kernel
theorem dX11_countedOf_18 : decode cX11_countedOf 18 = .ok (.iconst 0, 1) := by decide +kernel
theorem dX11_countedOf_19 : decode cX11_countedOf 19 = .ok (.istore 6, 2) := by decide +kernel
theorem dX11_countedOf_21 : decode cX11_countedOf 21 = .ok (.iload 6, 2) := by decide +kernel
theorem dX11_countedOf_23 : decode cX11_countedOf 23 = .ok (.iload_n 3, 1) := by decide +kernel
theorem dX11_countedOf_24 : decode cX11_countedOf 24 = .ok (.if_icmp .ge 61, 3) := by decide +kernel
theorem dX11_countedOf_27 : decode cX11_countedOf 27 = .ok (.aload_n 0, 1) := by decide +kernel
theorem dX11_countedOf_28 : decode cX11_countedOf 28 = .ok (.getfield 40, 3) := by decide +kernel
theorem dX11_countedOf_31 : decode cX11_countedOf 31 = .ok (.iconst 3, 1) := by decide +kernel
theorem dX11_countedOf_32 : decode cX11_countedOf 32 = .ok (.iload 6, 2) := by decide +kernel
theorem dX11_countedOf_34 : decode cX11_countedOf 34 = .ok (.imul, 1) := by decide +kernel
theorem dX11_countedOf_35 : decode cX11_countedOf 35 = .ok (.iconst 2, 1) := by decide +kernel
theorem dX11_countedOf_36 : decode cX11_countedOf 36 = .ok (.iadd, 1) := by decide +kernel
theorem dX11_countedOf_37 : decode cX11_countedOf 37 = .ok (.iaload, 1) := by decide +kernel
theorem dX11_countedOf_38 : decode cX11_countedOf 38 = .ok (.istore 7, 2) := by decide +kernel
theorem dX11_countedOf_40 : decode cX11_countedOf 40 = .ok (.iload 5, 2) := by decide +kernel
theorem dX11_countedOf_42 : decode cX11_countedOf 42 = .ok (.iload 7, 2) := by decide +kernel
theorem dX11_countedOf_44 : decode cX11_countedOf 44 = .ok (.iload 4, 2) := by decide +kernel
theorem dX11_countedOf_46 : decode cX11_countedOf 46 = .ok (.if_icmp .gt 7, 3) := by decide +kernel
theorem dX11_countedOf_49 : decode cX11_countedOf 49 = .ok (.iconst 1, 1) := by decide +kernel
theorem dX11_countedOf_50 : decode cX11_countedOf 50 = .ok (.goto 26, 3) := by decide +kernel
theorem dX11_countedOf_53 : decode cX11_countedOf 53 = .ok (.iload 7, 2) := by decide +kernel
theorem dX11_countedOf_55 : decode cX11_countedOf 55 = .ok (.iload 4, 2) := by decide +kernel
theorem dX11_countedOf_57 : decode cX11_countedOf 57 = .ok (.idiv, 1) := by decide +kernel
theorem dX11_countedOf_58 : decode cX11_countedOf 58 = .ok (.iconst 2, 1) := by decide +kernel
theorem dX11_countedOf_59 : decode cX11_countedOf 59 = .ok (.iload 7, 2) := by decide +kernel
theorem dX11_countedOf_61 : decode cX11_countedOf 61 = .ok (.iload 4, 2) := by decide +kernel
theorem dX11_countedOf_63 : decode cX11_countedOf 63 = .ok (.irem, 1) := by decide +kernel
theorem dX11_countedOf_64 : decode cX11_countedOf 64 = .ok (.imul, 1) := by decide +kernel
theorem dX11_countedOf_65 : decode cX11_countedOf 65 = .ok (.iload 4, 2) := by decide +kernel
theorem dX11_countedOf_67 : decode cX11_countedOf 67 = .ok (.if_icmp .le 7, 3) := by decide +kernel
theorem dX11_countedOf_70 : decode cX11_countedOf 70 = .ok (.iconst 1, 1) := by decide +kernel
theorem dX11_countedOf_71 : decode cX11_countedOf 71 = .ok (.goto 4, 3) := by decide +kernel
theorem dX11_countedOf_74 : decode cX11_countedOf 74 = .ok (.iconst 0, 1) := by decide +kernel
theorem dX11_countedOf_75 : decode cX11_countedOf 75 = .ok (.iadd, 1) := by decide +kernel
theorem dX11_countedOf_76 : decode cX11_countedOf 76 = .ok (.iadd, 1) := by decide +kernel
theorem dX11_countedOf_77 : decode cX11_countedOf 77 = .ok (.istore 5, 2) := by decide +kernel
theorem dX11_countedOf_79 : decode cX11_countedOf 79 = .ok (.iinc 6 1, 3) := by decide +kernel
theorem dX11_countedOf_82 : decode cX11_countedOf 82 = .ok (.goto (-61), 3) := by decide +kernel
theorem dX11_countedOf_85 : decode cX11_countedOf 85 = .ok (.iload 5, 2) := by decide +kernel
theorem dX11_countedOf_87 : decode cX11_countedOf 87 = .ok (.ireturn, 1) := by decide +kernel
theorem dX11_counted_0 : decode cX11_counted 0 = .ok (.aload_n 0, 1) := by decide +kernel
theorem dX11_counted_1 : decode cX11_counted 1 = .ok (.iload_n 1, 1) := by decide +kernel
theorem dX11_counted_2 : decode cX11_counted 2 = .ok (.invokevirtual 163, 3) := by decide +kernel
theorem dX11_counted_5 : decode cX11_counted 5 = .ok (.ifCond .ne 5, 3) := by decide +kernel
theorem dX11_counted_8 : decode cX11_counted 8 = .ok (.iconst (-1), 1) := by decide +kernel
theorem dX11_counted_9 : decode cX11_counted 9 = .ok (.ireturn, 1) := by decide +kernel
theorem dX11_counted_10 : decode cX11_counted 10 = .ok (.iload_n 2, 1) := by decide +kernel
theorem dX11_counted_11 : decode cX11_counted 11 = .ok (.invokestatic 200, 3) := by decide +kernel
theorem dX11_counted_14 : decode cX11_counted 14 = .ok (.ifCond .eq 12, 3) := by decide +kernel
theorem dX11_counted_17 : decode cX11_counted 17 = .ok (.aload_n 0, 1) := by decide +kernel
theorem dX11_counted_18 : decode cX11_counted 18 = .ok (.iload_n 1, 1) := by decide +kernel
theorem dX11_counted_19 : decode cX11_counted 19 = .ok (.iload_n 2, 1) := by decide +kernel
theorem dX11_counted_20 : decode cX11_counted 20 = .ok (.invokevirtual 211, 3) := by decide +kernel
theorem dX11_counted_23 : decode cX11_counted 23 = .ok (.goto 5, 3) := by decide +kernel
theorem dX11_counted_26 : decode cX11_counted 26 = .ok (.bipush (-2), 2) := by decide +kernel
theorem dX11_counted_28 : decode cX11_counted 28 = .ok (.ireturn, 1) := by decide +kernel
theorem dX11_counts_0 : decode cX11_counts 0 = .ok (.iconst 0, 1) := by decide +kernel
theorem dX11_counts_1 : decode cX11_counts 1 = .ok (.istore_n 1, 1) := by decide +kernel
theorem dX11_counts_2 : decode cX11_counts 2 = .ok (.iconst 0, 1) := by decide +kernel
theorem dX11_counts_3 : decode cX11_counts 3 = .ok (.istore_n 2, 1) := by decide +kernel
theorem dX11_counts_4 : decode cX11_counts 4 = .ok (.iload_n 2, 1) := by decide +kernel
theorem dX11_counts_5 : decode cX11_counts 5 = .ok (.aload_n 0, 1) := by decide +kernel
theorem dX11_counts_6 : decode cX11_counts 6 = .ok (.getfield 71, 3) := by decide +kernel
theorem dX11_counts_9 : decode cX11_counts 9 = .ok (.if_icmp .ge 23, 3) := by decide +kernel
theorem dX11_counts_12 : decode cX11_counts 12 = .ok (.iload_n 1, 1) := by decide +kernel
theorem dX11_counts_13 : decode cX11_counts 13 = .ok (.aload_n 0, 1) := by decide +kernel
theorem dX11_counts_14 : decode cX11_counts 14 = .ok (.getfield 22, 3) := by decide +kernel
theorem dX11_counts_17 : decode cX11_counts 17 = .ok (.iconst 3, 1) := by decide +kernel
theorem dX11_counts_18 : decode cX11_counts 18 = .ok (.iload_n 2, 1) := by decide +kernel
theorem dX11_counts_19 : decode cX11_counts 19 = .ok (.imul, 1) := by decide +kernel
theorem dX11_counts_20 : decode cX11_counts 20 = .ok (.iaload, 1) := by decide +kernel
theorem dX11_counts_21 : decode cX11_counts 21 = .ok (.invokestatic 160, 3) := by decide +kernel
theorem dX11_counts_24 : decode cX11_counts 24 = .ok (.iadd, 1) := by decide +kernel
theorem dX11_counts_25 : decode cX11_counts 25 = .ok (.istore_n 1, 1) := by decide +kernel
theorem dX11_counts_26 : decode cX11_counts 26 = .ok (.iinc 2 1, 3) := by decide +kernel
theorem dX11_counts_29 : decode cX11_counts 29 = .ok (.goto (-25), 3) := by decide +kernel
theorem dX11_counts_32 : decode cX11_counts 32 = .ok (.iload_n 1, 1) := by decide +kernel
theorem dX11_counts_33 : decode cX11_counts 33 = .ok (.ireturn, 1) := by decide +kernel
theorem dX11_best_0 : decode cX11_best 0 = .ok (.aload_n 0, 1) := by decide +kernel
theorem dX11_best_1 : decode cX11_best 1 = .ok (.iload_n 1, 1) := by decide +kernel
theorem dX11_best_2 : decode cX11_best 2 = .ok (.invokevirtual 163, 3) := by decide +kernel
theorem dX11_best_5 : decode cX11_best 5 = .ok (.ifCond .ne 5, 3) := by decide +kernel
theorem dX11_best_8 : decode cX11_best 8 = .ok (.iconst (-1), 1) := by decide +kernel
theorem dX11_best_9 : decode cX11_best 9 = .ok (.ireturn, 1) := by decide +kernel
theorem dX11_best_10 : decode cX11_best 10 = .ok (.iconst 0, 1) := by decide +kernel
theorem dX11_best_11 : decode cX11_best 11 = .ok (.istore_n 2, 1) := by decide +kernel
theorem dX11_best_12 : decode cX11_best 12 = .ok (.iconst 1, 1) := by decide +kernel
theorem dX11_best_13 : decode cX11_best 13 = .ok (.istore_n 3, 1) := by decide +kernel
theorem dX11_best_14 : decode cX11_best 14 = .ok (.iload_n 3, 1) := by decide +kernel
theorem dX11_best_15 : decode cX11_best 15 = .ok (.bipush 16, 2) := by decide +kernel
theorem dX11_best_17 : decode cX11_best 17 = .ok (.if_icmp .ge 46, 3) := by decide +kernel
theorem dX11_best_20 : decode cX11_best 20 = .ok (.aload_n 0, 1) := by decide +kernel
theorem dX11_best_21 : decode cX11_best 21 = .ok (.iload_n 1, 1) := by decide +kernel
theorem dX11_best_22 : decode cX11_best 22 = .ok (.iload_n 3, 1) := by decide +kernel
theorem dX11_best_23 : decode cX11_best 23 = .ok (.invokevirtual 211, 3) := by decide +kernel
theorem dX11_best_26 : decode cX11_best 26 = .ok (.aload_n 0, 1) := by decide +kernel
theorem dX11_best_27 : decode cX11_best 27 = .ok (.invokevirtual 214, 3) := by decide +kernel
theorem dX11_best_30 : decode cX11_best 30 = .ok (.isub, 1) := by decide +kernel
theorem dX11_best_31 : decode cX11_best 31 = .ok (.invokestatic 185, 3) := by decide +kernel
theorem dX11_best_34 : decode cX11_best 34 = .ok (.aload_n 0, 1) := by decide +kernel
theorem dX11_best_35 : decode cX11_best 35 = .ok (.iload_n 1, 1) := by decide +kernel
theorem dX11_best_36 : decode cX11_best 36 = .ok (.iload_n 2, 1) := by decide +kernel
theorem dX11_best_37 : decode cX11_best 37 = .ok (.invokevirtual 211, 3) := by decide +kernel
theorem dX11_best_40 : decode cX11_best 40 = .ok (.aload_n 0, 1) := by decide +kernel
theorem dX11_best_41 : decode cX11_best 41 = .ok (.invokevirtual 214, 3) := by decide +kernel
theorem dX11_best_44 : decode cX11_best 44 = .ok (.isub, 1) := by decide +kernel
theorem dX11_best_45 : decode cX11_best 45 = .ok (.invokestatic 185, 3) := by decide +kernel
theorem dX11_best_48 : decode cX11_best 48 = .ok (.if_icmp .ge 7, 3) := by decide +kernel
theorem dX11_best_51 : decode cX11_best 51 = .ok (.iload_n 3, 1) := by decide +kernel
theorem dX11_best_52 : decode cX11_best 52 = .ok (.goto 4, 3) := by decide +kernel
theorem dX11_best_55 : decode cX11_best 55 = .ok (.iload_n 2, 1) := by decide +kernel
theorem dX11_best_56 : decode cX11_best 56 = .ok (.istore_n 2, 1) := by decide +kernel
theorem dX11_best_57 : decode cX11_best 57 = .ok (.iinc 3 1, 3) := by decide +kernel
theorem dX11_best_60 : decode cX11_best 60 = .ok (.goto (-46), 3) := by decide +kernel
theorem dX11_best_63 : decode cX11_best 63 = .ok (.iload_n 2, 1) := by decide +kernel
theorem dX11_best_64 : decode cX11_best 64 = .ok (.ireturn, 1) := by decide +kernel
theorem dX11_isHidden_0 : decode cX11_isHidden 0 = .ok (.aload_n 0, 1) := by decide +kernel
theorem dX11_isHidden_1 : decode cX11_isHidden 1 = .ok (.iload_n 1, 1) := by decide +kernel
theorem dX11_isHidden_2 : decode cX11_isHidden 2 = .ok (.iload_n 3, 1) := by decide +kernel
theorem dX11_isHidden_3 : decode cX11_isHidden 3 = .ok (.invokevirtual 203, 3) := by decide +kernel
theorem dX11_isHidden_6 : decode cX11_isHidden 6 = .ok (.istore 4, 2) := by decide +kernel
theorem dX11_isHidden_8 : decode cX11_isHidden 8 = .ok (.bipush 6, 2) := by decide +kernel
theorem dX11_isHidden_10 : decode cX11_isHidden 10 = .ok (.iload_n 2, 1) := by decide +kernel
theorem dX11_isHidden_11 : decode cX11_isHidden 11 = .ok (.iload_n 1, 1) := by decide +kernel
theorem dX11_isHidden_12 : decode cX11_isHidden 12 = .ok (.invokestatic 193, 3) := by decide +kernel
theorem dX11_isHidden_15 : decode cX11_isHidden 15 = .ok (.aload_n 0, 1) := by decide +kernel
theorem dX11_isHidden_16 : decode cX11_isHidden 16 = .ok (.iload_n 1, 1) := by decide +kernel
theorem dX11_isHidden_17 : decode cX11_isHidden 17 = .ok (.iload_n 3, 1) := by decide +kernel
theorem dX11_isHidden_18 : decode cX11_isHidden 18 = .ok (.invokevirtual 197, 3) := by decide +kernel
theorem dX11_isHidden_21 : decode cX11_isHidden 21 = .ok (.iand, 1) := by decide +kernel
theorem dX11_isHidden_22 : decode cX11_isHidden 22 = .ok (.iload 4, 2) := by decide +kernel
theorem dX11_isHidden_24 : decode cX11_isHidden 24 = .ok (.iconst (-1), 1) := by decide +kernel
theorem dX11_isHidden_25 : decode cX11_isHidden 25 = .ok (.ixor, 1) := by decide +kernel
theorem dX11_isHidden_26 : decode cX11_isHidden 26 = .ok (.iand, 1) := by decide +kernel
theorem dX11_isHidden_27 : decode cX11_isHidden 27 = .ok (.istore 5, 2) := by decide +kernel
theorem dX11_isHidden_29 : decode cX11_isHidden 29 = .ok (.iconst 1, 1) := by decide +kernel
theorem dX11_isHidden_30 : decode cX11_isHidden 30 = .ok (.istore 6, 2) := by decide +kernel
theorem dX11_isHidden_32 : decode cX11_isHidden 32 = .ok (.iconst 0, 1) := by decide +kernel
theorem dX11_isHidden_33 : decode cX11_isHidden 33 = .ok (.istore 7, 2) := by decide +kernel
theorem dX11_isHidden_35 : decode cX11_isHidden 35 = .ok (.iload 7, 2) := by decide +kernel
theorem dX11_isHidden_37 : decode cX11_isHidden 37 = .ok (.aload_n 0, 1) := by decide +kernel
theorem dX11_isHidden_38 : decode cX11_isHidden 38 = .ok (.getfield 141, 3) := by decide +kernel
theorem dX11_isHidden_41 : decode cX11_isHidden 41 = .ok (.if_icmp .ge 94, 3) := by decide +kernel
theorem dX11_isHidden_44 : decode cX11_isHidden 44 = .ok (.iload_n 3, 1) := by decide +kernel
theorem dX11_isHidden_45 : decode cX11_isHidden 45 = .ok (.i2l, 1) := by decide +kernel
theorem dX11_isHidden_46 : decode cX11_isHidden 46 = .ok (.aload_n 0, 1) := by decide +kernel
theorem dX11_isHidden_47 : decode cX11_isHidden 47 = .ok (.getfield 25, 3) := by decide +kernel
theorem dX11_isHidden_50 : decode cX11_isHidden 50 = .ok (.iconst 4, 1) := by decide +kernel
theorem dX11_isHidden_51 : decode cX11_isHidden 51 = .ok (.iload 7, 2) := by decide +kernel
theorem dX11_isHidden_53 : decode cX11_isHidden 53 = .ok (.imul, 1) := by decide +kernel
theorem dX11_isHidden_54 : decode cX11_isHidden 54 = .ok (.iconst 2, 1) := by decide +kernel
theorem dX11_isHidden_55 : decode cX11_isHidden 55 = .ok (.iadd, 1) := by decide +kernel
theorem dX11_isHidden_56 : decode cX11_isHidden 56 = .ok (.iaload, 1) := by decide +kernel
theorem dX11_isHidden_57 : decode cX11_isHidden 57 = .ok (.i2l, 1) := by decide +kernel
theorem dX11_isHidden_58 : decode cX11_isHidden 58 = .ok (.aload_n 0, 1) := by decide +kernel
theorem dX11_isHidden_59 : decode cX11_isHidden 59 = .ok (.getfield 25, 3) := by decide +kernel
theorem dX11_isHidden_62 : decode cX11_isHidden 62 = .ok (.iconst 4, 1) := by decide +kernel
theorem dX11_isHidden_63 : decode cX11_isHidden 63 = .ok (.iload 7, 2) := by decide +kernel
theorem dX11_isHidden_65 : decode cX11_isHidden 65 = .ok (.imul, 1) := by decide +kernel
theorem dX11_isHidden_66 : decode cX11_isHidden 66 = .ok (.iconst 3, 1) := by decide +kernel
theorem dX11_isHidden_67 : decode cX11_isHidden 67 = .ok (.iadd, 1) := by decide +kernel
theorem dX11_isHidden_68 : decode cX11_isHidden 68 = .ok (.iaload, 1) := by decide +kernel
theorem dX11_isHidden_69 : decode cX11_isHidden 69 = .ok (.i2l, 1) := by decide +kernel
theorem dX11_isHidden_70 : decode cX11_isHidden 70 = .ok (.invokestatic 77, 3) := by decide +kernel
theorem dX11_isHidden_73 : decode cX11_isHidden 73 = .ok (.ifCond .eq 36, 3) := by decide +kernel
theorem dX11_isHidden_76 : decode cX11_isHidden 76 = .ok (.iload 5, 2) := by decide +kernel
theorem dX11_isHidden_78 : decode cX11_isHidden 78 = .ok (.aload_n 0, 1) := by decide +kernel
theorem dX11_isHidden_79 : decode cX11_isHidden 79 = .ok (.getfield 25, 3) := by decide +kernel
theorem dX11_isHidden_82 : decode cX11_isHidden 82 = .ok (.iconst 4, 1) := by decide +kernel
theorem dX11_isHidden_83 : decode cX11_isHidden 83 = .ok (.iload 7, 2) := by decide +kernel
theorem dX11_isHidden_85 : decode cX11_isHidden 85 = .ok (.imul, 1) := by decide +kernel
theorem dX11_isHidden_86 : decode cX11_isHidden 86 = .ok (.iaload, 1) := by decide +kernel
theorem dX11_isHidden_87 : decode cX11_isHidden 87 = .ok (.aload_n 0, 1) := by decide +kernel
theorem dX11_isHidden_88 : decode cX11_isHidden 88 = .ok (.getfield 25, 3) := by decide +kernel
theorem dX11_isHidden_91 : decode cX11_isHidden 91 = .ok (.iconst 4, 1) := by decide +kernel
theorem dX11_isHidden_92 : decode cX11_isHidden 92 = .ok (.iload 7, 2) := by decide +kernel
theorem dX11_isHidden_94 : decode cX11_isHidden 94 = .ok (.imul, 1) := by decide +kernel
theorem dX11_isHidden_95 : decode cX11_isHidden 95 = .ok (.iconst 1, 1) := by decide +kernel
theorem dX11_isHidden_96 : decode cX11_isHidden 96 = .ok (.iadd, 1) := by decide +kernel
theorem dX11_isHidden_97 : decode cX11_isHidden 97 = .ok (.iaload, 1) := by decide +kernel
theorem dX11_isHidden_98 : decode cX11_isHidden 98 = .ok (.invokestatic 129, 3) := by decide +kernel
theorem dX11_isHidden_101 : decode cX11_isHidden 101 = .ok (.iand, 1) := by decide +kernel
theorem dX11_isHidden_102 : decode cX11_isHidden 102 = .ok (.ifCond .eq 7, 3) := by decide +kernel
theorem dX11_isHidden_105 : decode cX11_isHidden 105 = .ok (.iconst 1, 1) := by decide +kernel
theorem dX11_isHidden_106 : decode cX11_isHidden 106 = .ok (.goto 4, 3) := by decide +kernel
theorem dX11_isHidden_109 : decode cX11_isHidden 109 = .ok (.iconst 0, 1) := by decide +kernel
theorem dX11_isHidden_110 : decode cX11_isHidden 110 = .ok (.istore 8, 2) := by decide +kernel
theorem dX11_isHidden_112 : decode cX11_isHidden 112 = .ok (.iload 6, 2) := by decide +kernel
theorem dX11_isHidden_114 : decode cX11_isHidden 114 = .ok (.ifCond .eq 12, 3) := by decide +kernel
theorem dX11_isHidden_117 : decode cX11_isHidden 117 = .ok (.iload 8, 2) := by decide +kernel
theorem dX11_isHidden_119 : decode cX11_isHidden 119 = .ok (.ifCond .ne 7, 3) := by decide +kernel
theorem dX11_isHidden_122 : decode cX11_isHidden 122 = .ok (.iconst 1, 1) := by decide +kernel
theorem dX11_isHidden_123 : decode cX11_isHidden 123 = .ok (.goto 4, 3) := by decide +kernel
theorem dX11_isHidden_126 : decode cX11_isHidden 126 = .ok (.iconst 0, 1) := by decide +kernel
theorem dX11_isHidden_127 : decode cX11_isHidden 127 = .ok (.istore 6, 2) := by decide +kernel
theorem dX11_isHidden_129 : decode cX11_isHidden 129 = .ok (.iinc 7 1, 3) := by decide +kernel
theorem dX11_isHidden_132 : decode cX11_isHidden 132 = .ok (.goto (-97), 3) := by decide +kernel
theorem dX11_isHidden_135 : decode cX11_isHidden 135 = .ok (.iload 6, 2) := by decide +kernel
theorem dX11_isHidden_137 : decode cX11_isHidden 137 = .ok (.ireturn, 1) := by decide +kernel
theorem dX11_hide_0 : decode cX11_hide 0 = .ok (.iload_n 1, 1) := by decide +kernel
theorem dX11_hide_1 : decode cX11_hide 1 = .ok (.invokestatic 200, 3) := by decide +kernel
theorem dX11_hide_4 : decode cX11_hide 4 = .ok (.ifCond .ne 6, 3) := by decide +kernel
theorem dX11_hide_7 : decode cX11_hide 7 = .ok (.bipush (-2), 2) := by decide +kernel
theorem dX11_hide_9 : decode cX11_hide 9 = .ok (.ireturn, 1) := by decide +kernel
theorem dX11_hide_10 : decode cX11_hide 10 = .ok (.iconst 0, 1) := by decide +kernel
theorem dX11_hide_11 : decode cX11_hide 11 = .ok (.istore_n 2, 1) := by decide +kernel
theorem dX11_hide_12 : decode cX11_hide 12 = .ok (.iload_n 2, 1) := by decide +kernel
theorem dX11_hide_13 : decode cX11_hide 13 = .ok (.bipush 60, 2) := by decide +kernel
theorem dX11_hide_15 : decode cX11_hide 15 = .ok (.if_icmp .ge 42, 3) := by decide +kernel
theorem dX11_hide_18 : decode cX11_hide 18 = .ok (.aload_n 0, 1) := by decide +kernel
theorem dX11_hide_19 : decode cX11_hide 19 = .ok (.iload_n 2, 1) := by decide +kernel
theorem dX11_hide_20 : decode cX11_hide 20 = .ok (.bipush 10, 2) := by decide +kernel
theorem dX11_hide_22 : decode cX11_hide 22 = .ok (.irem, 1) := by decide +kernel
theorem dX11_hide_23 : decode cX11_hide 23 = .ok (.iload_n 2, 1) := by decide +kernel
theorem dX11_hide_24 : decode cX11_hide 24 = .ok (.bipush 10, 2) := by decide +kernel
theorem dX11_hide_26 : decode cX11_hide 26 = .ok (.idiv, 1) := by decide +kernel
theorem dX11_hide_27 : decode cX11_hide 27 = .ok (.invokevirtual 179, 3) := by decide +kernel
theorem dX11_hide_30 : decode cX11_hide 30 = .ok (.ifCond .ne 21, 3) := by decide +kernel
theorem dX11_hide_33 : decode cX11_hide 33 = .ok (.aload_n 0, 1) := by decide +kernel
theorem dX11_hide_34 : decode cX11_hide 34 = .ok (.iload_n 1, 1) := by decide +kernel
theorem dX11_hide_35 : decode cX11_hide 35 = .ok (.iload_n 2, 1) := by decide +kernel
theorem dX11_hide_36 : decode cX11_hide 36 = .ok (.bipush 10, 2) := by decide +kernel
theorem dX11_hide_38 : decode cX11_hide 38 = .ok (.irem, 1) := by decide +kernel
theorem dX11_hide_39 : decode cX11_hide 39 = .ok (.iload_n 2, 1) := by decide +kernel
theorem dX11_hide_40 : decode cX11_hide 40 = .ok (.bipush 10, 2) := by decide +kernel
theorem dX11_hide_42 : decode cX11_hide 42 = .ok (.idiv, 1) := by decide +kernel
theorem dX11_hide_43 : decode cX11_hide 43 = .ok (.invokevirtual 217, 3) := by decide +kernel
theorem dX11_hide_46 : decode cX11_hide 46 = .ok (.ifCond .eq 5, 3) := by decide +kernel
theorem dX11_hide_49 : decode cX11_hide 49 = .ok (.iload_n 2, 1) := by decide +kernel
theorem dX11_hide_50 : decode cX11_hide 50 = .ok (.ireturn, 1) := by decide +kernel
theorem dX11_hide_51 : decode cX11_hide 51 = .ok (.iinc 2 1, 3) := by decide +kernel
theorem dX11_hide_54 : decode cX11_hide 54 = .ok (.goto (-42), 3) := by decide +kernel
theorem dX11_hide_57 : decode cX11_hide 57 = .ok (.bipush (-9), 2) := by decide +kernel
theorem dX11_hide_59 : decode cX11_hide 59 = .ok (.ireturn, 1) := by decide +kernel
theorem dX11_sight_0 : decode cX11_sight 0 = .ok (.iload_n 1, 1) := by decide +kernel
theorem dX11_sight_1 : decode cX11_sight 1 = .ok (.invokestatic 200, 3) := by decide +kernel
theorem dX11_sight_4 : decode cX11_sight 4 = .ok (.ifCond .eq 15, 3) := by decide +kernel
theorem dX11_sight_7 : decode cX11_sight 7 = .ok (.iload_n 2, 1) := by decide +kernel
theorem dX11_sight_8 : decode cX11_sight 8 = .ok (.i2l, 1) := by decide +kernel
theorem dX11_sight_9 : decode cX11_sight 9 = .ok (.lconst 0, 1) := by decide +kernel
theorem dX11_sight_10 : decode cX11_sight 10 = .ok (.ldc2_w 221, 3) := by decide +kernel
theorem dX11_sight_13 : decode cX11_sight 13 = .ok (.invokestatic 77, 3) := by decide +kernel
theorem dX11_sight_16 : decode cX11_sight 16 = .ok (.ifCond .ne 6, 3) := by decide +kernel
theorem dX11_sight_19 : decode cX11_sight 19 = .ok (.bipush (-2), 2) := by decide +kernel
theorem dX11_sight_21 : decode cX11_sight 21 = .ok (.ireturn, 1) := by decide +kernel
theorem dX11_sight_22 : decode cX11_sight 22 = .ok (.aload_n 0, 1) := by decide +kernel
theorem dX11_sight_23 : decode cX11_sight 23 = .ok (.getfield 223, 3) := by decide +kernel
theorem dX11_sight_26 : decode cX11_sight 26 = .ok (.bipush 6, 2) := by decide +kernel
theorem dX11_sight_28 : decode cX11_sight 28 = .ok (.if_icmp .ne 6, 3) := by decide +kernel
theorem dX11_sight_31 : decode cX11_sight 31 = .ok (.bipush (-4), 2) := by decide +kernel
theorem dX11_sight_33 : decode cX11_sight 33 = .ok (.ireturn, 1) := by decide +kernel
theorem dX11_sight_34 : decode cX11_sight 34 = .ok (.aload_n 0, 1) := by decide +kernel
theorem dX11_sight_35 : decode cX11_sight 35 = .ok (.getfield 43, 3) := by decide +kernel
theorem dX11_sight_38 : decode cX11_sight 38 = .ok (.aload_n 0, 1) := by decide +kernel
theorem dX11_sight_39 : decode cX11_sight 39 = .ok (.getfield 223, 3) := by decide +kernel
theorem dX11_sight_42 : decode cX11_sight 42 = .ok (.iload_n 1, 1) := by decide +kernel
theorem dX11_sight_43 : decode cX11_sight 43 = .ok (.iastore, 1) := by decide +kernel
theorem dX11_sight_44 : decode cX11_sight 44 = .ok (.aload_n 0, 1) := by decide +kernel
theorem dX11_sight_45 : decode cX11_sight 45 = .ok (.getfield 46, 3) := by decide +kernel
theorem dX11_sight_48 : decode cX11_sight 48 = .ok (.aload_n 0, 1) := by decide +kernel
theorem dX11_sight_49 : decode cX11_sight 49 = .ok (.getfield 223, 3) := by decide +kernel
theorem dX11_sight_52 : decode cX11_sight 52 = .ok (.iload_n 2, 1) := by decide +kernel
theorem dX11_sight_53 : decode cX11_sight 53 = .ok (.iastore, 1) := by decide +kernel
theorem dX11_sight_54 : decode cX11_sight 54 = .ok (.aload_n 0, 1) := by decide +kernel
theorem dX11_sight_55 : decode cX11_sight 55 = .ok (.dup, 1) := by decide +kernel
theorem dX11_sight_56 : decode cX11_sight 56 = .ok (.getfield 223, 3) := by decide +kernel
theorem dX11_sight_59 : decode cX11_sight 59 = .ok (.iconst 1, 1) := by decide +kernel
theorem dX11_sight_60 : decode cX11_sight 60 = .ok (.iadd, 1) := by decide +kernel
theorem dX11_sight_61 : decode cX11_sight 61 = .ok (.putfield 223, 3) := by decide +kernel
theorem dX11_sight_64 : decode cX11_sight 64 = .ok (.aload_n 0, 1) := by decide +kernel
theorem dX11_sight_65 : decode cX11_sight 65 = .ok (.getfield 223, 3) := by decide +kernel
theorem dX11_sight_68 : decode cX11_sight 68 = .ok (.ireturn, 1) := by decide +kernel
theorem dX11_unsee_0 : decode cX11_unsee 0 = .ok (.aload_n 0, 1) := by decide +kernel
theorem dX11_unsee_1 : decode cX11_unsee 1 = .ok (.getfield 223, 3) := by decide +kernel
theorem dX11_unsee_4 : decode cX11_unsee 4 = .ok (.istore_n 1, 1) := by decide +kernel
theorem dX11_unsee_5 : decode cX11_unsee 5 = .ok (.aload_n 0, 1) := by decide +kernel
theorem dX11_unsee_6 : decode cX11_unsee 6 = .ok (.iconst 0, 1) := by decide +kernel
theorem dX11_unsee_7 : decode cX11_unsee 7 = .ok (.putfield 223, 3) := by decide +kernel
theorem dX11_unsee_10 : decode cX11_unsee 10 = .ok (.iload_n 1, 1) := by decide +kernel
theorem dX11_unsee_11 : decode cX11_unsee 11 = .ok (.ireturn, 1) := by decide +kernel
theorem dX11_rowDark_0 : decode cX11_rowDark 0 = .ok (.iconst 0, 1) := by decide +kernel
theorem dX11_rowDark_1 : decode cX11_rowDark 1 = .ok (.istore_n 3, 1) := by decide +kernel
theorem dX11_rowDark_2 : decode cX11_rowDark 2 = .ok (.iload_n 1, 1) := by decide +kernel
theorem dX11_rowDark_3 : decode cX11_rowDark 3 = .ok (.istore 4, 2) := by decide +kernel
theorem dX11_rowDark_5 : decode cX11_rowDark 5 = .ok (.iconst 0, 1) := by decide +kernel
theorem dX11_rowDark_6 : decode cX11_rowDark 6 = .ok (.istore 5, 2) := by decide +kernel
theorem dX11_rowDark_8 : decode cX11_rowDark 8 = .ok (.iload 5, 2) := by decide +kernel
theorem dX11_rowDark_10 : decode cX11_rowDark 10 = .ok (.bipush 10, 2) := by decide +kernel
theorem dX11_rowDark_12 : decode cX11_rowDark 12 = .ok (.if_icmp .ge 37, 3) := by decide +kernel
theorem dX11_rowDark_15 : decode cX11_rowDark 15 = .ok (.iload_n 3, 1) := by decide +kernel
theorem dX11_rowDark_16 : decode cX11_rowDark 16 = .ok (.aload_n 0, 1) := by decide +kernel
theorem dX11_rowDark_17 : decode cX11_rowDark 17 = .ok (.getfield 49, 3) := by decide +kernel
theorem dX11_rowDark_20 : decode cX11_rowDark 20 = .ok (.bipush 30, 2) := by decide +kernel
theorem dX11_rowDark_22 : decode cX11_rowDark 22 = .ok (.iload_n 2, 1) := by decide +kernel
theorem dX11_rowDark_23 : decode cX11_rowDark 23 = .ok (.imul, 1) := by decide +kernel
theorem dX11_rowDark_24 : decode cX11_rowDark 24 = .ok (.iconst 3, 1) := by decide +kernel
theorem dX11_rowDark_25 : decode cX11_rowDark 25 = .ok (.iload 5, 2) := by decide +kernel
theorem dX11_rowDark_27 : decode cX11_rowDark 27 = .ok (.imul, 1) := by decide +kernel
theorem dX11_rowDark_28 : decode cX11_rowDark 28 = .ok (.iadd, 1) := by decide +kernel
theorem dX11_rowDark_29 : decode cX11_rowDark 29 = .ok (.iload 4, 2) := by decide +kernel
theorem dX11_rowDark_31 : decode cX11_rowDark 31 = .ok (.iconst 3, 1) := by decide +kernel
theorem dX11_rowDark_32 : decode cX11_rowDark 32 = .ok (.irem, 1) := by decide +kernel
theorem dX11_rowDark_33 : decode cX11_rowDark 33 = .ok (.iadd, 1) := by decide +kernel
theorem dX11_rowDark_34 : decode cX11_rowDark 34 = .ok (.iaload, 1) := by decide +kernel
theorem dX11_rowDark_35 : decode cX11_rowDark 35 = .ok (.ior, 1) := by decide +kernel
theorem dX11_rowDark_36 : decode cX11_rowDark 36 = .ok (.istore_n 3, 1) := by decide +kernel
theorem dX11_rowDark_37 : decode cX11_rowDark 37 = .ok (.iload 4, 2) := by decide +kernel
theorem dX11_rowDark_39 : decode cX11_rowDark 39 = .ok (.iconst 3, 1) := by decide +kernel
theorem dX11_rowDark_40 : decode cX11_rowDark 40 = .ok (.idiv, 1) := by decide +kernel
theorem dX11_rowDark_41 : decode cX11_rowDark 41 = .ok (.istore 4, 2) := by decide +kernel
theorem dX11_rowDark_43 : decode cX11_rowDark 43 = .ok (.iinc 5 1, 3) := by decide +kernel
theorem dX11_rowDark_46 : decode cX11_rowDark 46 = .ok (.goto (-38), 3) := by decide +kernel
theorem dX11_rowDark_49 : decode cX11_rowDark 49 = .ok (.iload_n 3, 1) := by decide +kernel
theorem dX11_rowDark_50 : decode cX11_rowDark 50 = .ok (.ireturn, 1) := by decide +kernel
theorem dX11_isFit_0 : decode cX11_isFit 0 = .ok (.iconst 1, 1) := by decide +kernel
theorem dX11_isFit_1 : decode cX11_isFit 1 = .ok (.istore_n 2, 1) := by decide +kernel
theorem dX11_isFit_2 : decode cX11_isFit 2 = .ok (.iconst 0, 1) := by decide +kernel
theorem dX11_isFit_3 : decode cX11_isFit 3 = .ok (.istore_n 3, 1) := by decide +kernel
theorem dX11_isFit_4 : decode cX11_isFit 4 = .ok (.iload_n 3, 1) := by decide +kernel
theorem dX11_isFit_5 : decode cX11_isFit 5 = .ok (.aload_n 0, 1) := by decide +kernel
theorem dX11_isFit_6 : decode cX11_isFit 6 = .ok (.getfield 223, 3) := by decide +kernel
theorem dX11_isFit_9 : decode cX11_isFit 9 = .ok (.if_icmp .ge 39, 3) := by decide +kernel
theorem dX11_isFit_12 : decode cX11_isFit 12 = .ok (.iload_n 2, 1) := by decide +kernel
theorem dX11_isFit_13 : decode cX11_isFit 13 = .ok (.ifCond .eq 35, 3) := by decide +kernel
theorem dX11_isFit_16 : decode cX11_isFit 16 = .ok (.aload_n 0, 1) := by decide +kernel
theorem dX11_isFit_17 : decode cX11_isFit 17 = .ok (.iload_n 1, 1) := by decide +kernel
theorem dX11_isFit_18 : decode cX11_isFit 18 = .ok (.aload_n 0, 1) := by decide +kernel
theorem dX11_isFit_19 : decode cX11_isFit 19 = .ok (.getfield 43, 3) := by decide +kernel
theorem dX11_isFit_22 : decode cX11_isFit 22 = .ok (.iload_n 3, 1) := by decide +kernel
theorem dX11_isFit_23 : decode cX11_isFit 23 = .ok (.iaload, 1) := by decide +kernel
theorem dX11_isFit_24 : decode cX11_isFit 24 = .ok (.invokevirtual 226, 3) := by decide +kernel
theorem dX11_isFit_27 : decode cX11_isFit 27 = .ok (.aload_n 0, 1) := by decide +kernel
theorem dX11_isFit_28 : decode cX11_isFit 28 = .ok (.getfield 46, 3) := by decide +kernel
theorem dX11_isFit_31 : decode cX11_isFit 31 = .ok (.iload_n 3, 1) := by decide +kernel
theorem dX11_isFit_32 : decode cX11_isFit 32 = .ok (.iaload, 1) := by decide +kernel
theorem dX11_isFit_33 : decode cX11_isFit 33 = .ok (.if_icmp .ne 7, 3) := by decide +kernel
theorem dX11_isFit_36 : decode cX11_isFit 36 = .ok (.iconst 1, 1) := by decide +kernel
theorem dX11_isFit_37 : decode cX11_isFit 37 = .ok (.goto 4, 3) := by decide +kernel
theorem dX11_isFit_40 : decode cX11_isFit 40 = .ok (.iconst 0, 1) := by decide +kernel
theorem dX11_isFit_41 : decode cX11_isFit 41 = .ok (.istore_n 2, 1) := by decide +kernel
theorem dX11_isFit_42 : decode cX11_isFit 42 = .ok (.iinc 3 1, 3) := by decide +kernel
theorem dX11_isFit_45 : decode cX11_isFit 45 = .ok (.goto (-41), 3) := by decide +kernel
theorem dX11_isFit_48 : decode cX11_isFit 48 = .ok (.iload_n 2, 1) := by decide +kernel
theorem dX11_isFit_49 : decode cX11_isFit 49 = .ok (.ireturn, 1) := by decide +kernel
theorem dX11_layFits_0 : decode cX11_layFits 0 = .ok (.iconst 0, 1) := by decide +kernel
theorem dX11_layFits_1 : decode cX11_layFits 1 = .ok (.istore_n 2, 1) := by decide +kernel
theorem dX11_layFits_2 : decode cX11_layFits 2 = .ok (.iload_n 2, 1) := by decide +kernel
theorem dX11_layFits_3 : decode cX11_layFits 3 = .ok (.sipush 480, 3) := by decide +kernel
theorem dX11_layFits_6 : decode cX11_layFits 6 = .ok (.if_icmp .ge 51, 3) := by decide +kernel
theorem dX11_layFits_9 : decode cX11_layFits 9 = .ok (.aload_n 0, 1) := by decide +kernel
theorem dX11_layFits_10 : decode cX11_layFits 10 = .ok (.getfield 49, 3) := by decide +kernel
theorem dX11_layFits_13 : decode cX11_layFits 13 = .ok (.iload_n 2, 1) := by decide +kernel
theorem dX11_layFits_14 : decode cX11_layFits 14 = .ok (.iload_n 2, 1) := by decide +kernel
theorem dX11_layFits_15 : decode cX11_layFits 15 = .ok (.iconst 3, 1) := by decide +kernel
theorem dX11_layFits_16 : decode cX11_layFits 16 = .ok (.irem, 1) := by decide +kernel
theorem dX11_layFits_17 : decode cX11_layFits 17 = .ok (.ifCond .ne 7, 3) := by decide +kernel
theorem dX11_layFits_20 : decode cX11_layFits 20 = .ok (.iconst 0, 1) := by decide +kernel
theorem dX11_layFits_21 : decode cX11_layFits 21 = .ok (.goto 29, 3) := by decide +kernel
theorem dX11_layFits_24 : decode cX11_layFits 24 = .ok (.iload_n 2, 1) := by decide +kernel
theorem dX11_layFits_25 : decode cX11_layFits 25 = .ok (.iconst 3, 1) := by decide +kernel
theorem dX11_layFits_26 : decode cX11_layFits 26 = .ok (.irem, 1) := by decide +kernel
theorem dX11_layFits_27 : decode cX11_layFits 27 = .ok (.iconst 1, 1) := by decide +kernel
theorem dX11_layFits_28 : decode cX11_layFits 28 = .ok (.if_icmp .ne 7, 3) := by decide +kernel
theorem dX11_layFits_31 : decode cX11_layFits 31 = .ok (.iconst 3, 1) := by decide +kernel
theorem dX11_layFits_32 : decode cX11_layFits 32 = .ok (.goto 5, 3) := by decide +kernel
theorem dX11_layFits_35 : decode cX11_layFits 35 = .ok (.bipush 6, 2) := by decide +kernel
theorem dX11_layFits_37 : decode cX11_layFits 37 = .ok (.iload_n 2, 1) := by decide +kernel
theorem dX11_layFits_38 : decode cX11_layFits 38 = .ok (.iconst 3, 1) := by decide +kernel
theorem dX11_layFits_39 : decode cX11_layFits 39 = .ok (.idiv, 1) := by decide +kernel
theorem dX11_layFits_40 : decode cX11_layFits 40 = .ok (.bipush 10, 2) := by decide +kernel
theorem dX11_layFits_42 : decode cX11_layFits 42 = .ok (.irem, 1) := by decide +kernel
theorem dX11_layFits_43 : decode cX11_layFits 43 = .ok (.iload_n 2, 1) := by decide +kernel
theorem dX11_layFits_44 : decode cX11_layFits 44 = .ok (.bipush 30, 2) := by decide +kernel
theorem dX11_layFits_46 : decode cX11_layFits 46 = .ok (.idiv, 1) := by decide +kernel
theorem dX11_layFits_47 : decode cX11_layFits 47 = .ok (.invokestatic 193, 3) := by decide +kernel
theorem dX11_layFits_50 : decode cX11_layFits 50 = .ok (.iastore, 1) := by decide +kernel
theorem dX11_layFits_51 : decode cX11_layFits 51 = .ok (.iinc 2 1, 3) := by decide +kernel
theorem dX11_layFits_54 : decode cX11_layFits 54 = .ok (.goto (-52), 3) := by decide +kernel
theorem dX11_layFits_57 : decode cX11_layFits 57 = .ok (.aload_n 0, 1) := by decide +kernel
theorem dX11_layFits_58 : decode cX11_layFits 58 = .ok (.iconst 0, 1) := by decide +kernel
theorem dX11_layFits_59 : decode cX11_layFits 59 = .ok (.putfield 229, 3) := by decide +kernel
theorem dX11_layFits_62 : decode cX11_layFits 62 = .ok (.aload_n 0, 1) := by decide +kernel
theorem dX11_layFits_63 : decode cX11_layFits 63 = .ok (.bipush 99, 2) := by decide +kernel
theorem dX11_layFits_65 : decode cX11_layFits 65 = .ok (.putfield 232, 3) := by decide +kernel
theorem dX11_layFits_68 : decode cX11_layFits 68 = .ok (.aload_n 0, 1) := by decide +kernel
theorem dX11_layFits_69 : decode cX11_layFits 69 = .ok (.bipush (-9), 2) := by decide +kernel
theorem dX11_layFits_71 : decode cX11_layFits 71 = .ok (.putfield 235, 3) := by decide +kernel
theorem dX11_layFits_74 : decode cX11_layFits 74 = .ok (.aload_n 0, 1) := by decide +kernel
theorem dX11_layFits_75 : decode cX11_layFits 75 = .ok (.sipush 1023, 3) := by decide +kernel
theorem dX11_layFits_78 : decode cX11_layFits 78 = .ok (.putfield 238, 3) := by decide +kernel
theorem dX11_layFits_81 : decode cX11_layFits 81 = .ok (.iconst 0, 1) := by decide +kernel
theorem dX11_layFits_82 : decode cX11_layFits 82 = .ok (.istore_n 2, 1) := by decide +kernel
theorem dX11_layFits_83 : decode cX11_layFits 83 = .ok (.iload_n 2, 1) := by decide +kernel
theorem dX11_layFits_84 : decode cX11_layFits 84 = .ok (.sipush 16384, 3) := by decide +kernel
theorem dX11_layFits_87 : decode cX11_layFits 87 = .ok (.if_icmp .ge 20, 3) := by decide +kernel
theorem dX11_layFits_90 : decode cX11_layFits 90 = .ok (.iload_n 1, 1) := by decide +kernel
theorem dX11_layFits_91 : decode cX11_layFits 91 = .ok (.ifCond .eq 16, 3) := by decide +kernel
theorem dX11_layFits_94 : decode cX11_layFits 94 = .ok (.aload_n 0, 1) := by decide +kernel
theorem dX11_layFits_95 : decode cX11_layFits 95 = .ok (.getfield 52, 3) := by decide +kernel
theorem dX11_layFits_98 : decode cX11_layFits 98 = .ok (.iload_n 2, 1) := by decide +kernel
theorem dX11_layFits_99 : decode cX11_layFits 99 = .ok (.iconst 0, 1) := by decide +kernel
theorem dX11_layFits_100 : decode cX11_layFits 100 = .ok (.bastore, 1) := by decide +kernel
theorem dX11_layFits_101 : decode cX11_layFits 101 = .ok (.iinc 2 1, 3) := by decide +kernel
theorem dX11_layFits_104 : decode cX11_layFits 104 = .ok (.goto (-21), 3) := by decide +kernel
theorem dX11_layFits_107 : decode cX11_layFits 107 = .ok (.iconst 0, 1) := by decide +kernel
theorem dX11_layFits_108 : decode cX11_layFits 108 = .ok (.istore_n 2, 1) := by decide +kernel
theorem dX11_layFits_109 : decode cX11_layFits 109 = .ok (.iload_n 2, 1) := by decide +kernel
theorem dX11_layFits_110 : decode cX11_layFits 110 = .ok (.ldc 241, 2) := by decide +kernel
theorem dX11_layFits_112 : decode cX11_layFits 112 = .ok (.if_icmp .ge 68, 3) := by decide +kernel
theorem dX11_layFits_115 : decode cX11_layFits 115 = .ok (.aload_n 0, 1) := by decide +kernel
theorem dX11_layFits_116 : decode cX11_layFits 116 = .ok (.iload_n 2, 1) := by decide +kernel
theorem dX11_layFits_117 : decode cX11_layFits 117 = .ok (.invokevirtual 242, 3) := by decide +kernel
theorem dX11_layFits_120 : decode cX11_layFits 120 = .ok (.ifCond .eq 54, 3) := by decide +kernel
theorem dX11_layFits_123 : decode cX11_layFits 123 = .ok (.aload_n 0, 1) := by decide +kernel
theorem dX11_layFits_124 : decode cX11_layFits 124 = .ok (.dup, 1) := by decide +kernel
theorem dX11_layFits_125 : decode cX11_layFits 125 = .ok (.getfield 229, 3) := by decide +kernel
theorem dX11_layFits_128 : decode cX11_layFits 128 = .ok (.iconst 1, 1) := by decide +kernel
theorem dX11_layFits_129 : decode cX11_layFits 129 = .ok (.iadd, 1) := by decide +kernel
theorem dX11_layFits_130 : decode cX11_layFits 130 = .ok (.putfield 229, 3) := by decide +kernel
theorem dX11_layFits_133 : decode cX11_layFits 133 = .ok (.aload_n 0, 1) := by decide +kernel
theorem dX11_layFits_134 : decode cX11_layFits 134 = .ok (.iload_n 2, 1) := by decide +kernel
theorem dX11_layFits_135 : decode cX11_layFits 135 = .ok (.invokevirtual 245, 3) := by decide +kernel
theorem dX11_layFits_138 : decode cX11_layFits 138 = .ok (.iconst 0, 1) := by decide +kernel
theorem dX11_layFits_139 : decode cX11_layFits 139 = .ok (.istore_n 3, 1) := by decide +kernel
theorem dX11_layFits_140 : decode cX11_layFits 140 = .ok (.iload_n 3, 1) := by decide +kernel
theorem dX11_layFits_141 : decode cX11_layFits 141 = .ok (.bipush 16, 2) := by decide +kernel
theorem dX11_layFits_143 : decode cX11_layFits 143 = .ok (.if_icmp .ge 31, 3) := by decide +kernel
theorem dX11_layFits_146 : decode cX11_layFits 146 = .ok (.iload_n 1, 1) := by decide +kernel
theorem dX11_layFits_147 : decode cX11_layFits 147 = .ok (.ifCond .eq 27, 3) := by decide +kernel
theorem dX11_layFits_150 : decode cX11_layFits 150 = .ok (.aload_n 0, 1) := by decide +kernel
theorem dX11_layFits_151 : decode cX11_layFits 151 = .ok (.getfield 52, 3) := by decide +kernel
theorem dX11_layFits_154 : decode cX11_layFits 154 = .ok (.sipush 1024, 3) := by decide +kernel
theorem dX11_layFits_157 : decode cX11_layFits 157 = .ok (.iload_n 3, 1) := by decide +kernel
theorem dX11_layFits_158 : decode cX11_layFits 158 = .ok (.imul, 1) := by decide +kernel
theorem dX11_layFits_159 : decode cX11_layFits 159 = .ok (.aload_n 0, 1) := by decide +kernel
theorem dX11_layFits_160 : decode cX11_layFits 160 = .ok (.iload_n 2, 1) := by decide +kernel
theorem dX11_layFits_161 : decode cX11_layFits 161 = .ok (.iload_n 3, 1) := by decide +kernel
theorem dX11_layFits_162 : decode cX11_layFits 162 = .ok (.invokevirtual 226, 3) := by decide +kernel
theorem dX11_layFits_165 : decode cX11_layFits 165 = .ok (.iadd, 1) := by decide +kernel
theorem dX11_layFits_166 : decode cX11_layFits 166 = .ok (.iconst 1, 1) := by decide +kernel
theorem dX11_layFits_167 : decode cX11_layFits 167 = .ok (.bastore, 1) := by decide +kernel
theorem dX11_layFits_168 : decode cX11_layFits 168 = .ok (.iinc 3 1, 3) := by decide +kernel
theorem dX11_layFits_171 : decode cX11_layFits 171 = .ok (.goto (-31), 3) := by decide +kernel
theorem dX11_layFits_174 : decode cX11_layFits 174 = .ok (.iinc 2 1, 3) := by decide +kernel
theorem dX11_layFits_177 : decode cX11_layFits 177 = .ok (.goto (-68), 3) := by decide +kernel
theorem dX11_layFits_180 : decode cX11_layFits 180 = .ok (.return_, 1) := by decide +kernel
theorem dX11_layFit_0 : decode cX11_layFit 0 = .ok (.iconst 0, 1) := by decide +kernel
theorem dX11_layFit_1 : decode cX11_layFit 1 = .ok (.istore_n 2, 1) := by decide +kernel
theorem dX11_layFit_2 : decode cX11_layFit 2 = .ok (.iconst 0, 1) := by decide +kernel
theorem dX11_layFit_3 : decode cX11_layFit 3 = .ok (.istore_n 3, 1) := by decide +kernel
theorem dX11_layFit_4 : decode cX11_layFit 4 = .ok (.iload_n 1, 1) := by decide +kernel
theorem dX11_layFit_5 : decode cX11_layFit 5 = .ok (.istore 4, 2) := by decide +kernel
theorem dX11_layFit_7 : decode cX11_layFit 7 = .ok (.iconst 0, 1) := by decide +kernel
theorem dX11_layFit_8 : decode cX11_layFit 8 = .ok (.istore 5, 2) := by decide +kernel
theorem dX11_layFit_10 : decode cX11_layFit 10 = .ok (.iload 5, 2) := by decide +kernel
theorem dX11_layFit_12 : decode cX11_layFit 12 = .ok (.bipush 10, 2) := by decide +kernel
theorem dX11_layFit_14 : decode cX11_layFit 14 = .ok (.if_icmp .ge 48, 3) := by decide +kernel
theorem dX11_layFit_17 : decode cX11_layFit 17 = .ok (.iload_n 2, 1) := by decide +kernel
theorem dX11_layFit_18 : decode cX11_layFit 18 = .ok (.iload 4, 2) := by decide +kernel
theorem dX11_layFit_20 : decode cX11_layFit 20 = .ok (.iconst 3, 1) := by decide +kernel
theorem dX11_layFit_21 : decode cX11_layFit 21 = .ok (.irem, 1) := by decide +kernel
theorem dX11_layFit_22 : decode cX11_layFit 22 = .ok (.ifCond .le 7, 3) := by decide +kernel
theorem dX11_layFit_25 : decode cX11_layFit 25 = .ok (.iconst 1, 1) := by decide +kernel
theorem dX11_layFit_26 : decode cX11_layFit 26 = .ok (.goto 4, 3) := by decide +kernel
theorem dX11_layFit_29 : decode cX11_layFit 29 = .ok (.iconst 0, 1) := by decide +kernel
theorem dX11_layFit_30 : decode cX11_layFit 30 = .ok (.iadd, 1) := by decide +kernel
theorem dX11_layFit_31 : decode cX11_layFit 31 = .ok (.istore_n 2, 1) := by decide +kernel
theorem dX11_layFit_32 : decode cX11_layFit 32 = .ok (.iload_n 3, 1) := by decide +kernel
theorem dX11_layFit_33 : decode cX11_layFit 33 = .ok (.iload 4, 2) := by decide +kernel
theorem dX11_layFit_35 : decode cX11_layFit 35 = .ok (.iconst 3, 1) := by decide +kernel
theorem dX11_layFit_36 : decode cX11_layFit 36 = .ok (.irem, 1) := by decide +kernel
theorem dX11_layFit_37 : decode cX11_layFit 37 = .ok (.ifCond .le 10, 3) := by decide +kernel
theorem dX11_layFit_40 : decode cX11_layFit 40 = .ok (.iconst 1, 1) := by decide +kernel
theorem dX11_layFit_41 : decode cX11_layFit 41 = .ok (.iload 5, 2) := by decide +kernel
theorem dX11_layFit_43 : decode cX11_layFit 43 = .ok (.ishl, 1) := by decide +kernel
theorem dX11_layFit_44 : decode cX11_layFit 44 = .ok (.goto 4, 3) := by decide +kernel
theorem dX11_layFit_47 : decode cX11_layFit 47 = .ok (.iconst 0, 1) := by decide +kernel
theorem dX11_layFit_48 : decode cX11_layFit 48 = .ok (.ior, 1) := by decide +kernel
theorem dX11_layFit_49 : decode cX11_layFit 49 = .ok (.istore_n 3, 1) := by decide +kernel
theorem dX11_layFit_50 : decode cX11_layFit 50 = .ok (.iload 4, 2) := by decide +kernel
theorem dX11_layFit_52 : decode cX11_layFit 52 = .ok (.iconst 3, 1) := by decide +kernel
theorem dX11_layFit_53 : decode cX11_layFit 53 = .ok (.idiv, 1) := by decide +kernel
theorem dX11_layFit_54 : decode cX11_layFit 54 = .ok (.istore 4, 2) := by decide +kernel
theorem dX11_layFit_56 : decode cX11_layFit 56 = .ok (.iinc 5 1, 3) := by decide +kernel
theorem dX11_layFit_59 : decode cX11_layFit 59 = .ok (.goto (-49), 3) := by decide +kernel
theorem dX11_layFit_62 : decode cX11_layFit 62 = .ok (.aload_n 0, 1) := by decide +kernel
theorem dX11_layFit_63 : decode cX11_layFit 63 = .ok (.iload_n 2, 1) := by decide +kernel
theorem dX11_layFit_64 : decode cX11_layFit 64 = .ok (.aload_n 0, 1) := by decide +kernel
theorem dX11_layFit_65 : decode cX11_layFit 65 = .ok (.getfield 232, 3) := by decide +kernel
theorem dX11_layFit_68 : decode cX11_layFit 68 = .ok (.if_icmp .ge 7, 3) := by decide +kernel
theorem dX11_layFit_71 : decode cX11_layFit 71 = .ok (.iload_n 2, 1) := by decide +kernel
theorem dX11_layFit_72 : decode cX11_layFit 72 = .ok (.goto 7, 3) := by decide +kernel
theorem dX11_layFit_75 : decode cX11_layFit 75 = .ok (.aload_n 0, 1) := by decide +kernel
theorem dX11_layFit_76 : decode cX11_layFit 76 = .ok (.getfield 232, 3) := by decide +kernel
theorem dX11_layFit_79 : decode cX11_layFit 79 = .ok (.putfield 232, 3) := by decide +kernel
theorem dX11_layFit_82 : decode cX11_layFit 82 = .ok (.aload_n 0, 1) := by decide +kernel
theorem dX11_layFit_83 : decode cX11_layFit 83 = .ok (.iload_n 2, 1) := by decide +kernel
theorem dX11_layFit_84 : decode cX11_layFit 84 = .ok (.aload_n 0, 1) := by decide +kernel
theorem dX11_layFit_85 : decode cX11_layFit 85 = .ok (.getfield 235, 3) := by decide +kernel
theorem dX11_layFit_88 : decode cX11_layFit 88 = .ok (.if_icmp .le 7, 3) := by decide +kernel
theorem dX11_layFit_91 : decode cX11_layFit 91 = .ok (.iload_n 2, 1) := by decide +kernel
theorem dX11_layFit_92 : decode cX11_layFit 92 = .ok (.goto 7, 3) := by decide +kernel
theorem dX11_layFit_95 : decode cX11_layFit 95 = .ok (.aload_n 0, 1) := by decide +kernel
theorem dX11_layFit_96 : decode cX11_layFit 96 = .ok (.getfield 235, 3) := by decide +kernel
theorem dX11_layFit_99 : decode cX11_layFit 99 = .ok (.putfield 235, 3) := by decide +kernel
theorem dX11_layFit_102 : decode cX11_layFit 102 = .ok (.aload_n 0, 1) := by decide +kernel
theorem dX11_layFit_103 : decode cX11_layFit 103 = .ok (.dup, 1) := by decide +kernel
theorem dX11_layFit_104 : decode cX11_layFit 104 = .ok (.getfield 238, 3) := by decide +kernel
theorem dX11_layFit_107 : decode cX11_layFit 107 = .ok (.iload_n 3, 1) := by decide +kernel
theorem dX11_layFit_108 : decode cX11_layFit 108 = .ok (.iand, 1) := by decide +kernel
theorem dX11_layFit_109 : decode cX11_layFit 109 = .ok (.putfield 238, 3) := by decide +kernel
theorem dX11_layFit_112 : decode cX11_layFit 112 = .ok (.return_, 1) := by decide +kernel
theorem dX11_fits_0 : decode cX11_fits 0 = .ok (.aload_n 0, 1) := by decide +kernel
theorem dX11_fits_1 : decode cX11_fits 1 = .ok (.iconst 0, 1) := by decide +kernel
theorem dX11_fits_2 : decode cX11_fits 2 = .ok (.invokevirtual 248, 3) := by decide +kernel
theorem dX11_fits_5 : decode cX11_fits 5 = .ok (.aload_n 0, 1) := by decide +kernel
theorem dX11_fits_6 : decode cX11_fits 6 = .ok (.getfield 229, 3) := by decide +kernel
theorem dX11_fits_9 : decode cX11_fits 9 = .ok (.ireturn, 1) := by decide +kernel
theorem dX11_people_0 : decode cX11_people 0 = .ok (.aload_n 0, 1) := by decide +kernel
theorem dX11_people_1 : decode cX11_people 1 = .ok (.iconst 0, 1) := by decide +kernel
theorem dX11_people_2 : decode cX11_people 2 = .ok (.invokevirtual 248, 3) := by decide +kernel
theorem dX11_people_5 : decode cX11_people 5 = .ok (.aload_n 0, 1) := by decide +kernel
theorem dX11_people_6 : decode cX11_people 6 = .ok (.getfield 229, 3) := by decide +kernel
theorem dX11_people_9 : decode cX11_people 9 = .ok (.ifCond .ne 8, 3) := by decide +kernel
theorem dX11_people_12 : decode cX11_people 12 = .ok (.bipush (-9), 2) := by decide +kernel
theorem dX11_people_14 : decode cX11_people 14 = .ok (.goto 18, 3) := by decide +kernel
theorem dX11_people_17 : decode cX11_people 17 = .ok (.iload_n 1, 1) := by decide +kernel
theorem dX11_people_18 : decode cX11_people 18 = .ok (.ifCond .eq 10, 3) := by decide +kernel
theorem dX11_people_21 : decode cX11_people 21 = .ok (.aload_n 0, 1) := by decide +kernel
theorem dX11_people_22 : decode cX11_people 22 = .ok (.getfield 235, 3) := by decide +kernel
theorem dX11_people_25 : decode cX11_people 25 = .ok (.goto 7, 3) := by decide +kernel
theorem dX11_people_28 : decode cX11_people 28 = .ok (.aload_n 0, 1) := by decide +kernel
theorem dX11_people_29 : decode cX11_people 29 = .ok (.getfield 232, 3) := by decide +kernel
theorem dX11_people_32 : decode cX11_people 32 = .ok (.ireturn, 1) := by decide +kernel
theorem dX11_sure_0 : decode cX11_sure 0 = .ok (.aload_n 0, 1) := by decide +kernel
theorem dX11_sure_1 : decode cX11_sure 1 = .ok (.iconst 0, 1) := by decide +kernel
theorem dX11_sure_2 : decode cX11_sure 2 = .ok (.invokevirtual 248, 3) := by decide +kernel
theorem dX11_sure_5 : decode cX11_sure 5 = .ok (.aload_n 0, 1) := by decide +kernel
theorem dX11_sure_6 : decode cX11_sure 6 = .ok (.getfield 229, 3) := by decide +kernel
theorem dX11_sure_9 : decode cX11_sure 9 = .ok (.ifCond .ne 8, 3) := by decide +kernel
theorem dX11_sure_12 : decode cX11_sure 12 = .ok (.bipush (-9), 2) := by decide +kernel
theorem dX11_sure_14 : decode cX11_sure 14 = .ok (.goto 7, 3) := by decide +kernel
theorem dX11_sure_17 : decode cX11_sure 17 = .ok (.aload_n 0, 1) := by decide +kernel
theorem dX11_sure_18 : decode cX11_sure 18 = .ok (.getfield 238, 3) := by decide +kernel
theorem dX11_sure_21 : decode cX11_sure 21 = .ok (.ireturn, 1) := by decide +kernel
theorem dX11_next_0 : decode cX11_next 0 = .ok (.aload_n 0, 1) := by decide +kernel
theorem dX11_next_1 : decode cX11_next 1 = .ok (.iconst 1, 1) := by decide +kernel
theorem dX11_next_2 : decode cX11_next 2 = .ok (.invokevirtual 248, 3) := by decide +kernel
theorem dX11_next_5 : decode cX11_next 5 = .ok (.bipush (-9), 2) := by decide +kernel
theorem dX11_next_7 : decode cX11_next 7 = .ok (.istore_n 1, 1) := by decide +kernel
theorem dX11_next_8 : decode cX11_next 8 = .ok (.iconst 0, 1) := by decide +kernel
theorem dX11_next_9 : decode cX11_next 9 = .ok (.istore_n 2, 1) := by decide +kernel
theorem dX11_next_10 : decode cX11_next 10 = .ok (.iconst 0, 1) := by decide +kernel
theorem dX11_next_11 : decode cX11_next 11 = .ok (.istore_n 3, 1) := by decide +kernel
theorem dX11_next_12 : decode cX11_next 12 = .ok (.iload_n 3, 1) := by decide +kernel
theorem dX11_next_13 : decode cX11_next 13 = .ok (.bipush 16, 2) := by decide +kernel
theorem dX11_next_15 : decode cX11_next 15 = .ok (.if_icmp .ge 80, 3) := by decide +kernel
theorem dX11_next_18 : decode cX11_next 18 = .ok (.iconst 0, 1) := by decide +kernel
theorem dX11_next_19 : decode cX11_next 19 = .ok (.istore 4, 2) := by decide +kernel
theorem dX11_next_21 : decode cX11_next 21 = .ok (.iconst 0, 1) := by decide +kernel
theorem dX11_next_22 : decode cX11_next 22 = .ok (.istore 5, 2) := by decide +kernel
theorem dX11_next_24 : decode cX11_next 24 = .ok (.iload 5, 2) := by decide +kernel
theorem dX11_next_26 : decode cX11_next 26 = .ok (.sipush 1024, 3) := by decide +kernel
theorem dX11_next_29 : decode cX11_next 29 = .ok (.if_icmp .ge 35, 3) := by decide +kernel
theorem dX11_next_32 : decode cX11_next 32 = .ok (.iload 4, 2) := by decide +kernel
theorem dX11_next_34 : decode cX11_next 34 = .ok (.aload_n 0, 1) := by decide +kernel
theorem dX11_next_35 : decode cX11_next 35 = .ok (.getfield 52, 3) := by decide +kernel
theorem dX11_next_38 : decode cX11_next 38 = .ok (.sipush 1024, 3) := by decide +kernel
theorem dX11_next_41 : decode cX11_next 41 = .ok (.iload_n 3, 1) := by decide +kernel
theorem dX11_next_42 : decode cX11_next 42 = .ok (.imul, 1) := by decide +kernel
theorem dX11_next_43 : decode cX11_next 43 = .ok (.iload 5, 2) := by decide +kernel
theorem dX11_next_45 : decode cX11_next 45 = .ok (.iadd, 1) := by decide +kernel
theorem dX11_next_46 : decode cX11_next 46 = .ok (.baload, 1) := by decide +kernel
theorem dX11_next_47 : decode cX11_next 47 = .ok (.ifCond .eq 7, 3) := by decide +kernel
theorem dX11_next_50 : decode cX11_next 50 = .ok (.iconst 1, 1) := by decide +kernel
theorem dX11_next_51 : decode cX11_next 51 = .ok (.goto 4, 3) := by decide +kernel
theorem dX11_next_54 : decode cX11_next 54 = .ok (.iconst 0, 1) := by decide +kernel
theorem dX11_next_55 : decode cX11_next 55 = .ok (.iadd, 1) := by decide +kernel
theorem dX11_next_56 : decode cX11_next 56 = .ok (.istore 4, 2) := by decide +kernel
theorem dX11_next_58 : decode cX11_next 58 = .ok (.iinc 5 1, 3) := by decide +kernel
theorem dX11_next_61 : decode cX11_next 61 = .ok (.goto (-37), 3) := by decide +kernel
theorem dX11_next_64 : decode cX11_next 64 = .ok (.iload 4, 2) := by decide +kernel
theorem dX11_next_66 : decode cX11_next 66 = .ok (.iload_n 2, 1) := by decide +kernel
theorem dX11_next_67 : decode cX11_next 67 = .ok (.if_icmp .le 7, 3) := by decide +kernel
theorem dX11_next_70 : decode cX11_next 70 = .ok (.iload_n 3, 1) := by decide +kernel
theorem dX11_next_71 : decode cX11_next 71 = .ok (.goto 4, 3) := by decide +kernel
theorem dX11_next_74 : decode cX11_next 74 = .ok (.iload_n 1, 1) := by decide +kernel
theorem dX11_next_75 : decode cX11_next 75 = .ok (.istore_n 1, 1) := by decide +kernel
theorem dX11_next_76 : decode cX11_next 76 = .ok (.iload 4, 2) := by decide +kernel
theorem dX11_next_78 : decode cX11_next 78 = .ok (.iload_n 2, 1) := by decide +kernel
theorem dX11_next_79 : decode cX11_next 79 = .ok (.if_icmp .le 8, 3) := by decide +kernel
theorem dX11_next_82 : decode cX11_next 82 = .ok (.iload 4, 2) := by decide +kernel
theorem dX11_next_84 : decode cX11_next 84 = .ok (.goto 4, 3) := by decide +kernel
theorem dX11_next_87 : decode cX11_next 87 = .ok (.iload_n 2, 1) := by decide +kernel
theorem dX11_next_88 : decode cX11_next 88 = .ok (.istore_n 2, 1) := by decide +kernel
theorem dX11_next_89 : decode cX11_next 89 = .ok (.iinc 3 1, 3) := by decide +kernel
theorem dX11_next_92 : decode cX11_next 92 = .ok (.goto (-80), 3) := by decide +kernel
theorem dX11_next_95 : decode cX11_next 95 = .ok (.iload_n 1, 1) := by decide +kernel
theorem dX11_next_96 : decode cX11_next 96 = .ok (.ireturn, 1) := by decide +kernel
theorem dX11_keep_0 : decode cX11_keep 0 = .ok (.iload_n 1, 1) := by decide +kernel
theorem dX11_keep_1 : decode cX11_keep 1 = .ok (.i2l, 1) := by decide +kernel
theorem dX11_keep_2 : decode cX11_keep 2 = .ok (.lconst 0, 1) := by decide +kernel
theorem dX11_keep_3 : decode cX11_keep 3 = .ok (.lconst 1, 1) := by decide +kernel
theorem dX11_keep_4 : decode cX11_keep 4 = .ok (.invokestatic 77, 3) := by decide +kernel
theorem dX11_keep_7 : decode cX11_keep 7 = .ok (.ifCond .ne 5, 3) := by decide +kernel
theorem dX11_keep_10 : decode cX11_keep 10 = .ok (.iconst (-1), 1) := by decide +kernel
theorem dX11_keep_11 : decode cX11_keep 11 = .ok (.ireturn, 1) := by decide +kernel
theorem dX11_keep_12 : decode cX11_keep 12 = .ok (.aload_n 0, 1) := by decide +kernel
theorem dX11_keep_13 : decode cX11_keep 13 = .ok (.getfield 56, 3) := by decide +kernel
theorem dX11_keep_16 : decode cX11_keep 16 = .ok (.iload_n 1, 1) := by decide +kernel
theorem dX11_keep_17 : decode cX11_keep 17 = .ok (.iconst 1, 1) := by decide +kernel
theorem dX11_keep_18 : decode cX11_keep 18 = .ok (.bastore, 1) := by decide +kernel
theorem dX11_keep_19 : decode cX11_keep 19 = .ok (.iconst 0, 1) := by decide +kernel
theorem dX11_keep_20 : decode cX11_keep 20 = .ok (.istore_n 2, 1) := by decide +kernel
theorem dX11_keep_21 : decode cX11_keep 21 = .ok (.iload_n 2, 1) := by decide +kernel
theorem dX11_keep_22 : decode cX11_keep 22 = .ok (.bipush 24, 2) := by decide +kernel
theorem dX11_keep_24 : decode cX11_keep 24 = .ok (.if_icmp .ge 26, 3) := by decide +kernel
theorem dX11_keep_27 : decode cX11_keep 27 = .ok (.aload_n 0, 1) := by decide +kernel
theorem dX11_keep_28 : decode cX11_keep 28 = .ok (.getfield 59, 3) := by decide +kernel
theorem dX11_keep_31 : decode cX11_keep 31 = .ok (.bipush 25, 2) := by decide +kernel
theorem dX11_keep_33 : decode cX11_keep 33 = .ok (.iload_n 1, 1) := by decide +kernel
theorem dX11_keep_34 : decode cX11_keep 34 = .ok (.imul, 1) := by decide +kernel
theorem dX11_keep_35 : decode cX11_keep 35 = .ok (.iload_n 2, 1) := by decide +kernel
theorem dX11_keep_36 : decode cX11_keep 36 = .ok (.iadd, 1) := by decide +kernel
theorem dX11_keep_37 : decode cX11_keep 37 = .ok (.aload_n 0, 1) := by decide +kernel
theorem dX11_keep_38 : decode cX11_keep 38 = .ok (.getfield 22, 3) := by decide +kernel
theorem dX11_keep_41 : decode cX11_keep 41 = .ok (.iload_n 2, 1) := by decide +kernel
theorem dX11_keep_42 : decode cX11_keep 42 = .ok (.iaload, 1) := by decide +kernel
theorem dX11_keep_43 : decode cX11_keep 43 = .ok (.iastore, 1) := by decide +kernel
theorem dX11_keep_44 : decode cX11_keep 44 = .ok (.iinc 2 1, 3) := by decide +kernel
theorem dX11_keep_47 : decode cX11_keep 47 = .ok (.goto (-26), 3) := by decide +kernel
theorem dX11_keep_50 : decode cX11_keep 50 = .ok (.aload_n 0, 1) := by decide +kernel
theorem dX11_keep_51 : decode cX11_keep 51 = .ok (.getfield 59, 3) := by decide +kernel
theorem dX11_keep_54 : decode cX11_keep 54 = .ok (.bipush 25, 2) := by decide +kernel
theorem dX11_keep_56 : decode cX11_keep 56 = .ok (.iload_n 1, 1) := by decide +kernel
theorem dX11_keep_57 : decode cX11_keep 57 = .ok (.imul, 1) := by decide +kernel
theorem dX11_keep_58 : decode cX11_keep 58 = .ok (.bipush 24, 2) := by decide +kernel
theorem dX11_keep_60 : decode cX11_keep 60 = .ok (.iadd, 1) := by decide +kernel
theorem dX11_keep_61 : decode cX11_keep 61 = .ok (.aload_n 0, 1) := by decide +kernel
theorem dX11_keep_62 : decode cX11_keep 62 = .ok (.getfield 71, 3) := by decide +kernel
theorem dX11_keep_65 : decode cX11_keep 65 = .ok (.iastore, 1) := by decide +kernel
theorem dX11_keep_66 : decode cX11_keep 66 = .ok (.iconst 0, 1) := by decide +kernel
theorem dX11_keep_67 : decode cX11_keep 67 = .ok (.istore_n 2, 1) := by decide +kernel
theorem dX11_keep_68 : decode cX11_keep 68 = .ok (.iload_n 2, 1) := by decide +kernel
theorem dX11_keep_69 : decode cX11_keep 69 = .ok (.bipush 6, 2) := by decide +kernel
theorem dX11_keep_71 : decode cX11_keep 71 = .ok (.if_icmp .ge 43, 3) := by decide +kernel
theorem dX11_keep_74 : decode cX11_keep 74 = .ok (.aload_n 0, 1) := by decide +kernel
theorem dX11_keep_75 : decode cX11_keep 75 = .ok (.getfield 62, 3) := by decide +kernel
theorem dX11_keep_78 : decode cX11_keep 78 = .ok (.bipush 6, 2) := by decide +kernel
theorem dX11_keep_80 : decode cX11_keep 80 = .ok (.iload_n 1, 1) := by decide +kernel
theorem dX11_keep_81 : decode cX11_keep 81 = .ok (.imul, 1) := by decide +kernel
theorem dX11_keep_82 : decode cX11_keep 82 = .ok (.iload_n 2, 1) := by decide +kernel
theorem dX11_keep_83 : decode cX11_keep 83 = .ok (.iadd, 1) := by decide +kernel
theorem dX11_keep_84 : decode cX11_keep 84 = .ok (.aload_n 0, 1) := by decide +kernel
theorem dX11_keep_85 : decode cX11_keep 85 = .ok (.getfield 43, 3) := by decide +kernel
theorem dX11_keep_88 : decode cX11_keep 88 = .ok (.iload_n 2, 1) := by decide +kernel
theorem dX11_keep_89 : decode cX11_keep 89 = .ok (.iaload, 1) := by decide +kernel
theorem dX11_keep_90 : decode cX11_keep 90 = .ok (.iastore, 1) := by decide +kernel
theorem dX11_keep_91 : decode cX11_keep 91 = .ok (.aload_n 0, 1) := by decide +kernel
theorem dX11_keep_92 : decode cX11_keep 92 = .ok (.getfield 65, 3) := by decide +kernel
theorem dX11_keep_95 : decode cX11_keep 95 = .ok (.bipush 6, 2) := by decide +kernel
theorem dX11_keep_97 : decode cX11_keep 97 = .ok (.iload_n 1, 1) := by decide +kernel
theorem dX11_keep_98 : decode cX11_keep 98 = .ok (.imul, 1) := by decide +kernel
theorem dX11_keep_99 : decode cX11_keep 99 = .ok (.iload_n 2, 1) := by decide +kernel
theorem dX11_keep_100 : decode cX11_keep 100 = .ok (.iadd, 1) := by decide +kernel
theorem dX11_keep_101 : decode cX11_keep 101 = .ok (.aload_n 0, 1) := by decide +kernel
theorem dX11_keep_102 : decode cX11_keep 102 = .ok (.getfield 46, 3) := by decide +kernel
theorem dX11_keep_105 : decode cX11_keep 105 = .ok (.iload_n 2, 1) := by decide +kernel
theorem dX11_keep_106 : decode cX11_keep 106 = .ok (.iaload, 1) := by decide +kernel
theorem dX11_keep_107 : decode cX11_keep 107 = .ok (.iastore, 1) := by decide +kernel
theorem dX11_keep_108 : decode cX11_keep 108 = .ok (.iinc 2 1, 3) := by decide +kernel
theorem dX11_keep_111 : decode cX11_keep 111 = .ok (.goto (-43), 3) := by decide +kernel
theorem dX11_keep_114 : decode cX11_keep 114 = .ok (.aload_n 0, 1) := by decide +kernel
theorem dX11_keep_115 : decode cX11_keep 115 = .ok (.getfield 68, 3) := by decide +kernel
theorem dX11_keep_118 : decode cX11_keep 118 = .ok (.iload_n 1, 1) := by decide +kernel
theorem dX11_keep_119 : decode cX11_keep 119 = .ok (.aload_n 0, 1) := by decide +kernel
theorem dX11_keep_120 : decode cX11_keep 120 = .ok (.getfield 223, 3) := by decide +kernel
theorem dX11_keep_123 : decode cX11_keep 123 = .ok (.iastore, 1) := by decide +kernel
theorem dX11_keep_124 : decode cX11_keep 124 = .ok (.aload_n 0, 1) := by decide +kernel
theorem dX11_keep_125 : decode cX11_keep 125 = .ok (.getfield 71, 3) := by decide +kernel
theorem dX11_keep_128 : decode cX11_keep 128 = .ok (.ireturn, 1) := by decide +kernel
theorem dX11_again_0 : decode cX11_again 0 = .ok (.iload_n 1, 1) := by decide +kernel
theorem dX11_again_1 : decode cX11_again 1 = .ok (.i2l, 1) := by decide +kernel
theorem dX11_again_2 : decode cX11_again 2 = .ok (.lconst 0, 1) := by decide +kernel
theorem dX11_again_3 : decode cX11_again 3 = .ok (.lconst 1, 1) := by decide +kernel
theorem dX11_again_4 : decode cX11_again 4 = .ok (.invokestatic 77, 3) := by decide +kernel
theorem dX11_again_7 : decode cX11_again 7 = .ok (.ifCond .ne 5, 3) := by decide +kernel
theorem dX11_again_10 : decode cX11_again 10 = .ok (.iconst (-1), 1) := by decide +kernel
theorem dX11_again_11 : decode cX11_again 11 = .ok (.ireturn, 1) := by decide +kernel
theorem dX11_again_12 : decode cX11_again 12 = .ok (.aload_n 0, 1) := by decide +kernel
theorem dX11_again_13 : decode cX11_again 13 = .ok (.getfield 56, 3) := by decide +kernel
theorem dX11_again_16 : decode cX11_again 16 = .ok (.iload_n 1, 1) := by decide +kernel
theorem dX11_again_17 : decode cX11_again 17 = .ok (.baload, 1) := by decide +kernel
theorem dX11_again_18 : decode cX11_again 18 = .ok (.ifCond .ne 6, 3) := by decide +kernel
theorem dX11_again_21 : decode cX11_again 21 = .ok (.bipush (-3), 2) := by decide +kernel
theorem dX11_again_23 : decode cX11_again 23 = .ok (.ireturn, 1) := by decide +kernel
theorem dX11_again_24 : decode cX11_again 24 = .ok (.iconst 0, 1) := by decide +kernel
theorem dX11_again_25 : decode cX11_again 25 = .ok (.istore_n 2, 1) := by decide +kernel
theorem dX11_again_26 : decode cX11_again 26 = .ok (.iload_n 2, 1) := by decide +kernel
theorem dX11_again_27 : decode cX11_again 27 = .ok (.bipush 24, 2) := by decide +kernel
theorem dX11_again_29 : decode cX11_again 29 = .ok (.if_icmp .ge 26, 3) := by decide +kernel
theorem dX11_again_32 : decode cX11_again 32 = .ok (.aload_n 0, 1) := by decide +kernel
theorem dX11_again_33 : decode cX11_again 33 = .ok (.getfield 22, 3) := by decide +kernel
theorem dX11_again_36 : decode cX11_again 36 = .ok (.iload_n 2, 1) := by decide +kernel
theorem dX11_again_37 : decode cX11_again 37 = .ok (.aload_n 0, 1) := by decide +kernel
theorem dX11_again_38 : decode cX11_again 38 = .ok (.getfield 59, 3) := by decide +kernel
theorem dX11_again_41 : decode cX11_again 41 = .ok (.bipush 25, 2) := by decide +kernel
theorem dX11_again_43 : decode cX11_again 43 = .ok (.iload_n 1, 1) := by decide +kernel
theorem dX11_again_44 : decode cX11_again 44 = .ok (.imul, 1) := by decide +kernel
theorem dX11_again_45 : decode cX11_again 45 = .ok (.iload_n 2, 1) := by decide +kernel
theorem dX11_again_46 : decode cX11_again 46 = .ok (.iadd, 1) := by decide +kernel
theorem dX11_again_47 : decode cX11_again 47 = .ok (.iaload, 1) := by decide +kernel
theorem dX11_again_48 : decode cX11_again 48 = .ok (.iastore, 1) := by decide +kernel
theorem dX11_again_49 : decode cX11_again 49 = .ok (.iinc 2 1, 3) := by decide +kernel
theorem dX11_again_52 : decode cX11_again 52 = .ok (.goto (-26), 3) := by decide +kernel
theorem dX11_again_55 : decode cX11_again 55 = .ok (.aload_n 0, 1) := by decide +kernel
theorem dX11_again_56 : decode cX11_again 56 = .ok (.aload_n 0, 1) := by decide +kernel
theorem dX11_again_57 : decode cX11_again 57 = .ok (.getfield 59, 3) := by decide +kernel
theorem dX11_again_60 : decode cX11_again 60 = .ok (.bipush 25, 2) := by decide +kernel
theorem dX11_again_62 : decode cX11_again 62 = .ok (.iload_n 1, 1) := by decide +kernel
theorem dX11_again_63 : decode cX11_again 63 = .ok (.imul, 1) := by decide +kernel
theorem dX11_again_64 : decode cX11_again 64 = .ok (.bipush 24, 2) := by decide +kernel
theorem dX11_again_66 : decode cX11_again 66 = .ok (.iadd, 1) := by decide +kernel
theorem dX11_again_67 : decode cX11_again 67 = .ok (.iaload, 1) := by decide +kernel
theorem dX11_again_68 : decode cX11_again 68 = .ok (.putfield 71, 3) := by decide +kernel
theorem dX11_again_71 : decode cX11_again 71 = .ok (.iconst 0, 1) := by decide +kernel
theorem dX11_again_72 : decode cX11_again 72 = .ok (.istore_n 2, 1) := by decide +kernel
theorem dX11_again_73 : decode cX11_again 73 = .ok (.iload_n 2, 1) := by decide +kernel
theorem dX11_again_74 : decode cX11_again 74 = .ok (.bipush 6, 2) := by decide +kernel
theorem dX11_again_76 : decode cX11_again 76 = .ok (.if_icmp .ge 43, 3) := by decide +kernel
theorem dX11_again_79 : decode cX11_again 79 = .ok (.aload_n 0, 1) := by decide +kernel
theorem dX11_again_80 : decode cX11_again 80 = .ok (.getfield 43, 3) := by decide +kernel
theorem dX11_again_83 : decode cX11_again 83 = .ok (.iload_n 2, 1) := by decide +kernel
theorem dX11_again_84 : decode cX11_again 84 = .ok (.aload_n 0, 1) := by decide +kernel
theorem dX11_again_85 : decode cX11_again 85 = .ok (.getfield 62, 3) := by decide +kernel
theorem dX11_again_88 : decode cX11_again 88 = .ok (.bipush 6, 2) := by decide +kernel
theorem dX11_again_90 : decode cX11_again 90 = .ok (.iload_n 1, 1) := by decide +kernel
theorem dX11_again_91 : decode cX11_again 91 = .ok (.imul, 1) := by decide +kernel
theorem dX11_again_92 : decode cX11_again 92 = .ok (.iload_n 2, 1) := by decide +kernel
theorem dX11_again_93 : decode cX11_again 93 = .ok (.iadd, 1) := by decide +kernel
theorem dX11_again_94 : decode cX11_again 94 = .ok (.iaload, 1) := by decide +kernel
theorem dX11_again_95 : decode cX11_again 95 = .ok (.iastore, 1) := by decide +kernel
theorem dX11_again_96 : decode cX11_again 96 = .ok (.aload_n 0, 1) := by decide +kernel
theorem dX11_again_97 : decode cX11_again 97 = .ok (.getfield 46, 3) := by decide +kernel
theorem dX11_again_100 : decode cX11_again 100 = .ok (.iload_n 2, 1) := by decide +kernel
theorem dX11_again_101 : decode cX11_again 101 = .ok (.aload_n 0, 1) := by decide +kernel
theorem dX11_again_102 : decode cX11_again 102 = .ok (.getfield 65, 3) := by decide +kernel
theorem dX11_again_105 : decode cX11_again 105 = .ok (.bipush 6, 2) := by decide +kernel
theorem dX11_again_107 : decode cX11_again 107 = .ok (.iload_n 1, 1) := by decide +kernel
theorem dX11_again_108 : decode cX11_again 108 = .ok (.imul, 1) := by decide +kernel
theorem dX11_again_109 : decode cX11_again 109 = .ok (.iload_n 2, 1) := by decide +kernel
theorem dX11_again_110 : decode cX11_again 110 = .ok (.iadd, 1) := by decide +kernel
theorem dX11_again_111 : decode cX11_again 111 = .ok (.iaload, 1) := by decide +kernel
theorem dX11_again_112 : decode cX11_again 112 = .ok (.iastore, 1) := by decide +kernel
theorem dX11_again_113 : decode cX11_again 113 = .ok (.iinc 2 1, 3) := by decide +kernel
theorem dX11_again_116 : decode cX11_again 116 = .ok (.goto (-43), 3) := by decide +kernel
theorem dX11_again_119 : decode cX11_again 119 = .ok (.aload_n 0, 1) := by decide +kernel
theorem dX11_again_120 : decode cX11_again 120 = .ok (.aload_n 0, 1) := by decide +kernel
theorem dX11_again_121 : decode cX11_again 121 = .ok (.getfield 68, 3) := by decide +kernel
theorem dX11_again_124 : decode cX11_again 124 = .ok (.iload_n 1, 1) := by decide +kernel
theorem dX11_again_125 : decode cX11_again 125 = .ok (.iaload, 1) := by decide +kernel
theorem dX11_again_126 : decode cX11_again 126 = .ok (.putfield 223, 3) := by decide +kernel
theorem dX11_again_129 : decode cX11_again 129 = .ok (.aload_n 0, 1) := by decide +kernel
theorem dX11_again_130 : decode cX11_again 130 = .ok (.iconst 0, 1) := by decide +kernel
theorem dX11_again_131 : decode cX11_again 131 = .ok (.putfield 150, 3) := by decide +kernel
theorem dX11_again_134 : decode cX11_again 134 = .ok (.aload_n 0, 1) := by decide +kernel
theorem dX11_again_135 : decode cX11_again 135 = .ok (.getfield 71, 3) := by decide +kernel
theorem dX11_again_138 : decode cX11_again 138 = .ok (.ireturn, 1) := by decide +kernel
theorem dX11_count_0 : decode cX11_count 0 = .ok (.iload_n 1, 1) := by decide +kernel
theorem dX11_count_1 : decode cX11_count 1 = .ok (.tableswitch 87 0 7 #[47, 52, 57, 62, 67, 72, 77, 82], 47) := by decide +kernel
theorem dX11_count_48 : decode cX11_count 48 = .ok (.aload_n 0, 1) := by decide +kernel
theorem dX11_count_49 : decode cX11_count 49 = .ok (.getfield 81, 3) := by decide +kernel
theorem dX11_count_52 : decode cX11_count 52 = .ok (.ireturn, 1) := by decide +kernel
theorem dX11_count_53 : decode cX11_count 53 = .ok (.aload_n 0, 1) := by decide +kernel
theorem dX11_count_54 : decode cX11_count 54 = .ok (.getfield 71, 3) := by decide +kernel
theorem dX11_count_57 : decode cX11_count 57 = .ok (.ireturn, 1) := by decide +kernel
theorem dX11_count_58 : decode cX11_count 58 = .ok (.aload_n 0, 1) := by decide +kernel
theorem dX11_count_59 : decode cX11_count 59 = .ok (.getfield 141, 3) := by decide +kernel
theorem dX11_count_62 : decode cX11_count 62 = .ok (.ireturn, 1) := by decide +kernel
theorem dX11_count_63 : decode cX11_count 63 = .ok (.aload_n 0, 1) := by decide +kernel
theorem dX11_count_64 : decode cX11_count 64 = .ok (.invokevirtual 214, 3) := by decide +kernel
theorem dX11_count_67 : decode cX11_count 67 = .ok (.ireturn, 1) := by decide +kernel
theorem dX11_count_68 : decode cX11_count 68 = .ok (.aload_n 0, 1) := by decide +kernel
theorem dX11_count_69 : decode cX11_count 69 = .ok (.getfield 223, 3) := by decide +kernel
theorem dX11_count_72 : decode cX11_count 72 = .ok (.ireturn, 1) := by decide +kernel
theorem dX11_count_73 : decode cX11_count 73 = .ok (.aload_n 0, 1) := by decide +kernel
theorem dX11_count_74 : decode cX11_count 74 = .ok (.getfield 150, 3) := by decide +kernel
theorem dX11_count_77 : decode cX11_count 77 = .ok (.ireturn, 1) := by decide +kernel
theorem dX11_count_78 : decode cX11_count 78 = .ok (.aload_n 0, 1) := by decide +kernel
theorem dX11_count_79 : decode cX11_count 79 = .ok (.getfield 144, 3) := by decide +kernel
theorem dX11_count_82 : decode cX11_count 82 = .ok (.ireturn, 1) := by decide +kernel
theorem dX11_count_83 : decode cX11_count 83 = .ok (.aload_n 0, 1) := by decide +kernel
theorem dX11_count_84 : decode cX11_count 84 = .ok (.getfield 147, 3) := by decide +kernel
theorem dX11_count_87 : decode cX11_count 87 = .ok (.ireturn, 1) := by decide +kernel
theorem dX11_count_88 : decode cX11_count 88 = .ok (.bipush (-2), 2) := by decide +kernel
theorem dX11_count_90 : decode cX11_count 90 = .ok (.ireturn, 1) := by decide +kernel
theorem dJ11_isValidCodePoint_9a6ad_0 : decode cJ11_isValidCodePoint_9a6ad 0 = .ok (.iload_n 0, 1) := by decide +kernel
theorem dJ11_isValidCodePoint_9a6ad_1 : decode cJ11_isValidCodePoint_9a6ad 1 = .ok (.bipush 16, 2) := by decide +kernel
theorem dJ11_isValidCodePoint_9a6ad_3 : decode cJ11_isValidCodePoint_9a6ad 3 = .ok (.iushr, 1) := by decide +kernel
theorem dJ11_isValidCodePoint_9a6ad_4 : decode cJ11_isValidCodePoint_9a6ad 4 = .ok (.istore_n 1, 1) := by decide +kernel
theorem dJ11_isValidCodePoint_9a6ad_5 : decode cJ11_isValidCodePoint_9a6ad 5 = .ok (.iload_n 1, 1) := by decide +kernel
theorem dJ11_isValidCodePoint_9a6ad_6 : decode cJ11_isValidCodePoint_9a6ad 6 = .ok (.bipush 17, 2) := by decide +kernel
theorem dJ11_isValidCodePoint_9a6ad_8 : decode cJ11_isValidCodePoint_9a6ad 8 = .ok (.if_icmp .ge 7, 3) := by decide +kernel
theorem dJ11_isValidCodePoint_9a6ad_11 : decode cJ11_isValidCodePoint_9a6ad 11 = .ok (.iconst 1, 1) := by decide +kernel
theorem dJ11_isValidCodePoint_9a6ad_12 : decode cJ11_isValidCodePoint_9a6ad 12 = .ok (.goto 4, 3) := by decide +kernel
theorem dJ11_isValidCodePoint_9a6ad_15 : decode cJ11_isValidCodePoint_9a6ad 15 = .ok (.iconst 0, 1) := by decide +kernel
theorem dJ11_isValidCodePoint_9a6ad_16 : decode cJ11_isValidCodePoint_9a6ad 16 = .ok (.ireturn, 1) := by decide +kernel
theorem dJ11_highSurrogate_5068e_0 : decode cJ11_highSurrogate_5068e 0 = .ok (.iload_n 0, 1) := by decide +kernel
theorem dJ11_highSurrogate_5068e_1 : decode cJ11_highSurrogate_5068e 1 = .ok (.bipush 10, 2) := by decide +kernel
theorem dJ11_highSurrogate_5068e_3 : decode cJ11_highSurrogate_5068e 3 = .ok (.iushr, 1) := by decide +kernel
theorem dJ11_highSurrogate_5068e_4 : decode cJ11_highSurrogate_5068e 4 = .ok (.ldc 110, 2) := by decide +kernel
theorem dJ11_highSurrogate_5068e_6 : decode cJ11_highSurrogate_5068e 6 = .ok (.iadd, 1) := by decide +kernel
theorem dJ11_highSurrogate_5068e_7 : decode cJ11_highSurrogate_5068e 7 = .ok (.i2c, 1) := by decide +kernel
theorem dJ11_highSurrogate_5068e_8 : decode cJ11_highSurrogate_5068e 8 = .ok (.ireturn, 1) := by decide +kernel
theorem dJ11_lowSurrogate_5068e_0 : decode cJ11_lowSurrogate_5068e 0 = .ok (.iload_n 0, 1) := by decide +kernel
theorem dJ11_lowSurrogate_5068e_1 : decode cJ11_lowSurrogate_5068e 1 = .ok (.sipush 1023, 3) := by decide +kernel
theorem dJ11_lowSurrogate_5068e_4 : decode cJ11_lowSurrogate_5068e 4 = .ok (.iand, 1) := by decide +kernel
theorem dJ11_lowSurrogate_5068e_5 : decode cJ11_lowSurrogate_5068e 5 = .ok (.ldc 76, 2) := by decide +kernel
theorem dJ11_lowSurrogate_5068e_7 : decode cJ11_lowSurrogate_5068e 7 = .ok (.iadd, 1) := by decide +kernel
theorem dJ11_lowSurrogate_5068e_8 : decode cJ11_lowSurrogate_5068e 8 = .ok (.i2c, 1) := by decide +kernel
theorem dJ11_lowSurrogate_5068e_9 : decode cJ11_lowSurrogate_5068e 9 = .ok (.ireturn, 1) := by decide +kernel
theorem dJ9_abs_0f7a4_0 : decode cJ9_abs_0f7a4 0 = .ok (.iload_n 0, 1) := by decide +kernel
theorem dJ9_abs_0f7a4_1 : decode cJ9_abs_0f7a4 1 = .ok (.ifCond .ge 8, 3) := by decide +kernel
theorem dJ9_abs_0f7a4_4 : decode cJ9_abs_0f7a4 4 = .ok (.iload_n 0, 1) := by decide +kernel
theorem dJ9_abs_0f7a4_5 : decode cJ9_abs_0f7a4 5 = .ok (.ineg, 1) := by decide +kernel
theorem dJ9_abs_0f7a4_6 : decode cJ9_abs_0f7a4 6 = .ok (.goto 4, 3) := by decide +kernel
theorem dJ9_abs_0f7a4_9 : decode cJ9_abs_0f7a4 9 = .ok (.iload_n 0, 1) := by decide +kernel
theorem dJ9_abs_0f7a4_10 : decode cJ9_abs_0f7a4 10 = .ok (.ireturn, 1) := by decide +kernel
theorem dJ9_max_7cf53_0 : decode cJ9_max_7cf53 0 = .ok (.iload_n 0, 1) := by decide +kernel
theorem dJ9_max_7cf53_1 : decode cJ9_max_7cf53 1 = .ok (.iload_n 1, 1) := by decide +kernel
theorem dJ9_max_7cf53_2 : decode cJ9_max_7cf53 2 = .ok (.if_icmp .lt 7, 3) := by decide +kernel
theorem dJ9_max_7cf53_5 : decode cJ9_max_7cf53 5 = .ok (.iload_n 0, 1) := by decide +kernel
theorem dJ9_max_7cf53_6 : decode cJ9_max_7cf53 6 = .ok (.goto 4, 3) := by decide +kernel
theorem dJ9_max_7cf53_9 : decode cJ9_max_7cf53 9 = .ok (.iload_n 1, 1) := by decide +kernel
theorem dJ9_max_7cf53_10 : decode cJ9_max_7cf53 10 = .ok (.ireturn, 1) := by decide +kernel
theorem dJ9_min_7cf53_0 : decode cJ9_min_7cf53 0 = .ok (.iload_n 0, 1) := by decide +kernel
theorem dJ9_min_7cf53_1 : decode cJ9_min_7cf53 1 = .ok (.iload_n 1, 1) := by decide +kernel
theorem dJ9_min_7cf53_2 : decode cJ9_min_7cf53 2 = .ok (.if_icmp .gt 7, 3) := by decide +kernel
theorem dJ9_min_7cf53_5 : decode cJ9_min_7cf53 5 = .ok (.iload_n 0, 1) := by decide +kernel
theorem dJ9_min_7cf53_6 : decode cJ9_min_7cf53 6 = .ok (.goto 4, 3) := by decide +kernel
theorem dJ9_min_7cf53_9 : decode cJ9_min_7cf53 9 = .ok (.iload_n 1, 1) := by decide +kernel
theorem dJ9_min_7cf53_10 : decode cJ9_min_7cf53 10 = .ok (.ireturn, 1) := by decide +kernel
theorem dJ0_length_8abf5_0 : decode cJ0_length_8abf5 0 = .ok (.aload_n 0, 1) := by decide +kernel
theorem dJ0_length_8abf5_1 : decode cJ0_length_8abf5 1 = .ok (.getfield 9, 3) := by decide +kernel
theorem dJ0_length_8abf5_4 : decode cJ0_length_8abf5 4 = .ok (.arraylength, 1) := by decide +kernel
theorem dJ0_length_8abf5_5 : decode cJ0_length_8abf5 5 = .ok (.aload_n 0, 1) := by decide +kernel
theorem dJ0_length_8abf5_6 : decode cJ0_length_8abf5 6 = .ok (.invokevirtual 335, 3) := by decide +kernel
theorem dJ0_length_8abf5_9 : decode cJ0_length_8abf5 9 = .ok (.ishr, 1) := by decide +kernel
theorem dJ0_length_8abf5_10 : decode cJ0_length_8abf5 10 = .ok (.ireturn, 1) := by decide +kernel
theorem dJ0_indexOf_0f7a4_0 : decode cJ0_indexOf_0f7a4 0 = .ok (.aload_n 0, 1) := by decide +kernel
theorem dJ0_indexOf_0f7a4_1 : decode cJ0_indexOf_0f7a4 1 = .ok (.iload_n 1, 1) := by decide +kernel
theorem dJ0_indexOf_0f7a4_2 : decode cJ0_indexOf_0f7a4 2 = .ok (.iconst 0, 1) := by decide +kernel
theorem dJ0_indexOf_0f7a4_3 : decode cJ0_indexOf_0f7a4 3 = .ok (.invokevirtual 633, 3) := by decide +kernel
theorem dJ0_indexOf_0f7a4_6 : decode cJ0_indexOf_0f7a4 6 = .ok (.ireturn, 1) := by decide +kernel
theorem dJ0_indexOf_7cf53_0 : decode cJ0_indexOf_7cf53 0 = .ok (.aload_n 0, 1) := by decide +kernel
theorem dJ0_indexOf_7cf53_1 : decode cJ0_indexOf_7cf53 1 = .ok (.invokevirtual 492, 3) := by decide +kernel
theorem dJ0_indexOf_7cf53_4 : decode cJ0_indexOf_7cf53 4 = .ok (.ifCond .eq 19, 3) := by decide +kernel
theorem dJ0_indexOf_7cf53_7 : decode cJ0_indexOf_7cf53 7 = .ok (.aload_n 0, 1) := by decide +kernel
theorem dJ0_indexOf_7cf53_8 : decode cJ0_indexOf_7cf53 8 = .ok (.getfield 9, 3) := by decide +kernel
theorem dJ0_indexOf_7cf53_11 : decode cJ0_indexOf_7cf53 11 = .ok (.iload_n 1, 1) := by decide +kernel
theorem dJ0_indexOf_7cf53_12 : decode cJ0_indexOf_7cf53 12 = .ok (.iload_n 2, 1) := by decide +kernel
theorem dJ0_indexOf_7cf53_13 : decode cJ0_indexOf_7cf53 13 = .ok (.aload_n 0, 1) := by decide +kernel
theorem dJ0_indexOf_7cf53_14 : decode cJ0_indexOf_7cf53 14 = .ok (.invokevirtual 505, 3) := by decide +kernel
theorem dJ0_indexOf_7cf53_17 : decode cJ0_indexOf_7cf53 17 = .ok (.invokestatic 637, 3) := by decide +kernel
theorem dJ0_indexOf_7cf53_20 : decode cJ0_indexOf_7cf53 20 = .ok (.goto 16, 3) := by decide +kernel
theorem dJ0_indexOf_7cf53_23 : decode cJ0_indexOf_7cf53 23 = .ok (.aload_n 0, 1) := by decide +kernel
theorem dJ0_indexOf_7cf53_24 : decode cJ0_indexOf_7cf53 24 = .ok (.getfield 9, 3) := by decide +kernel
theorem dJ0_indexOf_7cf53_27 : decode cJ0_indexOf_7cf53 27 = .ok (.iload_n 1, 1) := by decide +kernel
theorem dJ0_indexOf_7cf53_28 : decode cJ0_indexOf_7cf53 28 = .ok (.iload_n 2, 1) := by decide +kernel
theorem dJ0_indexOf_7cf53_29 : decode cJ0_indexOf_7cf53 29 = .ok (.aload_n 0, 1) := by decide +kernel
theorem dJ0_indexOf_7cf53_30 : decode cJ0_indexOf_7cf53 30 = .ok (.invokevirtual 505, 3) := by decide +kernel
theorem dJ0_indexOf_7cf53_33 : decode cJ0_indexOf_7cf53 33 = .ok (.invokestatic 640, 3) := by decide +kernel
theorem dJ0_indexOf_7cf53_36 : decode cJ0_indexOf_7cf53 36 = .ok (.ireturn, 1) := by decide +kernel
theorem dJ0_coder_7d493_0 : decode cJ0_coder_7d493 0 = .ok (.getstatic 38, 3) := by decide +kernel
theorem dJ0_coder_7d493_3 : decode cJ0_coder_7d493 3 = .ok (.ifCond .eq 10, 3) := by decide +kernel
theorem dJ0_coder_7d493_6 : decode cJ0_coder_7d493 6 = .ok (.aload_n 0, 1) := by decide +kernel
theorem dJ0_coder_7d493_7 : decode cJ0_coder_7d493 7 = .ok (.getfield 15, 3) := by decide +kernel
theorem dJ0_coder_7d493_10 : decode cJ0_coder_7d493 10 = .ok (.goto 4, 3) := by decide +kernel
theorem dJ0_coder_7d493_13 : decode cJ0_coder_7d493 13 = .ok (.iconst 1, 1) := by decide +kernel
theorem dJ0_coder_7d493_14 : decode cJ0_coder_7d493 14 = .ok (.ireturn, 1) := by decide +kernel
theorem dJ0_isLatin1_aae02_0 : decode cJ0_isLatin1_aae02 0 = .ok (.getstatic 38, 3) := by decide +kernel
theorem dJ0_isLatin1_aae02_3 : decode cJ0_isLatin1_aae02 3 = .ok (.ifCond .eq 14, 3) := by decide +kernel
theorem dJ0_isLatin1_aae02_6 : decode cJ0_isLatin1_aae02 6 = .ok (.aload_n 0, 1) := by decide +kernel
theorem dJ0_isLatin1_aae02_7 : decode cJ0_isLatin1_aae02 7 = .ok (.getfield 15, 3) := by decide +kernel
theorem dJ0_isLatin1_aae02_10 : decode cJ0_isLatin1_aae02 10 = .ok (.ifCond .ne 7, 3) := by decide +kernel
theorem dJ0_isLatin1_aae02_13 : decode cJ0_isLatin1_aae02 13 = .ok (.iconst 1, 1) := by decide +kernel
theorem dJ0_isLatin1_aae02_14 : decode cJ0_isLatin1_aae02 14 = .ok (.goto 4, 3) := by decide +kernel
theorem dJ0_isLatin1_aae02_17 : decode cJ0_isLatin1_aae02 17 = .ok (.iconst 0, 1) := by decide +kernel
theorem dJ0_isLatin1_aae02_18 : decode cJ0_isLatin1_aae02 18 = .ok (.ireturn, 1) := by decide +kernel
theorem dJ0_checkBoundsBeginEnd_23922_0 : decode cJ0_checkBoundsBeginEnd_23922 0 = .ok (.iload_n 0, 1) := by decide +kernel
theorem dJ0_checkBoundsBeginEnd_23922_1 : decode cJ0_checkBoundsBeginEnd_23922 1 = .ok (.iload_n 1, 1) := by decide +kernel
theorem dJ0_checkBoundsBeginEnd_23922_2 : decode cJ0_checkBoundsBeginEnd_23922 2 = .ok (.iload_n 2, 1) := by decide +kernel
theorem dJ0_checkBoundsBeginEnd_23922_3 : decode cJ0_checkBoundsBeginEnd_23922 3 = .ok (.getstatic 1053, 3) := by decide +kernel
theorem dJ0_checkBoundsBeginEnd_23922_6 : decode cJ0_checkBoundsBeginEnd_23922 6 = .ok (.invokestatic 1062, 3) := by decide +kernel
theorem dJ0_checkBoundsBeginEnd_23922_9 : decode cJ0_checkBoundsBeginEnd_23922 9 = .ok (.pop, 1) := by decide +kernel
theorem dJ0_checkBoundsBeginEnd_23922_10 : decode cJ0_checkBoundsBeginEnd_23922 10 = .ok (.return_, 1) := by decide +kernel
theorem dJ1_canEncode_9a6ad_0 : decode cJ1_canEncode_9a6ad 0 = .ok (.iload_n 0, 1) := by decide +kernel
theorem dJ1_canEncode_9a6ad_1 : decode cJ1_canEncode_9a6ad 1 = .ok (.ifCond .lt 14, 3) := by decide +kernel
theorem dJ1_canEncode_9a6ad_4 : decode cJ1_canEncode_9a6ad 4 = .ok (.iload_n 0, 1) := by decide +kernel
theorem dJ1_canEncode_9a6ad_5 : decode cJ1_canEncode_9a6ad 5 = .ok (.sipush 255, 3) := by decide +kernel
theorem dJ1_canEncode_9a6ad_8 : decode cJ1_canEncode_9a6ad 8 = .ok (.if_icmp .gt 7, 3) := by decide +kernel
theorem dJ1_canEncode_9a6ad_11 : decode cJ1_canEncode_9a6ad 11 = .ok (.iconst 1, 1) := by decide +kernel
theorem dJ1_canEncode_9a6ad_12 : decode cJ1_canEncode_9a6ad 12 = .ok (.goto 4, 3) := by decide +kernel
theorem dJ1_canEncode_9a6ad_15 : decode cJ1_canEncode_9a6ad 15 = .ok (.iconst 0, 1) := by decide +kernel
theorem dJ1_canEncode_9a6ad_16 : decode cJ1_canEncode_9a6ad 16 = .ok (.ireturn, 1) := by decide +kernel
theorem dJ1_indexOf_4cfef_0 : decode cJ1_indexOf_4cfef 0 = .ok (.iload_n 1, 1) := by decide +kernel
theorem dJ1_indexOf_4cfef_1 : decode cJ1_indexOf_4cfef 1 = .ok (.invokestatic 88, 3) := by decide +kernel
theorem dJ1_indexOf_4cfef_4 : decode cJ1_indexOf_4cfef 4 = .ok (.ifCond .ne 5, 3) := by decide +kernel
theorem dJ1_indexOf_4cfef_7 : decode cJ1_indexOf_4cfef 7 = .ok (.iconst (-1), 1) := by decide +kernel
theorem dJ1_indexOf_4cfef_8 : decode cJ1_indexOf_4cfef 8 = .ok (.ireturn, 1) := by decide +kernel
theorem dJ1_indexOf_4cfef_9 : decode cJ1_indexOf_4cfef 9 = .ok (.iload_n 2, 1) := by decide +kernel
theorem dJ1_indexOf_4cfef_10 : decode cJ1_indexOf_4cfef 10 = .ok (.iconst 0, 1) := by decide +kernel
theorem dJ1_indexOf_4cfef_11 : decode cJ1_indexOf_4cfef 11 = .ok (.invokestatic 92, 3) := by decide +kernel
theorem dJ1_indexOf_4cfef_14 : decode cJ1_indexOf_4cfef 14 = .ok (.istore_n 2, 1) := by decide +kernel
theorem dJ1_indexOf_4cfef_15 : decode cJ1_indexOf_4cfef 15 = .ok (.iload_n 3, 1) := by decide +kernel
theorem dJ1_indexOf_4cfef_16 : decode cJ1_indexOf_4cfef 16 = .ok (.aload_n 0, 1) := by decide +kernel
theorem dJ1_indexOf_4cfef_17 : decode cJ1_indexOf_4cfef 17 = .ok (.arraylength, 1) := by decide +kernel
theorem dJ1_indexOf_4cfef_18 : decode cJ1_indexOf_4cfef 18 = .ok (.invokestatic 38, 3) := by decide +kernel
theorem dJ1_indexOf_4cfef_21 : decode cJ1_indexOf_4cfef 21 = .ok (.istore_n 3, 1) := by decide +kernel
theorem dJ1_indexOf_4cfef_22 : decode cJ1_indexOf_4cfef 22 = .ok (.iload_n 2, 1) := by decide +kernel
theorem dJ1_indexOf_4cfef_23 : decode cJ1_indexOf_4cfef 23 = .ok (.iload_n 3, 1) := by decide +kernel
theorem dJ1_indexOf_4cfef_24 : decode cJ1_indexOf_4cfef 24 = .ok (.if_icmp .lt 5, 3) := by decide +kernel
theorem dJ1_indexOf_4cfef_27 : decode cJ1_indexOf_4cfef 27 = .ok (.iconst (-1), 1) := by decide +kernel
theorem dJ1_indexOf_4cfef_28 : decode cJ1_indexOf_4cfef 28 = .ok (.ireturn, 1) := by decide +kernel
theorem dJ1_indexOf_4cfef_29 : decode cJ1_indexOf_4cfef 29 = .ok (.aload_n 0, 1) := by decide +kernel
theorem dJ1_indexOf_4cfef_30 : decode cJ1_indexOf_4cfef 30 = .ok (.iload_n 1, 1) := by decide +kernel
theorem dJ1_indexOf_4cfef_31 : decode cJ1_indexOf_4cfef 31 = .ok (.iload_n 2, 1) := by decide +kernel
theorem dJ1_indexOf_4cfef_32 : decode cJ1_indexOf_4cfef 32 = .ok (.iload_n 3, 1) := by decide +kernel
theorem dJ1_indexOf_4cfef_33 : decode cJ1_indexOf_4cfef 33 = .ok (.invokestatic 95, 3) := by decide +kernel
theorem dJ1_indexOf_4cfef_36 : decode cJ1_indexOf_4cfef 36 = .ok (.ireturn, 1) := by decide +kernel
theorem dJ1_indexOfChar_4cfef_0 : decode cJ1_indexOfChar_4cfef 0 = .ok (.iload_n 1, 1) := by decide +kernel
theorem dJ1_indexOfChar_4cfef_1 : decode cJ1_indexOfChar_4cfef 1 = .ok (.i2b, 1) := by decide +kernel
theorem dJ1_indexOfChar_4cfef_2 : decode cJ1_indexOfChar_4cfef 2 = .ok (.istore 4, 2) := by decide +kernel
theorem dJ1_indexOfChar_4cfef_4 : decode cJ1_indexOfChar_4cfef 4 = .ok (.iload_n 2, 1) := by decide +kernel
theorem dJ1_indexOfChar_4cfef_5 : decode cJ1_indexOfChar_4cfef 5 = .ok (.istore 5, 2) := by decide +kernel
theorem dJ1_indexOfChar_4cfef_7 : decode cJ1_indexOfChar_4cfef 7 = .ok (.iload 5, 2) := by decide +kernel
theorem dJ1_indexOfChar_4cfef_9 : decode cJ1_indexOfChar_4cfef 9 = .ok (.iload_n 3, 1) := by decide +kernel
theorem dJ1_indexOfChar_4cfef_10 : decode cJ1_indexOfChar_4cfef 10 = .ok (.if_icmp .ge 21, 3) := by decide +kernel
theorem dJ1_indexOfChar_4cfef_13 : decode cJ1_indexOfChar_4cfef 13 = .ok (.aload_n 0, 1) := by decide +kernel
theorem dJ1_indexOfChar_4cfef_14 : decode cJ1_indexOfChar_4cfef 14 = .ok (.iload 5, 2) := by decide +kernel
theorem dJ1_indexOfChar_4cfef_16 : decode cJ1_indexOfChar_4cfef 16 = .ok (.baload, 1) := by decide +kernel
theorem dJ1_indexOfChar_4cfef_17 : decode cJ1_indexOfChar_4cfef 17 = .ok (.iload 4, 2) := by decide +kernel
theorem dJ1_indexOfChar_4cfef_19 : decode cJ1_indexOfChar_4cfef 19 = .ok (.if_icmp .ne 6, 3) := by decide +kernel
theorem dJ1_indexOfChar_4cfef_22 : decode cJ1_indexOfChar_4cfef 22 = .ok (.iload 5, 2) := by decide +kernel
theorem dJ1_indexOfChar_4cfef_24 : decode cJ1_indexOfChar_4cfef 24 = .ok (.ireturn, 1) := by decide +kernel
theorem dJ1_indexOfChar_4cfef_25 : decode cJ1_indexOfChar_4cfef 25 = .ok (.iinc 5 1, 3) := by decide +kernel
theorem dJ1_indexOfChar_4cfef_28 : decode cJ1_indexOfChar_4cfef 28 = .ok (.goto (-21), 3) := by decide +kernel
theorem dJ1_indexOfChar_4cfef_31 : decode cJ1_indexOfChar_4cfef 31 = .ok (.iconst (-1), 1) := by decide +kernel
theorem dJ1_indexOfChar_4cfef_32 : decode cJ1_indexOfChar_4cfef 32 = .ok (.ireturn, 1) := by decide +kernel
theorem dJ2_getChar_3b067_0 : decode cJ2_getChar_3b067 0 = .ok (.getstatic 44, 3) := by decide +kernel
theorem dJ2_getChar_3b067_3 : decode cJ2_getChar_3b067 3 = .ok (.ifCond .ne 25, 3) := by decide +kernel
theorem dJ2_getChar_3b067_6 : decode cJ2_getChar_3b067 6 = .ok (.iload_n 1, 1) := by decide +kernel
theorem dJ2_getChar_3b067_7 : decode cJ2_getChar_3b067 7 = .ok (.ifCond .lt 11, 3) := by decide +kernel
theorem dJ2_getChar_3b067_10 : decode cJ2_getChar_3b067 10 = .ok (.iload_n 1, 1) := by decide +kernel
theorem dJ2_getChar_3b067_11 : decode cJ2_getChar_3b067 11 = .ok (.aload_n 0, 1) := by decide +kernel
theorem dJ2_getChar_3b067_12 : decode cJ2_getChar_3b067 12 = .ok (.invokestatic 48, 3) := by decide +kernel
theorem dJ2_getChar_3b067_15 : decode cJ2_getChar_3b067 15 = .ok (.if_icmp .lt 13, 3) := by decide +kernel
theorem dJ2_getChar_3b067_18 : decode cJ2_getChar_3b067 18 = .ok (.new 52, 3) := by decide +kernel
theorem dJ2_getChar_3b067_21 : decode cJ2_getChar_3b067 21 = .ok (.dup, 1) := by decide +kernel
theorem dJ2_getChar_3b067_22 : decode cJ2_getChar_3b067 22 = .ok (.ldc 54, 2) := by decide +kernel
theorem dJ2_getChar_3b067_24 : decode cJ2_getChar_3b067 24 = .ok (.invokespecial 56, 3) := by decide +kernel
theorem dJ2_getChar_3b067_27 : decode cJ2_getChar_3b067 27 = .ok (.athrow, 1) := by decide +kernel
theorem dJ2_getChar_3b067_28 : decode cJ2_getChar_3b067 28 = .ok (.iload_n 1, 1) := by decide +kernel
theorem dJ2_getChar_3b067_29 : decode cJ2_getChar_3b067 29 = .ok (.iconst 1, 1) := by decide +kernel
theorem dJ2_getChar_3b067_30 : decode cJ2_getChar_3b067 30 = .ok (.ishl, 1) := by decide +kernel
theorem dJ2_getChar_3b067_31 : decode cJ2_getChar_3b067 31 = .ok (.istore_n 1, 1) := by decide +kernel
theorem dJ2_getChar_3b067_32 : decode cJ2_getChar_3b067 32 = .ok (.aload_n 0, 1) := by decide +kernel
theorem dJ2_getChar_3b067_33 : decode cJ2_getChar_3b067 33 = .ok (.iload_n 1, 1) := by decide +kernel
theorem dJ2_getChar_3b067_34 : decode cJ2_getChar_3b067 34 = .ok (.iinc 1 1, 3) := by decide +kernel
theorem dJ2_getChar_3b067_37 : decode cJ2_getChar_3b067 37 = .ok (.baload, 1) := by decide +kernel
theorem dJ2_getChar_3b067_38 : decode cJ2_getChar_3b067 38 = .ok (.sipush 255, 3) := by decide +kernel
theorem dJ2_getChar_3b067_41 : decode cJ2_getChar_3b067 41 = .ok (.iand, 1) := by decide +kernel
theorem dJ2_getChar_3b067_42 : decode cJ2_getChar_3b067 42 = .ok (.getstatic 59, 3) := by decide +kernel
theorem dJ2_getChar_3b067_45 : decode cJ2_getChar_3b067 45 = .ok (.ishl, 1) := by decide +kernel
theorem dJ2_getChar_3b067_46 : decode cJ2_getChar_3b067 46 = .ok (.aload_n 0, 1) := by decide +kernel
theorem dJ2_getChar_3b067_47 : decode cJ2_getChar_3b067 47 = .ok (.iload_n 1, 1) := by decide +kernel
theorem dJ2_getChar_3b067_48 : decode cJ2_getChar_3b067 48 = .ok (.baload, 1) := by decide +kernel
theorem dJ2_getChar_3b067_49 : decode cJ2_getChar_3b067 49 = .ok (.sipush 255, 3) := by decide +kernel
theorem dJ2_getChar_3b067_52 : decode cJ2_getChar_3b067 52 = .ok (.iand, 1) := by decide +kernel
theorem dJ2_getChar_3b067_53 : decode cJ2_getChar_3b067 53 = .ok (.getstatic 63, 3) := by decide +kernel
theorem dJ2_getChar_3b067_56 : decode cJ2_getChar_3b067 56 = .ok (.ishl, 1) := by decide +kernel
theorem dJ2_getChar_3b067_57 : decode cJ2_getChar_3b067 57 = .ok (.ior, 1) := by decide +kernel
theorem dJ2_getChar_3b067_58 : decode cJ2_getChar_3b067 58 = .ok (.i2c, 1) := by decide +kernel
theorem dJ2_getChar_3b067_59 : decode cJ2_getChar_3b067 59 = .ok (.ireturn, 1) := by decide +kernel
theorem dJ2_length_9d52b_0 : decode cJ2_length_9d52b 0 = .ok (.aload_n 0, 1) := by decide +kernel
theorem dJ2_length_9d52b_1 : decode cJ2_length_9d52b 1 = .ok (.arraylength, 1) := by decide +kernel
theorem dJ2_length_9d52b_2 : decode cJ2_length_9d52b 2 = .ok (.iconst 1, 1) := by decide +kernel
theorem dJ2_length_9d52b_3 : decode cJ2_length_9d52b 3 = .ok (.ishr, 1) := by decide +kernel
theorem dJ2_length_9d52b_4 : decode cJ2_length_9d52b 4 = .ok (.ireturn, 1) := by decide +kernel
theorem dJ2_indexOf_4cfef_0 : decode cJ2_indexOf_4cfef 0 = .ok (.iload_n 2, 1) := by decide +kernel
theorem dJ2_indexOf_4cfef_1 : decode cJ2_indexOf_4cfef 1 = .ok (.iconst 0, 1) := by decide +kernel
theorem dJ2_indexOf_4cfef_2 : decode cJ2_indexOf_4cfef 2 = .ok (.invokestatic 224, 3) := by decide +kernel
theorem dJ2_indexOf_4cfef_5 : decode cJ2_indexOf_4cfef 5 = .ok (.istore_n 2, 1) := by decide +kernel
theorem dJ2_indexOf_4cfef_6 : decode cJ2_indexOf_4cfef 6 = .ok (.iload_n 3, 1) := by decide +kernel
theorem dJ2_indexOf_4cfef_7 : decode cJ2_indexOf_4cfef 7 = .ok (.aload_n 0, 1) := by decide +kernel
theorem dJ2_indexOf_4cfef_8 : decode cJ2_indexOf_4cfef 8 = .ok (.arraylength, 1) := by decide +kernel
theorem dJ2_indexOf_4cfef_9 : decode cJ2_indexOf_4cfef 9 = .ok (.iconst 1, 1) := by decide +kernel
theorem dJ2_indexOf_4cfef_10 : decode cJ2_indexOf_4cfef 10 = .ok (.ishr, 1) := by decide +kernel
theorem dJ2_indexOf_4cfef_11 : decode cJ2_indexOf_4cfef 11 = .ok (.invokestatic 183, 3) := by decide +kernel
theorem dJ2_indexOf_4cfef_14 : decode cJ2_indexOf_4cfef 14 = .ok (.istore_n 3, 1) := by decide +kernel
theorem dJ2_indexOf_4cfef_15 : decode cJ2_indexOf_4cfef 15 = .ok (.iload_n 2, 1) := by decide +kernel
theorem dJ2_indexOf_4cfef_16 : decode cJ2_indexOf_4cfef 16 = .ok (.iload_n 3, 1) := by decide +kernel
theorem dJ2_indexOf_4cfef_17 : decode cJ2_indexOf_4cfef 17 = .ok (.if_icmp .lt 5, 3) := by decide +kernel
theorem dJ2_indexOf_4cfef_20 : decode cJ2_indexOf_4cfef 20 = .ok (.iconst (-1), 1) := by decide +kernel
theorem dJ2_indexOf_4cfef_21 : decode cJ2_indexOf_4cfef 21 = .ok (.ireturn, 1) := by decide +kernel
theorem dJ2_indexOf_4cfef_22 : decode cJ2_indexOf_4cfef 22 = .ok (.iload_n 1, 1) := by decide +kernel
theorem dJ2_indexOf_4cfef_23 : decode cJ2_indexOf_4cfef 23 = .ok (.ldc 227, 2) := by decide +kernel
theorem dJ2_indexOf_4cfef_25 : decode cJ2_indexOf_4cfef 25 = .ok (.if_icmp .ge 11, 3) := by decide +kernel
theorem dJ2_indexOf_4cfef_28 : decode cJ2_indexOf_4cfef 28 = .ok (.aload_n 0, 1) := by decide +kernel
theorem dJ2_indexOf_4cfef_29 : decode cJ2_indexOf_4cfef 29 = .ok (.iload_n 1, 1) := by decide +kernel
theorem dJ2_indexOf_4cfef_30 : decode cJ2_indexOf_4cfef 30 = .ok (.iload_n 2, 1) := by decide +kernel
theorem dJ2_indexOf_4cfef_31 : decode cJ2_indexOf_4cfef 31 = .ok (.iload_n 3, 1) := by decide +kernel
theorem dJ2_indexOf_4cfef_32 : decode cJ2_indexOf_4cfef 32 = .ok (.invokestatic 228, 3) := by decide +kernel
theorem dJ2_indexOf_4cfef_35 : decode cJ2_indexOf_4cfef 35 = .ok (.ireturn, 1) := by decide +kernel
theorem dJ2_indexOf_4cfef_36 : decode cJ2_indexOf_4cfef 36 = .ok (.aload_n 0, 1) := by decide +kernel
theorem dJ2_indexOf_4cfef_37 : decode cJ2_indexOf_4cfef 37 = .ok (.iload_n 1, 1) := by decide +kernel
theorem dJ2_indexOf_4cfef_38 : decode cJ2_indexOf_4cfef 38 = .ok (.iload_n 2, 1) := by decide +kernel
theorem dJ2_indexOf_4cfef_39 : decode cJ2_indexOf_4cfef 39 = .ok (.iload_n 3, 1) := by decide +kernel
theorem dJ2_indexOf_4cfef_40 : decode cJ2_indexOf_4cfef 40 = .ok (.invokestatic 232, 3) := by decide +kernel
theorem dJ2_indexOf_4cfef_43 : decode cJ2_indexOf_4cfef 43 = .ok (.ireturn, 1) := by decide +kernel
theorem dJ2_indexOfChar_4cfef_0 : decode cJ2_indexOfChar_4cfef 0 = .ok (.iload_n 2, 1) := by decide +kernel
theorem dJ2_indexOfChar_4cfef_1 : decode cJ2_indexOfChar_4cfef 1 = .ok (.iload_n 3, 1) := by decide +kernel
theorem dJ2_indexOfChar_4cfef_2 : decode cJ2_indexOfChar_4cfef 2 = .ok (.aload_n 0, 1) := by decide +kernel
theorem dJ2_indexOfChar_4cfef_3 : decode cJ2_indexOfChar_4cfef 3 = .ok (.invokestatic 96, 3) := by decide +kernel
theorem dJ2_indexOfChar_4cfef_6 : decode cJ2_indexOfChar_4cfef 6 = .ok (.aload_n 0, 1) := by decide +kernel
theorem dJ2_indexOfChar_4cfef_7 : decode cJ2_indexOfChar_4cfef 7 = .ok (.iload_n 1, 1) := by decide +kernel
theorem dJ2_indexOfChar_4cfef_8 : decode cJ2_indexOfChar_4cfef 8 = .ok (.iload_n 2, 1) := by decide +kernel
theorem dJ2_indexOfChar_4cfef_9 : decode cJ2_indexOfChar_4cfef 9 = .ok (.iload_n 3, 1) := by decide +kernel
theorem dJ2_indexOfChar_4cfef_10 : decode cJ2_indexOfChar_4cfef 10 = .ok (.invokestatic 244, 3) := by decide +kernel
theorem dJ2_indexOfChar_4cfef_13 : decode cJ2_indexOfChar_4cfef 13 = .ok (.ireturn, 1) := by decide +kernel
theorem dJ2_indexOfCharUnsafe_4cfef_0 : decode cJ2_indexOfCharUnsafe_4cfef 0 = .ok (.iload_n 2, 1) := by decide +kernel
theorem dJ2_indexOfCharUnsafe_4cfef_1 : decode cJ2_indexOfCharUnsafe_4cfef 1 = .ok (.istore 4, 2) := by decide +kernel
theorem dJ2_indexOfCharUnsafe_4cfef_3 : decode cJ2_indexOfCharUnsafe_4cfef 3 = .ok (.iload 4, 2) := by decide +kernel
theorem dJ2_indexOfCharUnsafe_4cfef_5 : decode cJ2_indexOfCharUnsafe_4cfef 5 = .ok (.iload_n 3, 1) := by decide +kernel
theorem dJ2_indexOfCharUnsafe_4cfef_6 : decode cJ2_indexOfCharUnsafe_4cfef 6 = .ok (.if_icmp .ge 22, 3) := by decide +kernel
theorem dJ2_indexOfCharUnsafe_4cfef_9 : decode cJ2_indexOfCharUnsafe_4cfef 9 = .ok (.aload_n 0, 1) := by decide +kernel
theorem dJ2_indexOfCharUnsafe_4cfef_10 : decode cJ2_indexOfCharUnsafe_4cfef 10 = .ok (.iload 4, 2) := by decide +kernel
theorem dJ2_indexOfCharUnsafe_4cfef_12 : decode cJ2_indexOfCharUnsafe_4cfef 12 = .ok (.invokestatic 71, 3) := by decide +kernel
theorem dJ2_indexOfCharUnsafe_4cfef_15 : decode cJ2_indexOfCharUnsafe_4cfef 15 = .ok (.iload_n 1, 1) := by decide +kernel
theorem dJ2_indexOfCharUnsafe_4cfef_16 : decode cJ2_indexOfCharUnsafe_4cfef 16 = .ok (.if_icmp .ne 6, 3) := by decide +kernel
theorem dJ2_indexOfCharUnsafe_4cfef_19 : decode cJ2_indexOfCharUnsafe_4cfef 19 = .ok (.iload 4, 2) := by decide +kernel
theorem dJ2_indexOfCharUnsafe_4cfef_21 : decode cJ2_indexOfCharUnsafe_4cfef 21 = .ok (.ireturn, 1) := by decide +kernel
theorem dJ2_indexOfCharUnsafe_4cfef_22 : decode cJ2_indexOfCharUnsafe_4cfef 22 = .ok (.iinc 4 1, 3) := by decide +kernel
theorem dJ2_indexOfCharUnsafe_4cfef_25 : decode cJ2_indexOfCharUnsafe_4cfef 25 = .ok (.goto (-22), 3) := by decide +kernel
theorem dJ2_indexOfCharUnsafe_4cfef_28 : decode cJ2_indexOfCharUnsafe_4cfef 28 = .ok (.iconst (-1), 1) := by decide +kernel
theorem dJ2_indexOfCharUnsafe_4cfef_29 : decode cJ2_indexOfCharUnsafe_4cfef 29 = .ok (.ireturn, 1) := by decide +kernel
theorem dJ2_indexOfSupplementary_4cfef_0 : decode cJ2_indexOfSupplementary_4cfef 0 = .ok (.iload_n 1, 1) := by decide +kernel
theorem dJ2_indexOfSupplementary_4cfef_1 : decode cJ2_indexOfSupplementary_4cfef 1 = .ok (.invokestatic 164, 3) := by decide +kernel
theorem dJ2_indexOfSupplementary_4cfef_4 : decode cJ2_indexOfSupplementary_4cfef 4 = .ok (.ifCond .eq 65, 3) := by decide +kernel
theorem dJ2_indexOfSupplementary_4cfef_7 : decode cJ2_indexOfSupplementary_4cfef 7 = .ok (.iload_n 1, 1) := by decide +kernel
theorem dJ2_indexOfSupplementary_4cfef_8 : decode cJ2_indexOfSupplementary_4cfef 8 = .ok (.invokestatic 157, 3) := by decide +kernel
theorem dJ2_indexOfSupplementary_4cfef_11 : decode cJ2_indexOfSupplementary_4cfef 11 = .ok (.istore 4, 2) := by decide +kernel
theorem dJ2_indexOfSupplementary_4cfef_13 : decode cJ2_indexOfSupplementary_4cfef 13 = .ok (.iload_n 1, 1) := by decide +kernel
theorem dJ2_indexOfSupplementary_4cfef_14 : decode cJ2_indexOfSupplementary_4cfef 14 = .ok (.invokestatic 161, 3) := by decide +kernel
theorem dJ2_indexOfSupplementary_4cfef_17 : decode cJ2_indexOfSupplementary_4cfef 17 = .ok (.istore 5, 2) := by decide +kernel
theorem dJ2_indexOfSupplementary_4cfef_19 : decode cJ2_indexOfSupplementary_4cfef 19 = .ok (.iload_n 2, 1) := by decide +kernel
theorem dJ2_indexOfSupplementary_4cfef_20 : decode cJ2_indexOfSupplementary_4cfef 20 = .ok (.iload_n 3, 1) := by decide +kernel
theorem dJ2_indexOfSupplementary_4cfef_21 : decode cJ2_indexOfSupplementary_4cfef 21 = .ok (.aload_n 0, 1) := by decide +kernel
theorem dJ2_indexOfSupplementary_4cfef_22 : decode cJ2_indexOfSupplementary_4cfef 22 = .ok (.invokestatic 96, 3) := by decide +kernel
theorem dJ2_indexOfSupplementary_4cfef_25 : decode cJ2_indexOfSupplementary_4cfef 25 = .ok (.iload_n 2, 1) := by decide +kernel
theorem dJ2_indexOfSupplementary_4cfef_26 : decode cJ2_indexOfSupplementary_4cfef 26 = .ok (.istore 6, 2) := by decide +kernel
theorem dJ2_indexOfSupplementary_4cfef_28 : decode cJ2_indexOfSupplementary_4cfef 28 = .ok (.iload 6, 2) := by decide +kernel
theorem dJ2_indexOfSupplementary_4cfef_30 : decode cJ2_indexOfSupplementary_4cfef 30 = .ok (.iload_n 3, 1) := by decide +kernel
theorem dJ2_indexOfSupplementary_4cfef_31 : decode cJ2_indexOfSupplementary_4cfef 31 = .ok (.iconst 1, 1) := by decide +kernel
theorem dJ2_indexOfSupplementary_4cfef_32 : decode cJ2_indexOfSupplementary_4cfef 32 = .ok (.isub, 1) := by decide +kernel
theorem dJ2_indexOfSupplementary_4cfef_33 : decode cJ2_indexOfSupplementary_4cfef 33 = .ok (.if_icmp .ge 36, 3) := by decide +kernel
theorem dJ2_indexOfSupplementary_4cfef_36 : decode cJ2_indexOfSupplementary_4cfef 36 = .ok (.aload_n 0, 1) := by decide +kernel
theorem dJ2_indexOfSupplementary_4cfef_37 : decode cJ2_indexOfSupplementary_4cfef 37 = .ok (.iload 6, 2) := by decide +kernel
theorem dJ2_indexOfSupplementary_4cfef_39 : decode cJ2_indexOfSupplementary_4cfef 39 = .ok (.invokestatic 71, 3) := by decide +kernel
theorem dJ2_indexOfSupplementary_4cfef_42 : decode cJ2_indexOfSupplementary_4cfef 42 = .ok (.iload 4, 2) := by decide +kernel
theorem dJ2_indexOfSupplementary_4cfef_44 : decode cJ2_indexOfSupplementary_4cfef 44 = .ok (.if_icmp .ne 19, 3) := by decide +kernel
theorem dJ2_indexOfSupplementary_4cfef_47 : decode cJ2_indexOfSupplementary_4cfef 47 = .ok (.aload_n 0, 1) := by decide +kernel
theorem dJ2_indexOfSupplementary_4cfef_48 : decode cJ2_indexOfSupplementary_4cfef 48 = .ok (.iload 6, 2) := by decide +kernel
theorem dJ2_indexOfSupplementary_4cfef_50 : decode cJ2_indexOfSupplementary_4cfef 50 = .ok (.iconst 1, 1) := by decide +kernel
theorem dJ2_indexOfSupplementary_4cfef_51 : decode cJ2_indexOfSupplementary_4cfef 51 = .ok (.iadd, 1) := by decide +kernel
theorem dJ2_indexOfSupplementary_4cfef_52 : decode cJ2_indexOfSupplementary_4cfef 52 = .ok (.invokestatic 71, 3) := by decide +kernel
theorem dJ2_indexOfSupplementary_4cfef_55 : decode cJ2_indexOfSupplementary_4cfef 55 = .ok (.iload 5, 2) := by decide +kernel
theorem dJ2_indexOfSupplementary_4cfef_57 : decode cJ2_indexOfSupplementary_4cfef 57 = .ok (.if_icmp .ne 6, 3) := by decide +kernel
theorem dJ2_indexOfSupplementary_4cfef_60 : decode cJ2_indexOfSupplementary_4cfef 60 = .ok (.iload 6, 2) := by decide +kernel
theorem dJ2_indexOfSupplementary_4cfef_62 : decode cJ2_indexOfSupplementary_4cfef 62 = .ok (.ireturn, 1) := by decide +kernel
theorem dJ2_indexOfSupplementary_4cfef_63 : decode cJ2_indexOfSupplementary_4cfef 63 = .ok (.iinc 6 1, 3) := by decide +kernel
theorem dJ2_indexOfSupplementary_4cfef_66 : decode cJ2_indexOfSupplementary_4cfef 66 = .ok (.goto (-38), 3) := by decide +kernel
theorem dJ2_indexOfSupplementary_4cfef_69 : decode cJ2_indexOfSupplementary_4cfef 69 = .ok (.iconst (-1), 1) := by decide +kernel
theorem dJ2_indexOfSupplementary_4cfef_70 : decode cJ2_indexOfSupplementary_4cfef 70 = .ok (.ireturn, 1) := by decide +kernel
theorem dJ2_checkBoundsBeginEnd_d044e_0 : decode cJ2_checkBoundsBeginEnd_d044e 0 = .ok (.iload_n 0, 1) := by decide +kernel
theorem dJ2_checkBoundsBeginEnd_d044e_1 : decode cJ2_checkBoundsBeginEnd_d044e 1 = .ok (.iload_n 1, 1) := by decide +kernel
theorem dJ2_checkBoundsBeginEnd_d044e_2 : decode cJ2_checkBoundsBeginEnd_d044e 2 = .ok (.aload_n 2, 1) := by decide +kernel
theorem dJ2_checkBoundsBeginEnd_d044e_3 : decode cJ2_checkBoundsBeginEnd_d044e 3 = .ok (.invokestatic 48, 3) := by decide +kernel
theorem dJ2_checkBoundsBeginEnd_d044e_6 : decode cJ2_checkBoundsBeginEnd_d044e 6 = .ok (.invokestatic 241, 3) := by decide +kernel
theorem dJ2_checkBoundsBeginEnd_d044e_9 : decode cJ2_checkBoundsBeginEnd_d044e 9 = .ok (.return_, 1) := by decide +kernel
theorem dJ3_checkFromToIndex_8c36e_0 : decode cJ3_checkFromToIndex_8c36e 0 = .ok (.iload_n 0, 1) := by decide +kernel
theorem dJ3_checkFromToIndex_8c36e_1 : decode cJ3_checkFromToIndex_8c36e 1 = .ok (.ifCond .lt 13, 3) := by decide +kernel
theorem dJ3_checkFromToIndex_8c36e_4 : decode cJ3_checkFromToIndex_8c36e 4 = .ok (.iload_n 0, 1) := by decide +kernel
theorem dJ3_checkFromToIndex_8c36e_5 : decode cJ3_checkFromToIndex_8c36e 5 = .ok (.iload_n 1, 1) := by decide +kernel
theorem dJ3_checkFromToIndex_8c36e_6 : decode cJ3_checkFromToIndex_8c36e 6 = .ok (.if_icmp .gt 8, 3) := by decide +kernel
theorem dJ3_checkFromToIndex_8c36e_9 : decode cJ3_checkFromToIndex_8c36e 9 = .ok (.iload_n 1, 1) := by decide +kernel
theorem dJ3_checkFromToIndex_8c36e_10 : decode cJ3_checkFromToIndex_8c36e 10 = .ok (.iload_n 2, 1) := by decide +kernel
theorem dJ3_checkFromToIndex_8c36e_11 : decode cJ3_checkFromToIndex_8c36e 11 = .ok (.if_icmp .le 11, 3) := by decide +kernel
theorem dJ3_checkFromToIndex_8c36e_14 : decode cJ3_checkFromToIndex_8c36e 14 = .ok (.aload_n 3, 1) := by decide +kernel
theorem dJ3_checkFromToIndex_8c36e_15 : decode cJ3_checkFromToIndex_8c36e 15 = .ok (.iload_n 0, 1) := by decide +kernel
theorem dJ3_checkFromToIndex_8c36e_16 : decode cJ3_checkFromToIndex_8c36e 16 = .ok (.iload_n 1, 1) := by decide +kernel
theorem dJ3_checkFromToIndex_8c36e_17 : decode cJ3_checkFromToIndex_8c36e 17 = .ok (.iload_n 2, 1) := by decide +kernel
theorem dJ3_checkFromToIndex_8c36e_18 : decode cJ3_checkFromToIndex_8c36e 18 = .ok (.invokestatic 99, 3) := by decide +kernel
theorem dJ3_checkFromToIndex_8c36e_21 : decode cJ3_checkFromToIndex_8c36e 21 = .ok (.athrow, 1) := by decide +kernel
theorem dJ3_checkFromToIndex_8c36e_22 : decode cJ3_checkFromToIndex_8c36e 22 = .ok (.iload_n 0, 1) := by decide +kernel
theorem dJ3_checkFromToIndex_8c36e_23 : decode cJ3_checkFromToIndex_8c36e 23 = .ok (.ireturn, 1) := by decide +kernel
theorem dL_law_0 : decode cL_law 0 = .ok (.new 7, 3) := by decide +kernel
theorem dL_law_3 : decode cL_law 3 = .ok (.dup, 1) := by decide +kernel
theorem dL_law_4 : decode cL_law 4 = .ok (.invokespecial 9, 3) := by decide +kernel
theorem dL_law_7 : decode cL_law 7 = .ok (.astore_n 1, 1) := by decide +kernel
theorem dL_law_8 : decode cL_law 8 = .ok (.new 10, 3) := by decide +kernel
theorem dL_law_11 : decode cL_law 11 = .ok (.dup, 1) := by decide +kernel
theorem dL_law_12 : decode cL_law 12 = .ok (.invokespecial 12, 3) := by decide +kernel
theorem dL_law_15 : decode cL_law 15 = .ok (.astore_n 2, 1) := by decide +kernel
theorem dL_law_16 : decode cL_law 16 = .ok (.iconst 0, 1) := by decide +kernel
theorem dL_law_17 : decode cL_law 17 = .ok (.istore_n 3, 1) := by decide +kernel
theorem dL_law_18 : decode cL_law 18 = .ok (.iload_n 3, 1) := by decide +kernel
theorem dL_law_19 : decode cL_law 19 = .ok (.aload_n 0, 1) := by decide +kernel
theorem dL_law_20 : decode cL_law 20 = .ok (.arraylength, 1) := by decide +kernel
theorem dL_law_21 : decode cL_law 21 = .ok (.iconst 5, 1) := by decide +kernel
theorem dL_law_22 : decode cL_law 22 = .ok (.isub, 1) := by decide +kernel
theorem dL_law_23 : decode cL_law 23 = .ok (.if_icmp .gt 876, 3) := by decide +kernel
theorem dL_law_26 : decode cL_law 26 = .ok (.aload_n 0, 1) := by decide +kernel
theorem dL_law_27 : decode cL_law 27 = .ok (.iload_n 3, 1) := by decide +kernel
theorem dL_law_28 : decode cL_law 28 = .ok (.iaload, 1) := by decide +kernel
theorem dL_law_29 : decode cL_law 29 = .ok (.bipush 31, 2) := by decide +kernel
theorem dL_law_31 : decode cL_law 31 = .ok (.iand, 1) := by decide +kernel
theorem dL_law_32 : decode cL_law 32 = .ok (.tableswitch 861 0 26 #[124, 187, 200, 213, 226, 259, 292, 335, 378, 401, 414, 447, 480, 513, 566, 589, 622, 645, 668, 701, 714, 727, 766, 779, 792, 815, 838], 124) := by decide +kernel
theorem dL_law_156 : decode cL_law 156 = .ok (.aload_n 1, 1) := by decide +kernel
theorem dL_law_157 : decode cL_law 157 = .ok (.aload_n 0, 1) := by decide +kernel
theorem dL_law_158 : decode cL_law 158 = .ok (.iload_n 3, 1) := by decide +kernel
theorem dL_law_159 : decode cL_law 159 = .ok (.iconst 1, 1) := by decide +kernel
theorem dL_law_160 : decode cL_law 160 = .ok (.iadd, 1) := by decide +kernel
theorem dL_law_161 : decode cL_law 161 = .ok (.iaload, 1) := by decide +kernel
theorem dL_law_162 : decode cL_law 162 = .ok (.aload_n 0, 1) := by decide +kernel
theorem dL_law_163 : decode cL_law 163 = .ok (.iload_n 3, 1) := by decide +kernel
theorem dL_law_164 : decode cL_law 164 = .ok (.iconst 2, 1) := by decide +kernel
theorem dL_law_165 : decode cL_law 165 = .ok (.iadd, 1) := by decide +kernel
theorem dL_law_166 : decode cL_law 166 = .ok (.iaload, 1) := by decide +kernel
theorem dL_law_167 : decode cL_law 167 = .ok (.i2l, 1) := by decide +kernel
theorem dL_law_168 : decode cL_law 168 = .ok (.bipush 32, 2) := by decide +kernel
theorem dL_law_170 : decode cL_law 170 = .ok (.lshl, 1) := by decide +kernel
theorem dL_law_171 : decode cL_law 171 = .ok (.aload_n 0, 1) := by decide +kernel
theorem dL_law_172 : decode cL_law 172 = .ok (.iload_n 3, 1) := by decide +kernel
theorem dL_law_173 : decode cL_law 173 = .ok (.iconst 3, 1) := by decide +kernel
theorem dL_law_174 : decode cL_law 174 = .ok (.iadd, 1) := by decide +kernel
theorem dL_law_175 : decode cL_law 175 = .ok (.iaload, 1) := by decide +kernel
theorem dL_law_176 : decode cL_law 176 = .ok (.i2l, 1) := by decide +kernel
theorem dL_law_177 : decode cL_law 177 = .ok (.ldc2_w 13, 3) := by decide +kernel
theorem dL_law_180 : decode cL_law 180 = .ok (.land, 1) := by decide +kernel
theorem dL_law_181 : decode cL_law 181 = .ok (.lor, 1) := by decide +kernel
theorem dL_law_182 : decode cL_law 182 = .ok (.invokevirtual 15, 3) := by decide +kernel
theorem dL_law_185 : decode cL_law 185 = .ok (.aload_n 2, 1) := by decide +kernel
theorem dL_law_186 : decode cL_law 186 = .ok (.aload_n 0, 1) := by decide +kernel
theorem dL_law_187 : decode cL_law 187 = .ok (.iload_n 3, 1) := by decide +kernel
theorem dL_law_188 : decode cL_law 188 = .ok (.iconst 1, 1) := by decide +kernel
theorem dL_law_189 : decode cL_law 189 = .ok (.iadd, 1) := by decide +kernel
theorem dL_law_190 : decode cL_law 190 = .ok (.iaload, 1) := by decide +kernel
theorem dL_law_191 : decode cL_law 191 = .ok (.aload_n 0, 1) := by decide +kernel
theorem dL_law_192 : decode cL_law 192 = .ok (.iload_n 3, 1) := by decide +kernel
theorem dL_law_193 : decode cL_law 193 = .ok (.iconst 2, 1) := by decide +kernel
theorem dL_law_194 : decode cL_law 194 = .ok (.iadd, 1) := by decide +kernel
theorem dL_law_195 : decode cL_law 195 = .ok (.iaload, 1) := by decide +kernel
theorem dL_law_196 : decode cL_law 196 = .ok (.i2l, 1) := by decide +kernel
theorem dL_law_197 : decode cL_law 197 = .ok (.bipush 32, 2) := by decide +kernel
theorem dL_law_199 : decode cL_law 199 = .ok (.lshl, 1) := by decide +kernel
theorem dL_law_200 : decode cL_law 200 = .ok (.aload_n 0, 1) := by decide +kernel
theorem dL_law_201 : decode cL_law 201 = .ok (.iload_n 3, 1) := by decide +kernel
theorem dL_law_202 : decode cL_law 202 = .ok (.iconst 3, 1) := by decide +kernel
theorem dL_law_203 : decode cL_law 203 = .ok (.iadd, 1) := by decide +kernel
theorem dL_law_204 : decode cL_law 204 = .ok (.iaload, 1) := by decide +kernel
theorem dL_law_205 : decode cL_law 205 = .ok (.i2l, 1) := by decide +kernel
theorem dL_law_206 : decode cL_law 206 = .ok (.ldc2_w 13, 3) := by decide +kernel
theorem dL_law_209 : decode cL_law 209 = .ok (.land, 1) := by decide +kernel
theorem dL_law_210 : decode cL_law 210 = .ok (.lor, 1) := by decide +kernel
theorem dL_law_211 : decode cL_law 211 = .ok (.invokevirtual 19, 3) := by decide +kernel
theorem dL_law_214 : decode cL_law 214 = .ok (.if_icmp .eq 679, 3) := by decide +kernel
theorem dL_law_217 : decode cL_law 217 = .ok (.iconst 0, 1) := by decide +kernel
theorem dL_law_218 : decode cL_law 218 = .ok (.ireturn, 1) := by decide +kernel
theorem dL_law_219 : decode cL_law 219 = .ok (.aload_n 1, 1) := by decide +kernel
theorem dL_law_220 : decode cL_law 220 = .ok (.invokevirtual 20, 3) := by decide +kernel
theorem dL_law_223 : decode cL_law 223 = .ok (.aload_n 2, 1) := by decide +kernel
theorem dL_law_224 : decode cL_law 224 = .ok (.invokevirtual 24, 3) := by decide +kernel
theorem dL_law_227 : decode cL_law 227 = .ok (.if_icmp .eq 666, 3) := by decide +kernel
theorem dL_law_230 : decode cL_law 230 = .ok (.iconst 0, 1) := by decide +kernel
theorem dL_law_231 : decode cL_law 231 = .ok (.ireturn, 1) := by decide +kernel
theorem dL_law_232 : decode cL_law 232 = .ok (.aload_n 1, 1) := by decide +kernel
theorem dL_law_233 : decode cL_law 233 = .ok (.invokevirtual 25, 3) := by decide +kernel
theorem dL_law_236 : decode cL_law 236 = .ok (.aload_n 2, 1) := by decide +kernel
theorem dL_law_237 : decode cL_law 237 = .ok (.invokevirtual 28, 3) := by decide +kernel
theorem dL_law_240 : decode cL_law 240 = .ok (.if_icmp .eq 653, 3) := by decide +kernel
theorem dL_law_243 : decode cL_law 243 = .ok (.iconst 0, 1) := by decide +kernel
theorem dL_law_244 : decode cL_law 244 = .ok (.ireturn, 1) := by decide +kernel
theorem dL_law_245 : decode cL_law 245 = .ok (.aload_n 1, 1) := by decide +kernel
theorem dL_law_246 : decode cL_law 246 = .ok (.invokevirtual 29, 3) := by decide +kernel
theorem dL_law_249 : decode cL_law 249 = .ok (.aload_n 2, 1) := by decide +kernel
theorem dL_law_250 : decode cL_law 250 = .ok (.invokevirtual 32, 3) := by decide +kernel
theorem dL_law_253 : decode cL_law 253 = .ok (.if_icmp .eq 640, 3) := by decide +kernel
theorem dL_law_256 : decode cL_law 256 = .ok (.iconst 0, 1) := by decide +kernel
theorem dL_law_257 : decode cL_law 257 = .ok (.ireturn, 1) := by decide +kernel
theorem dL_law_258 : decode cL_law 258 = .ok (.aload_n 1, 1) := by decide +kernel
theorem dL_law_259 : decode cL_law 259 = .ok (.aload_n 0, 1) := by decide +kernel
theorem dL_law_260 : decode cL_law 260 = .ok (.iload_n 3, 1) := by decide +kernel
theorem dL_law_261 : decode cL_law 261 = .ok (.iconst 1, 1) := by decide +kernel
theorem dL_law_262 : decode cL_law 262 = .ok (.iadd, 1) := by decide +kernel
theorem dL_law_263 : decode cL_law 263 = .ok (.iaload, 1) := by decide +kernel
theorem dL_law_264 : decode cL_law 264 = .ok (.aload_n 0, 1) := by decide +kernel
theorem dL_law_265 : decode cL_law 265 = .ok (.iload_n 3, 1) := by decide +kernel
theorem dL_law_266 : decode cL_law 266 = .ok (.iconst 2, 1) := by decide +kernel
theorem dL_law_267 : decode cL_law 267 = .ok (.iadd, 1) := by decide +kernel
theorem dL_law_268 : decode cL_law 268 = .ok (.iaload, 1) := by decide +kernel
theorem dL_law_269 : decode cL_law 269 = .ok (.invokevirtual 33, 3) := by decide +kernel
theorem dL_law_272 : decode cL_law 272 = .ok (.aload_n 2, 1) := by decide +kernel
theorem dL_law_273 : decode cL_law 273 = .ok (.aload_n 0, 1) := by decide +kernel
theorem dL_law_274 : decode cL_law 274 = .ok (.iload_n 3, 1) := by decide +kernel
theorem dL_law_275 : decode cL_law 275 = .ok (.iconst 1, 1) := by decide +kernel
theorem dL_law_276 : decode cL_law 276 = .ok (.iadd, 1) := by decide +kernel
theorem dL_law_277 : decode cL_law 277 = .ok (.iaload, 1) := by decide +kernel
theorem dL_law_278 : decode cL_law 278 = .ok (.aload_n 0, 1) := by decide +kernel
theorem dL_law_279 : decode cL_law 279 = .ok (.iload_n 3, 1) := by decide +kernel
theorem dL_law_280 : decode cL_law 280 = .ok (.iconst 2, 1) := by decide +kernel
theorem dL_law_281 : decode cL_law 281 = .ok (.iadd, 1) := by decide +kernel
theorem dL_law_282 : decode cL_law 282 = .ok (.iaload, 1) := by decide +kernel
theorem dL_law_283 : decode cL_law 283 = .ok (.invokevirtual 37, 3) := by decide +kernel
theorem dL_law_286 : decode cL_law 286 = .ok (.if_icmp .eq 607, 3) := by decide +kernel
theorem dL_law_289 : decode cL_law 289 = .ok (.iconst 0, 1) := by decide +kernel
theorem dL_law_290 : decode cL_law 290 = .ok (.ireturn, 1) := by decide +kernel
theorem dL_law_291 : decode cL_law 291 = .ok (.aload_n 1, 1) := by decide +kernel
theorem dL_law_292 : decode cL_law 292 = .ok (.aload_n 0, 1) := by decide +kernel
theorem dL_law_293 : decode cL_law 293 = .ok (.iload_n 3, 1) := by decide +kernel
theorem dL_law_294 : decode cL_law 294 = .ok (.iconst 1, 1) := by decide +kernel
theorem dL_law_295 : decode cL_law 295 = .ok (.iadd, 1) := by decide +kernel
theorem dL_law_296 : decode cL_law 296 = .ok (.iaload, 1) := by decide +kernel
theorem dL_law_297 : decode cL_law 297 = .ok (.aload_n 0, 1) := by decide +kernel
theorem dL_law_298 : decode cL_law 298 = .ok (.iload_n 3, 1) := by decide +kernel
theorem dL_law_299 : decode cL_law 299 = .ok (.iconst 2, 1) := by decide +kernel
theorem dL_law_300 : decode cL_law 300 = .ok (.iadd, 1) := by decide +kernel
theorem dL_law_301 : decode cL_law 301 = .ok (.iaload, 1) := by decide +kernel
theorem dL_law_302 : decode cL_law 302 = .ok (.invokevirtual 38, 3) := by decide +kernel
theorem dL_law_305 : decode cL_law 305 = .ok (.aload_n 2, 1) := by decide +kernel
theorem dL_law_306 : decode cL_law 306 = .ok (.aload_n 0, 1) := by decide +kernel
theorem dL_law_307 : decode cL_law 307 = .ok (.iload_n 3, 1) := by decide +kernel
theorem dL_law_308 : decode cL_law 308 = .ok (.iconst 1, 1) := by decide +kernel
theorem dL_law_309 : decode cL_law 309 = .ok (.iadd, 1) := by decide +kernel
theorem dL_law_310 : decode cL_law 310 = .ok (.iaload, 1) := by decide +kernel
theorem dL_law_311 : decode cL_law 311 = .ok (.aload_n 0, 1) := by decide +kernel
theorem dL_law_312 : decode cL_law 312 = .ok (.iload_n 3, 1) := by decide +kernel
theorem dL_law_313 : decode cL_law 313 = .ok (.iconst 2, 1) := by decide +kernel
theorem dL_law_314 : decode cL_law 314 = .ok (.iadd, 1) := by decide +kernel
theorem dL_law_315 : decode cL_law 315 = .ok (.iaload, 1) := by decide +kernel
theorem dL_law_316 : decode cL_law 316 = .ok (.invokevirtual 41, 3) := by decide +kernel
theorem dL_law_319 : decode cL_law 319 = .ok (.if_icmp .eq 574, 3) := by decide +kernel
theorem dL_law_322 : decode cL_law 322 = .ok (.iconst 0, 1) := by decide +kernel
theorem dL_law_323 : decode cL_law 323 = .ok (.ireturn, 1) := by decide +kernel
theorem dL_law_324 : decode cL_law 324 = .ok (.aload_n 1, 1) := by decide +kernel
theorem dL_law_325 : decode cL_law 325 = .ok (.aload_n 0, 1) := by decide +kernel
theorem dL_law_326 : decode cL_law 326 = .ok (.iload_n 3, 1) := by decide +kernel
theorem dL_law_327 : decode cL_law 327 = .ok (.iconst 1, 1) := by decide +kernel
theorem dL_law_328 : decode cL_law 328 = .ok (.iadd, 1) := by decide +kernel
theorem dL_law_329 : decode cL_law 329 = .ok (.iaload, 1) := by decide +kernel
theorem dL_law_330 : decode cL_law 330 = .ok (.aload_n 0, 1) := by decide +kernel
theorem dL_law_331 : decode cL_law 331 = .ok (.iload_n 3, 1) := by decide +kernel
theorem dL_law_332 : decode cL_law 332 = .ok (.iconst 2, 1) := by decide +kernel
theorem dL_law_333 : decode cL_law 333 = .ok (.iadd, 1) := by decide +kernel
theorem dL_law_334 : decode cL_law 334 = .ok (.iaload, 1) := by decide +kernel
theorem dL_law_335 : decode cL_law 335 = .ok (.aload_n 0, 1) := by decide +kernel
theorem dL_law_336 : decode cL_law 336 = .ok (.iload_n 3, 1) := by decide +kernel
theorem dL_law_337 : decode cL_law 337 = .ok (.iconst 3, 1) := by decide +kernel
theorem dL_law_338 : decode cL_law 338 = .ok (.iadd, 1) := by decide +kernel
theorem dL_law_339 : decode cL_law 339 = .ok (.iaload, 1) := by decide +kernel
theorem dL_law_340 : decode cL_law 340 = .ok (.invokevirtual 42, 3) := by decide +kernel
theorem dL_law_343 : decode cL_law 343 = .ok (.aload_n 2, 1) := by decide +kernel
theorem dL_law_344 : decode cL_law 344 = .ok (.aload_n 0, 1) := by decide +kernel
theorem dL_law_345 : decode cL_law 345 = .ok (.iload_n 3, 1) := by decide +kernel
theorem dL_law_346 : decode cL_law 346 = .ok (.iconst 1, 1) := by decide +kernel
theorem dL_law_347 : decode cL_law 347 = .ok (.iadd, 1) := by decide +kernel
theorem dL_law_348 : decode cL_law 348 = .ok (.iaload, 1) := by decide +kernel
theorem dL_law_349 : decode cL_law 349 = .ok (.aload_n 0, 1) := by decide +kernel
theorem dL_law_350 : decode cL_law 350 = .ok (.iload_n 3, 1) := by decide +kernel
theorem dL_law_351 : decode cL_law 351 = .ok (.iconst 2, 1) := by decide +kernel
theorem dL_law_352 : decode cL_law 352 = .ok (.iadd, 1) := by decide +kernel
theorem dL_law_353 : decode cL_law 353 = .ok (.iaload, 1) := by decide +kernel
theorem dL_law_354 : decode cL_law 354 = .ok (.aload_n 0, 1) := by decide +kernel
theorem dL_law_355 : decode cL_law 355 = .ok (.iload_n 3, 1) := by decide +kernel
theorem dL_law_356 : decode cL_law 356 = .ok (.iconst 3, 1) := by decide +kernel
theorem dL_law_357 : decode cL_law 357 = .ok (.iadd, 1) := by decide +kernel
theorem dL_law_358 : decode cL_law 358 = .ok (.iaload, 1) := by decide +kernel
theorem dL_law_359 : decode cL_law 359 = .ok (.invokevirtual 46, 3) := by decide +kernel
theorem dL_law_362 : decode cL_law 362 = .ok (.if_icmp .eq 531, 3) := by decide +kernel
theorem dL_law_365 : decode cL_law 365 = .ok (.iconst 0, 1) := by decide +kernel
theorem dL_law_366 : decode cL_law 366 = .ok (.ireturn, 1) := by decide +kernel
theorem dL_law_367 : decode cL_law 367 = .ok (.aload_n 1, 1) := by decide +kernel
theorem dL_law_368 : decode cL_law 368 = .ok (.aload_n 0, 1) := by decide +kernel
theorem dL_law_369 : decode cL_law 369 = .ok (.iload_n 3, 1) := by decide +kernel
theorem dL_law_370 : decode cL_law 370 = .ok (.iconst 1, 1) := by decide +kernel
theorem dL_law_371 : decode cL_law 371 = .ok (.iadd, 1) := by decide +kernel
theorem dL_law_372 : decode cL_law 372 = .ok (.iaload, 1) := by decide +kernel
theorem dL_law_373 : decode cL_law 373 = .ok (.aload_n 0, 1) := by decide +kernel
theorem dL_law_374 : decode cL_law 374 = .ok (.iload_n 3, 1) := by decide +kernel
theorem dL_law_375 : decode cL_law 375 = .ok (.iconst 2, 1) := by decide +kernel
theorem dL_law_376 : decode cL_law 376 = .ok (.iadd, 1) := by decide +kernel
theorem dL_law_377 : decode cL_law 377 = .ok (.iaload, 1) := by decide +kernel
theorem dL_law_378 : decode cL_law 378 = .ok (.aload_n 0, 1) := by decide +kernel
theorem dL_law_379 : decode cL_law 379 = .ok (.iload_n 3, 1) := by decide +kernel
theorem dL_law_380 : decode cL_law 380 = .ok (.iconst 3, 1) := by decide +kernel
theorem dL_law_381 : decode cL_law 381 = .ok (.iadd, 1) := by decide +kernel
theorem dL_law_382 : decode cL_law 382 = .ok (.iaload, 1) := by decide +kernel
theorem dL_law_383 : decode cL_law 383 = .ok (.invokevirtual 47, 3) := by decide +kernel
theorem dL_law_386 : decode cL_law 386 = .ok (.aload_n 2, 1) := by decide +kernel
theorem dL_law_387 : decode cL_law 387 = .ok (.aload_n 0, 1) := by decide +kernel
theorem dL_law_388 : decode cL_law 388 = .ok (.iload_n 3, 1) := by decide +kernel
theorem dL_law_389 : decode cL_law 389 = .ok (.iconst 1, 1) := by decide +kernel
theorem dL_law_390 : decode cL_law 390 = .ok (.iadd, 1) := by decide +kernel
theorem dL_law_391 : decode cL_law 391 = .ok (.iaload, 1) := by decide +kernel
theorem dL_law_392 : decode cL_law 392 = .ok (.aload_n 0, 1) := by decide +kernel
theorem dL_law_393 : decode cL_law 393 = .ok (.iload_n 3, 1) := by decide +kernel
theorem dL_law_394 : decode cL_law 394 = .ok (.iconst 2, 1) := by decide +kernel
theorem dL_law_395 : decode cL_law 395 = .ok (.iadd, 1) := by decide +kernel
theorem dL_law_396 : decode cL_law 396 = .ok (.iaload, 1) := by decide +kernel
theorem dL_law_397 : decode cL_law 397 = .ok (.aload_n 0, 1) := by decide +kernel
theorem dL_law_398 : decode cL_law 398 = .ok (.iload_n 3, 1) := by decide +kernel
theorem dL_law_399 : decode cL_law 399 = .ok (.iconst 3, 1) := by decide +kernel
theorem dL_law_400 : decode cL_law 400 = .ok (.iadd, 1) := by decide +kernel
theorem dL_law_401 : decode cL_law 401 = .ok (.iaload, 1) := by decide +kernel
theorem dL_law_402 : decode cL_law 402 = .ok (.invokevirtual 50, 3) := by decide +kernel
theorem dL_law_405 : decode cL_law 405 = .ok (.if_icmp .eq 488, 3) := by decide +kernel
theorem dL_law_408 : decode cL_law 408 = .ok (.iconst 0, 1) := by decide +kernel
theorem dL_law_409 : decode cL_law 409 = .ok (.ireturn, 1) := by decide +kernel
theorem dL_law_410 : decode cL_law 410 = .ok (.aload_n 1, 1) := by decide +kernel
theorem dL_law_411 : decode cL_law 411 = .ok (.aload_n 0, 1) := by decide +kernel
theorem dL_law_412 : decode cL_law 412 = .ok (.iload_n 3, 1) := by decide +kernel
theorem dL_law_413 : decode cL_law 413 = .ok (.iconst 1, 1) := by decide +kernel
theorem dL_law_414 : decode cL_law 414 = .ok (.iadd, 1) := by decide +kernel
theorem dL_law_415 : decode cL_law 415 = .ok (.iaload, 1) := by decide +kernel
theorem dL_law_416 : decode cL_law 416 = .ok (.invokevirtual 51, 3) := by decide +kernel
theorem dL_law_419 : decode cL_law 419 = .ok (.aload_n 2, 1) := by decide +kernel
theorem dL_law_420 : decode cL_law 420 = .ok (.aload_n 0, 1) := by decide +kernel
theorem dL_law_421 : decode cL_law 421 = .ok (.iload_n 3, 1) := by decide +kernel
theorem dL_law_422 : decode cL_law 422 = .ok (.iconst 1, 1) := by decide +kernel
theorem dL_law_423 : decode cL_law 423 = .ok (.iadd, 1) := by decide +kernel
theorem dL_law_424 : decode cL_law 424 = .ok (.iaload, 1) := by decide +kernel
theorem dL_law_425 : decode cL_law 425 = .ok (.invokevirtual 55, 3) := by decide +kernel
theorem dL_law_428 : decode cL_law 428 = .ok (.if_icmp .eq 465, 3) := by decide +kernel
theorem dL_law_431 : decode cL_law 431 = .ok (.iconst 0, 1) := by decide +kernel
theorem dL_law_432 : decode cL_law 432 = .ok (.ireturn, 1) := by decide +kernel
theorem dL_law_433 : decode cL_law 433 = .ok (.aload_n 1, 1) := by decide +kernel
theorem dL_law_434 : decode cL_law 434 = .ok (.invokevirtual 56, 3) := by decide +kernel
theorem dL_law_437 : decode cL_law 437 = .ok (.aload_n 2, 1) := by decide +kernel
theorem dL_law_438 : decode cL_law 438 = .ok (.invokevirtual 59, 3) := by decide +kernel
theorem dL_law_441 : decode cL_law 441 = .ok (.if_icmp .eq 452, 3) := by decide +kernel
theorem dL_law_444 : decode cL_law 444 = .ok (.iconst 0, 1) := by decide +kernel
theorem dL_law_445 : decode cL_law 445 = .ok (.ireturn, 1) := by decide +kernel
theorem dL_law_446 : decode cL_law 446 = .ok (.aload_n 1, 1) := by decide +kernel
theorem dL_law_447 : decode cL_law 447 = .ok (.aload_n 0, 1) := by decide +kernel
theorem dL_law_448 : decode cL_law 448 = .ok (.iload_n 3, 1) := by decide +kernel
theorem dL_law_449 : decode cL_law 449 = .ok (.iconst 1, 1) := by decide +kernel
theorem dL_law_450 : decode cL_law 450 = .ok (.iadd, 1) := by decide +kernel
theorem dL_law_451 : decode cL_law 451 = .ok (.iaload, 1) := by decide +kernel
theorem dL_law_452 : decode cL_law 452 = .ok (.aload_n 0, 1) := by decide +kernel
theorem dL_law_453 : decode cL_law 453 = .ok (.iload_n 3, 1) := by decide +kernel
theorem dL_law_454 : decode cL_law 454 = .ok (.iconst 2, 1) := by decide +kernel
theorem dL_law_455 : decode cL_law 455 = .ok (.iadd, 1) := by decide +kernel
theorem dL_law_456 : decode cL_law 456 = .ok (.iaload, 1) := by decide +kernel
theorem dL_law_457 : decode cL_law 457 = .ok (.invokevirtual 60, 3) := by decide +kernel
theorem dL_law_460 : decode cL_law 460 = .ok (.aload_n 2, 1) := by decide +kernel
theorem dL_law_461 : decode cL_law 461 = .ok (.aload_n 0, 1) := by decide +kernel
theorem dL_law_462 : decode cL_law 462 = .ok (.iload_n 3, 1) := by decide +kernel
theorem dL_law_463 : decode cL_law 463 = .ok (.iconst 1, 1) := by decide +kernel
theorem dL_law_464 : decode cL_law 464 = .ok (.iadd, 1) := by decide +kernel
theorem dL_law_465 : decode cL_law 465 = .ok (.iaload, 1) := by decide +kernel
theorem dL_law_466 : decode cL_law 466 = .ok (.aload_n 0, 1) := by decide +kernel
theorem dL_law_467 : decode cL_law 467 = .ok (.iload_n 3, 1) := by decide +kernel
theorem dL_law_468 : decode cL_law 468 = .ok (.iconst 2, 1) := by decide +kernel
theorem dL_law_469 : decode cL_law 469 = .ok (.iadd, 1) := by decide +kernel
theorem dL_law_470 : decode cL_law 470 = .ok (.iaload, 1) := by decide +kernel
theorem dL_law_471 : decode cL_law 471 = .ok (.invokevirtual 63, 3) := by decide +kernel
theorem dL_law_474 : decode cL_law 474 = .ok (.if_icmp .eq 419, 3) := by decide +kernel
theorem dL_law_477 : decode cL_law 477 = .ok (.iconst 0, 1) := by decide +kernel
theorem dL_law_478 : decode cL_law 478 = .ok (.ireturn, 1) := by decide +kernel
theorem dL_law_479 : decode cL_law 479 = .ok (.aload_n 1, 1) := by decide +kernel
theorem dL_law_480 : decode cL_law 480 = .ok (.aload_n 0, 1) := by decide +kernel
theorem dL_law_481 : decode cL_law 481 = .ok (.iload_n 3, 1) := by decide +kernel
theorem dL_law_482 : decode cL_law 482 = .ok (.iconst 1, 1) := by decide +kernel
theorem dL_law_483 : decode cL_law 483 = .ok (.iadd, 1) := by decide +kernel
theorem dL_law_484 : decode cL_law 484 = .ok (.iaload, 1) := by decide +kernel
theorem dL_law_485 : decode cL_law 485 = .ok (.aload_n 0, 1) := by decide +kernel
theorem dL_law_486 : decode cL_law 486 = .ok (.iload_n 3, 1) := by decide +kernel
theorem dL_law_487 : decode cL_law 487 = .ok (.iconst 2, 1) := by decide +kernel
theorem dL_law_488 : decode cL_law 488 = .ok (.iadd, 1) := by decide +kernel
theorem dL_law_489 : decode cL_law 489 = .ok (.iaload, 1) := by decide +kernel
theorem dL_law_490 : decode cL_law 490 = .ok (.invokevirtual 64, 3) := by decide +kernel
theorem dL_law_493 : decode cL_law 493 = .ok (.aload_n 2, 1) := by decide +kernel
theorem dL_law_494 : decode cL_law 494 = .ok (.aload_n 0, 1) := by decide +kernel
theorem dL_law_495 : decode cL_law 495 = .ok (.iload_n 3, 1) := by decide +kernel
theorem dL_law_496 : decode cL_law 496 = .ok (.iconst 1, 1) := by decide +kernel
theorem dL_law_497 : decode cL_law 497 = .ok (.iadd, 1) := by decide +kernel
theorem dL_law_498 : decode cL_law 498 = .ok (.iaload, 1) := by decide +kernel
theorem dL_law_499 : decode cL_law 499 = .ok (.aload_n 0, 1) := by decide +kernel
theorem dL_law_500 : decode cL_law 500 = .ok (.iload_n 3, 1) := by decide +kernel
theorem dL_law_501 : decode cL_law 501 = .ok (.iconst 2, 1) := by decide +kernel
theorem dL_law_502 : decode cL_law 502 = .ok (.iadd, 1) := by decide +kernel
theorem dL_law_503 : decode cL_law 503 = .ok (.iaload, 1) := by decide +kernel
theorem dL_law_504 : decode cL_law 504 = .ok (.invokevirtual 67, 3) := by decide +kernel
theorem dL_law_507 : decode cL_law 507 = .ok (.if_icmp .eq 386, 3) := by decide +kernel
theorem dL_law_510 : decode cL_law 510 = .ok (.iconst 0, 1) := by decide +kernel
theorem dL_law_511 : decode cL_law 511 = .ok (.ireturn, 1) := by decide +kernel
theorem dL_law_512 : decode cL_law 512 = .ok (.aload_n 1, 1) := by decide +kernel
theorem dL_law_513 : decode cL_law 513 = .ok (.aload_n 0, 1) := by decide +kernel
theorem dL_law_514 : decode cL_law 514 = .ok (.iload_n 3, 1) := by decide +kernel
theorem dL_law_515 : decode cL_law 515 = .ok (.iconst 1, 1) := by decide +kernel
theorem dL_law_516 : decode cL_law 516 = .ok (.iadd, 1) := by decide +kernel
theorem dL_law_517 : decode cL_law 517 = .ok (.iaload, 1) := by decide +kernel
theorem dL_law_518 : decode cL_law 518 = .ok (.aload_n 0, 1) := by decide +kernel
theorem dL_law_519 : decode cL_law 519 = .ok (.iload_n 3, 1) := by decide +kernel
theorem dL_law_520 : decode cL_law 520 = .ok (.iconst 2, 1) := by decide +kernel
theorem dL_law_521 : decode cL_law 521 = .ok (.iadd, 1) := by decide +kernel
theorem dL_law_522 : decode cL_law 522 = .ok (.iaload, 1) := by decide +kernel
theorem dL_law_523 : decode cL_law 523 = .ok (.invokevirtual 68, 3) := by decide +kernel
theorem dL_law_526 : decode cL_law 526 = .ok (.aload_n 2, 1) := by decide +kernel
theorem dL_law_527 : decode cL_law 527 = .ok (.aload_n 0, 1) := by decide +kernel
theorem dL_law_528 : decode cL_law 528 = .ok (.iload_n 3, 1) := by decide +kernel
theorem dL_law_529 : decode cL_law 529 = .ok (.iconst 1, 1) := by decide +kernel
theorem dL_law_530 : decode cL_law 530 = .ok (.iadd, 1) := by decide +kernel
theorem dL_law_531 : decode cL_law 531 = .ok (.iaload, 1) := by decide +kernel
theorem dL_law_532 : decode cL_law 532 = .ok (.aload_n 0, 1) := by decide +kernel
theorem dL_law_533 : decode cL_law 533 = .ok (.iload_n 3, 1) := by decide +kernel
theorem dL_law_534 : decode cL_law 534 = .ok (.iconst 2, 1) := by decide +kernel
theorem dL_law_535 : decode cL_law 535 = .ok (.iadd, 1) := by decide +kernel
theorem dL_law_536 : decode cL_law 536 = .ok (.iaload, 1) := by decide +kernel
theorem dL_law_537 : decode cL_law 537 = .ok (.invokevirtual 71, 3) := by decide +kernel
theorem dL_law_540 : decode cL_law 540 = .ok (.if_icmp .eq 353, 3) := by decide +kernel
theorem dL_law_543 : decode cL_law 543 = .ok (.iconst 0, 1) := by decide +kernel
theorem dL_law_544 : decode cL_law 544 = .ok (.ireturn, 1) := by decide +kernel
theorem dL_law_545 : decode cL_law 545 = .ok (.aload_n 1, 1) := by decide +kernel
theorem dL_law_546 : decode cL_law 546 = .ok (.aload_n 0, 1) := by decide +kernel
theorem dL_law_547 : decode cL_law 547 = .ok (.iload_n 3, 1) := by decide +kernel
theorem dL_law_548 : decode cL_law 548 = .ok (.iconst 1, 1) := by decide +kernel
theorem dL_law_549 : decode cL_law 549 = .ok (.iadd, 1) := by decide +kernel
theorem dL_law_550 : decode cL_law 550 = .ok (.iaload, 1) := by decide +kernel
theorem dL_law_551 : decode cL_law 551 = .ok (.aload_n 0, 1) := by decide +kernel
theorem dL_law_552 : decode cL_law 552 = .ok (.iload_n 3, 1) := by decide +kernel
theorem dL_law_553 : decode cL_law 553 = .ok (.iconst 2, 1) := by decide +kernel
theorem dL_law_554 : decode cL_law 554 = .ok (.iadd, 1) := by decide +kernel
theorem dL_law_555 : decode cL_law 555 = .ok (.iaload, 1) := by decide +kernel
theorem dL_law_556 : decode cL_law 556 = .ok (.aload_n 0, 1) := by decide +kernel
theorem dL_law_557 : decode cL_law 557 = .ok (.iload_n 3, 1) := by decide +kernel
theorem dL_law_558 : decode cL_law 558 = .ok (.iconst 3, 1) := by decide +kernel
theorem dL_law_559 : decode cL_law 559 = .ok (.iadd, 1) := by decide +kernel
theorem dL_law_560 : decode cL_law 560 = .ok (.iaload, 1) := by decide +kernel
theorem dL_law_561 : decode cL_law 561 = .ok (.aload_n 0, 1) := by decide +kernel
theorem dL_law_562 : decode cL_law 562 = .ok (.iload_n 3, 1) := by decide +kernel
theorem dL_law_563 : decode cL_law 563 = .ok (.iconst 4, 1) := by decide +kernel
theorem dL_law_564 : decode cL_law 564 = .ok (.iadd, 1) := by decide +kernel
theorem dL_law_565 : decode cL_law 565 = .ok (.iaload, 1) := by decide +kernel
theorem dL_law_566 : decode cL_law 566 = .ok (.invokevirtual 72, 3) := by decide +kernel
theorem dL_law_569 : decode cL_law 569 = .ok (.aload_n 2, 1) := by decide +kernel
theorem dL_law_570 : decode cL_law 570 = .ok (.aload_n 0, 1) := by decide +kernel
theorem dL_law_571 : decode cL_law 571 = .ok (.iload_n 3, 1) := by decide +kernel
theorem dL_law_572 : decode cL_law 572 = .ok (.iconst 1, 1) := by decide +kernel
theorem dL_law_573 : decode cL_law 573 = .ok (.iadd, 1) := by decide +kernel
theorem dL_law_574 : decode cL_law 574 = .ok (.iaload, 1) := by decide +kernel
theorem dL_law_575 : decode cL_law 575 = .ok (.aload_n 0, 1) := by decide +kernel
theorem dL_law_576 : decode cL_law 576 = .ok (.iload_n 3, 1) := by decide +kernel
theorem dL_law_577 : decode cL_law 577 = .ok (.iconst 2, 1) := by decide +kernel
theorem dL_law_578 : decode cL_law 578 = .ok (.iadd, 1) := by decide +kernel
theorem dL_law_579 : decode cL_law 579 = .ok (.iaload, 1) := by decide +kernel
theorem dL_law_580 : decode cL_law 580 = .ok (.aload_n 0, 1) := by decide +kernel
theorem dL_law_581 : decode cL_law 581 = .ok (.iload_n 3, 1) := by decide +kernel
theorem dL_law_582 : decode cL_law 582 = .ok (.iconst 3, 1) := by decide +kernel
theorem dL_law_583 : decode cL_law 583 = .ok (.iadd, 1) := by decide +kernel
theorem dL_law_584 : decode cL_law 584 = .ok (.iaload, 1) := by decide +kernel
theorem dL_law_585 : decode cL_law 585 = .ok (.aload_n 0, 1) := by decide +kernel
theorem dL_law_586 : decode cL_law 586 = .ok (.iload_n 3, 1) := by decide +kernel
theorem dL_law_587 : decode cL_law 587 = .ok (.iconst 4, 1) := by decide +kernel
theorem dL_law_588 : decode cL_law 588 = .ok (.iadd, 1) := by decide +kernel
theorem dL_law_589 : decode cL_law 589 = .ok (.iaload, 1) := by decide +kernel
theorem dL_law_590 : decode cL_law 590 = .ok (.invokevirtual 76, 3) := by decide +kernel
theorem dL_law_593 : decode cL_law 593 = .ok (.if_icmp .eq 300, 3) := by decide +kernel
theorem dL_law_596 : decode cL_law 596 = .ok (.iconst 0, 1) := by decide +kernel
theorem dL_law_597 : decode cL_law 597 = .ok (.ireturn, 1) := by decide +kernel
theorem dL_law_598 : decode cL_law 598 = .ok (.aload_n 1, 1) := by decide +kernel
theorem dL_law_599 : decode cL_law 599 = .ok (.aload_n 0, 1) := by decide +kernel
theorem dL_law_600 : decode cL_law 600 = .ok (.iload_n 3, 1) := by decide +kernel
theorem dL_law_601 : decode cL_law 601 = .ok (.iconst 1, 1) := by decide +kernel
theorem dL_law_602 : decode cL_law 602 = .ok (.iadd, 1) := by decide +kernel
theorem dL_law_603 : decode cL_law 603 = .ok (.iaload, 1) := by decide +kernel
theorem dL_law_604 : decode cL_law 604 = .ok (.invokevirtual 77, 3) := by decide +kernel
theorem dL_law_607 : decode cL_law 607 = .ok (.aload_n 2, 1) := by decide +kernel
theorem dL_law_608 : decode cL_law 608 = .ok (.aload_n 0, 1) := by decide +kernel
theorem dL_law_609 : decode cL_law 609 = .ok (.iload_n 3, 1) := by decide +kernel
theorem dL_law_610 : decode cL_law 610 = .ok (.iconst 1, 1) := by decide +kernel
theorem dL_law_611 : decode cL_law 611 = .ok (.iadd, 1) := by decide +kernel
theorem dL_law_612 : decode cL_law 612 = .ok (.iaload, 1) := by decide +kernel
theorem dL_law_613 : decode cL_law 613 = .ok (.invokevirtual 80, 3) := by decide +kernel
theorem dL_law_616 : decode cL_law 616 = .ok (.if_icmp .eq 277, 3) := by decide +kernel
theorem dL_law_619 : decode cL_law 619 = .ok (.iconst 0, 1) := by decide +kernel
theorem dL_law_620 : decode cL_law 620 = .ok (.ireturn, 1) := by decide +kernel
theorem dL_law_621 : decode cL_law 621 = .ok (.aload_n 1, 1) := by decide +kernel
theorem dL_law_622 : decode cL_law 622 = .ok (.aload_n 0, 1) := by decide +kernel
theorem dL_law_623 : decode cL_law 623 = .ok (.iload_n 3, 1) := by decide +kernel
theorem dL_law_624 : decode cL_law 624 = .ok (.iconst 1, 1) := by decide +kernel
theorem dL_law_625 : decode cL_law 625 = .ok (.iadd, 1) := by decide +kernel
theorem dL_law_626 : decode cL_law 626 = .ok (.iaload, 1) := by decide +kernel
theorem dL_law_627 : decode cL_law 627 = .ok (.aload_n 0, 1) := by decide +kernel
theorem dL_law_628 : decode cL_law 628 = .ok (.iload_n 3, 1) := by decide +kernel
theorem dL_law_629 : decode cL_law 629 = .ok (.iconst 2, 1) := by decide +kernel
theorem dL_law_630 : decode cL_law 630 = .ok (.iadd, 1) := by decide +kernel
theorem dL_law_631 : decode cL_law 631 = .ok (.iaload, 1) := by decide +kernel
theorem dL_law_632 : decode cL_law 632 = .ok (.invokevirtual 81, 3) := by decide +kernel
theorem dL_law_635 : decode cL_law 635 = .ok (.aload_n 2, 1) := by decide +kernel
theorem dL_law_636 : decode cL_law 636 = .ok (.aload_n 0, 1) := by decide +kernel
theorem dL_law_637 : decode cL_law 637 = .ok (.iload_n 3, 1) := by decide +kernel
theorem dL_law_638 : decode cL_law 638 = .ok (.iconst 1, 1) := by decide +kernel
theorem dL_law_639 : decode cL_law 639 = .ok (.iadd, 1) := by decide +kernel
theorem dL_law_640 : decode cL_law 640 = .ok (.iaload, 1) := by decide +kernel
theorem dL_law_641 : decode cL_law 641 = .ok (.aload_n 0, 1) := by decide +kernel
theorem dL_law_642 : decode cL_law 642 = .ok (.iload_n 3, 1) := by decide +kernel
theorem dL_law_643 : decode cL_law 643 = .ok (.iconst 2, 1) := by decide +kernel
theorem dL_law_644 : decode cL_law 644 = .ok (.iadd, 1) := by decide +kernel
theorem dL_law_645 : decode cL_law 645 = .ok (.iaload, 1) := by decide +kernel
theorem dL_law_646 : decode cL_law 646 = .ok (.invokevirtual 84, 3) := by decide +kernel
theorem dL_law_649 : decode cL_law 649 = .ok (.if_icmp .eq 244, 3) := by decide +kernel
theorem dL_law_652 : decode cL_law 652 = .ok (.iconst 0, 1) := by decide +kernel
theorem dL_law_653 : decode cL_law 653 = .ok (.ireturn, 1) := by decide +kernel
theorem dL_law_654 : decode cL_law 654 = .ok (.aload_n 1, 1) := by decide +kernel
theorem dL_law_655 : decode cL_law 655 = .ok (.aload_n 0, 1) := by decide +kernel
theorem dL_law_656 : decode cL_law 656 = .ok (.iload_n 3, 1) := by decide +kernel
theorem dL_law_657 : decode cL_law 657 = .ok (.iconst 1, 1) := by decide +kernel
theorem dL_law_658 : decode cL_law 658 = .ok (.iadd, 1) := by decide +kernel
theorem dL_law_659 : decode cL_law 659 = .ok (.iaload, 1) := by decide +kernel
theorem dL_law_660 : decode cL_law 660 = .ok (.invokevirtual 85, 3) := by decide +kernel
theorem dL_law_663 : decode cL_law 663 = .ok (.aload_n 2, 1) := by decide +kernel
theorem dL_law_664 : decode cL_law 664 = .ok (.aload_n 0, 1) := by decide +kernel
theorem dL_law_665 : decode cL_law 665 = .ok (.iload_n 3, 1) := by decide +kernel
theorem dL_law_666 : decode cL_law 666 = .ok (.iconst 1, 1) := by decide +kernel
theorem dL_law_667 : decode cL_law 667 = .ok (.iadd, 1) := by decide +kernel
theorem dL_law_668 : decode cL_law 668 = .ok (.iaload, 1) := by decide +kernel
theorem dL_law_669 : decode cL_law 669 = .ok (.invokevirtual 88, 3) := by decide +kernel
theorem dL_law_672 : decode cL_law 672 = .ok (.if_icmp .eq 221, 3) := by decide +kernel
theorem dL_law_675 : decode cL_law 675 = .ok (.iconst 0, 1) := by decide +kernel
theorem dL_law_676 : decode cL_law 676 = .ok (.ireturn, 1) := by decide +kernel
theorem dL_law_677 : decode cL_law 677 = .ok (.aload_n 1, 1) := by decide +kernel
theorem dL_law_678 : decode cL_law 678 = .ok (.aload_n 0, 1) := by decide +kernel
theorem dL_law_679 : decode cL_law 679 = .ok (.iload_n 3, 1) := by decide +kernel
theorem dL_law_680 : decode cL_law 680 = .ok (.iconst 1, 1) := by decide +kernel
theorem dL_law_681 : decode cL_law 681 = .ok (.iadd, 1) := by decide +kernel
theorem dL_law_682 : decode cL_law 682 = .ok (.iaload, 1) := by decide +kernel
theorem dL_law_683 : decode cL_law 683 = .ok (.invokevirtual 89, 3) := by decide +kernel
theorem dL_law_686 : decode cL_law 686 = .ok (.aload_n 2, 1) := by decide +kernel
theorem dL_law_687 : decode cL_law 687 = .ok (.aload_n 0, 1) := by decide +kernel
theorem dL_law_688 : decode cL_law 688 = .ok (.iload_n 3, 1) := by decide +kernel
theorem dL_law_689 : decode cL_law 689 = .ok (.iconst 1, 1) := by decide +kernel
theorem dL_law_690 : decode cL_law 690 = .ok (.iadd, 1) := by decide +kernel
theorem dL_law_691 : decode cL_law 691 = .ok (.iaload, 1) := by decide +kernel
theorem dL_law_692 : decode cL_law 692 = .ok (.invokevirtual 92, 3) := by decide +kernel
theorem dL_law_695 : decode cL_law 695 = .ok (.if_icmp .eq 198, 3) := by decide +kernel
theorem dL_law_698 : decode cL_law 698 = .ok (.iconst 0, 1) := by decide +kernel
theorem dL_law_699 : decode cL_law 699 = .ok (.ireturn, 1) := by decide +kernel
theorem dL_law_700 : decode cL_law 700 = .ok (.aload_n 1, 1) := by decide +kernel
theorem dL_law_701 : decode cL_law 701 = .ok (.aload_n 0, 1) := by decide +kernel
theorem dL_law_702 : decode cL_law 702 = .ok (.iload_n 3, 1) := by decide +kernel
theorem dL_law_703 : decode cL_law 703 = .ok (.iconst 1, 1) := by decide +kernel
theorem dL_law_704 : decode cL_law 704 = .ok (.iadd, 1) := by decide +kernel
theorem dL_law_705 : decode cL_law 705 = .ok (.iaload, 1) := by decide +kernel
theorem dL_law_706 : decode cL_law 706 = .ok (.aload_n 0, 1) := by decide +kernel
theorem dL_law_707 : decode cL_law 707 = .ok (.iload_n 3, 1) := by decide +kernel
theorem dL_law_708 : decode cL_law 708 = .ok (.iconst 2, 1) := by decide +kernel
theorem dL_law_709 : decode cL_law 709 = .ok (.iadd, 1) := by decide +kernel
theorem dL_law_710 : decode cL_law 710 = .ok (.iaload, 1) := by decide +kernel
theorem dL_law_711 : decode cL_law 711 = .ok (.invokevirtual 93, 3) := by decide +kernel
theorem dL_law_714 : decode cL_law 714 = .ok (.aload_n 2, 1) := by decide +kernel
theorem dL_law_715 : decode cL_law 715 = .ok (.aload_n 0, 1) := by decide +kernel
theorem dL_law_716 : decode cL_law 716 = .ok (.iload_n 3, 1) := by decide +kernel
theorem dL_law_717 : decode cL_law 717 = .ok (.iconst 1, 1) := by decide +kernel
theorem dL_law_718 : decode cL_law 718 = .ok (.iadd, 1) := by decide +kernel
theorem dL_law_719 : decode cL_law 719 = .ok (.iaload, 1) := by decide +kernel
theorem dL_law_720 : decode cL_law 720 = .ok (.aload_n 0, 1) := by decide +kernel
theorem dL_law_721 : decode cL_law 721 = .ok (.iload_n 3, 1) := by decide +kernel
theorem dL_law_722 : decode cL_law 722 = .ok (.iconst 2, 1) := by decide +kernel
theorem dL_law_723 : decode cL_law 723 = .ok (.iadd, 1) := by decide +kernel
theorem dL_law_724 : decode cL_law 724 = .ok (.iaload, 1) := by decide +kernel
theorem dL_law_725 : decode cL_law 725 = .ok (.invokevirtual 96, 3) := by decide +kernel
theorem dL_law_728 : decode cL_law 728 = .ok (.if_icmp .eq 165, 3) := by decide +kernel
theorem dL_law_731 : decode cL_law 731 = .ok (.iconst 0, 1) := by decide +kernel
theorem dL_law_732 : decode cL_law 732 = .ok (.ireturn, 1) := by decide +kernel
theorem dL_law_733 : decode cL_law 733 = .ok (.aload_n 1, 1) := by decide +kernel
theorem dL_law_734 : decode cL_law 734 = .ok (.invokevirtual 97, 3) := by decide +kernel
theorem dL_law_737 : decode cL_law 737 = .ok (.aload_n 2, 1) := by decide +kernel
theorem dL_law_738 : decode cL_law 738 = .ok (.invokevirtual 100, 3) := by decide +kernel
theorem dL_law_741 : decode cL_law 741 = .ok (.if_icmp .eq 152, 3) := by decide +kernel
theorem dL_law_744 : decode cL_law 744 = .ok (.iconst 0, 1) := by decide +kernel
theorem dL_law_745 : decode cL_law 745 = .ok (.ireturn, 1) := by decide +kernel
theorem dL_law_746 : decode cL_law 746 = .ok (.aload_n 1, 1) := by decide +kernel
theorem dL_law_747 : decode cL_law 747 = .ok (.invokevirtual 101, 3) := by decide +kernel
theorem dL_law_750 : decode cL_law 750 = .ok (.aload_n 2, 1) := by decide +kernel
theorem dL_law_751 : decode cL_law 751 = .ok (.invokevirtual 104, 3) := by decide +kernel
theorem dL_law_754 : decode cL_law 754 = .ok (.if_icmp .eq 139, 3) := by decide +kernel
theorem dL_law_757 : decode cL_law 757 = .ok (.iconst 0, 1) := by decide +kernel
theorem dL_law_758 : decode cL_law 758 = .ok (.ireturn, 1) := by decide +kernel
theorem dL_law_759 : decode cL_law 759 = .ok (.aload_n 1, 1) := by decide +kernel
theorem dL_law_760 : decode cL_law 760 = .ok (.aload_n 0, 1) := by decide +kernel
theorem dL_law_761 : decode cL_law 761 = .ok (.iload_n 3, 1) := by decide +kernel
theorem dL_law_762 : decode cL_law 762 = .ok (.iconst 1, 1) := by decide +kernel
theorem dL_law_763 : decode cL_law 763 = .ok (.iadd, 1) := by decide +kernel
theorem dL_law_764 : decode cL_law 764 = .ok (.iaload, 1) := by decide +kernel
theorem dL_law_765 : decode cL_law 765 = .ok (.ifCond .eq 7, 3) := by decide +kernel
theorem dL_law_768 : decode cL_law 768 = .ok (.iconst 1, 1) := by decide +kernel
theorem dL_law_769 : decode cL_law 769 = .ok (.goto 4, 3) := by decide +kernel
theorem dL_law_772 : decode cL_law 772 = .ok (.iconst 0, 1) := by decide +kernel
theorem dL_law_773 : decode cL_law 773 = .ok (.invokevirtual 105, 3) := by decide +kernel
theorem dL_law_776 : decode cL_law 776 = .ok (.aload_n 2, 1) := by decide +kernel
theorem dL_law_777 : decode cL_law 777 = .ok (.aload_n 0, 1) := by decide +kernel
theorem dL_law_778 : decode cL_law 778 = .ok (.iload_n 3, 1) := by decide +kernel
theorem dL_law_779 : decode cL_law 779 = .ok (.iconst 1, 1) := by decide +kernel
theorem dL_law_780 : decode cL_law 780 = .ok (.iadd, 1) := by decide +kernel
theorem dL_law_781 : decode cL_law 781 = .ok (.iaload, 1) := by decide +kernel
theorem dL_law_782 : decode cL_law 782 = .ok (.ifCond .eq 7, 3) := by decide +kernel
theorem dL_law_785 : decode cL_law 785 = .ok (.iconst 1, 1) := by decide +kernel
theorem dL_law_786 : decode cL_law 786 = .ok (.goto 4, 3) := by decide +kernel
theorem dL_law_789 : decode cL_law 789 = .ok (.iconst 0, 1) := by decide +kernel
theorem dL_law_790 : decode cL_law 790 = .ok (.invokevirtual 109, 3) := by decide +kernel
theorem dL_law_793 : decode cL_law 793 = .ok (.if_icmp .eq 100, 3) := by decide +kernel
theorem dL_law_796 : decode cL_law 796 = .ok (.iconst 0, 1) := by decide +kernel
theorem dL_law_797 : decode cL_law 797 = .ok (.ireturn, 1) := by decide +kernel
theorem dL_law_798 : decode cL_law 798 = .ok (.aload_n 1, 1) := by decide +kernel
theorem dL_law_799 : decode cL_law 799 = .ok (.invokevirtual 110, 3) := by decide +kernel
theorem dL_law_802 : decode cL_law 802 = .ok (.aload_n 2, 1) := by decide +kernel
theorem dL_law_803 : decode cL_law 803 = .ok (.invokevirtual 113, 3) := by decide +kernel
theorem dL_law_806 : decode cL_law 806 = .ok (.if_icmp .eq 87, 3) := by decide +kernel
theorem dL_law_809 : decode cL_law 809 = .ok (.iconst 0, 1) := by decide +kernel
theorem dL_law_810 : decode cL_law 810 = .ok (.ireturn, 1) := by decide +kernel
theorem dL_law_811 : decode cL_law 811 = .ok (.aload_n 1, 1) := by decide +kernel
theorem dL_law_812 : decode cL_law 812 = .ok (.invokevirtual 114, 3) := by decide +kernel
theorem dL_law_815 : decode cL_law 815 = .ok (.aload_n 2, 1) := by decide +kernel
theorem dL_law_816 : decode cL_law 816 = .ok (.invokevirtual 117, 3) := by decide +kernel
theorem dL_law_819 : decode cL_law 819 = .ok (.if_icmp .eq 74, 3) := by decide +kernel
theorem dL_law_822 : decode cL_law 822 = .ok (.iconst 0, 1) := by decide +kernel
theorem dL_law_823 : decode cL_law 823 = .ok (.ireturn, 1) := by decide +kernel
theorem dL_law_824 : decode cL_law 824 = .ok (.aload_n 1, 1) := by decide +kernel
theorem dL_law_825 : decode cL_law 825 = .ok (.aload_n 0, 1) := by decide +kernel
theorem dL_law_826 : decode cL_law 826 = .ok (.iload_n 3, 1) := by decide +kernel
theorem dL_law_827 : decode cL_law 827 = .ok (.iconst 1, 1) := by decide +kernel
theorem dL_law_828 : decode cL_law 828 = .ok (.iadd, 1) := by decide +kernel
theorem dL_law_829 : decode cL_law 829 = .ok (.iaload, 1) := by decide +kernel
theorem dL_law_830 : decode cL_law 830 = .ok (.invokevirtual 118, 3) := by decide +kernel
theorem dL_law_833 : decode cL_law 833 = .ok (.aload_n 2, 1) := by decide +kernel
theorem dL_law_834 : decode cL_law 834 = .ok (.aload_n 0, 1) := by decide +kernel
theorem dL_law_835 : decode cL_law 835 = .ok (.iload_n 3, 1) := by decide +kernel
theorem dL_law_836 : decode cL_law 836 = .ok (.iconst 1, 1) := by decide +kernel
theorem dL_law_837 : decode cL_law 837 = .ok (.iadd, 1) := by decide +kernel
theorem dL_law_838 : decode cL_law 838 = .ok (.iaload, 1) := by decide +kernel
theorem dL_law_839 : decode cL_law 839 = .ok (.invokevirtual 121, 3) := by decide +kernel
theorem dL_law_842 : decode cL_law 842 = .ok (.if_icmp .eq 51, 3) := by decide +kernel
theorem dL_law_845 : decode cL_law 845 = .ok (.iconst 0, 1) := by decide +kernel
theorem dL_law_846 : decode cL_law 846 = .ok (.ireturn, 1) := by decide +kernel
theorem dL_law_847 : decode cL_law 847 = .ok (.aload_n 1, 1) := by decide +kernel
theorem dL_law_848 : decode cL_law 848 = .ok (.aload_n 0, 1) := by decide +kernel
theorem dL_law_849 : decode cL_law 849 = .ok (.iload_n 3, 1) := by decide +kernel
theorem dL_law_850 : decode cL_law 850 = .ok (.iconst 1, 1) := by decide +kernel
theorem dL_law_851 : decode cL_law 851 = .ok (.iadd, 1) := by decide +kernel
theorem dL_law_852 : decode cL_law 852 = .ok (.iaload, 1) := by decide +kernel
theorem dL_law_853 : decode cL_law 853 = .ok (.invokevirtual 122, 3) := by decide +kernel
theorem dL_law_856 : decode cL_law 856 = .ok (.aload_n 2, 1) := by decide +kernel
theorem dL_law_857 : decode cL_law 857 = .ok (.aload_n 0, 1) := by decide +kernel
theorem dL_law_858 : decode cL_law 858 = .ok (.iload_n 3, 1) := by decide +kernel
theorem dL_law_859 : decode cL_law 859 = .ok (.iconst 1, 1) := by decide +kernel
theorem dL_law_860 : decode cL_law 860 = .ok (.iadd, 1) := by decide +kernel
theorem dL_law_861 : decode cL_law 861 = .ok (.iaload, 1) := by decide +kernel
theorem dL_law_862 : decode cL_law 862 = .ok (.invokevirtual 125, 3) := by decide +kernel
theorem dL_law_865 : decode cL_law 865 = .ok (.if_icmp .eq 28, 3) := by decide +kernel
theorem dL_law_868 : decode cL_law 868 = .ok (.iconst 0, 1) := by decide +kernel
theorem dL_law_869 : decode cL_law 869 = .ok (.ireturn, 1) := by decide +kernel
theorem dL_law_870 : decode cL_law 870 = .ok (.aload_n 1, 1) := by decide +kernel
theorem dL_law_871 : decode cL_law 871 = .ok (.aload_n 0, 1) := by decide +kernel
theorem dL_law_872 : decode cL_law 872 = .ok (.iload_n 3, 1) := by decide +kernel
theorem dL_law_873 : decode cL_law 873 = .ok (.iconst 1, 1) := by decide +kernel
theorem dL_law_874 : decode cL_law 874 = .ok (.iadd, 1) := by decide +kernel
theorem dL_law_875 : decode cL_law 875 = .ok (.iaload, 1) := by decide +kernel
theorem dL_law_876 : decode cL_law 876 = .ok (.invokevirtual 126, 3) := by decide +kernel
theorem dL_law_879 : decode cL_law 879 = .ok (.aload_n 2, 1) := by decide +kernel
theorem dL_law_880 : decode cL_law 880 = .ok (.aload_n 0, 1) := by decide +kernel
theorem dL_law_881 : decode cL_law 881 = .ok (.iload_n 3, 1) := by decide +kernel
theorem dL_law_882 : decode cL_law 882 = .ok (.iconst 1, 1) := by decide +kernel
theorem dL_law_883 : decode cL_law 883 = .ok (.iadd, 1) := by decide +kernel
theorem dL_law_884 : decode cL_law 884 = .ok (.iaload, 1) := by decide +kernel
theorem dL_law_885 : decode cL_law 885 = .ok (.invokevirtual 129, 3) := by decide +kernel
theorem dL_law_888 : decode cL_law 888 = .ok (.if_icmp .eq 5, 3) := by decide +kernel
theorem dL_law_891 : decode cL_law 891 = .ok (.iconst 0, 1) := by decide +kernel
theorem dL_law_892 : decode cL_law 892 = .ok (.ireturn, 1) := by decide +kernel
theorem dL_law_893 : decode cL_law 893 = .ok (.iinc 3 5, 3) := by decide +kernel
theorem dL_law_896 : decode cL_law 896 = .ok (.goto (-878), 3) := by decide +kernel
theorem dL_law_899 : decode cL_law 899 = .ok (.iconst 1, 1) := by decide +kernel
theorem dL_law_900 : decode cL_law 900 = .ok (.ireturn, 1) := by decide +kernel
