theorem dX5_layFaces_77 : decode cX5_layFaces 77 = .ok (.goto (-75), 3) := by decide +kernel
theorem dX5_layFaces_80 : decode cX5_layFaces 80 = .ok (.return_, 1) := by decide +kernel
theorem dX5_areAlike_0 : decode cX5_areAlike 0 = .ok (.aload_n 0, 1) := by decide +kernel
theorem dX5_areAlike_1 : decode cX5_areAlike 1 = .ok (.getfield 47, 3) := by decide +kernel
theorem dX5_areAlike_4 : decode cX5_areAlike 4 = .ok (.iload_n 1, 1) := by decide +kernel
theorem dX5_areAlike_5 : decode cX5_areAlike 5 = .ok (.iaload, 1) := by decide +kernel
theorem dX5_areAlike_6 : decode cX5_areAlike 6 = .ok (.aload_n 0, 1) := by decide +kernel
theorem dX5_areAlike_7 : decode cX5_areAlike 7 = .ok (.getfield 47, 3) := by decide +kernel
theorem dX5_areAlike_10 : decode cX5_areAlike 10 = .ok (.iload_n 2, 1) := by decide +kernel
theorem dX5_areAlike_11 : decode cX5_areAlike 11 = .ok (.iaload, 1) := by decide +kernel
theorem dX5_areAlike_12 : decode cX5_areAlike 12 = .ok (.if_icmp .ne 52, 3) := by decide +kernel
theorem dX5_areAlike_15 : decode cX5_areAlike 15 = .ok (.aload_n 0, 1) := by decide +kernel
theorem dX5_areAlike_16 : decode cX5_areAlike 16 = .ok (.getfield 50, 3) := by decide +kernel
theorem dX5_areAlike_19 : decode cX5_areAlike 19 = .ok (.iload_n 1, 1) := by decide +kernel
theorem dX5_areAlike_20 : decode cX5_areAlike 20 = .ok (.iaload, 1) := by decide +kernel
theorem dX5_areAlike_21 : decode cX5_areAlike 21 = .ok (.aload_n 0, 1) := by decide +kernel
theorem dX5_areAlike_22 : decode cX5_areAlike 22 = .ok (.getfield 50, 3) := by decide +kernel
theorem dX5_areAlike_25 : decode cX5_areAlike 25 = .ok (.iload_n 2, 1) := by decide +kernel
theorem dX5_areAlike_26 : decode cX5_areAlike 26 = .ok (.iaload, 1) := by decide +kernel
theorem dX5_areAlike_27 : decode cX5_areAlike 27 = .ok (.if_icmp .ne 37, 3) := by decide +kernel
theorem dX5_areAlike_30 : decode cX5_areAlike 30 = .ok (.aload_n 0, 1) := by decide +kernel
theorem dX5_areAlike_31 : decode cX5_areAlike 31 = .ok (.getfield 53, 3) := by decide +kernel
theorem dX5_areAlike_34 : decode cX5_areAlike 34 = .ok (.iload_n 1, 1) := by decide +kernel
theorem dX5_areAlike_35 : decode cX5_areAlike 35 = .ok (.iaload, 1) := by decide +kernel
theorem dX5_areAlike_36 : decode cX5_areAlike 36 = .ok (.aload_n 0, 1) := by decide +kernel
theorem dX5_areAlike_37 : decode cX5_areAlike 37 = .ok (.getfield 53, 3) := by decide +kernel
theorem dX5_areAlike_40 : decode cX5_areAlike 40 = .ok (.iload_n 2, 1) := by decide +kernel
theorem dX5_areAlike_41 : decode cX5_areAlike 41 = .ok (.iaload, 1) := by decide +kernel
theorem dX5_areAlike_42 : decode cX5_areAlike 42 = .ok (.if_icmp .ne 22, 3) := by decide +kernel
theorem dX5_areAlike_45 : decode cX5_areAlike 45 = .ok (.aload_n 0, 1) := by decide +kernel
theorem dX5_areAlike_46 : decode cX5_areAlike 46 = .ok (.getfield 56, 3) := by decide +kernel
theorem dX5_areAlike_49 : decode cX5_areAlike 49 = .ok (.iload_n 1, 1) := by decide +kernel
theorem dX5_areAlike_50 : decode cX5_areAlike 50 = .ok (.iaload, 1) := by decide +kernel
theorem dX5_areAlike_51 : decode cX5_areAlike 51 = .ok (.aload_n 0, 1) := by decide +kernel
theorem dX5_areAlike_52 : decode cX5_areAlike 52 = .ok (.getfield 56, 3) := by decide +kernel
theorem dX5_areAlike_55 : decode cX5_areAlike 55 = .ok (.iload_n 2, 1) := by decide +kernel
theorem dX5_areAlike_56 : decode cX5_areAlike 56 = .ok (.iaload, 1) := by decide +kernel
theorem dX5_areAlike_57 : decode cX5_areAlike 57 = .ok (.if_icmp .ne 7, 3) := by decide +kernel
theorem dX5_areAlike_60 : decode cX5_areAlike 60 = .ok (.iconst 1, 1) := by decide +kernel
theorem dX5_areAlike_61 : decode cX5_areAlike 61 = .ok (.goto 4, 3) := by decide +kernel
theorem dX5_areAlike_64 : decode cX5_areAlike 64 = .ok (.iconst 0, 1) := by decide +kernel
theorem dX5_areAlike_65 : decode cX5_areAlike 65 = .ok (.ireturn, 1) := by decide +kernel
theorem dX5_likeFaces_0 : decode cX5_likeFaces 0 = .ok (.iconst 0, 1) := by decide +kernel
theorem dX5_likeFaces_1 : decode cX5_likeFaces 1 = .ok (.istore_n 3, 1) := by decide +kernel
theorem dX5_likeFaces_2 : decode cX5_likeFaces 2 = .ok (.iconst 0, 1) := by decide +kernel
theorem dX5_likeFaces_3 : decode cX5_likeFaces 3 = .ok (.istore 4, 2) := by decide +kernel
theorem dX5_likeFaces_5 : decode cX5_likeFaces 5 = .ok (.iload 4, 2) := by decide +kernel
theorem dX5_likeFaces_7 : decode cX5_likeFaces 7 = .ok (.iconst 3, 1) := by decide +kernel
theorem dX5_likeFaces_8 : decode cX5_likeFaces 8 = .ok (.if_icmp .ge 38, 3) := by decide +kernel
theorem dX5_likeFaces_11 : decode cX5_likeFaces 11 = .ok (.aload_n 0, 1) := by decide +kernel
theorem dX5_likeFaces_12 : decode cX5_likeFaces 12 = .ok (.iconst 3, 1) := by decide +kernel
theorem dX5_likeFaces_13 : decode cX5_likeFaces 13 = .ok (.iload_n 1, 1) := by decide +kernel
theorem dX5_likeFaces_14 : decode cX5_likeFaces 14 = .ok (.imul, 1) := by decide +kernel
theorem dX5_likeFaces_15 : decode cX5_likeFaces 15 = .ok (.iload_n 2, 1) := by decide +kernel
theorem dX5_likeFaces_16 : decode cX5_likeFaces 16 = .ok (.iadd, 1) := by decide +kernel
theorem dX5_likeFaces_17 : decode cX5_likeFaces 17 = .ok (.iconst 3, 1) := by decide +kernel
theorem dX5_likeFaces_18 : decode cX5_likeFaces 18 = .ok (.iload_n 1, 1) := by decide +kernel
theorem dX5_likeFaces_19 : decode cX5_likeFaces 19 = .ok (.imul, 1) := by decide +kernel
theorem dX5_likeFaces_20 : decode cX5_likeFaces 20 = .ok (.iload 4, 2) := by decide +kernel
theorem dX5_likeFaces_22 : decode cX5_likeFaces 22 = .ok (.iadd, 1) := by decide +kernel
theorem dX5_likeFaces_23 : decode cX5_likeFaces 23 = .ok (.invokevirtual 246, 3) := by decide +kernel
theorem dX5_likeFaces_26 : decode cX5_likeFaces 26 = .ok (.ifCond .eq 14, 3) := by decide +kernel
theorem dX5_likeFaces_29 : decode cX5_likeFaces 29 = .ok (.iload 4, 2) := by decide +kernel
theorem dX5_likeFaces_31 : decode cX5_likeFaces 31 = .ok (.iload_n 2, 1) := by decide +kernel
theorem dX5_likeFaces_32 : decode cX5_likeFaces 32 = .ok (.if_icmp .ge 5, 3) := by decide +kernel
theorem dX5_likeFaces_35 : decode cX5_likeFaces 35 = .ok (.iconst 0, 1) := by decide +kernel
theorem dX5_likeFaces_36 : decode cX5_likeFaces 36 = .ok (.ireturn, 1) := by decide +kernel
theorem dX5_likeFaces_37 : decode cX5_likeFaces 37 = .ok (.iinc 3 1, 3) := by decide +kernel
theorem dX5_likeFaces_40 : decode cX5_likeFaces 40 = .ok (.iinc 4 1, 3) := by decide +kernel
theorem dX5_likeFaces_43 : decode cX5_likeFaces 43 = .ok (.goto (-38), 3) := by decide +kernel
theorem dX5_likeFaces_46 : decode cX5_likeFaces 46 = .ok (.iload_n 3, 1) := by decide +kernel
theorem dX5_likeFaces_47 : decode cX5_likeFaces 47 = .ok (.ireturn, 1) := by decide +kernel
theorem dX5_endDeep_0 : decode cX5_endDeep 0 = .ok (.aload_n 0, 1) := by decide +kernel
theorem dX5_endDeep_1 : decode cX5_endDeep 1 = .ok (.getfield 41, 3) := by decide +kernel
theorem dX5_endDeep_4 : decode cX5_endDeep 4 = .ok (.iload_n 1, 1) := by decide +kernel
theorem dX5_endDeep_5 : decode cX5_endDeep 5 = .ok (.iaload, 1) := by decide +kernel
theorem dX5_endDeep_6 : decode cX5_endDeep 6 = .ok (.istore_n 2, 1) := by decide +kernel
theorem dX5_endDeep_7 : decode cX5_endDeep 7 = .ok (.iload_n 1, 1) := by decide +kernel
theorem dX5_endDeep_8 : decode cX5_endDeep 8 = .ok (.istore_n 3, 1) := by decide +kernel
theorem dX5_endDeep_9 : decode cX5_endDeep 9 = .ok (.iload_n 3, 1) := by decide +kernel
theorem dX5_endDeep_10 : decode cX5_endDeep 10 = .ok (.bipush 7, 2) := by decide +kernel
theorem dX5_endDeep_12 : decode cX5_endDeep 12 = .ok (.if_icmp .ge 13, 3) := by decide +kernel
theorem dX5_endDeep_15 : decode cX5_endDeep 15 = .ok (.iload_n 2, 1) := by decide +kernel
theorem dX5_endDeep_16 : decode cX5_endDeep 16 = .ok (.iconst 3, 1) := by decide +kernel
theorem dX5_endDeep_17 : decode cX5_endDeep 17 = .ok (.imul, 1) := by decide +kernel
theorem dX5_endDeep_18 : decode cX5_endDeep 18 = .ok (.istore_n 2, 1) := by decide +kernel
theorem dX5_endDeep_19 : decode cX5_endDeep 19 = .ok (.iinc 3 1, 3) := by decide +kernel
theorem dX5_endDeep_22 : decode cX5_endDeep 22 = .ok (.goto (-13), 3) := by decide +kernel
theorem dX5_endDeep_25 : decode cX5_endDeep 25 = .ok (.iconst 0, 1) := by decide +kernel
theorem dX5_endDeep_26 : decode cX5_endDeep 26 = .ok (.istore_n 3, 1) := by decide +kernel
theorem dX5_endDeep_27 : decode cX5_endDeep 27 = .ok (.iload_n 3, 1) := by decide +kernel
theorem dX5_endDeep_28 : decode cX5_endDeep 28 = .ok (.aload_n 0, 1) := by decide +kernel
theorem dX5_endDeep_29 : decode cX5_endDeep 29 = .ok (.getfield 116, 3) := by decide +kernel
theorem dX5_endDeep_32 : decode cX5_endDeep 32 = .ok (.if_icmp .ge 33, 3) := by decide +kernel
theorem dX5_endDeep_35 : decode cX5_endDeep 35 = .ok (.aload_n 0, 1) := by decide +kernel
theorem dX5_endDeep_36 : decode cX5_endDeep 36 = .ok (.getfield 59, 3) := by decide +kernel
theorem dX5_endDeep_39 : decode cX5_endDeep 39 = .ok (.iload_n 3, 1) := by decide +kernel
theorem dX5_endDeep_40 : decode cX5_endDeep 40 = .ok (.dup2, 1) := by decide +kernel
theorem dX5_endDeep_41 : decode cX5_endDeep 41 = .ok (.iaload, 1) := by decide +kernel
theorem dX5_endDeep_42 : decode cX5_endDeep 42 = .ok (.aload_n 0, 1) := by decide +kernel
theorem dX5_endDeep_43 : decode cX5_endDeep 43 = .ok (.getfield 119, 3) := by decide +kernel
theorem dX5_endDeep_46 : decode cX5_endDeep 46 = .ok (.iconst 1, 1) := by decide +kernel
theorem dX5_endDeep_47 : decode cX5_endDeep 47 = .ok (.iload_n 3, 1) := by decide +kernel
theorem dX5_endDeep_48 : decode cX5_endDeep 48 = .ok (.ishl, 1) := by decide +kernel
theorem dX5_endDeep_49 : decode cX5_endDeep 49 = .ok (.if_icmp .ne 7, 3) := by decide +kernel
theorem dX5_endDeep_52 : decode cX5_endDeep 52 = .ok (.iload_n 2, 1) := by decide +kernel
theorem dX5_endDeep_53 : decode cX5_endDeep 53 = .ok (.goto 4, 3) := by decide +kernel
theorem dX5_endDeep_56 : decode cX5_endDeep 56 = .ok (.iconst 0, 1) := by decide +kernel
theorem dX5_endDeep_57 : decode cX5_endDeep 57 = .ok (.iadd, 1) := by decide +kernel
theorem dX5_endDeep_58 : decode cX5_endDeep 58 = .ok (.iastore, 1) := by decide +kernel
theorem dX5_endDeep_59 : decode cX5_endDeep 59 = .ok (.iinc 3 1, 3) := by decide +kernel
theorem dX5_endDeep_62 : decode cX5_endDeep 62 = .ok (.goto (-35), 3) := by decide +kernel
theorem dX5_endDeep_65 : decode cX5_endDeep 65 = .ok (.return_, 1) := by decide +kernel
theorem dX5_enter_0 : decode cX5_enter 0 = .ok (.aload_n 0, 1) := by decide +kernel
theorem dX5_enter_1 : decode cX5_enter 1 = .ok (.iload_n 1, 1) := by decide +kernel
theorem dX5_enter_2 : decode cX5_enter 2 = .ok (.iload_n 2, 1) := by decide +kernel
theorem dX5_enter_3 : decode cX5_enter 3 = .ok (.invokevirtual 249, 3) := by decide +kernel
theorem dX5_enter_6 : decode cX5_enter 6 = .ok (.aload_n 0, 1) := by decide +kernel
theorem dX5_enter_7 : decode cX5_enter 7 = .ok (.invokevirtual 175, 3) := by decide +kernel
theorem dX5_enter_10 : decode cX5_enter 10 = .ok (.ifCond .eq 11, 3) := by decide +kernel
theorem dX5_enter_13 : decode cX5_enter 13 = .ok (.aload_n 0, 1) := by decide +kernel
theorem dX5_enter_14 : decode cX5_enter 14 = .ok (.iload_n 1, 1) := by decide +kernel
theorem dX5_enter_15 : decode cX5_enter 15 = .ok (.invokevirtual 253, 3) := by decide +kernel
theorem dX5_enter_18 : decode cX5_enter 18 = .ok (.goto 15, 3) := by decide +kernel
theorem dX5_enter_21 : decode cX5_enter 21 = .ok (.aload_n 0, 1) := by decide +kernel
theorem dX5_enter_22 : decode cX5_enter 22 = .ok (.iload_n 1, 1) := by decide +kernel
theorem dX5_enter_23 : decode cX5_enter 23 = .ok (.invokevirtual 256, 3) := by decide +kernel
theorem dX5_enter_26 : decode cX5_enter 26 = .ok (.aload_n 0, 1) := by decide +kernel
theorem dX5_enter_27 : decode cX5_enter 27 = .ok (.getfield 44, 3) := by decide +kernel
theorem dX5_enter_30 : decode cX5_enter 30 = .ok (.iload_n 1, 1) := by decide +kernel
theorem dX5_enter_31 : decode cX5_enter 31 = .ok (.iconst 3, 1) := by decide +kernel
theorem dX5_enter_32 : decode cX5_enter 32 = .ok (.iastore, 1) := by decide +kernel
theorem dX5_enter_33 : decode cX5_enter 33 = .ok (.return_, 1) := by decide +kernel
theorem dX5_layLikely_0 : decode cX5_layLikely 0 = .ok (.aload_n 0, 1) := by decide +kernel
theorem dX5_layLikely_1 : decode cX5_layLikely 1 = .ok (.invokevirtual 182, 3) := by decide +kernel
theorem dX5_layLikely_4 : decode cX5_layLikely 4 = .ok (.iconst 0, 1) := by decide +kernel
theorem dX5_layLikely_5 : decode cX5_layLikely 5 = .ok (.istore_n 1, 1) := by decide +kernel
theorem dX5_layLikely_6 : decode cX5_layLikely 6 = .ok (.iload_n 1, 1) := by decide +kernel
theorem dX5_layLikely_7 : decode cX5_layLikely 7 = .ok (.bipush 8, 2) := by decide +kernel
theorem dX5_layLikely_9 : decode cX5_layLikely 9 = .ok (.if_icmp .ge 16, 3) := by decide +kernel
theorem dX5_layLikely_12 : decode cX5_layLikely 12 = .ok (.aload_n 0, 1) := by decide +kernel
theorem dX5_layLikely_13 : decode cX5_layLikely 13 = .ok (.getfield 59, 3) := by decide +kernel
theorem dX5_layLikely_16 : decode cX5_layLikely 16 = .ok (.iload_n 1, 1) := by decide +kernel
theorem dX5_layLikely_17 : decode cX5_layLikely 17 = .ok (.iconst 0, 1) := by decide +kernel
theorem dX5_layLikely_18 : decode cX5_layLikely 18 = .ok (.iastore, 1) := by decide +kernel
theorem dX5_layLikely_19 : decode cX5_layLikely 19 = .ok (.iinc 1 1, 3) := by decide +kernel
theorem dX5_layLikely_22 : decode cX5_layLikely 22 = .ok (.goto (-16), 3) := by decide +kernel
theorem dX5_layLikely_25 : decode cX5_layLikely 25 = .ok (.aload_n 0, 1) := by decide +kernel
theorem dX5_layLikely_26 : decode cX5_layLikely 26 = .ok (.iconst 0, 1) := by decide +kernel
theorem dX5_layLikely_27 : decode cX5_layLikely 27 = .ok (.iconst 1, 1) := by decide +kernel
theorem dX5_layLikely_28 : decode cX5_layLikely 28 = .ok (.invokevirtual 259, 3) := by decide +kernel
theorem dX5_layLikely_31 : decode cX5_layLikely 31 = .ok (.iconst 0, 1) := by decide +kernel
theorem dX5_layLikely_32 : decode cX5_layLikely 32 = .ok (.istore_n 1, 1) := by decide +kernel
theorem dX5_layLikely_33 : decode cX5_layLikely 33 = .ok (.iload_n 1, 1) := by decide +kernel
theorem dX5_layLikely_34 : decode cX5_layLikely 34 = .ok (.ifCond .lt 132, 3) := by decide +kernel
theorem dX5_layLikely_37 : decode cX5_layLikely 37 = .ok (.aload_n 0, 1) := by decide +kernel
theorem dX5_layLikely_38 : decode cX5_layLikely 38 = .ok (.getfield 44, 3) := by decide +kernel
theorem dX5_layLikely_41 : decode cX5_layLikely 41 = .ok (.iload_n 1, 1) := by decide +kernel
theorem dX5_layLikely_42 : decode cX5_layLikely 42 = .ok (.iaload, 1) := by decide +kernel
theorem dX5_layLikely_43 : decode cX5_layLikely 43 = .ok (.istore_n 2, 1) := by decide +kernel
theorem dX5_layLikely_44 : decode cX5_layLikely 44 = .ok (.aload_n 0, 1) := by decide +kernel
theorem dX5_layLikely_45 : decode cX5_layLikely 45 = .ok (.getfield 44, 3) := by decide +kernel
theorem dX5_layLikely_48 : decode cX5_layLikely 48 = .ok (.iload_n 1, 1) := by decide +kernel
theorem dX5_layLikely_49 : decode cX5_layLikely 49 = .ok (.dup2, 1) := by decide +kernel
theorem dX5_layLikely_50 : decode cX5_layLikely 50 = .ok (.iaload, 1) := by decide +kernel
theorem dX5_layLikely_51 : decode cX5_layLikely 51 = .ok (.iconst 1, 1) := by decide +kernel
theorem dX5_layLikely_52 : decode cX5_layLikely 52 = .ok (.iadd, 1) := by decide +kernel
theorem dX5_layLikely_53 : decode cX5_layLikely 53 = .ok (.iastore, 1) := by decide +kernel
theorem dX5_layLikely_54 : decode cX5_layLikely 54 = .ok (.iload_n 2, 1) := by decide +kernel
theorem dX5_layLikely_55 : decode cX5_layLikely 55 = .ok (.iconst 3, 1) := by decide +kernel
theorem dX5_layLikely_56 : decode cX5_layLikely 56 = .ok (.if_icmp .ge 12, 3) := by decide +kernel
theorem dX5_layLikely_59 : decode cX5_layLikely 59 = .ok (.aload_n 0, 1) := by decide +kernel
theorem dX5_layLikely_60 : decode cX5_layLikely 60 = .ok (.iload_n 1, 1) := by decide +kernel
theorem dX5_layLikely_61 : decode cX5_layLikely 61 = .ok (.iload_n 2, 1) := by decide +kernel
theorem dX5_layLikely_62 : decode cX5_layLikely 62 = .ok (.invokevirtual 262, 3) := by decide +kernel
theorem dX5_layLikely_65 : decode cX5_layLikely 65 = .ok (.goto 4, 3) := by decide +kernel
theorem dX5_layLikely_68 : decode cX5_layLikely 68 = .ok (.iconst 0, 1) := by decide +kernel
theorem dX5_layLikely_69 : decode cX5_layLikely 69 = .ok (.istore_n 3, 1) := by decide +kernel
theorem dX5_layLikely_70 : decode cX5_layLikely 70 = .ok (.iload_n 3, 1) := by decide +kernel
theorem dX5_layLikely_71 : decode cX5_layLikely 71 = .ok (.ifCond .le 84, 3) := by decide +kernel
theorem dX5_layLikely_74 : decode cX5_layLikely 74 = .ok (.iconst 3, 1) := by decide +kernel
theorem dX5_layLikely_75 : decode cX5_layLikely 75 = .ok (.iload_n 1, 1) := by decide +kernel
theorem dX5_layLikely_76 : decode cX5_layLikely 76 = .ok (.imul, 1) := by decide +kernel
theorem dX5_layLikely_77 : decode cX5_layLikely 77 = .ok (.iload_n 2, 1) := by decide +kernel
theorem dX5_layLikely_78 : decode cX5_layLikely 78 = .ok (.iadd, 1) := by decide +kernel
theorem dX5_layLikely_79 : decode cX5_layLikely 79 = .ok (.istore 4, 2) := by decide +kernel
theorem dX5_layLikely_81 : decode cX5_layLikely 81 = .ok (.aload_n 0, 1) := by decide +kernel
theorem dX5_layLikely_82 : decode cX5_layLikely 82 = .ok (.aload_n 0, 1) := by decide +kernel
theorem dX5_layLikely_83 : decode cX5_layLikely 83 = .ok (.getfield 47, 3) := by decide +kernel
theorem dX5_layLikely_86 : decode cX5_layLikely 86 = .ok (.iload 4, 2) := by decide +kernel
theorem dX5_layLikely_88 : decode cX5_layLikely 88 = .ok (.iaload, 1) := by decide +kernel
theorem dX5_layLikely_89 : decode cX5_layLikely 89 = .ok (.putfield 119, 3) := by decide +kernel
theorem dX5_layLikely_92 : decode cX5_layLikely 92 = .ok (.aload_n 0, 1) := by decide +kernel
theorem dX5_layLikely_93 : decode cX5_layLikely 93 = .ok (.aload_n 0, 1) := by decide +kernel
theorem dX5_layLikely_94 : decode cX5_layLikely 94 = .ok (.getfield 50, 3) := by decide +kernel
theorem dX5_layLikely_97 : decode cX5_layLikely 97 = .ok (.iload 4, 2) := by decide +kernel
theorem dX5_layLikely_99 : decode cX5_layLikely 99 = .ok (.iaload, 1) := by decide +kernel
theorem dX5_layLikely_100 : decode cX5_layLikely 100 = .ok (.putfield 122, 3) := by decide +kernel
theorem dX5_layLikely_103 : decode cX5_layLikely 103 = .ok (.aload_n 0, 1) := by decide +kernel
theorem dX5_layLikely_104 : decode cX5_layLikely 104 = .ok (.aload_n 0, 1) := by decide +kernel
theorem dX5_layLikely_105 : decode cX5_layLikely 105 = .ok (.getfield 53, 3) := by decide +kernel
theorem dX5_layLikely_108 : decode cX5_layLikely 108 = .ok (.iload 4, 2) := by decide +kernel
theorem dX5_layLikely_110 : decode cX5_layLikely 110 = .ok (.iaload, 1) := by decide +kernel
theorem dX5_layLikely_111 : decode cX5_layLikely 111 = .ok (.putfield 125, 3) := by decide +kernel
theorem dX5_layLikely_114 : decode cX5_layLikely 114 = .ok (.aload_n 0, 1) := by decide +kernel
theorem dX5_layLikely_115 : decode cX5_layLikely 115 = .ok (.aload_n 0, 1) := by decide +kernel
theorem dX5_layLikely_116 : decode cX5_layLikely 116 = .ok (.getfield 56, 3) := by decide +kernel
theorem dX5_layLikely_119 : decode cX5_layLikely 119 = .ok (.iload 4, 2) := by decide +kernel
theorem dX5_layLikely_121 : decode cX5_layLikely 121 = .ok (.iaload, 1) := by decide +kernel
theorem dX5_layLikely_122 : decode cX5_layLikely 122 = .ok (.iconst 1, 1) := by decide +kernel
theorem dX5_layLikely_123 : decode cX5_layLikely 123 = .ok (.if_icmp .ne 7, 3) := by decide +kernel
theorem dX5_layLikely_126 : decode cX5_layLikely 126 = .ok (.iconst 1, 1) := by decide +kernel
theorem dX5_layLikely_127 : decode cX5_layLikely 127 = .ok (.goto 4, 3) := by decide +kernel
theorem dX5_layLikely_130 : decode cX5_layLikely 130 = .ok (.iconst 0, 1) := by decide +kernel
theorem dX5_layLikely_131 : decode cX5_layLikely 131 = .ok (.putfield 128, 3) := by decide +kernel
theorem dX5_layLikely_134 : decode cX5_layLikely 134 = .ok (.iinc 1 1, 3) := by decide +kernel
theorem dX5_layLikely_137 : decode cX5_layLikely 137 = .ok (.aload_n 0, 1) := by decide +kernel
theorem dX5_layLikely_138 : decode cX5_layLikely 138 = .ok (.iload_n 1, 1) := by decide +kernel
theorem dX5_layLikely_139 : decode cX5_layLikely 139 = .ok (.aload_n 0, 1) := by decide +kernel
theorem dX5_layLikely_140 : decode cX5_layLikely 140 = .ok (.getfield 41, 3) := by decide +kernel
theorem dX5_layLikely_143 : decode cX5_layLikely 143 = .ok (.iload_n 1, 1) := by decide +kernel
theorem dX5_layLikely_144 : decode cX5_layLikely 144 = .ok (.iconst 1, 1) := by decide +kernel
theorem dX5_layLikely_145 : decode cX5_layLikely 145 = .ok (.isub, 1) := by decide +kernel
theorem dX5_layLikely_146 : decode cX5_layLikely 146 = .ok (.iaload, 1) := by decide +kernel
theorem dX5_layLikely_147 : decode cX5_layLikely 147 = .ok (.iload_n 3, 1) := by decide +kernel
theorem dX5_layLikely_148 : decode cX5_layLikely 148 = .ok (.imul, 1) := by decide +kernel
theorem dX5_layLikely_149 : decode cX5_layLikely 149 = .ok (.invokevirtual 259, 3) := by decide +kernel
theorem dX5_layLikely_152 : decode cX5_layLikely 152 = .ok (.goto 11, 3) := by decide +kernel
theorem dX5_layLikely_155 : decode cX5_layLikely 155 = .ok (.iload_n 2, 1) := by decide +kernel
theorem dX5_layLikely_156 : decode cX5_layLikely 156 = .ok (.iconst 3, 1) := by decide +kernel
theorem dX5_layLikely_157 : decode cX5_layLikely 157 = .ok (.if_icmp .lt 6, 3) := by decide +kernel
theorem dX5_layLikely_160 : decode cX5_layLikely 160 = .ok (.iinc 1 (-1), 3) := by decide +kernel
theorem dX5_layLikely_163 : decode cX5_layLikely 163 = .ok (.goto (-130), 3) := by decide +kernel
theorem dX5_layLikely_166 : decode cX5_layLikely 166 = .ok (.aload_n 0, 1) := by decide +kernel
theorem dX5_layLikely_167 : decode cX5_layLikely 167 = .ok (.invokevirtual 188, 3) := by decide +kernel
theorem dX5_layLikely_170 : decode cX5_layLikely 170 = .ok (.return_, 1) := by decide +kernel
theorem dX5_likelyNow_0 : decode cX5_likelyNow 0 = .ok (.iconst 1, 1) := by decide +kernel
theorem dX5_likelyNow_1 : decode cX5_likelyNow 1 = .ok (.istore_n 3, 1) := by decide +kernel
theorem dX5_likelyNow_2 : decode cX5_likelyNow 2 = .ok (.iconst 0, 1) := by decide +kernel
theorem dX5_likelyNow_3 : decode cX5_likelyNow 3 = .ok (.istore 4, 2) := by decide +kernel
theorem dX5_likelyNow_5 : decode cX5_likelyNow 5 = .ok (.iload 4, 2) := by decide +kernel
theorem dX5_likelyNow_7 : decode cX5_likelyNow 7 = .ok (.bipush 7, 2) := by decide +kernel
theorem dX5_likelyNow_9 : decode cX5_likelyNow 9 = .ok (.if_icmp .ge 13, 3) := by decide +kernel
theorem dX5_likelyNow_12 : decode cX5_likelyNow 12 = .ok (.iload_n 3, 1) := by decide +kernel
theorem dX5_likelyNow_13 : decode cX5_likelyNow 13 = .ok (.iconst 3, 1) := by decide +kernel
theorem dX5_likelyNow_14 : decode cX5_likelyNow 14 = .ok (.imul, 1) := by decide +kernel
theorem dX5_likelyNow_15 : decode cX5_likelyNow 15 = .ok (.istore_n 3, 1) := by decide +kernel
theorem dX5_likelyNow_16 : decode cX5_likelyNow 16 = .ok (.iinc 4 1, 3) := by decide +kernel
theorem dX5_likelyNow_19 : decode cX5_likelyNow 19 = .ok (.goto (-14), 3) := by decide +kernel
theorem dX5_likelyNow_22 : decode cX5_likelyNow 22 = .ok (.aload_n 0, 1) := by decide +kernel
theorem dX5_likelyNow_23 : decode cX5_likelyNow 23 = .ok (.getfield 59, 3) := by decide +kernel
theorem dX5_likelyNow_26 : decode cX5_likelyNow 26 = .ok (.iload_n 1, 1) := by decide +kernel
theorem dX5_likelyNow_27 : decode cX5_likelyNow 27 = .ok (.iaload, 1) := by decide +kernel
theorem dX5_likelyNow_28 : decode cX5_likelyNow 28 = .ok (.iload_n 3, 1) := by decide +kernel
theorem dX5_likelyNow_29 : decode cX5_likelyNow 29 = .ok (.invokestatic 265, 3) := by decide +kernel
theorem dX5_likelyNow_32 : decode cX5_likelyNow 32 = .ok (.istore 4, 2) := by decide +kernel
theorem dX5_likelyNow_34 : decode cX5_likelyNow 34 = .ok (.iload_n 2, 1) := by decide +kernel
theorem dX5_likelyNow_35 : decode cX5_likelyNow 35 = .ok (.ifCond .ne 15, 3) := by decide +kernel
theorem dX5_likelyNow_38 : decode cX5_likelyNow 38 = .ok (.aload_n 0, 1) := by decide +kernel
theorem dX5_likelyNow_39 : decode cX5_likelyNow 39 = .ok (.getfield 59, 3) := by decide +kernel
theorem dX5_likelyNow_42 : decode cX5_likelyNow 42 = .ok (.iload_n 1, 1) := by decide +kernel
theorem dX5_likelyNow_43 : decode cX5_likelyNow 43 = .ok (.iaload, 1) := by decide +kernel
theorem dX5_likelyNow_44 : decode cX5_likelyNow 44 = .ok (.iload 4, 2) := by decide +kernel
theorem dX5_likelyNow_46 : decode cX5_likelyNow 46 = .ok (.idiv, 1) := by decide +kernel
theorem dX5_likelyNow_47 : decode cX5_likelyNow 47 = .ok (.goto 7, 3) := by decide +kernel
theorem dX5_likelyNow_50 : decode cX5_likelyNow 50 = .ok (.iload_n 3, 1) := by decide +kernel
theorem dX5_likelyNow_51 : decode cX5_likelyNow 51 = .ok (.iload 4, 2) := by decide +kernel
theorem dX5_likelyNow_53 : decode cX5_likelyNow 53 = .ok (.idiv, 1) := by decide +kernel
theorem dX5_likelyNow_54 : decode cX5_likelyNow 54 = .ok (.ireturn, 1) := by decide +kernel
theorem dX5_likely_0 : decode cX5_likely 0 = .ok (.aload_n 0, 1) := by decide +kernel
theorem dX5_likely_1 : decode cX5_likely 1 = .ok (.iload_n 1, 1) := by decide +kernel
theorem dX5_likely_2 : decode cX5_likely 2 = .ok (.invokevirtual 197, 3) := by decide +kernel
theorem dX5_likely_5 : decode cX5_likely 5 = .ok (.ifCond .ne 6, 3) := by decide +kernel
theorem dX5_likely_8 : decode cX5_likely 8 = .ok (.bipush (-101), 2) := by decide +kernel
theorem dX5_likely_10 : decode cX5_likely 10 = .ok (.ireturn, 1) := by decide +kernel
theorem dX5_likely_11 : decode cX5_likely 11 = .ok (.iload_n 2, 1) := by decide +kernel
theorem dX5_likely_12 : decode cX5_likely 12 = .ok (.iconst 0, 1) := by decide +kernel
theorem dX5_likely_13 : decode cX5_likely 13 = .ok (.iconst 1, 1) := by decide +kernel
theorem dX5_likely_14 : decode cX5_likely 14 = .ok (.invokestatic 77, 3) := by decide +kernel
theorem dX5_likely_17 : decode cX5_likely 17 = .ok (.ifCond .ne 6, 3) := by decide +kernel
theorem dX5_likely_20 : decode cX5_likely 20 = .ok (.bipush (-102), 2) := by decide +kernel
theorem dX5_likely_22 : decode cX5_likely 22 = .ok (.ireturn, 1) := by decide +kernel
theorem dX5_likely_23 : decode cX5_likely 23 = .ok (.aload_n 0, 1) := by decide +kernel
theorem dX5_likely_24 : decode cX5_likely 24 = .ok (.getfield 119, 3) := by decide +kernel
theorem dX5_likely_27 : decode cX5_likely 27 = .ok (.iload_n 1, 1) := by decide +kernel
theorem dX5_likely_28 : decode cX5_likely 28 = .ok (.invokestatic 140, 3) := by decide +kernel
theorem dX5_likely_31 : decode cX5_likely 31 = .ok (.ifCond .ne 6, 3) := by decide +kernel
theorem dX5_likely_34 : decode cX5_likely 34 = .ok (.bipush (-103), 2) := by decide +kernel
theorem dX5_likely_36 : decode cX5_likely 36 = .ok (.ireturn, 1) := by decide +kernel
theorem dX5_likely_37 : decode cX5_likely 37 = .ok (.aload_n 0, 1) := by decide +kernel
theorem dX5_likely_38 : decode cX5_likely 38 = .ok (.invokevirtual 268, 3) := by decide +kernel
theorem dX5_likely_41 : decode cX5_likely 41 = .ok (.aload_n 0, 1) := by decide +kernel
theorem dX5_likely_42 : decode cX5_likely 42 = .ok (.iload_n 1, 1) := by decide +kernel
theorem dX5_likely_43 : decode cX5_likely 43 = .ok (.iload_n 2, 1) := by decide +kernel
theorem dX5_likely_44 : decode cX5_likely 44 = .ok (.invokevirtual 271, 3) := by decide +kernel
theorem dX5_likely_47 : decode cX5_likely 47 = .ok (.ireturn, 1) := by decide +kernel
theorem dX5_see_0 : decode cX5_see 0 = .ok (.aload_n 0, 1) := by decide +kernel
theorem dX5_see_1 : decode cX5_see 1 = .ok (.iload_n 1, 1) := by decide +kernel
theorem dX5_see_2 : decode cX5_see 2 = .ok (.invokevirtual 197, 3) := by decide +kernel
theorem dX5_see_5 : decode cX5_see 5 = .ok (.ifCond .eq 11, 3) := by decide +kernel
theorem dX5_see_8 : decode cX5_see 8 = .ok (.aload_n 0, 1) := by decide +kernel
theorem dX5_see_9 : decode cX5_see 9 = .ok (.iload_n 2, 1) := by decide +kernel
theorem dX5_see_10 : decode cX5_see 10 = .ok (.invokevirtual 197, 3) := by decide +kernel
theorem dX5_see_13 : decode cX5_see 13 = .ok (.ifCond .ne 6, 3) := by decide +kernel
theorem dX5_see_16 : decode cX5_see 16 = .ok (.bipush (-101), 2) := by decide +kernel
theorem dX5_see_18 : decode cX5_see 18 = .ok (.ireturn, 1) := by decide +kernel
theorem dX5_see_19 : decode cX5_see 19 = .ok (.aload_n 0, 1) := by decide +kernel
theorem dX5_see_20 : decode cX5_see 20 = .ok (.getfield 137, 3) := by decide +kernel
theorem dX5_see_23 : decode cX5_see 23 = .ok (.bipush 6, 2) := by decide +kernel
theorem dX5_see_25 : decode cX5_see 25 = .ok (.if_icmp .ne 6, 3) := by decide +kernel
theorem dX5_see_28 : decode cX5_see 28 = .ok (.bipush (-104), 2) := by decide +kernel
theorem dX5_see_30 : decode cX5_see 30 = .ok (.ireturn, 1) := by decide +kernel
theorem dX5_see_31 : decode cX5_see 31 = .ok (.aload_n 0, 1) := by decide +kernel
theorem dX5_see_32 : decode cX5_see 32 = .ok (.getfield 16, 3) := by decide +kernel
theorem dX5_see_35 : decode cX5_see 35 = .ok (.aload_n 0, 1) := by decide +kernel
theorem dX5_see_36 : decode cX5_see 36 = .ok (.getfield 137, 3) := by decide +kernel
theorem dX5_see_39 : decode cX5_see 39 = .ok (.iload_n 1, 1) := by decide +kernel
theorem dX5_see_40 : decode cX5_see 40 = .ok (.iastore, 1) := by decide +kernel
theorem dX5_see_41 : decode cX5_see 41 = .ok (.aload_n 0, 1) := by decide +kernel
theorem dX5_see_42 : decode cX5_see 42 = .ok (.getfield 19, 3) := by decide +kernel
theorem dX5_see_45 : decode cX5_see 45 = .ok (.aload_n 0, 1) := by decide +kernel
theorem dX5_see_46 : decode cX5_see 46 = .ok (.getfield 137, 3) := by decide +kernel
theorem dX5_see_49 : decode cX5_see 49 = .ok (.iload_n 2, 1) := by decide +kernel
theorem dX5_see_50 : decode cX5_see 50 = .ok (.iastore, 1) := by decide +kernel
theorem dX5_see_51 : decode cX5_see 51 = .ok (.aload_n 0, 1) := by decide +kernel
theorem dX5_see_52 : decode cX5_see 52 = .ok (.dup, 1) := by decide +kernel
theorem dX5_see_53 : decode cX5_see 53 = .ok (.getfield 137, 3) := by decide +kernel
theorem dX5_see_56 : decode cX5_see 56 = .ok (.iconst 1, 1) := by decide +kernel
theorem dX5_see_57 : decode cX5_see 57 = .ok (.iadd, 1) := by decide +kernel
theorem dX5_see_58 : decode cX5_see 58 = .ok (.putfield 137, 3) := by decide +kernel
theorem dX5_see_61 : decode cX5_see 61 = .ok (.aload_n 0, 1) := by decide +kernel
theorem dX5_see_62 : decode cX5_see 62 = .ok (.getfield 137, 3) := by decide +kernel
theorem dX5_see_65 : decode cX5_see 65 = .ok (.ireturn, 1) := by decide +kernel
theorem dX5_forget_0 : decode cX5_forget 0 = .ok (.aload_n 0, 1) := by decide +kernel
theorem dX5_forget_1 : decode cX5_forget 1 = .ok (.getfield 137, 3) := by decide +kernel
theorem dX5_forget_4 : decode cX5_forget 4 = .ok (.istore_n 1, 1) := by decide +kernel
theorem dX5_forget_5 : decode cX5_forget 5 = .ok (.aload_n 0, 1) := by decide +kernel
theorem dX5_forget_6 : decode cX5_forget 6 = .ok (.iconst 0, 1) := by decide +kernel
theorem dX5_forget_7 : decode cX5_forget 7 = .ok (.putfield 137, 3) := by decide +kernel
theorem dX5_forget_10 : decode cX5_forget 10 = .ok (.iload_n 1, 1) := by decide +kernel
theorem dX5_forget_11 : decode cX5_forget 11 = .ok (.ireturn, 1) := by decide +kernel
theorem dX5_lengthsNow_0 : decode cX5_lengthsNow 0 = .ok (.iconst 0, 1) := by decide +kernel
theorem dX5_lengthsNow_1 : decode cX5_lengthsNow 1 = .ok (.istore_n 1, 1) := by decide +kernel
theorem dX5_lengthsNow_2 : decode cX5_lengthsNow 2 = .ok (.iconst 1, 1) := by decide +kernel
theorem dX5_lengthsNow_3 : decode cX5_lengthsNow 3 = .ok (.istore_n 2, 1) := by decide +kernel
theorem dX5_lengthsNow_4 : decode cX5_lengthsNow 4 = .ok (.iload_n 2, 1) := by decide +kernel
theorem dX5_lengthsNow_5 : decode cX5_lengthsNow 5 = .ok (.bipush 24, 2) := by decide +kernel
theorem dX5_lengthsNow_7 : decode cX5_lengthsNow 7 = .ok (.if_icmp .gt 77, 3) := by decide +kernel
theorem dX5_lengthsNow_10 : decode cX5_lengthsNow 10 = .ok (.iconst 1, 1) := by decide +kernel
theorem dX5_lengthsNow_11 : decode cX5_lengthsNow 11 = .ok (.istore_n 3, 1) := by decide +kernel
theorem dX5_lengthsNow_12 : decode cX5_lengthsNow 12 = .ok (.iconst 0, 1) := by decide +kernel
theorem dX5_lengthsNow_13 : decode cX5_lengthsNow 13 = .ok (.istore 4, 2) := by decide +kernel
theorem dX5_lengthsNow_15 : decode cX5_lengthsNow 15 = .ok (.iload 4, 2) := by decide +kernel
theorem dX5_lengthsNow_17 : decode cX5_lengthsNow 17 = .ok (.aload_n 0, 1) := by decide +kernel
theorem dX5_lengthsNow_18 : decode cX5_lengthsNow 18 = .ok (.getfield 137, 3) := by decide +kernel
theorem dX5_lengthsNow_21 : decode cX5_lengthsNow 21 = .ok (.if_icmp .ge 41, 3) := by decide +kernel
theorem dX5_lengthsNow_24 : decode cX5_lengthsNow 24 = .ok (.iload_n 3, 1) := by decide +kernel
theorem dX5_lengthsNow_25 : decode cX5_lengthsNow 25 = .ok (.ifCond .eq 29, 3) := by decide +kernel
theorem dX5_lengthsNow_28 : decode cX5_lengthsNow 28 = .ok (.aload_n 0, 1) := by decide +kernel
theorem dX5_lengthsNow_29 : decode cX5_lengthsNow 29 = .ok (.aload_n 0, 1) := by decide +kernel
theorem dX5_lengthsNow_30 : decode cX5_lengthsNow 30 = .ok (.getfield 16, 3) := by decide +kernel
theorem dX5_lengthsNow_33 : decode cX5_lengthsNow 33 = .ok (.iload 4, 2) := by decide +kernel
theorem dX5_lengthsNow_35 : decode cX5_lengthsNow 35 = .ok (.iaload, 1) := by decide +kernel
theorem dX5_lengthsNow_36 : decode cX5_lengthsNow 36 = .ok (.iload_n 2, 1) := by decide +kernel
theorem dX5_lengthsNow_37 : decode cX5_lengthsNow 37 = .ok (.invokevirtual 204, 3) := by decide +kernel
theorem dX5_lengthsNow_40 : decode cX5_lengthsNow 40 = .ok (.aload_n 0, 1) := by decide +kernel
theorem dX5_lengthsNow_41 : decode cX5_lengthsNow 41 = .ok (.getfield 19, 3) := by decide +kernel
theorem dX5_lengthsNow_44 : decode cX5_lengthsNow 44 = .ok (.iload 4, 2) := by decide +kernel
theorem dX5_lengthsNow_46 : decode cX5_lengthsNow 46 = .ok (.iaload, 1) := by decide +kernel
theorem dX5_lengthsNow_47 : decode cX5_lengthsNow 47 = .ok (.if_icmp .ne 7, 3) := by decide +kernel
theorem dX5_lengthsNow_50 : decode cX5_lengthsNow 50 = .ok (.iconst 1, 1) := by decide +kernel
theorem dX5_lengthsNow_51 : decode cX5_lengthsNow 51 = .ok (.goto 4, 3) := by decide +kernel
theorem dX5_lengthsNow_54 : decode cX5_lengthsNow 54 = .ok (.iconst 0, 1) := by decide +kernel
theorem dX5_lengthsNow_55 : decode cX5_lengthsNow 55 = .ok (.istore_n 3, 1) := by decide +kernel
theorem dX5_lengthsNow_56 : decode cX5_lengthsNow 56 = .ok (.iinc 4 1, 3) := by decide +kernel
theorem dX5_lengthsNow_59 : decode cX5_lengthsNow 59 = .ok (.goto (-44), 3) := by decide +kernel
theorem dX5_lengthsNow_62 : decode cX5_lengthsNow 62 = .ok (.iload_n 1, 1) := by decide +kernel
theorem dX5_lengthsNow_63 : decode cX5_lengthsNow 63 = .ok (.iload_n 3, 1) := by decide +kernel
theorem dX5_lengthsNow_64 : decode cX5_lengthsNow 64 = .ok (.ifCond .eq 11, 3) := by decide +kernel
theorem dX5_lengthsNow_67 : decode cX5_lengthsNow 67 = .ok (.iconst 1, 1) := by decide +kernel
theorem dX5_lengthsNow_68 : decode cX5_lengthsNow 68 = .ok (.iload_n 2, 1) := by decide +kernel
theorem dX5_lengthsNow_69 : decode cX5_lengthsNow 69 = .ok (.iconst 1, 1) := by decide +kernel
theorem dX5_lengthsNow_70 : decode cX5_lengthsNow 70 = .ok (.isub, 1) := by decide +kernel
theorem dX5_lengthsNow_71 : decode cX5_lengthsNow 71 = .ok (.ishl, 1) := by decide +kernel
theorem dX5_lengthsNow_72 : decode cX5_lengthsNow 72 = .ok (.goto 4, 3) := by decide +kernel
theorem dX5_lengthsNow_75 : decode cX5_lengthsNow 75 = .ok (.iconst 0, 1) := by decide +kernel
theorem dX5_lengthsNow_76 : decode cX5_lengthsNow 76 = .ok (.ior, 1) := by decide +kernel
theorem dX5_lengthsNow_77 : decode cX5_lengthsNow 77 = .ok (.istore_n 1, 1) := by decide +kernel
theorem dX5_lengthsNow_78 : decode cX5_lengthsNow 78 = .ok (.iinc 2 1, 3) := by decide +kernel
theorem dX5_lengthsNow_81 : decode cX5_lengthsNow 81 = .ok (.goto (-77), 3) := by decide +kernel
theorem dX5_lengthsNow_84 : decode cX5_lengthsNow 84 = .ok (.iload_n 1, 1) := by decide +kernel
theorem dX5_lengthsNow_85 : decode cX5_lengthsNow 85 = .ok (.ireturn, 1) := by decide +kernel
theorem dX5_lengths_0 : decode cX5_lengths 0 = .ok (.aload_n 0, 1) := by decide +kernel
theorem dX5_lengths_1 : decode cX5_lengths 1 = .ok (.getfield 116, 3) := by decide +kernel
theorem dX5_lengths_4 : decode cX5_lengths 4 = .ok (.ifCond .ne 8, 3) := by decide +kernel
theorem dX5_lengths_7 : decode cX5_lengths 7 = .ok (.bipush (-103), 2) := by decide +kernel
theorem dX5_lengths_9 : decode cX5_lengths 9 = .ok (.goto 7, 3) := by decide +kernel
theorem dX5_lengths_12 : decode cX5_lengths 12 = .ok (.aload_n 0, 1) := by decide +kernel
theorem dX5_lengths_13 : decode cX5_lengths 13 = .ok (.invokevirtual 274, 3) := by decide +kernel
theorem dX5_lengths_16 : decode cX5_lengths 16 = .ok (.ireturn, 1) := by decide +kernel
theorem dX5_worstFrom_0 : decode cX5_worstFrom 0 = .ok (.iconst 0, 1) := by decide +kernel
theorem dX5_worstFrom_1 : decode cX5_worstFrom 1 = .ok (.istore_n 3, 1) := by decide +kernel
theorem dX5_worstFrom_2 : decode cX5_worstFrom 2 = .ok (.iload_n 3, 1) := by decide +kernel
theorem dX5_worstFrom_3 : decode cX5_worstFrom 3 = .ok (.bipush 8, 2) := by decide +kernel
theorem dX5_worstFrom_5 : decode cX5_worstFrom 5 = .ok (.if_icmp .ge 16, 3) := by decide +kernel
theorem dX5_worstFrom_8 : decode cX5_worstFrom 8 = .ok (.aload_n 0, 1) := by decide +kernel
theorem dX5_worstFrom_9 : decode cX5_worstFrom 9 = .ok (.getfield 62, 3) := by decide +kernel
theorem dX5_worstFrom_12 : decode cX5_worstFrom 12 = .ok (.iload_n 3, 1) := by decide +kernel
theorem dX5_worstFrom_13 : decode cX5_worstFrom 13 = .ok (.iconst 0, 1) := by decide +kernel
theorem dX5_worstFrom_14 : decode cX5_worstFrom 14 = .ok (.iastore, 1) := by decide +kernel
theorem dX5_worstFrom_15 : decode cX5_worstFrom 15 = .ok (.iinc 3 1, 3) := by decide +kernel
theorem dX5_worstFrom_18 : decode cX5_worstFrom 18 = .ok (.goto (-16), 3) := by decide +kernel
theorem dX5_worstFrom_21 : decode cX5_worstFrom 21 = .ok (.iconst 0, 1) := by decide +kernel
theorem dX5_worstFrom_22 : decode cX5_worstFrom 22 = .ok (.istore_n 3, 1) := by decide +kernel
theorem dX5_worstFrom_23 : decode cX5_worstFrom 23 = .ok (.iconst 1, 1) := by decide +kernel
theorem dX5_worstFrom_24 : decode cX5_worstFrom 24 = .ok (.istore 4, 2) := by decide +kernel
theorem dX5_worstFrom_26 : decode cX5_worstFrom 26 = .ok (.iload 4, 2) := by decide +kernel
theorem dX5_worstFrom_28 : decode cX5_worstFrom 28 = .ok (.bipush 24, 2) := by decide +kernel
theorem dX5_worstFrom_30 : decode cX5_worstFrom 30 = .ok (.if_icmp .gt 63, 3) := by decide +kernel
theorem dX5_worstFrom_33 : decode cX5_worstFrom 33 = .ok (.iload_n 2, 1) := by decide +kernel
theorem dX5_worstFrom_34 : decode cX5_worstFrom 34 = .ok (.iload 4, 2) := by decide +kernel
theorem dX5_worstFrom_36 : decode cX5_worstFrom 36 = .ok (.iconst 1, 1) := by decide +kernel
theorem dX5_worstFrom_37 : decode cX5_worstFrom 37 = .ok (.isub, 1) := by decide +kernel
theorem dX5_worstFrom_38 : decode cX5_worstFrom 38 = .ok (.invokestatic 140, 3) := by decide +kernel
theorem dX5_worstFrom_41 : decode cX5_worstFrom 41 = .ok (.ifCond .eq 46, 3) := by decide +kernel
theorem dX5_worstFrom_44 : decode cX5_worstFrom 44 = .ok (.aload_n 0, 1) := by decide +kernel
theorem dX5_worstFrom_45 : decode cX5_worstFrom 45 = .ok (.iload_n 1, 1) := by decide +kernel
theorem dX5_worstFrom_46 : decode cX5_worstFrom 46 = .ok (.iload 4, 2) := by decide +kernel
theorem dX5_worstFrom_48 : decode cX5_worstFrom 48 = .ok (.invokevirtual 204, 3) := by decide +kernel
theorem dX5_worstFrom_51 : decode cX5_worstFrom 51 = .ok (.istore 5, 2) := by decide +kernel
theorem dX5_worstFrom_53 : decode cX5_worstFrom 53 = .ok (.aload_n 0, 1) := by decide +kernel
theorem dX5_worstFrom_54 : decode cX5_worstFrom 54 = .ok (.getfield 62, 3) := by decide +kernel
theorem dX5_worstFrom_57 : decode cX5_worstFrom 57 = .ok (.iload 5, 2) := by decide +kernel
theorem dX5_worstFrom_59 : decode cX5_worstFrom 59 = .ok (.dup2, 1) := by decide +kernel
theorem dX5_worstFrom_60 : decode cX5_worstFrom 60 = .ok (.iaload, 1) := by decide +kernel
theorem dX5_worstFrom_61 : decode cX5_worstFrom 61 = .ok (.iconst 1, 1) := by decide +kernel
theorem dX5_worstFrom_62 : decode cX5_worstFrom 62 = .ok (.iadd, 1) := by decide +kernel
theorem dX5_worstFrom_63 : decode cX5_worstFrom 63 = .ok (.iastore, 1) := by decide +kernel
theorem dX5_worstFrom_64 : decode cX5_worstFrom 64 = .ok (.aload_n 0, 1) := by decide +kernel
theorem dX5_worstFrom_65 : decode cX5_worstFrom 65 = .ok (.getfield 62, 3) := by decide +kernel
theorem dX5_worstFrom_68 : decode cX5_worstFrom 68 = .ok (.iload 5, 2) := by decide +kernel
theorem dX5_worstFrom_70 : decode cX5_worstFrom 70 = .ok (.iaload, 1) := by decide +kernel
theorem dX5_worstFrom_71 : decode cX5_worstFrom 71 = .ok (.iload_n 3, 1) := by decide +kernel
theorem dX5_worstFrom_72 : decode cX5_worstFrom 72 = .ok (.if_icmp .le 13, 3) := by decide +kernel
theorem dX5_worstFrom_75 : decode cX5_worstFrom 75 = .ok (.aload_n 0, 1) := by decide +kernel
theorem dX5_worstFrom_76 : decode cX5_worstFrom 76 = .ok (.getfield 62, 3) := by decide +kernel
theorem dX5_worstFrom_79 : decode cX5_worstFrom 79 = .ok (.iload 5, 2) := by decide +kernel
theorem dX5_worstFrom_81 : decode cX5_worstFrom 81 = .ok (.iaload, 1) := by decide +kernel
theorem dX5_worstFrom_82 : decode cX5_worstFrom 82 = .ok (.goto 4, 3) := by decide +kernel
theorem dX5_worstFrom_85 : decode cX5_worstFrom 85 = .ok (.iload_n 3, 1) := by decide +kernel
theorem dX5_worstFrom_86 : decode cX5_worstFrom 86 = .ok (.istore_n 3, 1) := by decide +kernel
theorem dX5_worstFrom_87 : decode cX5_worstFrom 87 = .ok (.iinc 4 1, 3) := by decide +kernel
theorem dX5_worstFrom_90 : decode cX5_worstFrom 90 = .ok (.goto (-64), 3) := by decide +kernel
theorem dX5_worstFrom_93 : decode cX5_worstFrom 93 = .ok (.iload_n 3, 1) := by decide +kernel
theorem dX5_worstFrom_94 : decode cX5_worstFrom 94 = .ok (.ireturn, 1) := by decide +kernel
theorem dX5_fromNow_0 : decode cX5_fromNow 0 = .ok (.aload_n 0, 1) := by decide +kernel
theorem dX5_fromNow_1 : decode cX5_fromNow 1 = .ok (.invokevirtual 274, 3) := by decide +kernel
theorem dX5_fromNow_4 : decode cX5_fromNow 4 = .ok (.istore_n 1, 1) := by decide +kernel
theorem dX5_fromNow_5 : decode cX5_fromNow 5 = .ok (.iconst (-1), 1) := by decide +kernel
theorem dX5_fromNow_6 : decode cX5_fromNow 6 = .ok (.istore_n 2, 1) := by decide +kernel
theorem dX5_fromNow_7 : decode cX5_fromNow 7 = .ok (.ldc_w 277, 3) := by decide +kernel
theorem dX5_fromNow_10 : decode cX5_fromNow 10 = .ok (.istore_n 3, 1) := by decide +kernel
theorem dX5_fromNow_11 : decode cX5_fromNow 11 = .ok (.iconst 0, 1) := by decide +kernel
theorem dX5_fromNow_12 : decode cX5_fromNow 12 = .ok (.istore 4, 2) := by decide +kernel
theorem dX5_fromNow_14 : decode cX5_fromNow 14 = .ok (.iload 4, 2) := by decide +kernel
theorem dX5_fromNow_16 : decode cX5_fromNow 16 = .ok (.aload_n 0, 1) := by decide +kernel
theorem dX5_fromNow_17 : decode cX5_fromNow 17 = .ok (.getfield 116, 3) := by decide +kernel
theorem dX5_fromNow_20 : decode cX5_fromNow 20 = .ok (.if_icmp .ge 55, 3) := by decide +kernel
theorem dX5_fromNow_23 : decode cX5_fromNow 23 = .ok (.iload_n 1, 1) := by decide +kernel
theorem dX5_fromNow_24 : decode cX5_fromNow 24 = .ok (.ifCond .eq 51, 3) := by decide +kernel
theorem dX5_fromNow_27 : decode cX5_fromNow 27 = .ok (.aload_n 0, 1) := by decide +kernel
theorem dX5_fromNow_28 : decode cX5_fromNow 28 = .ok (.invokevirtual 175, 3) := by decide +kernel
theorem dX5_fromNow_31 : decode cX5_fromNow 31 = .ok (.ifCond .eq 44, 3) := by decide +kernel
theorem dX5_fromNow_34 : decode cX5_fromNow 34 = .ok (.aload_n 0, 1) := by decide +kernel
theorem dX5_fromNow_35 : decode cX5_fromNow 35 = .ok (.iload 4, 2) := by decide +kernel
theorem dX5_fromNow_37 : decode cX5_fromNow 37 = .ok (.iload_n 1, 1) := by decide +kernel
theorem dX5_fromNow_38 : decode cX5_fromNow 38 = .ok (.invokevirtual 278, 3) := by decide +kernel
theorem dX5_fromNow_41 : decode cX5_fromNow 41 = .ok (.istore 5, 2) := by decide +kernel
theorem dX5_fromNow_43 : decode cX5_fromNow 43 = .ok (.iload 5, 2) := by decide +kernel
theorem dX5_fromNow_45 : decode cX5_fromNow 45 = .ok (.iload_n 3, 1) := by decide +kernel
theorem dX5_fromNow_46 : decode cX5_fromNow 46 = .ok (.if_icmp .ge 8, 3) := by decide +kernel
theorem dX5_fromNow_49 : decode cX5_fromNow 49 = .ok (.iload 4, 2) := by decide +kernel
theorem dX5_fromNow_51 : decode cX5_fromNow 51 = .ok (.goto 4, 3) := by decide +kernel
theorem dX5_fromNow_54 : decode cX5_fromNow 54 = .ok (.iload_n 2, 1) := by decide +kernel
theorem dX5_fromNow_55 : decode cX5_fromNow 55 = .ok (.istore_n 2, 1) := by decide +kernel
theorem dX5_fromNow_56 : decode cX5_fromNow 56 = .ok (.iload 5, 2) := by decide +kernel
theorem dX5_fromNow_58 : decode cX5_fromNow 58 = .ok (.iload_n 3, 1) := by decide +kernel
theorem dX5_fromNow_59 : decode cX5_fromNow 59 = .ok (.if_icmp .ge 8, 3) := by decide +kernel
theorem dX5_fromNow_62 : decode cX5_fromNow 62 = .ok (.iload 5, 2) := by decide +kernel
theorem dX5_fromNow_64 : decode cX5_fromNow 64 = .ok (.goto 4, 3) := by decide +kernel
theorem dX5_fromNow_67 : decode cX5_fromNow 67 = .ok (.iload_n 3, 1) := by decide +kernel
theorem dX5_fromNow_68 : decode cX5_fromNow 68 = .ok (.istore_n 3, 1) := by decide +kernel
theorem dX5_fromNow_69 : decode cX5_fromNow 69 = .ok (.iinc 4 1, 3) := by decide +kernel
theorem dX5_fromNow_72 : decode cX5_fromNow 72 = .ok (.goto (-58), 3) := by decide +kernel
theorem dX5_fromNow_75 : decode cX5_fromNow 75 = .ok (.iload_n 2, 1) := by decide +kernel
theorem dX5_fromNow_76 : decode cX5_fromNow 76 = .ok (.ireturn, 1) := by decide +kernel
theorem dX5_from_0 : decode cX5_from 0 = .ok (.aload_n 0, 1) := by decide +kernel
theorem dX5_from_1 : decode cX5_from 1 = .ok (.getfield 116, 3) := by decide +kernel
theorem dX5_from_4 : decode cX5_from 4 = .ok (.ifCond .ne 8, 3) := by decide +kernel
theorem dX5_from_7 : decode cX5_from 7 = .ok (.bipush (-103), 2) := by decide +kernel
theorem dX5_from_9 : decode cX5_from 9 = .ok (.goto 7, 3) := by decide +kernel
theorem dX5_from_12 : decode cX5_from 12 = .ok (.aload_n 0, 1) := by decide +kernel
theorem dX5_from_13 : decode cX5_from 13 = .ok (.invokevirtual 281, 3) := by decide +kernel
theorem dX5_from_16 : decode cX5_from 16 = .ok (.ireturn, 1) := by decide +kernel
theorem dX5_draw_0 : decode cX5_draw 0 = .ok (.aload_n 0, 1) := by decide +kernel
theorem dX5_draw_1 : decode cX5_draw 1 = .ok (.ldc2_w 284, 3) := by decide +kernel
theorem dX5_draw_4 : decode cX5_draw 4 = .ok (.aload_n 0, 1) := by decide +kernel
theorem dX5_draw_5 : decode cX5_draw 5 = .ok (.getfield 286, 3) := by decide +kernel
theorem dX5_draw_8 : decode cX5_draw 8 = .ok (.lmul, 1) := by decide +kernel
theorem dX5_draw_9 : decode cX5_draw 9 = .ok (.ldc2_w 290, 3) := by decide +kernel
theorem dX5_draw_12 : decode cX5_draw 12 = .ok (.ladd, 1) := by decide +kernel
theorem dX5_draw_13 : decode cX5_draw 13 = .ok (.ldc2_w 292, 3) := by decide +kernel
theorem dX5_draw_16 : decode cX5_draw 16 = .ok (.land, 1) := by decide +kernel
theorem dX5_draw_17 : decode cX5_draw 17 = .ok (.putfield 286, 3) := by decide +kernel
theorem dX5_draw_20 : decode cX5_draw 20 = .ok (.aload_n 0, 1) := by decide +kernel
theorem dX5_draw_21 : decode cX5_draw 21 = .ok (.getfield 286, 3) := by decide +kernel
theorem dX5_draw_24 : decode cX5_draw 24 = .ok (.ldc2_w 294, 3) := by decide +kernel
theorem dX5_draw_27 : decode cX5_draw 27 = .ok (.ldiv, 1) := by decide +kernel
theorem dX5_draw_28 : decode cX5_draw 28 = .ok (.iload_n 1, 1) := by decide +kernel
theorem dX5_draw_29 : decode cX5_draw 29 = .ok (.i2l, 1) := by decide +kernel
theorem dX5_draw_30 : decode cX5_draw 30 = .ok (.lrem, 1) := by decide +kernel
theorem dX5_draw_31 : decode cX5_draw 31 = .ok (.l2i, 1) := by decide +kernel
theorem dX5_draw_32 : decode cX5_draw 32 = .ok (.ireturn, 1) := by decide +kernel
theorem dX5_roundsNow_0 : decode cX5_roundsNow 0 = .ok (.aload_n 0, 1) := by decide +kernel
theorem dX5_roundsNow_1 : decode cX5_roundsNow 1 = .ok (.invokevirtual 182, 3) := by decide +kernel
theorem dX5_roundsNow_4 : decode cX5_roundsNow 4 = .ok (.aload_n 0, 1) := by decide +kernel
theorem dX5_roundsNow_5 : decode cX5_roundsNow 5 = .ok (.iload_n 2, 1) := by decide +kernel
theorem dX5_roundsNow_6 : decode cX5_roundsNow 6 = .ok (.i2l, 1) := by decide +kernel
theorem dX5_roundsNow_7 : decode cX5_roundsNow 7 = .ok (.putfield 286, 3) := by decide +kernel
theorem dX5_roundsNow_10 : decode cX5_roundsNow 10 = .ok (.iconst 0, 1) := by decide +kernel
theorem dX5_roundsNow_11 : decode cX5_roundsNow 11 = .ok (.istore 4, 2) := by decide +kernel
theorem dX5_roundsNow_13 : decode cX5_roundsNow 13 = .ok (.iconst 0, 1) := by decide +kernel
theorem dX5_roundsNow_14 : decode cX5_roundsNow 14 = .ok (.istore 5, 2) := by decide +kernel
theorem dX5_roundsNow_16 : decode cX5_roundsNow 16 = .ok (.iload 5, 2) := by decide +kernel
theorem dX5_roundsNow_18 : decode cX5_roundsNow 18 = .ok (.iload_n 1, 1) := by decide +kernel
theorem dX5_roundsNow_19 : decode cX5_roundsNow 19 = .ok (.if_icmp .ge 57, 3) := by decide +kernel
theorem dX5_roundsNow_22 : decode cX5_roundsNow 22 = .ok (.aload_n 0, 1) := by decide +kernel
theorem dX5_roundsNow_23 : decode cX5_roundsNow 23 = .ok (.invokevirtual 175, 3) := by decide +kernel
theorem dX5_roundsNow_26 : decode cX5_roundsNow 26 = .ok (.ifCond .eq 24, 3) := by decide +kernel
theorem dX5_roundsNow_29 : decode cX5_roundsNow 29 = .ok (.aload_n 0, 1) := by decide +kernel
theorem dX5_roundsNow_30 : decode cX5_roundsNow 30 = .ok (.aload_n 0, 1) := by decide +kernel
theorem dX5_roundsNow_31 : decode cX5_roundsNow 31 = .ok (.getfield 7, 3) := by decide +kernel
theorem dX5_roundsNow_34 : decode cX5_roundsNow 34 = .ok (.aload_n 0, 1) := by decide +kernel
theorem dX5_roundsNow_35 : decode cX5_roundsNow 35 = .ok (.aload_n 0, 1) := by decide +kernel
theorem dX5_roundsNow_36 : decode cX5_roundsNow 36 = .ok (.getfield 113, 3) := by decide +kernel
theorem dX5_roundsNow_39 : decode cX5_roundsNow 39 = .ok (.invokevirtual 296, 3) := by decide +kernel
theorem dX5_roundsNow_42 : decode cX5_roundsNow 42 = .ok (.iaload, 1) := by decide +kernel
theorem dX5_roundsNow_43 : decode cX5_roundsNow 43 = .ok (.invokevirtual 179, 3) := by decide +kernel
theorem dX5_roundsNow_46 : decode cX5_roundsNow 46 = .ok (.pop, 1) := by decide +kernel
theorem dX5_roundsNow_47 : decode cX5_roundsNow 47 = .ok (.goto 23, 3) := by decide +kernel
theorem dX5_roundsNow_50 : decode cX5_roundsNow 50 = .ok (.aload_n 0, 1) := by decide +kernel
theorem dX5_roundsNow_51 : decode cX5_roundsNow 51 = .ok (.iconst 1, 1) := by decide +kernel
theorem dX5_roundsNow_52 : decode cX5_roundsNow 52 = .ok (.aload_n 0, 1) := by decide +kernel
theorem dX5_roundsNow_53 : decode cX5_roundsNow 53 = .ok (.getfield 116, 3) := by decide +kernel
theorem dX5_roundsNow_56 : decode cX5_roundsNow 56 = .ok (.ishl, 1) := by decide +kernel
theorem dX5_roundsNow_57 : decode cX5_roundsNow 57 = .ok (.iconst 1, 1) := by decide +kernel
theorem dX5_roundsNow_58 : decode cX5_roundsNow 58 = .ok (.isub, 1) := by decide +kernel
theorem dX5_roundsNow_59 : decode cX5_roundsNow 59 = .ok (.putfield 119, 3) := by decide +kernel
theorem dX5_roundsNow_62 : decode cX5_roundsNow 62 = .ok (.aload_n 0, 1) := by decide +kernel
theorem dX5_roundsNow_63 : decode cX5_roundsNow 63 = .ok (.iconst 0, 1) := by decide +kernel
theorem dX5_roundsNow_64 : decode cX5_roundsNow 64 = .ok (.putfield 122, 3) := by decide +kernel
theorem dX5_roundsNow_67 : decode cX5_roundsNow 67 = .ok (.iinc 4 1, 3) := by decide +kernel
theorem dX5_roundsNow_70 : decode cX5_roundsNow 70 = .ok (.iinc 5 1, 3) := by decide +kernel
theorem dX5_roundsNow_73 : decode cX5_roundsNow 73 = .ok (.goto (-57), 3) := by decide +kernel
theorem dX5_roundsNow_76 : decode cX5_roundsNow 76 = .ok (.iload_n 3, 1) := by decide +kernel
theorem dX5_roundsNow_77 : decode cX5_roundsNow 77 = .ok (.ifCond .ne 8, 3) := by decide +kernel
theorem dX5_roundsNow_80 : decode cX5_roundsNow 80 = .ok (.iload 4, 2) := by decide +kernel
theorem dX5_roundsNow_82 : decode cX5_roundsNow 82 = .ok (.goto 20, 3) := by decide +kernel
theorem dX5_roundsNow_85 : decode cX5_roundsNow 85 = .ok (.iload_n 3, 1) := by decide +kernel
theorem dX5_roundsNow_86 : decode cX5_roundsNow 86 = .ok (.iconst 1, 1) := by decide +kernel
theorem dX5_roundsNow_87 : decode cX5_roundsNow 87 = .ok (.if_icmp .ne 10, 3) := by decide +kernel
theorem dX5_roundsNow_90 : decode cX5_roundsNow 90 = .ok (.aload_n 0, 1) := by decide +kernel
theorem dX5_roundsNow_91 : decode cX5_roundsNow 91 = .ok (.getfield 125, 3) := by decide +kernel
theorem dX5_roundsNow_94 : decode cX5_roundsNow 94 = .ok (.goto 8, 3) := by decide +kernel
theorem dX5_roundsNow_97 : decode cX5_roundsNow 97 = .ok (.aload_n 0, 1) := by decide +kernel
theorem dX5_roundsNow_98 : decode cX5_roundsNow 98 = .ok (.getfield 286, 3) := by decide +kernel
theorem dX5_roundsNow_101 : decode cX5_roundsNow 101 = .ok (.l2i, 1) := by decide +kernel
theorem dX5_roundsNow_102 : decode cX5_roundsNow 102 = .ok (.istore 5, 2) := by decide +kernel
theorem dX5_roundsNow_104 : decode cX5_roundsNow 104 = .ok (.aload_n 0, 1) := by decide +kernel
theorem dX5_roundsNow_105 : decode cX5_roundsNow 105 = .ok (.invokevirtual 188, 3) := by decide +kernel
theorem dX5_roundsNow_108 : decode cX5_roundsNow 108 = .ok (.iload 5, 2) := by decide +kernel
theorem dX5_roundsNow_110 : decode cX5_roundsNow 110 = .ok (.ireturn, 1) := by decide +kernel
theorem dX5_rounds_0 : decode cX5_rounds 0 = .ok (.iload_n 1, 1) := by decide +kernel
theorem dX5_rounds_1 : decode cX5_rounds 1 = .ok (.iconst 1, 1) := by decide +kernel
theorem dX5_rounds_2 : decode cX5_rounds 2 = .ok (.bipush 60, 2) := by decide +kernel
theorem dX5_rounds_4 : decode cX5_rounds 4 = .ok (.invokestatic 77, 3) := by decide +kernel
theorem dX5_rounds_7 : decode cX5_rounds 7 = .ok (.ifCond .eq 16, 3) := by decide +kernel
theorem dX5_rounds_10 : decode cX5_rounds 10 = .ok (.iload_n 2, 1) := by decide +kernel
theorem dX5_rounds_11 : decode cX5_rounds 11 = .ok (.ifCond .lt 12, 3) := by decide +kernel
theorem dX5_rounds_14 : decode cX5_rounds 14 = .ok (.iload_n 3, 1) := by decide +kernel
theorem dX5_rounds_15 : decode cX5_rounds 15 = .ok (.iconst 0, 1) := by decide +kernel
theorem dX5_rounds_16 : decode cX5_rounds 16 = .ok (.iconst 2, 1) := by decide +kernel
theorem dX5_rounds_17 : decode cX5_rounds 17 = .ok (.invokestatic 77, 3) := by decide +kernel
theorem dX5_rounds_20 : decode cX5_rounds 20 = .ok (.ifCond .ne 6, 3) := by decide +kernel
theorem dX5_rounds_23 : decode cX5_rounds 23 = .ok (.bipush (-102), 2) := by decide +kernel
theorem dX5_rounds_25 : decode cX5_rounds 25 = .ok (.ireturn, 1) := by decide +kernel
theorem dX5_rounds_26 : decode cX5_rounds 26 = .ok (.aload_n 0, 1) := by decide +kernel
theorem dX5_rounds_27 : decode cX5_rounds 27 = .ok (.getfield 116, 3) := by decide +kernel
theorem dX5_rounds_30 : decode cX5_rounds 30 = .ok (.ifCond .ne 8, 3) := by decide +kernel
theorem dX5_rounds_33 : decode cX5_rounds 33 = .ok (.bipush (-103), 2) := by decide +kernel
theorem dX5_rounds_35 : decode cX5_rounds 35 = .ok (.goto 10, 3) := by decide +kernel
theorem dX5_rounds_38 : decode cX5_rounds 38 = .ok (.aload_n 0, 1) := by decide +kernel
theorem dX5_rounds_39 : decode cX5_rounds 39 = .ok (.iload_n 1, 1) := by decide +kernel
theorem dX5_rounds_40 : decode cX5_rounds 40 = .ok (.iload_n 2, 1) := by decide +kernel
theorem dX5_rounds_41 : decode cX5_rounds 41 = .ok (.iload_n 3, 1) := by decide +kernel
theorem dX5_rounds_42 : decode cX5_rounds 42 = .ok (.invokevirtual 299, 3) := by decide +kernel
theorem dX5_rounds_45 : decode cX5_rounds 45 = .ok (.ireturn, 1) := by decide +kernel
theorem dX5_image_0 : decode cX5_image 0 = .ok (.aload_n 0, 1) := by decide +kernel
theorem dX5_image_1 : decode cX5_image 1 = .ok (.getfield 116, 3) := by decide +kernel
theorem dX5_image_4 : decode cX5_image 4 = .ok (.ifCond .ne 6, 3) := by decide +kernel
theorem dX5_image_7 : decode cX5_image 7 = .ok (.bipush (-103), 2) := by decide +kernel
theorem dX5_image_9 : decode cX5_image 9 = .ok (.ireturn, 1) := by decide +kernel
theorem dX5_image_10 : decode cX5_image 10 = .ok (.aload_n 0, 1) := by decide +kernel
theorem dX5_image_11 : decode cX5_image 11 = .ok (.iconst 1, 1) := by decide +kernel
theorem dX5_image_12 : decode cX5_image 12 = .ok (.putfield 302, 3) := by decide +kernel
theorem dX5_image_15 : decode cX5_image 15 = .ok (.aload_n 0, 1) := by decide +kernel
theorem dX5_image_16 : decode cX5_image 16 = .ok (.aload_n 0, 1) := by decide +kernel
theorem dX5_image_17 : decode cX5_image 17 = .ok (.getfield 134, 3) := by decide +kernel
theorem dX5_image_20 : decode cX5_image 20 = .ok (.putfield 305, 3) := by decide +kernel
theorem dX5_image_23 : decode cX5_image 23 = .ok (.aload_n 0, 1) := by decide +kernel
theorem dX5_image_24 : decode cX5_image 24 = .ok (.aload_n 0, 1) := by decide +kernel
theorem dX5_image_25 : decode cX5_image 25 = .ok (.getfield 119, 3) := by decide +kernel
theorem dX5_image_28 : decode cX5_image 28 = .ok (.putfield 308, 3) := by decide +kernel
theorem dX5_image_31 : decode cX5_image 31 = .ok (.aload_n 0, 1) := by decide +kernel
theorem dX5_image_32 : decode cX5_image 32 = .ok (.aload_n 0, 1) := by decide +kernel
theorem dX5_image_33 : decode cX5_image 33 = .ok (.getfield 122, 3) := by decide +kernel
theorem dX5_image_36 : decode cX5_image 36 = .ok (.putfield 311, 3) := by decide +kernel
theorem dX5_image_39 : decode cX5_image 39 = .ok (.aload_n 0, 1) := by decide +kernel
theorem dX5_image_40 : decode cX5_image 40 = .ok (.aload_n 0, 1) := by decide +kernel
theorem dX5_image_41 : decode cX5_image 41 = .ok (.getfield 125, 3) := by decide +kernel
theorem dX5_image_44 : decode cX5_image 44 = .ok (.putfield 314, 3) := by decide +kernel
theorem dX5_image_47 : decode cX5_image 47 = .ok (.aload_n 0, 1) := by decide +kernel
theorem dX5_image_48 : decode cX5_image 48 = .ok (.aload_n 0, 1) := by decide +kernel
theorem dX5_image_49 : decode cX5_image 49 = .ok (.getfield 128, 3) := by decide +kernel
theorem dX5_image_52 : decode cX5_image 52 = .ok (.putfield 317, 3) := by decide +kernel
theorem dX5_image_55 : decode cX5_image 55 = .ok (.aload_n 0, 1) := by decide +kernel
theorem dX5_image_56 : decode cX5_image 56 = .ok (.aload_n 0, 1) := by decide +kernel
theorem dX5_image_57 : decode cX5_image 57 = .ok (.getfield 131, 3) := by decide +kernel
theorem dX5_image_60 : decode cX5_image 60 = .ok (.putfield 320, 3) := by decide +kernel
theorem dX5_image_63 : decode cX5_image 63 = .ok (.aload_n 0, 1) := by decide +kernel
theorem dX5_image_64 : decode cX5_image 64 = .ok (.aload_n 0, 1) := by decide +kernel
theorem dX5_image_65 : decode cX5_image 65 = .ok (.getfield 137, 3) := by decide +kernel
theorem dX5_image_68 : decode cX5_image 68 = .ok (.putfield 323, 3) := by decide +kernel
theorem dX5_image_71 : decode cX5_image 71 = .ok (.iconst 0, 1) := by decide +kernel
theorem dX5_image_72 : decode cX5_image 72 = .ok (.istore_n 1, 1) := by decide +kernel
theorem dX5_image_73 : decode cX5_image 73 = .ok (.iload_n 1, 1) := by decide +kernel
theorem dX5_image_74 : decode cX5_image 74 = .ok (.bipush 8, 2) := by decide +kernel
theorem dX5_image_76 : decode cX5_image 76 = .ok (.if_icmp .ge 21, 3) := by decide +kernel
theorem dX5_image_79 : decode cX5_image 79 = .ok (.aload_n 0, 1) := by decide +kernel
theorem dX5_image_80 : decode cX5_image 80 = .ok (.getfield 65, 3) := by decide +kernel
theorem dX5_image_83 : decode cX5_image 83 = .ok (.iload_n 1, 1) := by decide +kernel
theorem dX5_image_84 : decode cX5_image 84 = .ok (.aload_n 0, 1) := by decide +kernel
theorem dX5_image_85 : decode cX5_image 85 = .ok (.getfield 13, 3) := by decide +kernel
theorem dX5_image_88 : decode cX5_image 88 = .ok (.iload_n 1, 1) := by decide +kernel
theorem dX5_image_89 : decode cX5_image 89 = .ok (.iaload, 1) := by decide +kernel
theorem dX5_image_90 : decode cX5_image 90 = .ok (.iastore, 1) := by decide +kernel
theorem dX5_image_91 : decode cX5_image 91 = .ok (.iinc 1 1, 3) := by decide +kernel
theorem dX5_image_94 : decode cX5_image 94 = .ok (.goto (-21), 3) := by decide +kernel
theorem dX5_image_97 : decode cX5_image 97 = .ok (.iconst 0, 1) := by decide +kernel
theorem dX5_image_98 : decode cX5_image 98 = .ok (.istore_n 1, 1) := by decide +kernel
theorem dX5_image_99 : decode cX5_image 99 = .ok (.iload_n 1, 1) := by decide +kernel
theorem dX5_image_100 : decode cX5_image 100 = .ok (.iconst 3, 1) := by decide +kernel
theorem dX5_image_101 : decode cX5_image 101 = .ok (.if_icmp .ge 21, 3) := by decide +kernel
theorem dX5_image_104 : decode cX5_image 104 = .ok (.aload_n 0, 1) := by decide +kernel
theorem dX5_image_105 : decode cX5_image 105 = .ok (.getfield 68, 3) := by decide +kernel
theorem dX5_image_108 : decode cX5_image 108 = .ok (.iload_n 1, 1) := by decide +kernel
theorem dX5_image_109 : decode cX5_image 109 = .ok (.aload_n 0, 1) := by decide +kernel
theorem dX5_image_110 : decode cX5_image 110 = .ok (.getfield 7, 3) := by decide +kernel
theorem dX5_image_113 : decode cX5_image 113 = .ok (.iload_n 1, 1) := by decide +kernel
theorem dX5_image_114 : decode cX5_image 114 = .ok (.iaload, 1) := by decide +kernel
theorem dX5_image_115 : decode cX5_image 115 = .ok (.iastore, 1) := by decide +kernel
theorem dX5_image_116 : decode cX5_image 116 = .ok (.iinc 1 1, 3) := by decide +kernel
theorem dX5_image_119 : decode cX5_image 119 = .ok (.goto (-20), 3) := by decide +kernel
theorem dX5_image_122 : decode cX5_image 122 = .ok (.iconst 0, 1) := by decide +kernel
theorem dX5_image_123 : decode cX5_image 123 = .ok (.istore_n 1, 1) := by decide +kernel
theorem dX5_image_124 : decode cX5_image 124 = .ok (.iload_n 1, 1) := by decide +kernel
theorem dX5_image_125 : decode cX5_image 125 = .ok (.bipush 6, 2) := by decide +kernel
theorem dX5_image_127 : decode cX5_image 127 = .ok (.if_icmp .ge 33, 3) := by decide +kernel
theorem dX5_image_130 : decode cX5_image 130 = .ok (.aload_n 0, 1) := by decide +kernel
theorem dX5_image_131 : decode cX5_image 131 = .ok (.getfield 71, 3) := by decide +kernel
theorem dX5_image_134 : decode cX5_image 134 = .ok (.iload_n 1, 1) := by decide +kernel
theorem dX5_image_135 : decode cX5_image 135 = .ok (.aload_n 0, 1) := by decide +kernel
theorem dX5_image_136 : decode cX5_image 136 = .ok (.getfield 16, 3) := by decide +kernel
theorem dX5_image_139 : decode cX5_image 139 = .ok (.iload_n 1, 1) := by decide +kernel
theorem dX5_image_140 : decode cX5_image 140 = .ok (.iaload, 1) := by decide +kernel
theorem dX5_image_141 : decode cX5_image 141 = .ok (.iastore, 1) := by decide +kernel
theorem dX5_image_142 : decode cX5_image 142 = .ok (.aload_n 0, 1) := by decide +kernel
theorem dX5_image_143 : decode cX5_image 143 = .ok (.getfield 74, 3) := by decide +kernel
theorem dX5_image_146 : decode cX5_image 146 = .ok (.iload_n 1, 1) := by decide +kernel
theorem dX5_image_147 : decode cX5_image 147 = .ok (.aload_n 0, 1) := by decide +kernel
theorem dX5_image_148 : decode cX5_image 148 = .ok (.getfield 19, 3) := by decide +kernel
theorem dX5_image_151 : decode cX5_image 151 = .ok (.iload_n 1, 1) := by decide +kernel
theorem dX5_image_152 : decode cX5_image 152 = .ok (.iaload, 1) := by decide +kernel
theorem dX5_image_153 : decode cX5_image 153 = .ok (.iastore, 1) := by decide +kernel
theorem dX5_image_154 : decode cX5_image 154 = .ok (.iinc 1 1, 3) := by decide +kernel
theorem dX5_image_157 : decode cX5_image 157 = .ok (.goto (-33), 3) := by decide +kernel
theorem dX5_image_160 : decode cX5_image 160 = .ok (.aload_n 0, 1) := by decide +kernel
theorem dX5_image_161 : decode cX5_image 161 = .ok (.getfield 131, 3) := by decide +kernel
theorem dX5_image_164 : decode cX5_image 164 = .ok (.ireturn, 1) := by decide +kernel
theorem dX5_restore_0 : decode cX5_restore 0 = .ok (.aload_n 0, 1) := by decide +kernel
theorem dX5_restore_1 : decode cX5_restore 1 = .ok (.getfield 302, 3) := by decide +kernel
theorem dX5_restore_4 : decode cX5_restore 4 = .ok (.ifCond .eq 14, 3) := by decide +kernel
theorem dX5_restore_7 : decode cX5_restore 7 = .ok (.aload_n 0, 1) := by decide +kernel
theorem dX5_restore_8 : decode cX5_restore 8 = .ok (.getfield 305, 3) := by decide +kernel
theorem dX5_restore_11 : decode cX5_restore 11 = .ok (.aload_n 0, 1) := by decide +kernel
theorem dX5_restore_12 : decode cX5_restore 12 = .ok (.getfield 134, 3) := by decide +kernel
theorem dX5_restore_15 : decode cX5_restore 15 = .ok (.if_icmp .eq 6, 3) := by decide +kernel
theorem dX5_restore_18 : decode cX5_restore 18 = .ok (.bipush (-103), 2) := by decide +kernel
theorem dX5_restore_20 : decode cX5_restore 20 = .ok (.ireturn, 1) := by decide +kernel
theorem dX5_restore_21 : decode cX5_restore 21 = .ok (.aload_n 0, 1) := by decide +kernel
theorem dX5_restore_22 : decode cX5_restore 22 = .ok (.aload_n 0, 1) := by decide +kernel
theorem dX5_restore_23 : decode cX5_restore 23 = .ok (.getfield 308, 3) := by decide +kernel
theorem dX5_restore_26 : decode cX5_restore 26 = .ok (.putfield 119, 3) := by decide +kernel
theorem dX5_restore_29 : decode cX5_restore 29 = .ok (.aload_n 0, 1) := by decide +kernel
theorem dX5_restore_30 : decode cX5_restore 30 = .ok (.aload_n 0, 1) := by decide +kernel
theorem dX5_restore_31 : decode cX5_restore 31 = .ok (.getfield 311, 3) := by decide +kernel
theorem dX5_restore_34 : decode cX5_restore 34 = .ok (.putfield 122, 3) := by decide +kernel
theorem dX5_restore_37 : decode cX5_restore 37 = .ok (.aload_n 0, 1) := by decide +kernel
theorem dX5_restore_38 : decode cX5_restore 38 = .ok (.aload_n 0, 1) := by decide +kernel
theorem dX5_restore_39 : decode cX5_restore 39 = .ok (.getfield 314, 3) := by decide +kernel
theorem dX5_restore_42 : decode cX5_restore 42 = .ok (.putfield 125, 3) := by decide +kernel
theorem dX5_restore_45 : decode cX5_restore 45 = .ok (.aload_n 0, 1) := by decide +kernel
theorem dX5_restore_46 : decode cX5_restore 46 = .ok (.aload_n 0, 1) := by decide +kernel
theorem dX5_restore_47 : decode cX5_restore 47 = .ok (.getfield 317, 3) := by decide +kernel
theorem dX5_restore_50 : decode cX5_restore 50 = .ok (.putfield 128, 3) := by decide +kernel
theorem dX5_restore_53 : decode cX5_restore 53 = .ok (.aload_n 0, 1) := by decide +kernel
theorem dX5_restore_54 : decode cX5_restore 54 = .ok (.aload_n 0, 1) := by decide +kernel
theorem dX5_restore_55 : decode cX5_restore 55 = .ok (.getfield 320, 3) := by decide +kernel
theorem dX5_restore_58 : decode cX5_restore 58 = .ok (.putfield 131, 3) := by decide +kernel
theorem dX5_restore_61 : decode cX5_restore 61 = .ok (.aload_n 0, 1) := by decide +kernel
theorem dX5_restore_62 : decode cX5_restore 62 = .ok (.aload_n 0, 1) := by decide +kernel
theorem dX5_restore_63 : decode cX5_restore 63 = .ok (.getfield 323, 3) := by decide +kernel
theorem dX5_restore_66 : decode cX5_restore 66 = .ok (.putfield 137, 3) := by decide +kernel
theorem dX5_restore_69 : decode cX5_restore 69 = .ok (.iconst 0, 1) := by decide +kernel
theorem dX5_restore_70 : decode cX5_restore 70 = .ok (.istore_n 1, 1) := by decide +kernel
theorem dX5_restore_71 : decode cX5_restore 71 = .ok (.iload_n 1, 1) := by decide +kernel
theorem dX5_restore_72 : decode cX5_restore 72 = .ok (.bipush 8, 2) := by decide +kernel
theorem dX5_restore_74 : decode cX5_restore 74 = .ok (.if_icmp .ge 21, 3) := by decide +kernel
theorem dX5_restore_77 : decode cX5_restore 77 = .ok (.aload_n 0, 1) := by decide +kernel
theorem dX5_restore_78 : decode cX5_restore 78 = .ok (.getfield 13, 3) := by decide +kernel
theorem dX5_restore_81 : decode cX5_restore 81 = .ok (.iload_n 1, 1) := by decide +kernel
theorem dX5_restore_82 : decode cX5_restore 82 = .ok (.aload_n 0, 1) := by decide +kernel
theorem dX5_restore_83 : decode cX5_restore 83 = .ok (.getfield 65, 3) := by decide +kernel
theorem dX5_restore_86 : decode cX5_restore 86 = .ok (.iload_n 1, 1) := by decide +kernel
theorem dX5_restore_87 : decode cX5_restore 87 = .ok (.iaload, 1) := by decide +kernel
theorem dX5_restore_88 : decode cX5_restore 88 = .ok (.iastore, 1) := by decide +kernel
theorem dX5_restore_89 : decode cX5_restore 89 = .ok (.iinc 1 1, 3) := by decide +kernel
theorem dX5_restore_92 : decode cX5_restore 92 = .ok (.goto (-21), 3) := by decide +kernel
theorem dX5_restore_95 : decode cX5_restore 95 = .ok (.iconst 0, 1) := by decide +kernel
theorem dX5_restore_96 : decode cX5_restore 96 = .ok (.istore_n 1, 1) := by decide +kernel
theorem dX5_restore_97 : decode cX5_restore 97 = .ok (.iload_n 1, 1) := by decide +kernel
theorem dX5_restore_98 : decode cX5_restore 98 = .ok (.iconst 3, 1) := by decide +kernel
theorem dX5_restore_99 : decode cX5_restore 99 = .ok (.if_icmp .ge 21, 3) := by decide +kernel
theorem dX5_restore_102 : decode cX5_restore 102 = .ok (.aload_n 0, 1) := by decide +kernel
theorem dX5_restore_103 : decode cX5_restore 103 = .ok (.getfield 7, 3) := by decide +kernel
theorem dX5_restore_106 : decode cX5_restore 106 = .ok (.iload_n 1, 1) := by decide +kernel
theorem dX5_restore_107 : decode cX5_restore 107 = .ok (.aload_n 0, 1) := by decide +kernel
theorem dX5_restore_108 : decode cX5_restore 108 = .ok (.getfield 68, 3) := by decide +kernel
theorem dX5_restore_111 : decode cX5_restore 111 = .ok (.iload_n 1, 1) := by decide +kernel
theorem dX5_restore_112 : decode cX5_restore 112 = .ok (.iaload, 1) := by decide +kernel
theorem dX5_restore_113 : decode cX5_restore 113 = .ok (.iastore, 1) := by decide +kernel
theorem dX5_restore_114 : decode cX5_restore 114 = .ok (.iinc 1 1, 3) := by decide +kernel
theorem dX5_restore_117 : decode cX5_restore 117 = .ok (.goto (-20), 3) := by decide +kernel
theorem dX5_restore_120 : decode cX5_restore 120 = .ok (.iconst 0, 1) := by decide +kernel
theorem dX5_restore_121 : decode cX5_restore 121 = .ok (.istore_n 1, 1) := by decide +kernel
theorem dX5_restore_122 : decode cX5_restore 122 = .ok (.iload_n 1, 1) := by decide +kernel
theorem dX5_restore_123 : decode cX5_restore 123 = .ok (.bipush 6, 2) := by decide +kernel
theorem dX5_restore_125 : decode cX5_restore 125 = .ok (.if_icmp .ge 33, 3) := by decide +kernel
theorem dX5_restore_128 : decode cX5_restore 128 = .ok (.aload_n 0, 1) := by decide +kernel
theorem dX5_restore_129 : decode cX5_restore 129 = .ok (.getfield 16, 3) := by decide +kernel
theorem dX5_restore_132 : decode cX5_restore 132 = .ok (.iload_n 1, 1) := by decide +kernel
theorem dX5_restore_133 : decode cX5_restore 133 = .ok (.aload_n 0, 1) := by decide +kernel
theorem dX5_restore_134 : decode cX5_restore 134 = .ok (.getfield 71, 3) := by decide +kernel
theorem dX5_restore_137 : decode cX5_restore 137 = .ok (.iload_n 1, 1) := by decide +kernel
theorem dX5_restore_138 : decode cX5_restore 138 = .ok (.iaload, 1) := by decide +kernel
theorem dX5_restore_139 : decode cX5_restore 139 = .ok (.iastore, 1) := by decide +kernel
theorem dX5_restore_140 : decode cX5_restore 140 = .ok (.aload_n 0, 1) := by decide +kernel
theorem dX5_restore_141 : decode cX5_restore 141 = .ok (.getfield 19, 3) := by decide +kernel
theorem dX5_restore_144 : decode cX5_restore 144 = .ok (.iload_n 1, 1) := by decide +kernel
theorem dX5_restore_145 : decode cX5_restore 145 = .ok (.aload_n 0, 1) := by decide +kernel
theorem dX5_restore_146 : decode cX5_restore 146 = .ok (.getfield 74, 3) := by decide +kernel
theorem dX5_restore_149 : decode cX5_restore 149 = .ok (.iload_n 1, 1) := by decide +kernel
theorem dX5_restore_150 : decode cX5_restore 150 = .ok (.iaload, 1) := by decide +kernel
theorem dX5_restore_151 : decode cX5_restore 151 = .ok (.iastore, 1) := by decide +kernel
theorem dX5_restore_152 : decode cX5_restore 152 = .ok (.iinc 1 1, 3) := by decide +kernel
theorem dX5_restore_155 : decode cX5_restore 155 = .ok (.goto (-33), 3) := by decide +kernel
theorem dX5_restore_158 : decode cX5_restore 158 = .ok (.aload_n 0, 1) := by decide +kernel
theorem dX5_restore_159 : decode cX5_restore 159 = .ok (.getfield 131, 3) := by decide +kernel
theorem dX5_restore_162 : decode cX5_restore 162 = .ok (.ireturn, 1) := by decide +kernel
theorem dX5_howMany_0 : decode cX5_howMany 0 = .ok (.iload_n 1, 1) := by decide +kernel
theorem dX5_howMany_1 : decode cX5_howMany 1 = .ok (.tableswitch 128 0 10 #[59, 64, 72, 77, 85, 90, 103, 108, 113, 118, 123], 59) := by decide +kernel
theorem dX5_howMany_60 : decode cX5_howMany 60 = .ok (.aload_n 0, 1) := by decide +kernel
theorem dX5_howMany_61 : decode cX5_howMany 61 = .ok (.getfield 116, 3) := by decide +kernel
theorem dX5_howMany_64 : decode cX5_howMany 64 = .ok (.ireturn, 1) := by decide +kernel
theorem dX5_howMany_65 : decode cX5_howMany 65 = .ok (.aload_n 0, 1) := by decide +kernel
theorem dX5_howMany_66 : decode cX5_howMany 66 = .ok (.getfield 119, 3) := by decide +kernel
theorem dX5_howMany_69 : decode cX5_howMany 69 = .ok (.invokestatic 146, 3) := by decide +kernel
theorem dX5_howMany_72 : decode cX5_howMany 72 = .ok (.ireturn, 1) := by decide +kernel
theorem dX5_howMany_73 : decode cX5_howMany 73 = .ok (.aload_n 0, 1) := by decide +kernel
theorem dX5_howMany_74 : decode cX5_howMany 74 = .ok (.getfield 113, 3) := by decide +kernel
theorem dX5_howMany_77 : decode cX5_howMany 77 = .ok (.ireturn, 1) := by decide +kernel
theorem dX5_howMany_78 : decode cX5_howMany 78 = .ok (.aload_n 0, 1) := by decide +kernel
theorem dX5_howMany_79 : decode cX5_howMany 79 = .ok (.getfield 122, 3) := by decide +kernel
theorem dX5_howMany_82 : decode cX5_howMany 82 = .ok (.invokestatic 146, 3) := by decide +kernel
theorem dX5_howMany_85 : decode cX5_howMany 85 = .ok (.ireturn, 1) := by decide +kernel
theorem dX5_howMany_86 : decode cX5_howMany 86 = .ok (.aload_n 0, 1) := by decide +kernel
theorem dX5_howMany_87 : decode cX5_howMany 87 = .ok (.getfield 125, 3) := by decide +kernel
theorem dX5_howMany_90 : decode cX5_howMany 90 = .ok (.ireturn, 1) := by decide +kernel
theorem dX5_howMany_91 : decode cX5_howMany 91 = .ok (.aload_n 0, 1) := by decide +kernel
theorem dX5_howMany_92 : decode cX5_howMany 92 = .ok (.getfield 128, 3) := by decide +kernel
theorem dX5_howMany_95 : decode cX5_howMany 95 = .ok (.ifCond .eq 7, 3) := by decide +kernel
theorem dX5_howMany_98 : decode cX5_howMany 98 = .ok (.iconst 1, 1) := by decide +kernel
theorem dX5_howMany_99 : decode cX5_howMany 99 = .ok (.goto 4, 3) := by decide +kernel
theorem dX5_howMany_102 : decode cX5_howMany 102 = .ok (.iconst 0, 1) := by decide +kernel
theorem dX5_howMany_103 : decode cX5_howMany 103 = .ok (.ireturn, 1) := by decide +kernel
theorem dX5_howMany_104 : decode cX5_howMany 104 = .ok (.aload_n 0, 1) := by decide +kernel
theorem dX5_howMany_105 : decode cX5_howMany 105 = .ok (.getfield 131, 3) := by decide +kernel
theorem dX5_howMany_108 : decode cX5_howMany 108 = .ok (.ireturn, 1) := by decide +kernel
theorem dX5_howMany_109 : decode cX5_howMany 109 = .ok (.aload_n 0, 1) := by decide +kernel
theorem dX5_howMany_110 : decode cX5_howMany 110 = .ok (.invokevirtual 149, 3) := by decide +kernel
theorem dX5_howMany_113 : decode cX5_howMany 113 = .ok (.ireturn, 1) := by decide +kernel
theorem dX5_howMany_114 : decode cX5_howMany 114 = .ok (.aload_n 0, 1) := by decide +kernel
theorem dX5_howMany_115 : decode cX5_howMany 115 = .ok (.getfield 137, 3) := by decide +kernel
theorem dX5_howMany_118 : decode cX5_howMany 118 = .ok (.ireturn, 1) := by decide +kernel
theorem dX5_howMany_119 : decode cX5_howMany 119 = .ok (.aload_n 0, 1) := by decide +kernel
theorem dX5_howMany_120 : decode cX5_howMany 120 = .ok (.getfield 81, 3) := by decide +kernel
theorem dX5_howMany_123 : decode cX5_howMany 123 = .ok (.ireturn, 1) := by decide +kernel
theorem dX5_howMany_124 : decode cX5_howMany 124 = .ok (.aload_n 0, 1) := by decide +kernel
theorem dX5_howMany_125 : decode cX5_howMany 125 = .ok (.getfield 134, 3) := by decide +kernel
theorem dX5_howMany_128 : decode cX5_howMany 128 = .ok (.ireturn, 1) := by decide +kernel
theorem dX5_howMany_129 : decode cX5_howMany 129 = .ok (.bipush (-102), 2) := by decide +kernel
theorem dX5_howMany_131 : decode cX5_howMany 131 = .ok (.ireturn, 1) := by decide +kernel
theorem dX5_count_0 : decode cX5_count 0 = .ok (.aload_n 0, 1) := by decide +kernel
theorem dX5_count_1 : decode cX5_count 1 = .ok (.iload_n 1, 1) := by decide +kernel
theorem dX5_count_2 : decode cX5_count 2 = .ok (.invokevirtual 326, 3) := by decide +kernel
theorem dX5_count_5 : decode cX5_count 5 = .ok (.ireturn, 1) := by decide +kernel
theorem dX5_mix_0 : decode cX5_mix 0 = .ok (.aload_n 0, 1) := by decide +kernel
theorem dX5_mix_1 : decode cX5_mix 1 = .ok (.ldc2_w 329, 3) := by decide +kernel
theorem dX5_mix_4 : decode cX5_mix 4 = .ok (.aload_n 0, 1) := by decide +kernel
theorem dX5_mix_5 : decode cX5_mix 5 = .ok (.getfield 331, 3) := by decide +kernel
theorem dX5_mix_8 : decode cX5_mix 8 = .ok (.lmul, 1) := by decide +kernel
theorem dX5_mix_9 : decode cX5_mix 9 = .ok (.lload_n 1, 1) := by decide +kernel
theorem dX5_mix_10 : decode cX5_mix 10 = .ok (.ladd, 1) := by decide +kernel
theorem dX5_mix_11 : decode cX5_mix 11 = .ok (.putfield 331, 3) := by decide +kernel
theorem dX5_mix_14 : decode cX5_mix 14 = .ok (.return_, 1) := by decide +kernel
theorem dX5_mixRing_0 : decode cX5_mixRing 0 = .ok (.aload_n 0, 1) := by decide +kernel
theorem dX5_mixRing_1 : decode cX5_mixRing 1 = .ok (.aload_n 0, 1) := by decide +kernel
theorem dX5_mixRing_2 : decode cX5_mixRing 2 = .ok (.iconst 3, 1) := by decide +kernel
theorem dX5_mixRing_3 : decode cX5_mixRing 3 = .ok (.invokevirtual 191, 3) := by decide +kernel
theorem dX5_mixRing_6 : decode cX5_mixRing 6 = .ok (.i2l, 1) := by decide +kernel
theorem dX5_mixRing_7 : decode cX5_mixRing 7 = .ok (.invokevirtual 334, 3) := by decide +kernel
theorem dX5_mixRing_10 : decode cX5_mixRing 10 = .ok (.aload_n 0, 1) := by decide +kernel
theorem dX5_mixRing_11 : decode cX5_mixRing 11 = .ok (.aload_n 0, 1) := by decide +kernel
theorem dX5_mixRing_12 : decode cX5_mixRing 12 = .ok (.iconst 0, 1) := by decide +kernel
theorem dX5_mixRing_13 : decode cX5_mixRing 13 = .ok (.iconst 5, 1) := by decide +kernel
theorem dX5_mixRing_14 : decode cX5_mixRing 14 = .ok (.invokevirtual 222, 3) := by decide +kernel
theorem dX5_mixRing_17 : decode cX5_mixRing 17 = .ok (.i2l, 1) := by decide +kernel
theorem dX5_mixRing_18 : decode cX5_mixRing 18 = .ok (.invokevirtual 334, 3) := by decide +kernel
theorem dX5_mixRing_21 : decode cX5_mixRing 21 = .ok (.aload_n 0, 1) := by decide +kernel
theorem dX5_mixRing_22 : decode cX5_mixRing 22 = .ok (.aload_n 0, 1) := by decide +kernel
theorem dX5_mixRing_23 : decode cX5_mixRing 23 = .ok (.invokevirtual 274, 3) := by decide +kernel
theorem dX5_mixRing_26 : decode cX5_mixRing 26 = .ok (.i2l, 1) := by decide +kernel
theorem dX5_mixRing_27 : decode cX5_mixRing 27 = .ok (.invokevirtual 334, 3) := by decide +kernel
theorem dX5_mixRing_30 : decode cX5_mixRing 30 = .ok (.aload_n 0, 1) := by decide +kernel
theorem dX5_mixRing_31 : decode cX5_mixRing 31 = .ok (.aload_n 0, 1) := by decide +kernel
theorem dX5_mixRing_32 : decode cX5_mixRing 32 = .ok (.invokevirtual 281, 3) := by decide +kernel
theorem dX5_mixRing_35 : decode cX5_mixRing 35 = .ok (.i2l, 1) := by decide +kernel
theorem dX5_mixRing_36 : decode cX5_mixRing 36 = .ok (.invokevirtual 334, 3) := by decide +kernel
theorem dX5_mixRing_39 : decode cX5_mixRing 39 = .ok (.aload_n 0, 1) := by decide +kernel
theorem dX5_mixRing_40 : decode cX5_mixRing 40 = .ok (.getfield 119, 3) := by decide +kernel
theorem dX5_mixRing_43 : decode cX5_mixRing 43 = .ok (.iconst 0, 1) := by decide +kernel
theorem dX5_mixRing_44 : decode cX5_mixRing 44 = .ok (.invokestatic 140, 3) := by decide +kernel
theorem dX5_mixRing_47 : decode cX5_mixRing 47 = .ok (.ifCond .eq 38, 3) := by decide +kernel
theorem dX5_mixRing_50 : decode cX5_mixRing 50 = .ok (.aload_n 0, 1) := by decide +kernel
theorem dX5_mixRing_51 : decode cX5_mixRing 51 = .ok (.getfield 119, 3) := by decide +kernel
theorem dX5_mixRing_54 : decode cX5_mixRing 54 = .ok (.iconst 1, 1) := by decide +kernel
theorem dX5_mixRing_55 : decode cX5_mixRing 55 = .ok (.invokestatic 140, 3) := by decide +kernel
theorem dX5_mixRing_58 : decode cX5_mixRing 58 = .ok (.ifCond .eq 27, 3) := by decide +kernel
theorem dX5_mixRing_61 : decode cX5_mixRing 61 = .ok (.aload_n 0, 1) := by decide +kernel
theorem dX5_mixRing_62 : decode cX5_mixRing 62 = .ok (.aload_n 0, 1) := by decide +kernel
theorem dX5_mixRing_63 : decode cX5_mixRing 63 = .ok (.iconst 0, 1) := by decide +kernel
theorem dX5_mixRing_64 : decode cX5_mixRing 64 = .ok (.iconst 1, 1) := by decide +kernel
theorem dX5_mixRing_65 : decode cX5_mixRing 65 = .ok (.iconst 0, 1) := by decide +kernel
theorem dX5_mixRing_66 : decode cX5_mixRing 66 = .ok (.invokevirtual 239, 3) := by decide +kernel
theorem dX5_mixRing_69 : decode cX5_mixRing 69 = .ok (.i2l, 1) := by decide +kernel
theorem dX5_mixRing_70 : decode cX5_mixRing 70 = .ok (.invokevirtual 334, 3) := by decide +kernel
theorem dX5_mixRing_73 : decode cX5_mixRing 73 = .ok (.aload_n 0, 1) := by decide +kernel
theorem dX5_mixRing_74 : decode cX5_mixRing 74 = .ok (.aload_n 0, 1) := by decide +kernel
theorem dX5_mixRing_75 : decode cX5_mixRing 75 = .ok (.iconst 0, 1) := by decide +kernel
theorem dX5_mixRing_76 : decode cX5_mixRing 76 = .ok (.iconst 1, 1) := by decide +kernel
theorem dX5_mixRing_77 : decode cX5_mixRing 77 = .ok (.iconst 1, 1) := by decide +kernel
theorem dX5_mixRing_78 : decode cX5_mixRing 78 = .ok (.invokevirtual 239, 3) := by decide +kernel
theorem dX5_mixRing_81 : decode cX5_mixRing 81 = .ok (.i2l, 1) := by decide +kernel
theorem dX5_mixRing_82 : decode cX5_mixRing 82 = .ok (.invokevirtual 334, 3) := by decide +kernel
theorem dX5_mixRing_85 : decode cX5_mixRing 85 = .ok (.aload_n 0, 1) := by decide +kernel
theorem dX5_mixRing_86 : decode cX5_mixRing 86 = .ok (.invokevirtual 268, 3) := by decide +kernel
theorem dX5_mixRing_89 : decode cX5_mixRing 89 = .ok (.iconst 0, 1) := by decide +kernel
theorem dX5_mixRing_90 : decode cX5_mixRing 90 = .ok (.istore_n 1, 1) := by decide +kernel
theorem dX5_mixRing_91 : decode cX5_mixRing 91 = .ok (.iload_n 1, 1) := by decide +kernel
theorem dX5_mixRing_92 : decode cX5_mixRing 92 = .ok (.aload_n 0, 1) := by decide +kernel
theorem dX5_mixRing_93 : decode cX5_mixRing 93 = .ok (.getfield 116, 3) := by decide +kernel
theorem dX5_mixRing_96 : decode cX5_mixRing 96 = .ok (.if_icmp .ge 42, 3) := by decide +kernel
theorem dX5_mixRing_99 : decode cX5_mixRing 99 = .ok (.aload_n 0, 1) := by decide +kernel
theorem dX5_mixRing_100 : decode cX5_mixRing 100 = .ok (.getfield 119, 3) := by decide +kernel
theorem dX5_mixRing_103 : decode cX5_mixRing 103 = .ok (.iload_n 1, 1) := by decide +kernel
theorem dX5_mixRing_104 : decode cX5_mixRing 104 = .ok (.invokestatic 140, 3) := by decide +kernel
theorem dX5_mixRing_107 : decode cX5_mixRing 107 = .ok (.ifCond .eq 25, 3) := by decide +kernel
theorem dX5_mixRing_110 : decode cX5_mixRing 110 = .ok (.aload_n 0, 1) := by decide +kernel
theorem dX5_mixRing_111 : decode cX5_mixRing 111 = .ok (.aload_n 0, 1) := by decide +kernel
theorem dX5_mixRing_112 : decode cX5_mixRing 112 = .ok (.iload_n 1, 1) := by decide +kernel
theorem dX5_mixRing_113 : decode cX5_mixRing 113 = .ok (.iconst 0, 1) := by decide +kernel
theorem dX5_mixRing_114 : decode cX5_mixRing 114 = .ok (.invokevirtual 271, 3) := by decide +kernel
theorem dX5_mixRing_117 : decode cX5_mixRing 117 = .ok (.i2l, 1) := by decide +kernel
theorem dX5_mixRing_118 : decode cX5_mixRing 118 = .ok (.invokevirtual 334, 3) := by decide +kernel
theorem dX5_mixRing_121 : decode cX5_mixRing 121 = .ok (.aload_n 0, 1) := by decide +kernel
theorem dX5_mixRing_122 : decode cX5_mixRing 122 = .ok (.aload_n 0, 1) := by decide +kernel
theorem dX5_mixRing_123 : decode cX5_mixRing 123 = .ok (.iload_n 1, 1) := by decide +kernel
theorem dX5_mixRing_124 : decode cX5_mixRing 124 = .ok (.iconst 1, 1) := by decide +kernel
theorem dX5_mixRing_125 : decode cX5_mixRing 125 = .ok (.invokevirtual 271, 3) := by decide +kernel
theorem dX5_mixRing_128 : decode cX5_mixRing 128 = .ok (.i2l, 1) := by decide +kernel
theorem dX5_mixRing_129 : decode cX5_mixRing 129 = .ok (.invokevirtual 334, 3) := by decide +kernel
theorem dX5_mixRing_132 : decode cX5_mixRing 132 = .ok (.iinc 1 1, 3) := by decide +kernel
theorem dX5_mixRing_135 : decode cX5_mixRing 135 = .ok (.goto (-44), 3) := by decide +kernel
theorem dX5_mixRing_138 : decode cX5_mixRing 138 = .ok (.return_, 1) := by decide +kernel
theorem dX5_digest_0 : decode cX5_digest 0 = .ok (.aload_n 0, 1) := by decide +kernel
theorem dX5_digest_1 : decode cX5_digest 1 = .ok (.ldc2_w 338, 3) := by decide +kernel
theorem dX5_digest_4 : decode cX5_digest 4 = .ok (.putfield 331, 3) := by decide +kernel
theorem dX5_digest_7 : decode cX5_digest 7 = .ok (.iconst 0, 1) := by decide +kernel
theorem dX5_digest_8 : decode cX5_digest 8 = .ok (.istore_n 1, 1) := by decide +kernel
theorem dX5_digest_9 : decode cX5_digest 9 = .ok (.iload_n 1, 1) := by decide +kernel
theorem dX5_digest_10 : decode cX5_digest 10 = .ok (.aload_n 0, 1) := by decide +kernel
theorem dX5_digest_11 : decode cX5_digest 11 = .ok (.getfield 116, 3) := by decide +kernel
theorem dX5_digest_14 : decode cX5_digest 14 = .ok (.if_icmp .ge 46, 3) := by decide +kernel
theorem dX5_digest_17 : decode cX5_digest 17 = .ok (.iconst 0, 1) := by decide +kernel
theorem dX5_digest_18 : decode cX5_digest 18 = .ok (.istore_n 2, 1) := by decide +kernel
theorem dX5_digest_19 : decode cX5_digest 19 = .ok (.iload_n 2, 1) := by decide +kernel
theorem dX5_digest_20 : decode cX5_digest 20 = .ok (.bipush 6, 2) := by decide +kernel
theorem dX5_digest_22 : decode cX5_digest 22 = .ok (.if_icmp .ge 20, 3) := by decide +kernel
theorem dX5_digest_25 : decode cX5_digest 25 = .ok (.aload_n 0, 1) := by decide +kernel
theorem dX5_digest_26 : decode cX5_digest 26 = .ok (.aload_n 0, 1) := by decide +kernel
theorem dX5_digest_27 : decode cX5_digest 27 = .ok (.iload_n 1, 1) := by decide +kernel
theorem dX5_digest_28 : decode cX5_digest 28 = .ok (.iload_n 2, 1) := by decide +kernel
theorem dX5_digest_29 : decode cX5_digest 29 = .ok (.invokevirtual 200, 3) := by decide +kernel
theorem dX5_digest_32 : decode cX5_digest 32 = .ok (.i2l, 1) := by decide +kernel
theorem dX5_digest_33 : decode cX5_digest 33 = .ok (.invokevirtual 334, 3) := by decide +kernel
theorem dX5_digest_36 : decode cX5_digest 36 = .ok (.iinc 2 1, 3) := by decide +kernel
theorem dX5_digest_39 : decode cX5_digest 39 = .ok (.goto (-20), 3) := by decide +kernel
theorem dX5_digest_42 : decode cX5_digest 42 = .ok (.aload_n 0, 1) := by decide +kernel
theorem dX5_digest_43 : decode cX5_digest 43 = .ok (.aload_n 0, 1) := by decide +kernel
theorem dX5_digest_44 : decode cX5_digest 44 = .ok (.iload_n 1, 1) := by decide +kernel
theorem dX5_digest_45 : decode cX5_digest 45 = .ok (.bipush 7, 2) := by decide +kernel
theorem dX5_digest_47 : decode cX5_digest 47 = .ok (.invokevirtual 216, 3) := by decide +kernel
theorem dX5_digest_50 : decode cX5_digest 50 = .ok (.i2l, 1) := by decide +kernel
theorem dX5_digest_51 : decode cX5_digest 51 = .ok (.invokevirtual 334, 3) := by decide +kernel
theorem dX5_digest_54 : decode cX5_digest 54 = .ok (.iinc 1 1, 3) := by decide +kernel
theorem dX5_digest_57 : decode cX5_digest 57 = .ok (.goto (-48), 3) := by decide +kernel
theorem dX5_digest_60 : decode cX5_digest 60 = .ok (.iconst 0, 1) := by decide +kernel
theorem dX5_digest_61 : decode cX5_digest 61 = .ok (.istore_n 1, 1) := by decide +kernel
theorem dX5_digest_62 : decode cX5_digest 62 = .ok (.iload_n 1, 1) := by decide +kernel
theorem dX5_digest_63 : decode cX5_digest 63 = .ok (.aload_n 0, 1) := by decide +kernel
theorem dX5_digest_64 : decode cX5_digest 64 = .ok (.getfield 113, 3) := by decide +kernel
theorem dX5_digest_67 : decode cX5_digest 67 = .ok (.if_icmp .ge 33, 3) := by decide +kernel
theorem dX5_digest_70 : decode cX5_digest 70 = .ok (.iconst 0, 1) := by decide +kernel
theorem dX5_digest_71 : decode cX5_digest 71 = .ok (.istore_n 2, 1) := by decide +kernel
theorem dX5_digest_72 : decode cX5_digest 72 = .ok (.iload_n 2, 1) := by decide +kernel
theorem dX5_digest_73 : decode cX5_digest 73 = .ok (.iconst 3, 1) := by decide +kernel
theorem dX5_digest_74 : decode cX5_digest 74 = .ok (.if_icmp .ge 20, 3) := by decide +kernel
theorem dX5_digest_77 : decode cX5_digest 77 = .ok (.aload_n 0, 1) := by decide +kernel
theorem dX5_digest_78 : decode cX5_digest 78 = .ok (.aload_n 0, 1) := by decide +kernel
theorem dX5_digest_79 : decode cX5_digest 79 = .ok (.iload_n 1, 1) := by decide +kernel
theorem dX5_digest_80 : decode cX5_digest 80 = .ok (.iload_n 2, 1) := by decide +kernel
theorem dX5_digest_81 : decode cX5_digest 81 = .ok (.invokevirtual 210, 3) := by decide +kernel
theorem dX5_digest_84 : decode cX5_digest 84 = .ok (.i2l, 1) := by decide +kernel
theorem dX5_digest_85 : decode cX5_digest 85 = .ok (.invokevirtual 334, 3) := by decide +kernel
theorem dX5_digest_88 : decode cX5_digest 88 = .ok (.iinc 2 1, 3) := by decide +kernel
theorem dX5_digest_91 : decode cX5_digest 91 = .ok (.goto (-19), 3) := by decide +kernel
theorem dX5_digest_94 : decode cX5_digest 94 = .ok (.iinc 1 1, 3) := by decide +kernel
theorem dX5_digest_97 : decode cX5_digest 97 = .ok (.goto (-35), 3) := by decide +kernel
theorem dX5_digest_100 : decode cX5_digest 100 = .ok (.aload_n 0, 1) := by decide +kernel
theorem dX5_digest_101 : decode cX5_digest 101 = .ok (.getfield 116, 3) := by decide +kernel
theorem dX5_digest_104 : decode cX5_digest 104 = .ok (.ifCond .le 7, 3) := by decide +kernel
theorem dX5_digest_107 : decode cX5_digest 107 = .ok (.aload_n 0, 1) := by decide +kernel
theorem dX5_digest_108 : decode cX5_digest 108 = .ok (.invokevirtual 340, 3) := by decide +kernel
theorem dX5_digest_111 : decode cX5_digest 111 = .ok (.iconst 0, 1) := by decide +kernel
theorem dX5_digest_112 : decode cX5_digest 112 = .ok (.istore_n 1, 1) := by decide +kernel
theorem dX5_digest_113 : decode cX5_digest 113 = .ok (.iload_n 1, 1) := by decide +kernel
theorem dX5_digest_114 : decode cX5_digest 114 = .ok (.aload_n 0, 1) := by decide +kernel
theorem dX5_digest_115 : decode cX5_digest 115 = .ok (.getfield 81, 3) := by decide +kernel
theorem dX5_digest_118 : decode cX5_digest 118 = .ok (.if_icmp .ge 20, 3) := by decide +kernel
theorem dX5_digest_121 : decode cX5_digest 121 = .ok (.aload_n 0, 1) := by decide +kernel
theorem dX5_digest_122 : decode cX5_digest 122 = .ok (.aload_n 0, 1) := by decide +kernel
theorem dX5_digest_123 : decode cX5_digest 123 = .ok (.getfield 22, 3) := by decide +kernel
theorem dX5_digest_126 : decode cX5_digest 126 = .ok (.iload_n 1, 1) := by decide +kernel
theorem dX5_digest_127 : decode cX5_digest 127 = .ok (.baload, 1) := by decide +kernel
theorem dX5_digest_128 : decode cX5_digest 128 = .ok (.i2l, 1) := by decide +kernel
theorem dX5_digest_129 : decode cX5_digest 129 = .ok (.invokevirtual 334, 3) := by decide +kernel
theorem dX5_digest_132 : decode cX5_digest 132 = .ok (.iinc 1 1, 3) := by decide +kernel
theorem dX5_digest_135 : decode cX5_digest 135 = .ok (.goto (-22), 3) := by decide +kernel
theorem dX5_digest_138 : decode cX5_digest 138 = .ok (.iconst 0, 1) := by decide +kernel
theorem dX5_digest_139 : decode cX5_digest 139 = .ok (.istore_n 1, 1) := by decide +kernel
theorem dX5_digest_140 : decode cX5_digest 140 = .ok (.iload_n 1, 1) := by decide +kernel
theorem dX5_digest_141 : decode cX5_digest 141 = .ok (.bipush 11, 2) := by decide +kernel
theorem dX5_digest_143 : decode cX5_digest 143 = .ok (.if_icmp .ge 19, 3) := by decide +kernel
theorem dX5_digest_146 : decode cX5_digest 146 = .ok (.aload_n 0, 1) := by decide +kernel
theorem dX5_digest_147 : decode cX5_digest 147 = .ok (.aload_n 0, 1) := by decide +kernel
theorem dX5_digest_148 : decode cX5_digest 148 = .ok (.iload_n 1, 1) := by decide +kernel
theorem dX5_digest_149 : decode cX5_digest 149 = .ok (.invokevirtual 326, 3) := by decide +kernel
theorem dX5_digest_152 : decode cX5_digest 152 = .ok (.i2l, 1) := by decide +kernel
theorem dX5_digest_153 : decode cX5_digest 153 = .ok (.invokevirtual 334, 3) := by decide +kernel
theorem dX5_digest_156 : decode cX5_digest 156 = .ok (.iinc 1 1, 3) := by decide +kernel
theorem dX5_digest_159 : decode cX5_digest 159 = .ok (.goto (-19), 3) := by decide +kernel
theorem dX5_digest_162 : decode cX5_digest 162 = .ok (.aload_n 0, 1) := by decide +kernel
theorem dX5_digest_163 : decode cX5_digest 163 = .ok (.getfield 331, 3) := by decide +kernel
theorem dX5_digest_166 : decode cX5_digest 166 = .ok (.lreturn, 1) := by decide +kernel
theorem dJ6_numberOfTrailingZeros_0f7a4_0 : decode cJ6_numberOfTrailingZeros_0f7a4 0 = .ok (.iload_n 0, 1) := by decide +kernel
theorem dJ6_numberOfTrailingZeros_0f7a4_1 : decode cJ6_numberOfTrailingZeros_0f7a4 1 = .ok (.iconst (-1), 1) := by decide +kernel
theorem dJ6_numberOfTrailingZeros_0f7a4_2 : decode cJ6_numberOfTrailingZeros_0f7a4 2 = .ok (.ixor, 1) := by decide +kernel
theorem dJ6_numberOfTrailingZeros_0f7a4_3 : decode cJ6_numberOfTrailingZeros_0f7a4 3 = .ok (.iload_n 0, 1) := by decide +kernel
theorem dJ6_numberOfTrailingZeros_0f7a4_4 : decode cJ6_numberOfTrailingZeros_0f7a4 4 = .ok (.iconst 1, 1) := by decide +kernel
theorem dJ6_numberOfTrailingZeros_0f7a4_5 : decode cJ6_numberOfTrailingZeros_0f7a4 5 = .ok (.isub, 1) := by decide +kernel
theorem dJ6_numberOfTrailingZeros_0f7a4_6 : decode cJ6_numberOfTrailingZeros_0f7a4 6 = .ok (.iand, 1) := by decide +kernel
theorem dJ6_numberOfTrailingZeros_0f7a4_7 : decode cJ6_numberOfTrailingZeros_0f7a4 7 = .ok (.istore_n 0, 1) := by decide +kernel
theorem dJ6_numberOfTrailingZeros_0f7a4_8 : decode cJ6_numberOfTrailingZeros_0f7a4 8 = .ok (.iload_n 0, 1) := by decide +kernel
theorem dJ6_numberOfTrailingZeros_0f7a4_9 : decode cJ6_numberOfTrailingZeros_0f7a4 9 = .ok (.ifCond .gt 8, 3) := by decide +kernel
theorem dJ6_numberOfTrailingZeros_0f7a4_12 : decode cJ6_numberOfTrailingZeros_0f7a4 12 = .ok (.iload_n 0, 1) := by decide +kernel
theorem dJ6_numberOfTrailingZeros_0f7a4_13 : decode cJ6_numberOfTrailingZeros_0f7a4 13 = .ok (.bipush 32, 2) := by decide +kernel
theorem dJ6_numberOfTrailingZeros_0f7a4_15 : decode cJ6_numberOfTrailingZeros_0f7a4 15 = .ok (.iand, 1) := by decide +kernel
theorem dJ6_numberOfTrailingZeros_0f7a4_16 : decode cJ6_numberOfTrailingZeros_0f7a4 16 = .ok (.ireturn, 1) := by decide +kernel
theorem dJ6_numberOfTrailingZeros_0f7a4_17 : decode cJ6_numberOfTrailingZeros_0f7a4 17 = .ok (.iconst 1, 1) := by decide +kernel
theorem dJ6_numberOfTrailingZeros_0f7a4_18 : decode cJ6_numberOfTrailingZeros_0f7a4 18 = .ok (.istore_n 1, 1) := by decide +kernel
theorem dJ6_numberOfTrailingZeros_0f7a4_19 : decode cJ6_numberOfTrailingZeros_0f7a4 19 = .ok (.iload_n 0, 1) := by decide +kernel
theorem dJ6_numberOfTrailingZeros_0f7a4_20 : decode cJ6_numberOfTrailingZeros_0f7a4 20 = .ok (.ldc_w 264, 3) := by decide +kernel
theorem dJ6_numberOfTrailingZeros_0f7a4_23 : decode cJ6_numberOfTrailingZeros_0f7a4 23 = .ok (.if_icmp .le 11, 3) := by decide +kernel
theorem dJ6_numberOfTrailingZeros_0f7a4_26 : decode cJ6_numberOfTrailingZeros_0f7a4 26 = .ok (.iinc 1 16, 3) := by decide +kernel
theorem dJ6_numberOfTrailingZeros_0f7a4_29 : decode cJ6_numberOfTrailingZeros_0f7a4 29 = .ok (.iload_n 0, 1) := by decide +kernel
theorem dJ6_numberOfTrailingZeros_0f7a4_30 : decode cJ6_numberOfTrailingZeros_0f7a4 30 = .ok (.bipush 16, 2) := by decide +kernel
theorem dJ6_numberOfTrailingZeros_0f7a4_32 : decode cJ6_numberOfTrailingZeros_0f7a4 32 = .ok (.iushr, 1) := by decide +kernel
theorem dJ6_numberOfTrailingZeros_0f7a4_33 : decode cJ6_numberOfTrailingZeros_0f7a4 33 = .ok (.istore_n 0, 1) := by decide +kernel
theorem dJ6_numberOfTrailingZeros_0f7a4_34 : decode cJ6_numberOfTrailingZeros_0f7a4 34 = .ok (.iload_n 0, 1) := by decide +kernel
theorem dJ6_numberOfTrailingZeros_0f7a4_35 : decode cJ6_numberOfTrailingZeros_0f7a4 35 = .ok (.sipush 256, 3) := by decide +kernel
theorem dJ6_numberOfTrailingZeros_0f7a4_38 : decode cJ6_numberOfTrailingZeros_0f7a4 38 = .ok (.if_icmp .le 11, 3) := by decide +kernel
theorem dJ6_numberOfTrailingZeros_0f7a4_41 : decode cJ6_numberOfTrailingZeros_0f7a4 41 = .ok (.iinc 1 8, 3) := by decide +kernel
theorem dJ6_numberOfTrailingZeros_0f7a4_44 : decode cJ6_numberOfTrailingZeros_0f7a4 44 = .ok (.iload_n 0, 1) := by decide +kernel
theorem dJ6_numberOfTrailingZeros_0f7a4_45 : decode cJ6_numberOfTrailingZeros_0f7a4 45 = .ok (.bipush 8, 2) := by decide +kernel
theorem dJ6_numberOfTrailingZeros_0f7a4_47 : decode cJ6_numberOfTrailingZeros_0f7a4 47 = .ok (.iushr, 1) := by decide +kernel
theorem dJ6_numberOfTrailingZeros_0f7a4_48 : decode cJ6_numberOfTrailingZeros_0f7a4 48 = .ok (.istore_n 0, 1) := by decide +kernel
theorem dJ6_numberOfTrailingZeros_0f7a4_49 : decode cJ6_numberOfTrailingZeros_0f7a4 49 = .ok (.iload_n 0, 1) := by decide +kernel
theorem dJ6_numberOfTrailingZeros_0f7a4_50 : decode cJ6_numberOfTrailingZeros_0f7a4 50 = .ok (.bipush 16, 2) := by decide +kernel
theorem dJ6_numberOfTrailingZeros_0f7a4_52 : decode cJ6_numberOfTrailingZeros_0f7a4 52 = .ok (.if_icmp .le 10, 3) := by decide +kernel
theorem dJ6_numberOfTrailingZeros_0f7a4_55 : decode cJ6_numberOfTrailingZeros_0f7a4 55 = .ok (.iinc 1 4, 3) := by decide +kernel
theorem dJ6_numberOfTrailingZeros_0f7a4_58 : decode cJ6_numberOfTrailingZeros_0f7a4 58 = .ok (.iload_n 0, 1) := by decide +kernel
theorem dJ6_numberOfTrailingZeros_0f7a4_59 : decode cJ6_numberOfTrailingZeros_0f7a4 59 = .ok (.iconst 4, 1) := by decide +kernel
theorem dJ6_numberOfTrailingZeros_0f7a4_60 : decode cJ6_numberOfTrailingZeros_0f7a4 60 = .ok (.iushr, 1) := by decide +kernel
theorem dJ6_numberOfTrailingZeros_0f7a4_61 : decode cJ6_numberOfTrailingZeros_0f7a4 61 = .ok (.istore_n 0, 1) := by decide +kernel
theorem dJ6_numberOfTrailingZeros_0f7a4_62 : decode cJ6_numberOfTrailingZeros_0f7a4 62 = .ok (.iload_n 0, 1) := by decide +kernel
theorem dJ6_numberOfTrailingZeros_0f7a4_63 : decode cJ6_numberOfTrailingZeros_0f7a4 63 = .ok (.iconst 4, 1) := by decide +kernel
theorem dJ6_numberOfTrailingZeros_0f7a4_64 : decode cJ6_numberOfTrailingZeros_0f7a4 64 = .ok (.if_icmp .le 10, 3) := by decide +kernel
theorem dJ6_numberOfTrailingZeros_0f7a4_67 : decode cJ6_numberOfTrailingZeros_0f7a4 67 = .ok (.iinc 1 2, 3) := by decide +kernel
theorem dJ6_numberOfTrailingZeros_0f7a4_70 : decode cJ6_numberOfTrailingZeros_0f7a4 70 = .ok (.iload_n 0, 1) := by decide +kernel
theorem dJ6_numberOfTrailingZeros_0f7a4_71 : decode cJ6_numberOfTrailingZeros_0f7a4 71 = .ok (.iconst 2, 1) := by decide +kernel
theorem dJ6_numberOfTrailingZeros_0f7a4_72 : decode cJ6_numberOfTrailingZeros_0f7a4 72 = .ok (.iushr, 1) := by decide +kernel
theorem dJ6_numberOfTrailingZeros_0f7a4_73 : decode cJ6_numberOfTrailingZeros_0f7a4 73 = .ok (.istore_n 0, 1) := by decide +kernel
theorem dJ6_numberOfTrailingZeros_0f7a4_74 : decode cJ6_numberOfTrailingZeros_0f7a4 74 = .ok (.iload_n 1, 1) := by decide +kernel
theorem dJ6_numberOfTrailingZeros_0f7a4_75 : decode cJ6_numberOfTrailingZeros_0f7a4 75 = .ok (.iload_n 0, 1) := by decide +kernel
theorem dJ6_numberOfTrailingZeros_0f7a4_76 : decode cJ6_numberOfTrailingZeros_0f7a4 76 = .ok (.iconst 1, 1) := by decide +kernel
theorem dJ6_numberOfTrailingZeros_0f7a4_77 : decode cJ6_numberOfTrailingZeros_0f7a4 77 = .ok (.iushr, 1) := by decide +kernel
theorem dJ6_numberOfTrailingZeros_0f7a4_78 : decode cJ6_numberOfTrailingZeros_0f7a4 78 = .ok (.iadd, 1) := by decide +kernel
theorem dJ6_numberOfTrailingZeros_0f7a4_79 : decode cJ6_numberOfTrailingZeros_0f7a4 79 = .ok (.ireturn, 1) := by decide +kernel
theorem dJ6_bitCount_0f7a4_0 : decode cJ6_bitCount_0f7a4 0 = .ok (.iload_n 0, 1) := by decide +kernel
theorem dJ6_bitCount_0f7a4_1 : decode cJ6_bitCount_0f7a4 1 = .ok (.iload_n 0, 1) := by decide +kernel
theorem dJ6_bitCount_0f7a4_2 : decode cJ6_bitCount_0f7a4 2 = .ok (.iconst 1, 1) := by decide +kernel
theorem dJ6_bitCount_0f7a4_3 : decode cJ6_bitCount_0f7a4 3 = .ok (.iushr, 1) := by decide +kernel
theorem dJ6_bitCount_0f7a4_4 : decode cJ6_bitCount_0f7a4 4 = .ok (.ldc_w 265, 3) := by decide +kernel
theorem dJ6_bitCount_0f7a4_7 : decode cJ6_bitCount_0f7a4 7 = .ok (.iand, 1) := by decide +kernel
theorem dJ6_bitCount_0f7a4_8 : decode cJ6_bitCount_0f7a4 8 = .ok (.isub, 1) := by decide +kernel
theorem dJ6_bitCount_0f7a4_9 : decode cJ6_bitCount_0f7a4 9 = .ok (.istore_n 0, 1) := by decide +kernel
theorem dJ6_bitCount_0f7a4_10 : decode cJ6_bitCount_0f7a4 10 = .ok (.iload_n 0, 1) := by decide +kernel
theorem dJ6_bitCount_0f7a4_11 : decode cJ6_bitCount_0f7a4 11 = .ok (.ldc_w 266, 3) := by decide +kernel
theorem dJ6_bitCount_0f7a4_14 : decode cJ6_bitCount_0f7a4 14 = .ok (.iand, 1) := by decide +kernel
theorem dJ6_bitCount_0f7a4_15 : decode cJ6_bitCount_0f7a4 15 = .ok (.iload_n 0, 1) := by decide +kernel
theorem dJ6_bitCount_0f7a4_16 : decode cJ6_bitCount_0f7a4 16 = .ok (.iconst 2, 1) := by decide +kernel
theorem dJ6_bitCount_0f7a4_17 : decode cJ6_bitCount_0f7a4 17 = .ok (.iushr, 1) := by decide +kernel
theorem dJ6_bitCount_0f7a4_18 : decode cJ6_bitCount_0f7a4 18 = .ok (.ldc_w 266, 3) := by decide +kernel
theorem dJ6_bitCount_0f7a4_21 : decode cJ6_bitCount_0f7a4 21 = .ok (.iand, 1) := by decide +kernel
theorem dJ6_bitCount_0f7a4_22 : decode cJ6_bitCount_0f7a4 22 = .ok (.iadd, 1) := by decide +kernel
theorem dJ6_bitCount_0f7a4_23 : decode cJ6_bitCount_0f7a4 23 = .ok (.istore_n 0, 1) := by decide +kernel
theorem dJ6_bitCount_0f7a4_24 : decode cJ6_bitCount_0f7a4 24 = .ok (.iload_n 0, 1) := by decide +kernel
theorem dJ6_bitCount_0f7a4_25 : decode cJ6_bitCount_0f7a4 25 = .ok (.iload_n 0, 1) := by decide +kernel
theorem dJ6_bitCount_0f7a4_26 : decode cJ6_bitCount_0f7a4 26 = .ok (.iconst 4, 1) := by decide +kernel
theorem dJ6_bitCount_0f7a4_27 : decode cJ6_bitCount_0f7a4 27 = .ok (.iushr, 1) := by decide +kernel
theorem dJ6_bitCount_0f7a4_28 : decode cJ6_bitCount_0f7a4 28 = .ok (.iadd, 1) := by decide +kernel
theorem dJ6_bitCount_0f7a4_29 : decode cJ6_bitCount_0f7a4 29 = .ok (.ldc_w 267, 3) := by decide +kernel
theorem dJ6_bitCount_0f7a4_32 : decode cJ6_bitCount_0f7a4 32 = .ok (.iand, 1) := by decide +kernel
theorem dJ6_bitCount_0f7a4_33 : decode cJ6_bitCount_0f7a4 33 = .ok (.istore_n 0, 1) := by decide +kernel
theorem dJ6_bitCount_0f7a4_34 : decode cJ6_bitCount_0f7a4 34 = .ok (.iload_n 0, 1) := by decide +kernel
theorem dJ6_bitCount_0f7a4_35 : decode cJ6_bitCount_0f7a4 35 = .ok (.iload_n 0, 1) := by decide +kernel
theorem dJ6_bitCount_0f7a4_36 : decode cJ6_bitCount_0f7a4 36 = .ok (.bipush 8, 2) := by decide +kernel
theorem dJ6_bitCount_0f7a4_38 : decode cJ6_bitCount_0f7a4 38 = .ok (.iushr, 1) := by decide +kernel
theorem dJ6_bitCount_0f7a4_39 : decode cJ6_bitCount_0f7a4 39 = .ok (.iadd, 1) := by decide +kernel
theorem dJ6_bitCount_0f7a4_40 : decode cJ6_bitCount_0f7a4 40 = .ok (.istore_n 0, 1) := by decide +kernel
theorem dJ6_bitCount_0f7a4_41 : decode cJ6_bitCount_0f7a4 41 = .ok (.iload_n 0, 1) := by decide +kernel
theorem dJ6_bitCount_0f7a4_42 : decode cJ6_bitCount_0f7a4 42 = .ok (.iload_n 0, 1) := by decide +kernel
theorem dJ6_bitCount_0f7a4_43 : decode cJ6_bitCount_0f7a4 43 = .ok (.bipush 16, 2) := by decide +kernel
theorem dJ6_bitCount_0f7a4_45 : decode cJ6_bitCount_0f7a4 45 = .ok (.iushr, 1) := by decide +kernel
theorem dJ6_bitCount_0f7a4_46 : decode cJ6_bitCount_0f7a4 46 = .ok (.iadd, 1) := by decide +kernel
theorem dJ6_bitCount_0f7a4_47 : decode cJ6_bitCount_0f7a4 47 = .ok (.istore_n 0, 1) := by decide +kernel
theorem dJ6_bitCount_0f7a4_48 : decode cJ6_bitCount_0f7a4 48 = .ok (.iload_n 0, 1) := by decide +kernel
theorem dJ6_bitCount_0f7a4_49 : decode cJ6_bitCount_0f7a4 49 = .ok (.bipush 63, 2) := by decide +kernel
theorem dJ6_bitCount_0f7a4_51 : decode cJ6_bitCount_0f7a4 51 = .ok (.iand, 1) := by decide +kernel
theorem dJ6_bitCount_0f7a4_52 : decode cJ6_bitCount_0f7a4 52 = .ok (.ireturn, 1) := by decide +kernel
theorem dJ9_max_7cf53_0 : decode cJ9_max_7cf53 0 = .ok (.iload_n 0, 1) := by decide +kernel
theorem dJ9_max_7cf53_1 : decode cJ9_max_7cf53 1 = .ok (.iload_n 1, 1) := by decide +kernel
theorem dJ9_max_7cf53_2 : decode cJ9_max_7cf53 2 = .ok (.if_icmp .lt 7, 3) := by decide +kernel
theorem dJ9_max_7cf53_5 : decode cJ9_max_7cf53 5 = .ok (.iload_n 0, 1) := by decide +kernel
theorem dJ9_max_7cf53_6 : decode cJ9_max_7cf53 6 = .ok (.goto 4, 3) := by decide +kernel
theorem dJ9_max_7cf53_9 : decode cJ9_max_7cf53 9 = .ok (.iload_n 1, 1) := by decide +kernel
theorem dJ9_max_7cf53_10 : decode cJ9_max_7cf53 10 = .ok (.ireturn, 1) := by decide +kernel
theorem dJ9_min_7cf53_0 : decode cJ9_min_7cf53 0 = .ok (.iload_n 0, 1) := by decide +kernel
theorem dJ9_min_7cf53_1 : decode cJ9_min_7cf53 1 = .ok (.iload_n 1, 1) := by decide +kernel
theorem dJ9_min_7cf53_2 : decode cJ9_min_7cf53 2 = .ok (.if_icmp .gt 7, 3) := by decide +kernel
theorem dJ9_min_7cf53_5 : decode cJ9_min_7cf53 5 = .ok (.iload_n 0, 1) := by decide +kernel
theorem dJ9_min_7cf53_6 : decode cJ9_min_7cf53 6 = .ok (.goto 4, 3) := by decide +kernel
theorem dJ9_min_7cf53_9 : decode cJ9_min_7cf53 9 = .ok (.iload_n 1, 1) := by decide +kernel
theorem dJ9_min_7cf53_10 : decode cJ9_min_7cf53 10 = .ok (.ireturn, 1) := by decide +kernel
theorem dJ0_length_8abf5_0 : decode cJ0_length_8abf5 0 = .ok (.aload_n 0, 1) := by decide +kernel
theorem dJ0_length_8abf5_1 : decode cJ0_length_8abf5 1 = .ok (.getfield 9, 3) := by decide +kernel
theorem dJ0_length_8abf5_4 : decode cJ0_length_8abf5 4 = .ok (.arraylength, 1) := by decide +kernel
theorem dJ0_length_8abf5_5 : decode cJ0_length_8abf5 5 = .ok (.aload_n 0, 1) := by decide +kernel
theorem dJ0_length_8abf5_6 : decode cJ0_length_8abf5 6 = .ok (.invokevirtual 335, 3) := by decide +kernel
theorem dJ0_length_8abf5_9 : decode cJ0_length_8abf5 9 = .ok (.ishr, 1) := by decide +kernel
theorem dJ0_length_8abf5_10 : decode cJ0_length_8abf5 10 = .ok (.ireturn, 1) := by decide +kernel
theorem dJ0_indexOf_0f7a4_0 : decode cJ0_indexOf_0f7a4 0 = .ok (.aload_n 0, 1) := by decide +kernel
theorem dJ0_indexOf_0f7a4_1 : decode cJ0_indexOf_0f7a4 1 = .ok (.iload_n 1, 1) := by decide +kernel
theorem dJ0_indexOf_0f7a4_2 : decode cJ0_indexOf_0f7a4 2 = .ok (.iconst 0, 1) := by decide +kernel
theorem dJ0_indexOf_0f7a4_3 : decode cJ0_indexOf_0f7a4 3 = .ok (.invokevirtual 633, 3) := by decide +kernel
theorem dJ0_indexOf_0f7a4_6 : decode cJ0_indexOf_0f7a4 6 = .ok (.ireturn, 1) := by decide +kernel
theorem dJ0_indexOf_7cf53_0 : decode cJ0_indexOf_7cf53 0 = .ok (.aload_n 0, 1) := by decide +kernel
theorem dJ0_indexOf_7cf53_1 : decode cJ0_indexOf_7cf53 1 = .ok (.invokevirtual 492, 3) := by decide +kernel
theorem dJ0_indexOf_7cf53_4 : decode cJ0_indexOf_7cf53 4 = .ok (.ifCond .eq 19, 3) := by decide +kernel
theorem dJ0_indexOf_7cf53_7 : decode cJ0_indexOf_7cf53 7 = .ok (.aload_n 0, 1) := by decide +kernel
theorem dJ0_indexOf_7cf53_8 : decode cJ0_indexOf_7cf53 8 = .ok (.getfield 9, 3) := by decide +kernel
theorem dJ0_indexOf_7cf53_11 : decode cJ0_indexOf_7cf53 11 = .ok (.iload_n 1, 1) := by decide +kernel
theorem dJ0_indexOf_7cf53_12 : decode cJ0_indexOf_7cf53 12 = .ok (.iload_n 2, 1) := by decide +kernel
theorem dJ0_indexOf_7cf53_13 : decode cJ0_indexOf_7cf53 13 = .ok (.aload_n 0, 1) := by decide +kernel
theorem dJ0_indexOf_7cf53_14 : decode cJ0_indexOf_7cf53 14 = .ok (.invokevirtual 505, 3) := by decide +kernel
theorem dJ0_indexOf_7cf53_17 : decode cJ0_indexOf_7cf53 17 = .ok (.invokestatic 637, 3) := by decide +kernel
theorem dJ0_indexOf_7cf53_20 : decode cJ0_indexOf_7cf53 20 = .ok (.goto 16, 3) := by decide +kernel
theorem dJ0_indexOf_7cf53_23 : decode cJ0_indexOf_7cf53 23 = .ok (.aload_n 0, 1) := by decide +kernel
theorem dJ0_indexOf_7cf53_24 : decode cJ0_indexOf_7cf53 24 = .ok (.getfield 9, 3) := by decide +kernel
theorem dJ0_indexOf_7cf53_27 : decode cJ0_indexOf_7cf53 27 = .ok (.iload_n 1, 1) := by decide +kernel
theorem dJ0_indexOf_7cf53_28 : decode cJ0_indexOf_7cf53 28 = .ok (.iload_n 2, 1) := by decide +kernel
theorem dJ0_indexOf_7cf53_29 : decode cJ0_indexOf_7cf53 29 = .ok (.aload_n 0, 1) := by decide +kernel
theorem dJ0_indexOf_7cf53_30 : decode cJ0_indexOf_7cf53 30 = .ok (.invokevirtual 505, 3) := by decide +kernel
theorem dJ0_indexOf_7cf53_33 : decode cJ0_indexOf_7cf53 33 = .ok (.invokestatic 640, 3) := by decide +kernel
theorem dJ0_indexOf_7cf53_36 : decode cJ0_indexOf_7cf53 36 = .ok (.ireturn, 1) := by decide +kernel
theorem dJ0_coder_7d493_0 : decode cJ0_coder_7d493 0 = .ok (.getstatic 38, 3) := by decide +kernel
theorem dJ0_coder_7d493_3 : decode cJ0_coder_7d493 3 = .ok (.ifCond .eq 10, 3) := by decide +kernel
theorem dJ0_coder_7d493_6 : decode cJ0_coder_7d493 6 = .ok (.aload_n 0, 1) := by decide +kernel
theorem dJ0_coder_7d493_7 : decode cJ0_coder_7d493 7 = .ok (.getfield 15, 3) := by decide +kernel
theorem dJ0_coder_7d493_10 : decode cJ0_coder_7d493 10 = .ok (.goto 4, 3) := by decide +kernel
theorem dJ0_coder_7d493_13 : decode cJ0_coder_7d493 13 = .ok (.iconst 1, 1) := by decide +kernel
theorem dJ0_coder_7d493_14 : decode cJ0_coder_7d493 14 = .ok (.ireturn, 1) := by decide +kernel
theorem dJ0_isLatin1_aae02_0 : decode cJ0_isLatin1_aae02 0 = .ok (.getstatic 38, 3) := by decide +kernel
theorem dJ0_isLatin1_aae02_3 : decode cJ0_isLatin1_aae02 3 = .ok (.ifCond .eq 14, 3) := by decide +kernel
theorem dJ0_isLatin1_aae02_6 : decode cJ0_isLatin1_aae02 6 = .ok (.aload_n 0, 1) := by decide +kernel
theorem dJ0_isLatin1_aae02_7 : decode cJ0_isLatin1_aae02 7 = .ok (.getfield 15, 3) := by decide +kernel
theorem dJ0_isLatin1_aae02_10 : decode cJ0_isLatin1_aae02 10 = .ok (.ifCond .ne 7, 3) := by decide +kernel
theorem dJ0_isLatin1_aae02_13 : decode cJ0_isLatin1_aae02 13 = .ok (.iconst 1, 1) := by decide +kernel
theorem dJ0_isLatin1_aae02_14 : decode cJ0_isLatin1_aae02 14 = .ok (.goto 4, 3) := by decide +kernel
theorem dJ0_isLatin1_aae02_17 : decode cJ0_isLatin1_aae02 17 = .ok (.iconst 0, 1) := by decide +kernel
theorem dJ0_isLatin1_aae02_18 : decode cJ0_isLatin1_aae02 18 = .ok (.ireturn, 1) := by decide +kernel
theorem dJ1_canEncode_9a6ad_0 : decode cJ1_canEncode_9a6ad 0 = .ok (.iload_n 0, 1) := by decide +kernel
theorem dJ1_canEncode_9a6ad_1 : decode cJ1_canEncode_9a6ad 1 = .ok (.ifCond .lt 14, 3) := by decide +kernel
theorem dJ1_canEncode_9a6ad_4 : decode cJ1_canEncode_9a6ad 4 = .ok (.iload_n 0, 1) := by decide +kernel
theorem dJ1_canEncode_9a6ad_5 : decode cJ1_canEncode_9a6ad 5 = .ok (.sipush 255, 3) := by decide +kernel
theorem dJ1_canEncode_9a6ad_8 : decode cJ1_canEncode_9a6ad 8 = .ok (.if_icmp .gt 7, 3) := by decide +kernel
theorem dJ1_canEncode_9a6ad_11 : decode cJ1_canEncode_9a6ad 11 = .ok (.iconst 1, 1) := by decide +kernel
theorem dJ1_canEncode_9a6ad_12 : decode cJ1_canEncode_9a6ad 12 = .ok (.goto 4, 3) := by decide +kernel
theorem dJ1_canEncode_9a6ad_15 : decode cJ1_canEncode_9a6ad 15 = .ok (.iconst 0, 1) := by decide +kernel
theorem dJ1_canEncode_9a6ad_16 : decode cJ1_canEncode_9a6ad 16 = .ok (.ireturn, 1) := by decide +kernel
theorem dJ1_indexOf_4cfef_0 : decode cJ1_indexOf_4cfef 0 = .ok (.iload_n 1, 1) := by decide +kernel
theorem dJ1_indexOf_4cfef_1 : decode cJ1_indexOf_4cfef 1 = .ok (.invokestatic 88, 3) := by decide +kernel
theorem dJ1_indexOf_4cfef_4 : decode cJ1_indexOf_4cfef 4 = .ok (.ifCond .ne 5, 3) := by decide +kernel
theorem dJ1_indexOf_4cfef_7 : decode cJ1_indexOf_4cfef 7 = .ok (.iconst (-1), 1) := by decide +kernel
theorem dJ1_indexOf_4cfef_8 : decode cJ1_indexOf_4cfef 8 = .ok (.ireturn, 1) := by decide +kernel
theorem dJ1_indexOf_4cfef_9 : decode cJ1_indexOf_4cfef 9 = .ok (.iload_n 2, 1) := by decide +kernel
theorem dJ1_indexOf_4cfef_10 : decode cJ1_indexOf_4cfef 10 = .ok (.iconst 0, 1) := by decide +kernel
theorem dJ1_indexOf_4cfef_11 : decode cJ1_indexOf_4cfef 11 = .ok (.invokestatic 92, 3) := by decide +kernel
theorem dJ1_indexOf_4cfef_14 : decode cJ1_indexOf_4cfef 14 = .ok (.istore_n 2, 1) := by decide +kernel
theorem dJ1_indexOf_4cfef_15 : decode cJ1_indexOf_4cfef 15 = .ok (.iload_n 3, 1) := by decide +kernel
theorem dJ1_indexOf_4cfef_16 : decode cJ1_indexOf_4cfef 16 = .ok (.aload_n 0, 1) := by decide +kernel
theorem dJ1_indexOf_4cfef_17 : decode cJ1_indexOf_4cfef 17 = .ok (.arraylength, 1) := by decide +kernel
theorem dJ1_indexOf_4cfef_18 : decode cJ1_indexOf_4cfef 18 = .ok (.invokestatic 38, 3) := by decide +kernel
theorem dJ1_indexOf_4cfef_21 : decode cJ1_indexOf_4cfef 21 = .ok (.istore_n 3, 1) := by decide +kernel
theorem dJ1_indexOf_4cfef_22 : decode cJ1_indexOf_4cfef 22 = .ok (.iload_n 2, 1) := by decide +kernel
theorem dJ1_indexOf_4cfef_23 : decode cJ1_indexOf_4cfef 23 = .ok (.iload_n 3, 1) := by decide +kernel
theorem dJ1_indexOf_4cfef_24 : decode cJ1_indexOf_4cfef 24 = .ok (.if_icmp .lt 5, 3) := by decide +kernel
theorem dJ1_indexOf_4cfef_27 : decode cJ1_indexOf_4cfef 27 = .ok (.iconst (-1), 1) := by decide +kernel
theorem dJ1_indexOf_4cfef_28 : decode cJ1_indexOf_4cfef 28 = .ok (.ireturn, 1) := by decide +kernel
theorem dJ1_indexOf_4cfef_29 : decode cJ1_indexOf_4cfef 29 = .ok (.aload_n 0, 1) := by decide +kernel
theorem dJ1_indexOf_4cfef_30 : decode cJ1_indexOf_4cfef 30 = .ok (.iload_n 1, 1) := by decide +kernel
theorem dJ1_indexOf_4cfef_31 : decode cJ1_indexOf_4cfef 31 = .ok (.iload_n 2, 1) := by decide +kernel
theorem dJ1_indexOf_4cfef_32 : decode cJ1_indexOf_4cfef 32 = .ok (.iload_n 3, 1) := by decide +kernel
theorem dJ1_indexOf_4cfef_33 : decode cJ1_indexOf_4cfef 33 = .ok (.invokestatic 95, 3) := by decide +kernel
theorem dJ1_indexOf_4cfef_36 : decode cJ1_indexOf_4cfef 36 = .ok (.ireturn, 1) := by decide +kernel
theorem dJ1_indexOfChar_4cfef_0 : decode cJ1_indexOfChar_4cfef 0 = .ok (.iload_n 1, 1) := by decide +kernel
theorem dJ1_indexOfChar_4cfef_1 : decode cJ1_indexOfChar_4cfef 1 = .ok (.i2b, 1) := by decide +kernel
theorem dJ1_indexOfChar_4cfef_2 : decode cJ1_indexOfChar_4cfef 2 = .ok (.istore 4, 2) := by decide +kernel
theorem dJ1_indexOfChar_4cfef_4 : decode cJ1_indexOfChar_4cfef 4 = .ok (.iload_n 2, 1) := by decide +kernel
theorem dJ1_indexOfChar_4cfef_5 : decode cJ1_indexOfChar_4cfef 5 = .ok (.istore 5, 2) := by decide +kernel
theorem dJ1_indexOfChar_4cfef_7 : decode cJ1_indexOfChar_4cfef 7 = .ok (.iload 5, 2) := by decide +kernel
theorem dJ1_indexOfChar_4cfef_9 : decode cJ1_indexOfChar_4cfef 9 = .ok (.iload_n 3, 1) := by decide +kernel
theorem dJ1_indexOfChar_4cfef_10 : decode cJ1_indexOfChar_4cfef 10 = .ok (.if_icmp .ge 21, 3) := by decide +kernel
theorem dJ1_indexOfChar_4cfef_13 : decode cJ1_indexOfChar_4cfef 13 = .ok (.aload_n 0, 1) := by decide +kernel
theorem dJ1_indexOfChar_4cfef_14 : decode cJ1_indexOfChar_4cfef 14 = .ok (.iload 5, 2) := by decide +kernel
theorem dJ1_indexOfChar_4cfef_16 : decode cJ1_indexOfChar_4cfef 16 = .ok (.baload, 1) := by decide +kernel
theorem dJ1_indexOfChar_4cfef_17 : decode cJ1_indexOfChar_4cfef 17 = .ok (.iload 4, 2) := by decide +kernel
theorem dJ1_indexOfChar_4cfef_19 : decode cJ1_indexOfChar_4cfef 19 = .ok (.if_icmp .ne 6, 3) := by decide +kernel
theorem dJ1_indexOfChar_4cfef_22 : decode cJ1_indexOfChar_4cfef 22 = .ok (.iload 5, 2) := by decide +kernel
theorem dJ1_indexOfChar_4cfef_24 : decode cJ1_indexOfChar_4cfef 24 = .ok (.ireturn, 1) := by decide +kernel
theorem dJ1_indexOfChar_4cfef_25 : decode cJ1_indexOfChar_4cfef 25 = .ok (.iinc 5 1, 3) := by decide +kernel
theorem dJ1_indexOfChar_4cfef_28 : decode cJ1_indexOfChar_4cfef 28 = .ok (.goto (-21), 3) := by decide +kernel
theorem dJ1_indexOfChar_4cfef_31 : decode cJ1_indexOfChar_4cfef 31 = .ok (.iconst (-1), 1) := by decide +kernel
theorem dJ1_indexOfChar_4cfef_32 : decode cJ1_indexOfChar_4cfef 32 = .ok (.ireturn, 1) := by decide +kernel
theorem dL_law_0 : decode cL_law 0 = .ok (.new 7, 3) := by decide +kernel
theorem dL_law_3 : decode cL_law 3 = .ok (.dup, 1) := by decide +kernel
theorem dL_law_4 : decode cL_law 4 = .ok (.invokespecial 9, 3) := by decide +kernel
theorem dL_law_7 : decode cL_law 7 = .ok (.astore_n 1, 1) := by decide +kernel
theorem dL_law_8 : decode cL_law 8 = .ok (.new 10, 3) := by decide +kernel
theorem dL_law_11 : decode cL_law 11 = .ok (.dup, 1) := by decide +kernel
theorem dL_law_12 : decode cL_law 12 = .ok (.invokespecial 12, 3) := by decide +kernel
theorem dL_law_15 : decode cL_law 15 = .ok (.astore_n 2, 1) := by decide +kernel
theorem dL_law_16 : decode cL_law 16 = .ok (.iconst 0, 1) := by decide +kernel
theorem dL_law_17 : decode cL_law 17 = .ok (.istore_n 3, 1) := by decide +kernel
theorem dL_law_18 : decode cL_law 18 = .ok (.iload_n 3, 1) := by decide +kernel
theorem dL_law_19 : decode cL_law 19 = .ok (.aload_n 0, 1) := by decide +kernel
theorem dL_law_20 : decode cL_law 20 = .ok (.arraylength, 1) := by decide +kernel
theorem dL_law_21 : decode cL_law 21 = .ok (.iconst 4, 1) := by decide +kernel
theorem dL_law_22 : decode cL_law 22 = .ok (.isub, 1) := by decide +kernel
theorem dL_law_23 : decode cL_law 23 = .ok (.if_icmp .gt 791, 3) := by decide +kernel
theorem dL_law_26 : decode cL_law 26 = .ok (.aload_n 0, 1) := by decide +kernel
theorem dL_law_27 : decode cL_law 27 = .ok (.iload_n 3, 1) := by decide +kernel
theorem dL_law_28 : decode cL_law 28 = .ok (.iaload, 1) := by decide +kernel
theorem dL_law_29 : decode cL_law 29 = .ok (.bipush 31, 2) := by decide +kernel
theorem dL_law_31 : decode cL_law 31 = .ok (.iand, 1) := by decide +kernel
theorem dL_law_32 : decode cL_law 32 = .ok (.tableswitch 776 0 26 #[124, 147, 160, 173, 186, 219, 252, 285, 308, 331, 354, 367, 400, 433, 456, 489, 522, 565, 598, 631, 644, 657, 670, 713, 726, 739, 762], 124) := by decide +kernel
theorem dL_law_156 : decode cL_law 156 = .ok (.aload_n 1, 1) := by decide +kernel
theorem dL_law_157 : decode cL_law 157 = .ok (.aload_n 0, 1) := by decide +kernel
theorem dL_law_158 : decode cL_law 158 = .ok (.iload_n 3, 1) := by decide +kernel
theorem dL_law_159 : decode cL_law 159 = .ok (.iconst 1, 1) := by decide +kernel
theorem dL_law_160 : decode cL_law 160 = .ok (.iadd, 1) := by decide +kernel
theorem dL_law_161 : decode cL_law 161 = .ok (.iaload, 1) := by decide +kernel
theorem dL_law_162 : decode cL_law 162 = .ok (.invokevirtual 13, 3) := by decide +kernel
theorem dL_law_165 : decode cL_law 165 = .ok (.aload_n 2, 1) := by decide +kernel
theorem dL_law_166 : decode cL_law 166 = .ok (.aload_n 0, 1) := by decide +kernel
theorem dL_law_167 : decode cL_law 167 = .ok (.iload_n 3, 1) := by decide +kernel
theorem dL_law_168 : decode cL_law 168 = .ok (.iconst 1, 1) := by decide +kernel
theorem dL_law_169 : decode cL_law 169 = .ok (.iadd, 1) := by decide +kernel
theorem dL_law_170 : decode cL_law 170 = .ok (.iaload, 1) := by decide +kernel
theorem dL_law_171 : decode cL_law 171 = .ok (.invokevirtual 17, 3) := by decide +kernel
theorem dL_law_174 : decode cL_law 174 = .ok (.if_icmp .eq 634, 3) := by decide +kernel
theorem dL_law_177 : decode cL_law 177 = .ok (.iconst 0, 1) := by decide +kernel
theorem dL_law_178 : decode cL_law 178 = .ok (.ireturn, 1) := by decide +kernel
theorem dL_law_179 : decode cL_law 179 = .ok (.aload_n 1, 1) := by decide +kernel
theorem dL_law_180 : decode cL_law 180 = .ok (.invokevirtual 18, 3) := by decide +kernel
theorem dL_law_183 : decode cL_law 183 = .ok (.aload_n 2, 1) := by decide +kernel
theorem dL_law_184 : decode cL_law 184 = .ok (.invokevirtual 22, 3) := by decide +kernel
theorem dL_law_187 : decode cL_law 187 = .ok (.if_icmp .eq 621, 3) := by decide +kernel
theorem dL_law_190 : decode cL_law 190 = .ok (.iconst 0, 1) := by decide +kernel
theorem dL_law_191 : decode cL_law 191 = .ok (.ireturn, 1) := by decide +kernel
theorem dL_law_192 : decode cL_law 192 = .ok (.aload_n 1, 1) := by decide +kernel
theorem dL_law_193 : decode cL_law 193 = .ok (.invokevirtual 23, 3) := by decide +kernel
theorem dL_law_196 : decode cL_law 196 = .ok (.aload_n 2, 1) := by decide +kernel
theorem dL_law_197 : decode cL_law 197 = .ok (.invokevirtual 26, 3) := by decide +kernel
theorem dL_law_200 : decode cL_law 200 = .ok (.if_icmp .eq 608, 3) := by decide +kernel
theorem dL_law_203 : decode cL_law 203 = .ok (.iconst 0, 1) := by decide +kernel
theorem dL_law_204 : decode cL_law 204 = .ok (.ireturn, 1) := by decide +kernel
theorem dL_law_205 : decode cL_law 205 = .ok (.aload_n 1, 1) := by decide +kernel
theorem dL_law_206 : decode cL_law 206 = .ok (.invokevirtual 27, 3) := by decide +kernel
theorem dL_law_209 : decode cL_law 209 = .ok (.aload_n 2, 1) := by decide +kernel
theorem dL_law_210 : decode cL_law 210 = .ok (.invokevirtual 30, 3) := by decide +kernel
theorem dL_law_213 : decode cL_law 213 = .ok (.if_icmp .eq 595, 3) := by decide +kernel
theorem dL_law_216 : decode cL_law 216 = .ok (.iconst 0, 1) := by decide +kernel
theorem dL_law_217 : decode cL_law 217 = .ok (.ireturn, 1) := by decide +kernel
theorem dL_law_218 : decode cL_law 218 = .ok (.aload_n 1, 1) := by decide +kernel
theorem dL_law_219 : decode cL_law 219 = .ok (.aload_n 0, 1) := by decide +kernel
theorem dL_law_220 : decode cL_law 220 = .ok (.iload_n 3, 1) := by decide +kernel
theorem dL_law_221 : decode cL_law 221 = .ok (.iconst 1, 1) := by decide +kernel
theorem dL_law_222 : decode cL_law 222 = .ok (.iadd, 1) := by decide +kernel
theorem dL_law_223 : decode cL_law 223 = .ok (.iaload, 1) := by decide +kernel
theorem dL_law_224 : decode cL_law 224 = .ok (.aload_n 0, 1) := by decide +kernel
theorem dL_law_225 : decode cL_law 225 = .ok (.iload_n 3, 1) := by decide +kernel
theorem dL_law_226 : decode cL_law 226 = .ok (.iconst 2, 1) := by decide +kernel
theorem dL_law_227 : decode cL_law 227 = .ok (.iadd, 1) := by decide +kernel
theorem dL_law_228 : decode cL_law 228 = .ok (.iaload, 1) := by decide +kernel
theorem dL_law_229 : decode cL_law 229 = .ok (.invokevirtual 31, 3) := by decide +kernel
theorem dL_law_232 : decode cL_law 232 = .ok (.aload_n 2, 1) := by decide +kernel
theorem dL_law_233 : decode cL_law 233 = .ok (.aload_n 0, 1) := by decide +kernel
theorem dL_law_234 : decode cL_law 234 = .ok (.iload_n 3, 1) := by decide +kernel
theorem dL_law_235 : decode cL_law 235 = .ok (.iconst 1, 1) := by decide +kernel
theorem dL_law_236 : decode cL_law 236 = .ok (.iadd, 1) := by decide +kernel
theorem dL_law_237 : decode cL_law 237 = .ok (.iaload, 1) := by decide +kernel
theorem dL_law_238 : decode cL_law 238 = .ok (.aload_n 0, 1) := by decide +kernel
theorem dL_law_239 : decode cL_law 239 = .ok (.iload_n 3, 1) := by decide +kernel
theorem dL_law_240 : decode cL_law 240 = .ok (.iconst 2, 1) := by decide +kernel
theorem dL_law_241 : decode cL_law 241 = .ok (.iadd, 1) := by decide +kernel
theorem dL_law_242 : decode cL_law 242 = .ok (.iaload, 1) := by decide +kernel
theorem dL_law_243 : decode cL_law 243 = .ok (.invokevirtual 35, 3) := by decide +kernel
theorem dL_law_246 : decode cL_law 246 = .ok (.if_icmp .eq 562, 3) := by decide +kernel
theorem dL_law_249 : decode cL_law 249 = .ok (.iconst 0, 1) := by decide +kernel
theorem dL_law_250 : decode cL_law 250 = .ok (.ireturn, 1) := by decide +kernel
theorem dL_law_251 : decode cL_law 251 = .ok (.aload_n 1, 1) := by decide +kernel
theorem dL_law_252 : decode cL_law 252 = .ok (.aload_n 0, 1) := by decide +kernel
theorem dL_law_253 : decode cL_law 253 = .ok (.iload_n 3, 1) := by decide +kernel
theorem dL_law_254 : decode cL_law 254 = .ok (.iconst 1, 1) := by decide +kernel
theorem dL_law_255 : decode cL_law 255 = .ok (.iadd, 1) := by decide +kernel
theorem dL_law_256 : decode cL_law 256 = .ok (.iaload, 1) := by decide +kernel
theorem dL_law_257 : decode cL_law 257 = .ok (.aload_n 0, 1) := by decide +kernel
theorem dL_law_258 : decode cL_law 258 = .ok (.iload_n 3, 1) := by decide +kernel
theorem dL_law_259 : decode cL_law 259 = .ok (.iconst 2, 1) := by decide +kernel
theorem dL_law_260 : decode cL_law 260 = .ok (.iadd, 1) := by decide +kernel
theorem dL_law_261 : decode cL_law 261 = .ok (.iaload, 1) := by decide +kernel
theorem dL_law_262 : decode cL_law 262 = .ok (.invokevirtual 36, 3) := by decide +kernel
theorem dL_law_265 : decode cL_law 265 = .ok (.aload_n 2, 1) := by decide +kernel
theorem dL_law_266 : decode cL_law 266 = .ok (.aload_n 0, 1) := by decide +kernel
theorem dL_law_267 : decode cL_law 267 = .ok (.iload_n 3, 1) := by decide +kernel
theorem dL_law_268 : decode cL_law 268 = .ok (.iconst 1, 1) := by decide +kernel
theorem dL_law_269 : decode cL_law 269 = .ok (.iadd, 1) := by decide +kernel
theorem dL_law_270 : decode cL_law 270 = .ok (.iaload, 1) := by decide +kernel
theorem dL_law_271 : decode cL_law 271 = .ok (.aload_n 0, 1) := by decide +kernel
theorem dL_law_272 : decode cL_law 272 = .ok (.iload_n 3, 1) := by decide +kernel
theorem dL_law_273 : decode cL_law 273 = .ok (.iconst 2, 1) := by decide +kernel
theorem dL_law_274 : decode cL_law 274 = .ok (.iadd, 1) := by decide +kernel
theorem dL_law_275 : decode cL_law 275 = .ok (.iaload, 1) := by decide +kernel
theorem dL_law_276 : decode cL_law 276 = .ok (.invokevirtual 39, 3) := by decide +kernel
theorem dL_law_279 : decode cL_law 279 = .ok (.if_icmp .eq 529, 3) := by decide +kernel
theorem dL_law_282 : decode cL_law 282 = .ok (.iconst 0, 1) := by decide +kernel
theorem dL_law_283 : decode cL_law 283 = .ok (.ireturn, 1) := by decide +kernel
theorem dL_law_284 : decode cL_law 284 = .ok (.aload_n 1, 1) := by decide +kernel
theorem dL_law_285 : decode cL_law 285 = .ok (.aload_n 0, 1) := by decide +kernel
theorem dL_law_286 : decode cL_law 286 = .ok (.iload_n 3, 1) := by decide +kernel
theorem dL_law_287 : decode cL_law 287 = .ok (.iconst 1, 1) := by decide +kernel
theorem dL_law_288 : decode cL_law 288 = .ok (.iadd, 1) := by decide +kernel
theorem dL_law_289 : decode cL_law 289 = .ok (.iaload, 1) := by decide +kernel
theorem dL_law_290 : decode cL_law 290 = .ok (.aload_n 0, 1) := by decide +kernel
theorem dL_law_291 : decode cL_law 291 = .ok (.iload_n 3, 1) := by decide +kernel
theorem dL_law_292 : decode cL_law 292 = .ok (.iconst 2, 1) := by decide +kernel
theorem dL_law_293 : decode cL_law 293 = .ok (.iadd, 1) := by decide +kernel
theorem dL_law_294 : decode cL_law 294 = .ok (.iaload, 1) := by decide +kernel
theorem dL_law_295 : decode cL_law 295 = .ok (.invokevirtual 40, 3) := by decide +kernel
theorem dL_law_298 : decode cL_law 298 = .ok (.aload_n 2, 1) := by decide +kernel
theorem dL_law_299 : decode cL_law 299 = .ok (.aload_n 0, 1) := by decide +kernel
theorem dL_law_300 : decode cL_law 300 = .ok (.iload_n 3, 1) := by decide +kernel
theorem dL_law_301 : decode cL_law 301 = .ok (.iconst 1, 1) := by decide +kernel
theorem dL_law_302 : decode cL_law 302 = .ok (.iadd, 1) := by decide +kernel
theorem dL_law_303 : decode cL_law 303 = .ok (.iaload, 1) := by decide +kernel
theorem dL_law_304 : decode cL_law 304 = .ok (.aload_n 0, 1) := by decide +kernel
theorem dL_law_305 : decode cL_law 305 = .ok (.iload_n 3, 1) := by decide +kernel
theorem dL_law_306 : decode cL_law 306 = .ok (.iconst 2, 1) := by decide +kernel
theorem dL_law_307 : decode cL_law 307 = .ok (.iadd, 1) := by decide +kernel
theorem dL_law_308 : decode cL_law 308 = .ok (.iaload, 1) := by decide +kernel
theorem dL_law_309 : decode cL_law 309 = .ok (.invokevirtual 43, 3) := by decide +kernel
theorem dL_law_312 : decode cL_law 312 = .ok (.if_icmp .eq 496, 3) := by decide +kernel
theorem dL_law_315 : decode cL_law 315 = .ok (.iconst 0, 1) := by decide +kernel
theorem dL_law_316 : decode cL_law 316 = .ok (.ireturn, 1) := by decide +kernel
theorem dL_law_317 : decode cL_law 317 = .ok (.aload_n 1, 1) := by decide +kernel
theorem dL_law_318 : decode cL_law 318 = .ok (.aload_n 0, 1) := by decide +kernel
theorem dL_law_319 : decode cL_law 319 = .ok (.iload_n 3, 1) := by decide +kernel
theorem dL_law_320 : decode cL_law 320 = .ok (.iconst 1, 1) := by decide +kernel
theorem dL_law_321 : decode cL_law 321 = .ok (.iadd, 1) := by decide +kernel
theorem dL_law_322 : decode cL_law 322 = .ok (.iaload, 1) := by decide +kernel
theorem dL_law_323 : decode cL_law 323 = .ok (.invokevirtual 44, 3) := by decide +kernel
theorem dL_law_326 : decode cL_law 326 = .ok (.aload_n 2, 1) := by decide +kernel
theorem dL_law_327 : decode cL_law 327 = .ok (.aload_n 0, 1) := by decide +kernel
theorem dL_law_328 : decode cL_law 328 = .ok (.iload_n 3, 1) := by decide +kernel
theorem dL_law_329 : decode cL_law 329 = .ok (.iconst 1, 1) := by decide +kernel
theorem dL_law_330 : decode cL_law 330 = .ok (.iadd, 1) := by decide +kernel
theorem dL_law_331 : decode cL_law 331 = .ok (.iaload, 1) := by decide +kernel
theorem dL_law_332 : decode cL_law 332 = .ok (.invokevirtual 47, 3) := by decide +kernel
theorem dL_law_335 : decode cL_law 335 = .ok (.if_icmp .eq 473, 3) := by decide +kernel
theorem dL_law_338 : decode cL_law 338 = .ok (.iconst 0, 1) := by decide +kernel
theorem dL_law_339 : decode cL_law 339 = .ok (.ireturn, 1) := by decide +kernel
theorem dL_law_340 : decode cL_law 340 = .ok (.aload_n 1, 1) := by decide +kernel
theorem dL_law_341 : decode cL_law 341 = .ok (.aload_n 0, 1) := by decide +kernel
theorem dL_law_342 : decode cL_law 342 = .ok (.iload_n 3, 1) := by decide +kernel
theorem dL_law_343 : decode cL_law 343 = .ok (.iconst 1, 1) := by decide +kernel
theorem dL_law_344 : decode cL_law 344 = .ok (.iadd, 1) := by decide +kernel
theorem dL_law_345 : decode cL_law 345 = .ok (.iaload, 1) := by decide +kernel
theorem dL_law_346 : decode cL_law 346 = .ok (.invokevirtual 48, 3) := by decide +kernel
theorem dL_law_349 : decode cL_law 349 = .ok (.aload_n 2, 1) := by decide +kernel
theorem dL_law_350 : decode cL_law 350 = .ok (.aload_n 0, 1) := by decide +kernel
theorem dL_law_351 : decode cL_law 351 = .ok (.iload_n 3, 1) := by decide +kernel
theorem dL_law_352 : decode cL_law 352 = .ok (.iconst 1, 1) := by decide +kernel
theorem dL_law_353 : decode cL_law 353 = .ok (.iadd, 1) := by decide +kernel
theorem dL_law_354 : decode cL_law 354 = .ok (.iaload, 1) := by decide +kernel
theorem dL_law_355 : decode cL_law 355 = .ok (.invokevirtual 51, 3) := by decide +kernel
theorem dL_law_358 : decode cL_law 358 = .ok (.if_icmp .eq 450, 3) := by decide +kernel
theorem dL_law_361 : decode cL_law 361 = .ok (.iconst 0, 1) := by decide +kernel
theorem dL_law_362 : decode cL_law 362 = .ok (.ireturn, 1) := by decide +kernel
theorem dL_law_363 : decode cL_law 363 = .ok (.aload_n 1, 1) := by decide +kernel
theorem dL_law_364 : decode cL_law 364 = .ok (.aload_n 0, 1) := by decide +kernel
theorem dL_law_365 : decode cL_law 365 = .ok (.iload_n 3, 1) := by decide +kernel
theorem dL_law_366 : decode cL_law 366 = .ok (.iconst 1, 1) := by decide +kernel
theorem dL_law_367 : decode cL_law 367 = .ok (.iadd, 1) := by decide +kernel
theorem dL_law_368 : decode cL_law 368 = .ok (.iaload, 1) := by decide +kernel
theorem dL_law_369 : decode cL_law 369 = .ok (.invokevirtual 52, 3) := by decide +kernel
theorem dL_law_372 : decode cL_law 372 = .ok (.aload_n 2, 1) := by decide +kernel
theorem dL_law_373 : decode cL_law 373 = .ok (.aload_n 0, 1) := by decide +kernel
theorem dL_law_374 : decode cL_law 374 = .ok (.iload_n 3, 1) := by decide +kernel
theorem dL_law_375 : decode cL_law 375 = .ok (.iconst 1, 1) := by decide +kernel
theorem dL_law_376 : decode cL_law 376 = .ok (.iadd, 1) := by decide +kernel
theorem dL_law_377 : decode cL_law 377 = .ok (.iaload, 1) := by decide +kernel
theorem dL_law_378 : decode cL_law 378 = .ok (.invokevirtual 55, 3) := by decide +kernel
theorem dL_law_381 : decode cL_law 381 = .ok (.if_icmp .eq 427, 3) := by decide +kernel
theorem dL_law_384 : decode cL_law 384 = .ok (.iconst 0, 1) := by decide +kernel
theorem dL_law_385 : decode cL_law 385 = .ok (.ireturn, 1) := by decide +kernel
theorem dL_law_386 : decode cL_law 386 = .ok (.aload_n 1, 1) := by decide +kernel
theorem dL_law_387 : decode cL_law 387 = .ok (.invokevirtual 56, 3) := by decide +kernel
theorem dL_law_390 : decode cL_law 390 = .ok (.aload_n 2, 1) := by decide +kernel
theorem dL_law_391 : decode cL_law 391 = .ok (.invokevirtual 59, 3) := by decide +kernel
theorem dL_law_394 : decode cL_law 394 = .ok (.if_icmp .eq 414, 3) := by decide +kernel
theorem dL_law_397 : decode cL_law 397 = .ok (.iconst 0, 1) := by decide +kernel
theorem dL_law_398 : decode cL_law 398 = .ok (.ireturn, 1) := by decide +kernel
theorem dL_law_399 : decode cL_law 399 = .ok (.aload_n 1, 1) := by decide +kernel
theorem dL_law_400 : decode cL_law 400 = .ok (.aload_n 0, 1) := by decide +kernel
theorem dL_law_401 : decode cL_law 401 = .ok (.iload_n 3, 1) := by decide +kernel
theorem dL_law_402 : decode cL_law 402 = .ok (.iconst 1, 1) := by decide +kernel
theorem dL_law_403 : decode cL_law 403 = .ok (.iadd, 1) := by decide +kernel
theorem dL_law_404 : decode cL_law 404 = .ok (.iaload, 1) := by decide +kernel
theorem dL_law_405 : decode cL_law 405 = .ok (.aload_n 0, 1) := by decide +kernel
theorem dL_law_406 : decode cL_law 406 = .ok (.iload_n 3, 1) := by decide +kernel
theorem dL_law_407 : decode cL_law 407 = .ok (.iconst 2, 1) := by decide +kernel
theorem dL_law_408 : decode cL_law 408 = .ok (.iadd, 1) := by decide +kernel
theorem dL_law_409 : decode cL_law 409 = .ok (.iaload, 1) := by decide +kernel
theorem dL_law_410 : decode cL_law 410 = .ok (.invokevirtual 60, 3) := by decide +kernel
theorem dL_law_413 : decode cL_law 413 = .ok (.aload_n 2, 1) := by decide +kernel
theorem dL_law_414 : decode cL_law 414 = .ok (.aload_n 0, 1) := by decide +kernel
theorem dL_law_415 : decode cL_law 415 = .ok (.iload_n 3, 1) := by decide +kernel
theorem dL_law_416 : decode cL_law 416 = .ok (.iconst 1, 1) := by decide +kernel
theorem dL_law_417 : decode cL_law 417 = .ok (.iadd, 1) := by decide +kernel
theorem dL_law_418 : decode cL_law 418 = .ok (.iaload, 1) := by decide +kernel
theorem dL_law_419 : decode cL_law 419 = .ok (.aload_n 0, 1) := by decide +kernel
theorem dL_law_420 : decode cL_law 420 = .ok (.iload_n 3, 1) := by decide +kernel
theorem dL_law_421 : decode cL_law 421 = .ok (.iconst 2, 1) := by decide +kernel
theorem dL_law_422 : decode cL_law 422 = .ok (.iadd, 1) := by decide +kernel
theorem dL_law_423 : decode cL_law 423 = .ok (.iaload, 1) := by decide +kernel
theorem dL_law_424 : decode cL_law 424 = .ok (.invokevirtual 63, 3) := by decide +kernel
theorem dL_law_427 : decode cL_law 427 = .ok (.if_icmp .eq 381, 3) := by decide +kernel
theorem dL_law_430 : decode cL_law 430 = .ok (.iconst 0, 1) := by decide +kernel
theorem dL_law_431 : decode cL_law 431 = .ok (.ireturn, 1) := by decide +kernel
theorem dL_law_432 : decode cL_law 432 = .ok (.aload_n 1, 1) := by decide +kernel
theorem dL_law_433 : decode cL_law 433 = .ok (.aload_n 0, 1) := by decide +kernel
theorem dL_law_434 : decode cL_law 434 = .ok (.iload_n 3, 1) := by decide +kernel
theorem dL_law_435 : decode cL_law 435 = .ok (.iconst 1, 1) := by decide +kernel
theorem dL_law_436 : decode cL_law 436 = .ok (.iadd, 1) := by decide +kernel
theorem dL_law_437 : decode cL_law 437 = .ok (.iaload, 1) := by decide +kernel
theorem dL_law_438 : decode cL_law 438 = .ok (.aload_n 0, 1) := by decide +kernel
theorem dL_law_439 : decode cL_law 439 = .ok (.iload_n 3, 1) := by decide +kernel
theorem dL_law_440 : decode cL_law 440 = .ok (.iconst 2, 1) := by decide +kernel
theorem dL_law_441 : decode cL_law 441 = .ok (.iadd, 1) := by decide +kernel
theorem dL_law_442 : decode cL_law 442 = .ok (.iaload, 1) := by decide +kernel
theorem dL_law_443 : decode cL_law 443 = .ok (.invokevirtual 64, 3) := by decide +kernel
theorem dL_law_446 : decode cL_law 446 = .ok (.aload_n 2, 1) := by decide +kernel
theorem dL_law_447 : decode cL_law 447 = .ok (.aload_n 0, 1) := by decide +kernel
theorem dL_law_448 : decode cL_law 448 = .ok (.iload_n 3, 1) := by decide +kernel
theorem dL_law_449 : decode cL_law 449 = .ok (.iconst 1, 1) := by decide +kernel
theorem dL_law_450 : decode cL_law 450 = .ok (.iadd, 1) := by decide +kernel
theorem dL_law_451 : decode cL_law 451 = .ok (.iaload, 1) := by decide +kernel
theorem dL_law_452 : decode cL_law 452 = .ok (.aload_n 0, 1) := by decide +kernel
theorem dL_law_453 : decode cL_law 453 = .ok (.iload_n 3, 1) := by decide +kernel
theorem dL_law_454 : decode cL_law 454 = .ok (.iconst 2, 1) := by decide +kernel
theorem dL_law_455 : decode cL_law 455 = .ok (.iadd, 1) := by decide +kernel
theorem dL_law_456 : decode cL_law 456 = .ok (.iaload, 1) := by decide +kernel
theorem dL_law_457 : decode cL_law 457 = .ok (.invokevirtual 67, 3) := by decide +kernel
theorem dL_law_460 : decode cL_law 460 = .ok (.if_icmp .eq 348, 3) := by decide +kernel
theorem dL_law_463 : decode cL_law 463 = .ok (.iconst 0, 1) := by decide +kernel
theorem dL_law_464 : decode cL_law 464 = .ok (.ireturn, 1) := by decide +kernel
theorem dL_law_465 : decode cL_law 465 = .ok (.aload_n 1, 1) := by decide +kernel
theorem dL_law_466 : decode cL_law 466 = .ok (.aload_n 0, 1) := by decide +kernel
theorem dL_law_467 : decode cL_law 467 = .ok (.iload_n 3, 1) := by decide +kernel
theorem dL_law_468 : decode cL_law 468 = .ok (.iconst 1, 1) := by decide +kernel
theorem dL_law_469 : decode cL_law 469 = .ok (.iadd, 1) := by decide +kernel
theorem dL_law_470 : decode cL_law 470 = .ok (.iaload, 1) := by decide +kernel
theorem dL_law_471 : decode cL_law 471 = .ok (.invokevirtual 68, 3) := by decide +kernel
theorem dL_law_474 : decode cL_law 474 = .ok (.aload_n 2, 1) := by decide +kernel
theorem dL_law_475 : decode cL_law 475 = .ok (.aload_n 0, 1) := by decide +kernel
theorem dL_law_476 : decode cL_law 476 = .ok (.iload_n 3, 1) := by decide +kernel
theorem dL_law_477 : decode cL_law 477 = .ok (.iconst 1, 1) := by decide +kernel
theorem dL_law_478 : decode cL_law 478 = .ok (.iadd, 1) := by decide +kernel
theorem dL_law_479 : decode cL_law 479 = .ok (.iaload, 1) := by decide +kernel
theorem dL_law_480 : decode cL_law 480 = .ok (.invokevirtual 71, 3) := by decide +kernel
theorem dL_law_483 : decode cL_law 483 = .ok (.if_icmp .eq 325, 3) := by decide +kernel
theorem dL_law_486 : decode cL_law 486 = .ok (.iconst 0, 1) := by decide +kernel
theorem dL_law_487 : decode cL_law 487 = .ok (.ireturn, 1) := by decide +kernel
theorem dL_law_488 : decode cL_law 488 = .ok (.aload_n 1, 1) := by decide +kernel
theorem dL_law_489 : decode cL_law 489 = .ok (.aload_n 0, 1) := by decide +kernel
theorem dL_law_490 : decode cL_law 490 = .ok (.iload_n 3, 1) := by decide +kernel
theorem dL_law_491 : decode cL_law 491 = .ok (.iconst 1, 1) := by decide +kernel
theorem dL_law_492 : decode cL_law 492 = .ok (.iadd, 1) := by decide +kernel
theorem dL_law_493 : decode cL_law 493 = .ok (.iaload, 1) := by decide +kernel
theorem dL_law_494 : decode cL_law 494 = .ok (.aload_n 0, 1) := by decide +kernel
theorem dL_law_495 : decode cL_law 495 = .ok (.iload_n 3, 1) := by decide +kernel
theorem dL_law_496 : decode cL_law 496 = .ok (.iconst 2, 1) := by decide +kernel
theorem dL_law_497 : decode cL_law 497 = .ok (.iadd, 1) := by decide +kernel
theorem dL_law_498 : decode cL_law 498 = .ok (.iaload, 1) := by decide +kernel
theorem dL_law_499 : decode cL_law 499 = .ok (.invokevirtual 72, 3) := by decide +kernel
theorem dL_law_502 : decode cL_law 502 = .ok (.aload_n 2, 1) := by decide +kernel
theorem dL_law_503 : decode cL_law 503 = .ok (.aload_n 0, 1) := by decide +kernel
theorem dL_law_504 : decode cL_law 504 = .ok (.iload_n 3, 1) := by decide +kernel
theorem dL_law_505 : decode cL_law 505 = .ok (.iconst 1, 1) := by decide +kernel
theorem dL_law_506 : decode cL_law 506 = .ok (.iadd, 1) := by decide +kernel
theorem dL_law_507 : decode cL_law 507 = .ok (.iaload, 1) := by decide +kernel
theorem dL_law_508 : decode cL_law 508 = .ok (.aload_n 0, 1) := by decide +kernel
theorem dL_law_509 : decode cL_law 509 = .ok (.iload_n 3, 1) := by decide +kernel
theorem dL_law_510 : decode cL_law 510 = .ok (.iconst 2, 1) := by decide +kernel
theorem dL_law_511 : decode cL_law 511 = .ok (.iadd, 1) := by decide +kernel
theorem dL_law_512 : decode cL_law 512 = .ok (.iaload, 1) := by decide +kernel
theorem dL_law_513 : decode cL_law 513 = .ok (.invokevirtual 75, 3) := by decide +kernel
theorem dL_law_516 : decode cL_law 516 = .ok (.if_icmp .eq 292, 3) := by decide +kernel
theorem dL_law_519 : decode cL_law 519 = .ok (.iconst 0, 1) := by decide +kernel
theorem dL_law_520 : decode cL_law 520 = .ok (.ireturn, 1) := by decide +kernel
theorem dL_law_521 : decode cL_law 521 = .ok (.aload_n 1, 1) := by decide +kernel
theorem dL_law_522 : decode cL_law 522 = .ok (.aload_n 0, 1) := by decide +kernel
theorem dL_law_523 : decode cL_law 523 = .ok (.iload_n 3, 1) := by decide +kernel
theorem dL_law_524 : decode cL_law 524 = .ok (.iconst 1, 1) := by decide +kernel
theorem dL_law_525 : decode cL_law 525 = .ok (.iadd, 1) := by decide +kernel
theorem dL_law_526 : decode cL_law 526 = .ok (.iaload, 1) := by decide +kernel
theorem dL_law_527 : decode cL_law 527 = .ok (.aload_n 0, 1) := by decide +kernel
theorem dL_law_528 : decode cL_law 528 = .ok (.iload_n 3, 1) := by decide +kernel
theorem dL_law_529 : decode cL_law 529 = .ok (.iconst 2, 1) := by decide +kernel
theorem dL_law_530 : decode cL_law 530 = .ok (.iadd, 1) := by decide +kernel
theorem dL_law_531 : decode cL_law 531 = .ok (.iaload, 1) := by decide +kernel
theorem dL_law_532 : decode cL_law 532 = .ok (.invokevirtual 76, 3) := by decide +kernel
theorem dL_law_535 : decode cL_law 535 = .ok (.aload_n 2, 1) := by decide +kernel
theorem dL_law_536 : decode cL_law 536 = .ok (.aload_n 0, 1) := by decide +kernel
theorem dL_law_537 : decode cL_law 537 = .ok (.iload_n 3, 1) := by decide +kernel
theorem dL_law_538 : decode cL_law 538 = .ok (.iconst 1, 1) := by decide +kernel
theorem dL_law_539 : decode cL_law 539 = .ok (.iadd, 1) := by decide +kernel
theorem dL_law_540 : decode cL_law 540 = .ok (.iaload, 1) := by decide +kernel
theorem dL_law_541 : decode cL_law 541 = .ok (.aload_n 0, 1) := by decide +kernel
theorem dL_law_542 : decode cL_law 542 = .ok (.iload_n 3, 1) := by decide +kernel
theorem dL_law_543 : decode cL_law 543 = .ok (.iconst 2, 1) := by decide +kernel
theorem dL_law_544 : decode cL_law 544 = .ok (.iadd, 1) := by decide +kernel
theorem dL_law_545 : decode cL_law 545 = .ok (.iaload, 1) := by decide +kernel
theorem dL_law_546 : decode cL_law 546 = .ok (.invokevirtual 79, 3) := by decide +kernel
theorem dL_law_549 : decode cL_law 549 = .ok (.if_icmp .eq 259, 3) := by decide +kernel
theorem dL_law_552 : decode cL_law 552 = .ok (.iconst 0, 1) := by decide +kernel
theorem dL_law_553 : decode cL_law 553 = .ok (.ireturn, 1) := by decide +kernel
theorem dL_law_554 : decode cL_law 554 = .ok (.aload_n 1, 1) := by decide +kernel
theorem dL_law_555 : decode cL_law 555 = .ok (.aload_n 0, 1) := by decide +kernel
theorem dL_law_556 : decode cL_law 556 = .ok (.iload_n 3, 1) := by decide +kernel
theorem dL_law_557 : decode cL_law 557 = .ok (.iconst 1, 1) := by decide +kernel
theorem dL_law_558 : decode cL_law 558 = .ok (.iadd, 1) := by decide +kernel
theorem dL_law_559 : decode cL_law 559 = .ok (.iaload, 1) := by decide +kernel
theorem dL_law_560 : decode cL_law 560 = .ok (.aload_n 0, 1) := by decide +kernel
theorem dL_law_561 : decode cL_law 561 = .ok (.iload_n 3, 1) := by decide +kernel
theorem dL_law_562 : decode cL_law 562 = .ok (.iconst 2, 1) := by decide +kernel
theorem dL_law_563 : decode cL_law 563 = .ok (.iadd, 1) := by decide +kernel
theorem dL_law_564 : decode cL_law 564 = .ok (.iaload, 1) := by decide +kernel
theorem dL_law_565 : decode cL_law 565 = .ok (.aload_n 0, 1) := by decide +kernel
theorem dL_law_566 : decode cL_law 566 = .ok (.iload_n 3, 1) := by decide +kernel
theorem dL_law_567 : decode cL_law 567 = .ok (.iconst 3, 1) := by decide +kernel
theorem dL_law_568 : decode cL_law 568 = .ok (.iadd, 1) := by decide +kernel
theorem dL_law_569 : decode cL_law 569 = .ok (.iaload, 1) := by decide +kernel
theorem dL_law_570 : decode cL_law 570 = .ok (.invokevirtual 80, 3) := by decide +kernel
theorem dL_law_573 : decode cL_law 573 = .ok (.aload_n 2, 1) := by decide +kernel
theorem dL_law_574 : decode cL_law 574 = .ok (.aload_n 0, 1) := by decide +kernel
theorem dL_law_575 : decode cL_law 575 = .ok (.iload_n 3, 1) := by decide +kernel
theorem dL_law_576 : decode cL_law 576 = .ok (.iconst 1, 1) := by decide +kernel
theorem dL_law_577 : decode cL_law 577 = .ok (.iadd, 1) := by decide +kernel
theorem dL_law_578 : decode cL_law 578 = .ok (.iaload, 1) := by decide +kernel
theorem dL_law_579 : decode cL_law 579 = .ok (.aload_n 0, 1) := by decide +kernel
theorem dL_law_580 : decode cL_law 580 = .ok (.iload_n 3, 1) := by decide +kernel
theorem dL_law_581 : decode cL_law 581 = .ok (.iconst 2, 1) := by decide +kernel
theorem dL_law_582 : decode cL_law 582 = .ok (.iadd, 1) := by decide +kernel
theorem dL_law_583 : decode cL_law 583 = .ok (.iaload, 1) := by decide +kernel
theorem dL_law_584 : decode cL_law 584 = .ok (.aload_n 0, 1) := by decide +kernel
theorem dL_law_585 : decode cL_law 585 = .ok (.iload_n 3, 1) := by decide +kernel
theorem dL_law_586 : decode cL_law 586 = .ok (.iconst 3, 1) := by decide +kernel
theorem dL_law_587 : decode cL_law 587 = .ok (.iadd, 1) := by decide +kernel
theorem dL_law_588 : decode cL_law 588 = .ok (.iaload, 1) := by decide +kernel
theorem dL_law_589 : decode cL_law 589 = .ok (.invokevirtual 84, 3) := by decide +kernel
theorem dL_law_592 : decode cL_law 592 = .ok (.if_icmp .eq 216, 3) := by decide +kernel
theorem dL_law_595 : decode cL_law 595 = .ok (.iconst 0, 1) := by decide +kernel
theorem dL_law_596 : decode cL_law 596 = .ok (.ireturn, 1) := by decide +kernel
theorem dL_law_597 : decode cL_law 597 = .ok (.aload_n 1, 1) := by decide +kernel
theorem dL_law_598 : decode cL_law 598 = .ok (.aload_n 0, 1) := by decide +kernel
theorem dL_law_599 : decode cL_law 599 = .ok (.iload_n 3, 1) := by decide +kernel
theorem dL_law_600 : decode cL_law 600 = .ok (.iconst 1, 1) := by decide +kernel
theorem dL_law_601 : decode cL_law 601 = .ok (.iadd, 1) := by decide +kernel
theorem dL_law_602 : decode cL_law 602 = .ok (.iaload, 1) := by decide +kernel
theorem dL_law_603 : decode cL_law 603 = .ok (.aload_n 0, 1) := by decide +kernel
theorem dL_law_604 : decode cL_law 604 = .ok (.iload_n 3, 1) := by decide +kernel
theorem dL_law_605 : decode cL_law 605 = .ok (.iconst 2, 1) := by decide +kernel
theorem dL_law_606 : decode cL_law 606 = .ok (.iadd, 1) := by decide +kernel
theorem dL_law_607 : decode cL_law 607 = .ok (.iaload, 1) := by decide +kernel
theorem dL_law_608 : decode cL_law 608 = .ok (.invokevirtual 85, 3) := by decide +kernel
theorem dL_law_611 : decode cL_law 611 = .ok (.aload_n 2, 1) := by decide +kernel
theorem dL_law_612 : decode cL_law 612 = .ok (.aload_n 0, 1) := by decide +kernel
theorem dL_law_613 : decode cL_law 613 = .ok (.iload_n 3, 1) := by decide +kernel
theorem dL_law_614 : decode cL_law 614 = .ok (.iconst 1, 1) := by decide +kernel
theorem dL_law_615 : decode cL_law 615 = .ok (.iadd, 1) := by decide +kernel
theorem dL_law_616 : decode cL_law 616 = .ok (.iaload, 1) := by decide +kernel
theorem dL_law_617 : decode cL_law 617 = .ok (.aload_n 0, 1) := by decide +kernel
theorem dL_law_618 : decode cL_law 618 = .ok (.iload_n 3, 1) := by decide +kernel
theorem dL_law_619 : decode cL_law 619 = .ok (.iconst 2, 1) := by decide +kernel
theorem dL_law_620 : decode cL_law 620 = .ok (.iadd, 1) := by decide +kernel
theorem dL_law_621 : decode cL_law 621 = .ok (.iaload, 1) := by decide +kernel
theorem dL_law_622 : decode cL_law 622 = .ok (.invokevirtual 88, 3) := by decide +kernel
theorem dL_law_625 : decode cL_law 625 = .ok (.if_icmp .eq 183, 3) := by decide +kernel
theorem dL_law_628 : decode cL_law 628 = .ok (.iconst 0, 1) := by decide +kernel
theorem dL_law_629 : decode cL_law 629 = .ok (.ireturn, 1) := by decide +kernel
theorem dL_law_630 : decode cL_law 630 = .ok (.aload_n 1, 1) := by decide +kernel
theorem dL_law_631 : decode cL_law 631 = .ok (.aload_n 0, 1) := by decide +kernel
theorem dL_law_632 : decode cL_law 632 = .ok (.iload_n 3, 1) := by decide +kernel
theorem dL_law_633 : decode cL_law 633 = .ok (.iconst 1, 1) := by decide +kernel
theorem dL_law_634 : decode cL_law 634 = .ok (.iadd, 1) := by decide +kernel
theorem dL_law_635 : decode cL_law 635 = .ok (.iaload, 1) := by decide +kernel
theorem dL_law_636 : decode cL_law 636 = .ok (.aload_n 0, 1) := by decide +kernel
theorem dL_law_637 : decode cL_law 637 = .ok (.iload_n 3, 1) := by decide +kernel
theorem dL_law_638 : decode cL_law 638 = .ok (.iconst 2, 1) := by decide +kernel
theorem dL_law_639 : decode cL_law 639 = .ok (.iadd, 1) := by decide +kernel
theorem dL_law_640 : decode cL_law 640 = .ok (.iaload, 1) := by decide +kernel
theorem dL_law_641 : decode cL_law 641 = .ok (.invokevirtual 89, 3) := by decide +kernel
theorem dL_law_644 : decode cL_law 644 = .ok (.aload_n 2, 1) := by decide +kernel
theorem dL_law_645 : decode cL_law 645 = .ok (.aload_n 0, 1) := by decide +kernel
theorem dL_law_646 : decode cL_law 646 = .ok (.iload_n 3, 1) := by decide +kernel
theorem dL_law_647 : decode cL_law 647 = .ok (.iconst 1, 1) := by decide +kernel
theorem dL_law_648 : decode cL_law 648 = .ok (.iadd, 1) := by decide +kernel
theorem dL_law_649 : decode cL_law 649 = .ok (.iaload, 1) := by decide +kernel
theorem dL_law_650 : decode cL_law 650 = .ok (.aload_n 0, 1) := by decide +kernel
theorem dL_law_651 : decode cL_law 651 = .ok (.iload_n 3, 1) := by decide +kernel
theorem dL_law_652 : decode cL_law 652 = .ok (.iconst 2, 1) := by decide +kernel
theorem dL_law_653 : decode cL_law 653 = .ok (.iadd, 1) := by decide +kernel
theorem dL_law_654 : decode cL_law 654 = .ok (.iaload, 1) := by decide +kernel
theorem dL_law_655 : decode cL_law 655 = .ok (.invokevirtual 92, 3) := by decide +kernel
theorem dL_law_658 : decode cL_law 658 = .ok (.if_icmp .eq 150, 3) := by decide +kernel
theorem dL_law_661 : decode cL_law 661 = .ok (.iconst 0, 1) := by decide +kernel
theorem dL_law_662 : decode cL_law 662 = .ok (.ireturn, 1) := by decide +kernel
theorem dL_law_663 : decode cL_law 663 = .ok (.aload_n 1, 1) := by decide +kernel
theorem dL_law_664 : decode cL_law 664 = .ok (.invokevirtual 93, 3) := by decide +kernel
theorem dL_law_667 : decode cL_law 667 = .ok (.aload_n 2, 1) := by decide +kernel
theorem dL_law_668 : decode cL_law 668 = .ok (.invokevirtual 96, 3) := by decide +kernel
theorem dL_law_671 : decode cL_law 671 = .ok (.if_icmp .eq 137, 3) := by decide +kernel
theorem dL_law_674 : decode cL_law 674 = .ok (.iconst 0, 1) := by decide +kernel
theorem dL_law_675 : decode cL_law 675 = .ok (.ireturn, 1) := by decide +kernel
theorem dL_law_676 : decode cL_law 676 = .ok (.aload_n 1, 1) := by decide +kernel
theorem dL_law_677 : decode cL_law 677 = .ok (.invokevirtual 97, 3) := by decide +kernel
theorem dL_law_680 : decode cL_law 680 = .ok (.aload_n 2, 1) := by decide +kernel
theorem dL_law_681 : decode cL_law 681 = .ok (.invokevirtual 100, 3) := by decide +kernel
theorem dL_law_684 : decode cL_law 684 = .ok (.if_icmp .eq 124, 3) := by decide +kernel
theorem dL_law_687 : decode cL_law 687 = .ok (.iconst 0, 1) := by decide +kernel
theorem dL_law_688 : decode cL_law 688 = .ok (.ireturn, 1) := by decide +kernel
theorem dL_law_689 : decode cL_law 689 = .ok (.aload_n 1, 1) := by decide +kernel
theorem dL_law_690 : decode cL_law 690 = .ok (.invokevirtual 101, 3) := by decide +kernel
theorem dL_law_693 : decode cL_law 693 = .ok (.aload_n 2, 1) := by decide +kernel
theorem dL_law_694 : decode cL_law 694 = .ok (.invokevirtual 104, 3) := by decide +kernel
theorem dL_law_697 : decode cL_law 697 = .ok (.if_icmp .eq 111, 3) := by decide +kernel
theorem dL_law_700 : decode cL_law 700 = .ok (.iconst 0, 1) := by decide +kernel
theorem dL_law_701 : decode cL_law 701 = .ok (.ireturn, 1) := by decide +kernel
theorem dL_law_702 : decode cL_law 702 = .ok (.aload_n 1, 1) := by decide +kernel
theorem dL_law_703 : decode cL_law 703 = .ok (.aload_n 0, 1) := by decide +kernel
theorem dL_law_704 : decode cL_law 704 = .ok (.iload_n 3, 1) := by decide +kernel
theorem dL_law_705 : decode cL_law 705 = .ok (.iconst 1, 1) := by decide +kernel
theorem dL_law_706 : decode cL_law 706 = .ok (.iadd, 1) := by decide +kernel
theorem dL_law_707 : decode cL_law 707 = .ok (.iaload, 1) := by decide +kernel
theorem dL_law_708 : decode cL_law 708 = .ok (.aload_n 0, 1) := by decide +kernel
theorem dL_law_709 : decode cL_law 709 = .ok (.iload_n 3, 1) := by decide +kernel
theorem dL_law_710 : decode cL_law 710 = .ok (.iconst 2, 1) := by decide +kernel
theorem dL_law_711 : decode cL_law 711 = .ok (.iadd, 1) := by decide +kernel
theorem dL_law_712 : decode cL_law 712 = .ok (.iaload, 1) := by decide +kernel
theorem dL_law_713 : decode cL_law 713 = .ok (.aload_n 0, 1) := by decide +kernel
theorem dL_law_714 : decode cL_law 714 = .ok (.iload_n 3, 1) := by decide +kernel
theorem dL_law_715 : decode cL_law 715 = .ok (.iconst 3, 1) := by decide +kernel
theorem dL_law_716 : decode cL_law 716 = .ok (.iadd, 1) := by decide +kernel
theorem dL_law_717 : decode cL_law 717 = .ok (.iaload, 1) := by decide +kernel
theorem dL_law_718 : decode cL_law 718 = .ok (.invokevirtual 105, 3) := by decide +kernel
theorem dL_law_721 : decode cL_law 721 = .ok (.aload_n 2, 1) := by decide +kernel
theorem dL_law_722 : decode cL_law 722 = .ok (.aload_n 0, 1) := by decide +kernel
theorem dL_law_723 : decode cL_law 723 = .ok (.iload_n 3, 1) := by decide +kernel
theorem dL_law_724 : decode cL_law 724 = .ok (.iconst 1, 1) := by decide +kernel
theorem dL_law_725 : decode cL_law 725 = .ok (.iadd, 1) := by decide +kernel
theorem dL_law_726 : decode cL_law 726 = .ok (.iaload, 1) := by decide +kernel
theorem dL_law_727 : decode cL_law 727 = .ok (.aload_n 0, 1) := by decide +kernel
theorem dL_law_728 : decode cL_law 728 = .ok (.iload_n 3, 1) := by decide +kernel
theorem dL_law_729 : decode cL_law 729 = .ok (.iconst 2, 1) := by decide +kernel
theorem dL_law_730 : decode cL_law 730 = .ok (.iadd, 1) := by decide +kernel
theorem dL_law_731 : decode cL_law 731 = .ok (.iaload, 1) := by decide +kernel
theorem dL_law_732 : decode cL_law 732 = .ok (.aload_n 0, 1) := by decide +kernel
theorem dL_law_733 : decode cL_law 733 = .ok (.iload_n 3, 1) := by decide +kernel
theorem dL_law_734 : decode cL_law 734 = .ok (.iconst 3, 1) := by decide +kernel
theorem dL_law_735 : decode cL_law 735 = .ok (.iadd, 1) := by decide +kernel
theorem dL_law_736 : decode cL_law 736 = .ok (.iaload, 1) := by decide +kernel
theorem dL_law_737 : decode cL_law 737 = .ok (.invokevirtual 108, 3) := by decide +kernel
theorem dL_law_740 : decode cL_law 740 = .ok (.if_icmp .eq 68, 3) := by decide +kernel
theorem dL_law_743 : decode cL_law 743 = .ok (.iconst 0, 1) := by decide +kernel
theorem dL_law_744 : decode cL_law 744 = .ok (.ireturn, 1) := by decide +kernel
theorem dL_law_745 : decode cL_law 745 = .ok (.aload_n 1, 1) := by decide +kernel
theorem dL_law_746 : decode cL_law 746 = .ok (.invokevirtual 109, 3) := by decide +kernel
theorem dL_law_749 : decode cL_law 749 = .ok (.aload_n 2, 1) := by decide +kernel
theorem dL_law_750 : decode cL_law 750 = .ok (.invokevirtual 112, 3) := by decide +kernel
theorem dL_law_753 : decode cL_law 753 = .ok (.if_icmp .eq 55, 3) := by decide +kernel
theorem dL_law_756 : decode cL_law 756 = .ok (.iconst 0, 1) := by decide +kernel
theorem dL_law_757 : decode cL_law 757 = .ok (.ireturn, 1) := by decide +kernel
theorem dL_law_758 : decode cL_law 758 = .ok (.aload_n 1, 1) := by decide +kernel
theorem dL_law_759 : decode cL_law 759 = .ok (.invokevirtual 113, 3) := by decide +kernel
theorem dL_law_762 : decode cL_law 762 = .ok (.aload_n 2, 1) := by decide +kernel
theorem dL_law_763 : decode cL_law 763 = .ok (.invokevirtual 116, 3) := by decide +kernel
theorem dL_law_766 : decode cL_law 766 = .ok (.if_icmp .eq 42, 3) := by decide +kernel
theorem dL_law_769 : decode cL_law 769 = .ok (.iconst 0, 1) := by decide +kernel
theorem dL_law_770 : decode cL_law 770 = .ok (.ireturn, 1) := by decide +kernel
theorem dL_law_771 : decode cL_law 771 = .ok (.aload_n 1, 1) := by decide +kernel
theorem dL_law_772 : decode cL_law 772 = .ok (.aload_n 0, 1) := by decide +kernel
theorem dL_law_773 : decode cL_law 773 = .ok (.iload_n 3, 1) := by decide +kernel
theorem dL_law_774 : decode cL_law 774 = .ok (.iconst 1, 1) := by decide +kernel
theorem dL_law_775 : decode cL_law 775 = .ok (.iadd, 1) := by decide +kernel
theorem dL_law_776 : decode cL_law 776 = .ok (.iaload, 1) := by decide +kernel
theorem dL_law_777 : decode cL_law 777 = .ok (.invokevirtual 117, 3) := by decide +kernel
theorem dL_law_780 : decode cL_law 780 = .ok (.aload_n 2, 1) := by decide +kernel
theorem dL_law_781 : decode cL_law 781 = .ok (.aload_n 0, 1) := by decide +kernel
theorem dL_law_782 : decode cL_law 782 = .ok (.iload_n 3, 1) := by decide +kernel
theorem dL_law_783 : decode cL_law 783 = .ok (.iconst 1, 1) := by decide +kernel
theorem dL_law_784 : decode cL_law 784 = .ok (.iadd, 1) := by decide +kernel
theorem dL_law_785 : decode cL_law 785 = .ok (.iaload, 1) := by decide +kernel
theorem dL_law_786 : decode cL_law 786 = .ok (.invokevirtual 120, 3) := by decide +kernel
theorem dL_law_789 : decode cL_law 789 = .ok (.if_icmp .eq 19, 3) := by decide +kernel
theorem dL_law_792 : decode cL_law 792 = .ok (.iconst 0, 1) := by decide +kernel
theorem dL_law_793 : decode cL_law 793 = .ok (.ireturn, 1) := by decide +kernel
theorem dL_law_794 : decode cL_law 794 = .ok (.aload_n 1, 1) := by decide +kernel
theorem dL_law_795 : decode cL_law 795 = .ok (.invokevirtual 121, 3) := by decide +kernel
theorem dL_law_798 : decode cL_law 798 = .ok (.aload_n 2, 1) := by decide +kernel
theorem dL_law_799 : decode cL_law 799 = .ok (.invokevirtual 125, 3) := by decide +kernel
theorem dL_law_802 : decode cL_law 802 = .ok (.lcmp, 1) := by decide +kernel
theorem dL_law_803 : decode cL_law 803 = .ok (.ifCond .eq 5, 3) := by decide +kernel
theorem dL_law_806 : decode cL_law 806 = .ok (.iconst 0, 1) := by decide +kernel
theorem dL_law_807 : decode cL_law 807 = .ok (.ireturn, 1) := by decide +kernel
theorem dL_law_808 : decode cL_law 808 = .ok (.iinc 3 4, 3) := by decide +kernel
theorem dL_law_811 : decode cL_law 811 = .ok (.goto (-793), 3) := by decide +kernel
theorem dL_law_814 : decode cL_law 814 = .ok (.iconst 1, 1) := by decide +kernel
theorem dL_law_815 : decode cL_law 815 = .ok (.ireturn, 1) := by decide +kernel
