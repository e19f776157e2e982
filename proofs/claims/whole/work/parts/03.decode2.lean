theorem dX4_game_34 : decode cX4_game 34 = .ok (.iload_n 3, 1) := by decide +kernel
theorem dX4_game_35 : decode cX4_game 35 = .ok (.iconst 1, 1) := by decide +kernel
theorem dX4_game_36 : decode cX4_game 36 = .ok (.if_icmp .le 6, 3) := by decide +kernel
theorem dX4_game_39 : decode cX4_game 39 = .ok (.bipush (-102), 2) := by decide +kernel
theorem dX4_game_41 : decode cX4_game 41 = .ok (.ireturn, 1) := by decide +kernel
theorem dX4_game_42 : decode cX4_game 42 = .ok (.aload_n 0, 1) := by decide +kernel
theorem dX4_game_43 : decode cX4_game 43 = .ok (.getfield 19, 3) := by decide +kernel
theorem dX4_game_46 : decode cX4_game 46 = .ok (.getfield 62, 3) := by decide +kernel
theorem dX4_game_49 : decode cX4_game 49 = .ok (.iload_n 1, 1) := by decide +kernel
theorem dX4_game_50 : decode cX4_game 50 = .ok (.invokevirtual 76, 3) := by decide +kernel
theorem dX4_game_53 : decode cX4_game 53 = .ok (.ifCond .eq 17, 3) := by decide +kernel
theorem dX4_game_56 : decode cX4_game 56 = .ok (.aload_n 0, 1) := by decide +kernel
theorem dX4_game_57 : decode cX4_game 57 = .ok (.getfield 19, 3) := by decide +kernel
theorem dX4_game_60 : decode cX4_game 60 = .ok (.getfield 62, 3) := by decide +kernel
theorem dX4_game_63 : decode cX4_game 63 = .ok (.iload_n 2, 1) := by decide +kernel
theorem dX4_game_64 : decode cX4_game 64 = .ok (.invokevirtual 76, 3) := by decide +kernel
theorem dX4_game_67 : decode cX4_game 67 = .ok (.ifCond .ne 6, 3) := by decide +kernel
theorem dX4_game_70 : decode cX4_game 70 = .ok (.bipush (-103), 2) := by decide +kernel
theorem dX4_game_72 : decode cX4_game 72 = .ok (.ireturn, 1) := by decide +kernel
theorem dX4_game_73 : decode cX4_game 73 = .ok (.iload_n 3, 1) := by decide +kernel
theorem dX4_game_74 : decode cX4_game 74 = .ok (.ifCond .ne 15, 3) := by decide +kernel
theorem dX4_game_77 : decode cX4_game 77 = .ok (.aload_n 0, 1) := by decide +kernel
theorem dX4_game_78 : decode cX4_game 78 = .ok (.getfield 31, 3) := by decide +kernel
theorem dX4_game_81 : decode cX4_game 81 = .ok (.iload_n 1, 1) := by decide +kernel
theorem dX4_game_82 : decode cX4_game 82 = .ok (.iload_n 2, 1) := by decide +kernel
theorem dX4_game_83 : decode cX4_game 83 = .ok (.invokevirtual 142, 3) := by decide +kernel
theorem dX4_game_86 : decode cX4_game 86 = .ok (.goto 12, 3) := by decide +kernel
theorem dX4_game_89 : decode cX4_game 89 = .ok (.aload_n 0, 1) := by decide +kernel
theorem dX4_game_90 : decode cX4_game 90 = .ok (.getfield 31, 3) := by decide +kernel
theorem dX4_game_93 : decode cX4_game 93 = .ok (.iload_n 1, 1) := by decide +kernel
theorem dX4_game_94 : decode cX4_game 94 = .ok (.iload_n 2, 1) := by decide +kernel
theorem dX4_game_95 : decode cX4_game 95 = .ok (.invokevirtual 145, 3) := by decide +kernel
theorem dX4_game_98 : decode cX4_game 98 = .ok (.ireturn, 1) := by decide +kernel
theorem dX4_likely_0 : decode cX4_likely 0 = .ok (.aload_n 0, 1) := by decide +kernel
theorem dX4_likely_1 : decode cX4_likely 1 = .ok (.getfield 19, 3) := by decide +kernel
theorem dX4_likely_4 : decode cX4_likely 4 = .ok (.iload_n 1, 1) := by decide +kernel
theorem dX4_likely_5 : decode cX4_likely 5 = .ok (.invokevirtual 69, 3) := by decide +kernel
theorem dX4_likely_8 : decode cX4_likely 8 = .ok (.ifCond .ne 6, 3) := by decide +kernel
theorem dX4_likely_11 : decode cX4_likely 11 = .ok (.bipush (-101), 2) := by decide +kernel
theorem dX4_likely_13 : decode cX4_likely 13 = .ok (.ireturn, 1) := by decide +kernel
theorem dX4_likely_14 : decode cX4_likely 14 = .ok (.iload_n 2, 1) := by decide +kernel
theorem dX4_likely_15 : decode cX4_likely 15 = .ok (.ifCond .lt 8, 3) := by decide +kernel
theorem dX4_likely_18 : decode cX4_likely 18 = .ok (.iload_n 2, 1) := by decide +kernel
theorem dX4_likely_19 : decode cX4_likely 19 = .ok (.iconst 1, 1) := by decide +kernel
theorem dX4_likely_20 : decode cX4_likely 20 = .ok (.if_icmp .le 6, 3) := by decide +kernel
theorem dX4_likely_23 : decode cX4_likely 23 = .ok (.bipush (-102), 2) := by decide +kernel
theorem dX4_likely_25 : decode cX4_likely 25 = .ok (.ireturn, 1) := by decide +kernel
theorem dX4_likely_26 : decode cX4_likely 26 = .ok (.aload_n 0, 1) := by decide +kernel
theorem dX4_likely_27 : decode cX4_likely 27 = .ok (.getfield 19, 3) := by decide +kernel
theorem dX4_likely_30 : decode cX4_likely 30 = .ok (.getfield 62, 3) := by decide +kernel
theorem dX4_likely_33 : decode cX4_likely 33 = .ok (.iload_n 1, 1) := by decide +kernel
theorem dX4_likely_34 : decode cX4_likely 34 = .ok (.invokevirtual 76, 3) := by decide +kernel
theorem dX4_likely_37 : decode cX4_likely 37 = .ok (.ifCond .ne 6, 3) := by decide +kernel
theorem dX4_likely_40 : decode cX4_likely 40 = .ok (.bipush (-103), 2) := by decide +kernel
theorem dX4_likely_42 : decode cX4_likely 42 = .ok (.ireturn, 1) := by decide +kernel
theorem dX4_likely_43 : decode cX4_likely 43 = .ok (.aload_n 0, 1) := by decide +kernel
theorem dX4_likely_44 : decode cX4_likely 44 = .ok (.getfield 31, 3) := by decide +kernel
theorem dX4_likely_47 : decode cX4_likely 47 = .ok (.iload_n 1, 1) := by decide +kernel
theorem dX4_likely_48 : decode cX4_likely 48 = .ok (.iload_n 2, 1) := by decide +kernel
theorem dX4_likely_49 : decode cX4_likely 49 = .ok (.ifCond .ne 7, 3) := by decide +kernel
theorem dX4_likely_52 : decode cX4_likely 52 = .ok (.iconst 1, 1) := by decide +kernel
theorem dX4_likely_53 : decode cX4_likely 53 = .ok (.goto 4, 3) := by decide +kernel
theorem dX4_likely_56 : decode cX4_likely 56 = .ok (.iconst 0, 1) := by decide +kernel
theorem dX4_likely_57 : decode cX4_likely 57 = .ok (.invokevirtual 148, 3) := by decide +kernel
theorem dX4_likely_60 : decode cX4_likely 60 = .ok (.ireturn, 1) := by decide +kernel
theorem dX4_see_0 : decode cX4_see 0 = .ok (.aload_n 0, 1) := by decide +kernel
theorem dX4_see_1 : decode cX4_see 1 = .ok (.getfield 19, 3) := by decide +kernel
theorem dX4_see_4 : decode cX4_see 4 = .ok (.iload_n 1, 1) := by decide +kernel
theorem dX4_see_5 : decode cX4_see 5 = .ok (.invokevirtual 69, 3) := by decide +kernel
theorem dX4_see_8 : decode cX4_see 8 = .ok (.ifCond .eq 14, 3) := by decide +kernel
theorem dX4_see_11 : decode cX4_see 11 = .ok (.aload_n 0, 1) := by decide +kernel
theorem dX4_see_12 : decode cX4_see 12 = .ok (.getfield 19, 3) := by decide +kernel
theorem dX4_see_15 : decode cX4_see 15 = .ok (.iload_n 2, 1) := by decide +kernel
theorem dX4_see_16 : decode cX4_see 16 = .ok (.invokevirtual 69, 3) := by decide +kernel
theorem dX4_see_19 : decode cX4_see 19 = .ok (.ifCond .ne 6, 3) := by decide +kernel
theorem dX4_see_22 : decode cX4_see 22 = .ok (.bipush (-101), 2) := by decide +kernel
theorem dX4_see_24 : decode cX4_see 24 = .ok (.ireturn, 1) := by decide +kernel
theorem dX4_see_25 : decode cX4_see 25 = .ok (.aload_n 0, 1) := by decide +kernel
theorem dX4_see_26 : decode cX4_see 26 = .ok (.getfield 19, 3) := by decide +kernel
theorem dX4_see_29 : decode cX4_see 29 = .ok (.iload_n 1, 1) := by decide +kernel
theorem dX4_see_30 : decode cX4_see 30 = .ok (.iload_n 2, 1) := by decide +kernel
theorem dX4_see_31 : decode cX4_see 31 = .ok (.invokevirtual 152, 3) := by decide +kernel
theorem dX4_see_34 : decode cX4_see 34 = .ok (.ifCond .eq 13, 3) := by decide +kernel
theorem dX4_see_37 : decode cX4_see 37 = .ok (.aload_n 0, 1) := by decide +kernel
theorem dX4_see_38 : decode cX4_see 38 = .ok (.getfield 19, 3) := by decide +kernel
theorem dX4_see_41 : decode cX4_see 41 = .ok (.getfield 156, 3) := by decide +kernel
theorem dX4_see_44 : decode cX4_see 44 = .ok (.goto 5, 3) := by decide +kernel
theorem dX4_see_47 : decode cX4_see 47 = .ok (.bipush (-104), 2) := by decide +kernel
theorem dX4_see_49 : decode cX4_see 49 = .ok (.ireturn, 1) := by decide +kernel
theorem dX4_forget_0 : decode cX4_forget 0 = .ok (.aload_n 0, 1) := by decide +kernel
theorem dX4_forget_1 : decode cX4_forget 1 = .ok (.getfield 19, 3) := by decide +kernel
theorem dX4_forget_4 : decode cX4_forget 4 = .ok (.getfield 156, 3) := by decide +kernel
theorem dX4_forget_7 : decode cX4_forget 7 = .ok (.istore_n 1, 1) := by decide +kernel
theorem dX4_forget_8 : decode cX4_forget 8 = .ok (.aload_n 0, 1) := by decide +kernel
theorem dX4_forget_9 : decode cX4_forget 9 = .ok (.getfield 19, 3) := by decide +kernel
theorem dX4_forget_12 : decode cX4_forget 12 = .ok (.iconst 0, 1) := by decide +kernel
theorem dX4_forget_13 : decode cX4_forget 13 = .ok (.putfield 156, 3) := by decide +kernel
theorem dX4_forget_16 : decode cX4_forget 16 = .ok (.iload_n 1, 1) := by decide +kernel
theorem dX4_forget_17 : decode cX4_forget 17 = .ok (.ireturn, 1) := by decide +kernel
theorem dX4_lengths_0 : decode cX4_lengths 0 = .ok (.aload_n 0, 1) := by decide +kernel
theorem dX4_lengths_1 : decode cX4_lengths 1 = .ok (.getfield 19, 3) := by decide +kernel
theorem dX4_lengths_4 : decode cX4_lengths 4 = .ok (.invokevirtual 123, 3) := by decide +kernel
theorem dX4_lengths_7 : decode cX4_lengths 7 = .ok (.ifCond .eq 13, 3) := by decide +kernel
theorem dX4_lengths_10 : decode cX4_lengths 10 = .ok (.aload_n 0, 1) := by decide +kernel
theorem dX4_lengths_11 : decode cX4_lengths 11 = .ok (.getfield 31, 3) := by decide +kernel
theorem dX4_lengths_14 : decode cX4_lengths 14 = .ok (.invokevirtual 159, 3) := by decide +kernel
theorem dX4_lengths_17 : decode cX4_lengths 17 = .ok (.goto 5, 3) := by decide +kernel
theorem dX4_lengths_20 : decode cX4_lengths 20 = .ok (.bipush (-103), 2) := by decide +kernel
theorem dX4_lengths_22 : decode cX4_lengths 22 = .ok (.ireturn, 1) := by decide +kernel
theorem dX4_from_0 : decode cX4_from 0 = .ok (.aload_n 0, 1) := by decide +kernel
theorem dX4_from_1 : decode cX4_from 1 = .ok (.getfield 19, 3) := by decide +kernel
theorem dX4_from_4 : decode cX4_from 4 = .ok (.invokevirtual 123, 3) := by decide +kernel
theorem dX4_from_7 : decode cX4_from 7 = .ok (.ifCond .eq 20, 3) := by decide +kernel
theorem dX4_from_10 : decode cX4_from 10 = .ok (.aload_n 0, 1) := by decide +kernel
theorem dX4_from_11 : decode cX4_from 11 = .ok (.getfield 31, 3) := by decide +kernel
theorem dX4_from_14 : decode cX4_from 14 = .ok (.aload_n 0, 1) := by decide +kernel
theorem dX4_from_15 : decode cX4_from 15 = .ok (.getfield 31, 3) := by decide +kernel
theorem dX4_from_18 : decode cX4_from 18 = .ok (.invokevirtual 159, 3) := by decide +kernel
theorem dX4_from_21 : decode cX4_from 21 = .ok (.invokevirtual 162, 3) := by decide +kernel
theorem dX4_from_24 : decode cX4_from 24 = .ok (.goto 5, 3) := by decide +kernel
theorem dX4_from_27 : decode cX4_from 27 = .ok (.bipush (-103), 2) := by decide +kernel
theorem dX4_from_29 : decode cX4_from 29 = .ok (.ireturn, 1) := by decide +kernel
theorem dX4_rounds_0 : decode cX4_rounds 0 = .ok (.iload_n 1, 1) := by decide +kernel
theorem dX4_rounds_1 : decode cX4_rounds 1 = .ok (.iconst 1, 1) := by decide +kernel
theorem dX4_rounds_2 : decode cX4_rounds 2 = .ok (.if_icmp .lt 22, 3) := by decide +kernel
theorem dX4_rounds_5 : decode cX4_rounds 5 = .ok (.iload_n 1, 1) := by decide +kernel
theorem dX4_rounds_6 : decode cX4_rounds 6 = .ok (.bipush 60, 2) := by decide +kernel
theorem dX4_rounds_8 : decode cX4_rounds 8 = .ok (.if_icmp .gt 16, 3) := by decide +kernel
theorem dX4_rounds_11 : decode cX4_rounds 11 = .ok (.iload_n 2, 1) := by decide +kernel
theorem dX4_rounds_12 : decode cX4_rounds 12 = .ok (.ifCond .lt 12, 3) := by decide +kernel
theorem dX4_rounds_15 : decode cX4_rounds 15 = .ok (.iload_n 3, 1) := by decide +kernel
theorem dX4_rounds_16 : decode cX4_rounds 16 = .ok (.ifCond .lt 8, 3) := by decide +kernel
theorem dX4_rounds_19 : decode cX4_rounds 19 = .ok (.iload_n 3, 1) := by decide +kernel
theorem dX4_rounds_20 : decode cX4_rounds 20 = .ok (.iconst 2, 1) := by decide +kernel
theorem dX4_rounds_21 : decode cX4_rounds 21 = .ok (.if_icmp .le 6, 3) := by decide +kernel
theorem dX4_rounds_24 : decode cX4_rounds 24 = .ok (.bipush (-102), 2) := by decide +kernel
theorem dX4_rounds_26 : decode cX4_rounds 26 = .ok (.ireturn, 1) := by decide +kernel
theorem dX4_rounds_27 : decode cX4_rounds 27 = .ok (.aload_n 0, 1) := by decide +kernel
theorem dX4_rounds_28 : decode cX4_rounds 28 = .ok (.getfield 19, 3) := by decide +kernel
theorem dX4_rounds_31 : decode cX4_rounds 31 = .ok (.invokevirtual 123, 3) := by decide +kernel
theorem dX4_rounds_34 : decode cX4_rounds 34 = .ok (.ifCond .eq 16, 3) := by decide +kernel
theorem dX4_rounds_37 : decode cX4_rounds 37 = .ok (.aload_n 0, 1) := by decide +kernel
theorem dX4_rounds_38 : decode cX4_rounds 38 = .ok (.getfield 31, 3) := by decide +kernel
theorem dX4_rounds_41 : decode cX4_rounds 41 = .ok (.iload_n 1, 1) := by decide +kernel
theorem dX4_rounds_42 : decode cX4_rounds 42 = .ok (.iload_n 2, 1) := by decide +kernel
theorem dX4_rounds_43 : decode cX4_rounds 43 = .ok (.iload_n 3, 1) := by decide +kernel
theorem dX4_rounds_44 : decode cX4_rounds 44 = .ok (.invokevirtual 165, 3) := by decide +kernel
theorem dX4_rounds_47 : decode cX4_rounds 47 = .ok (.goto 5, 3) := by decide +kernel
theorem dX4_rounds_50 : decode cX4_rounds 50 = .ok (.bipush (-103), 2) := by decide +kernel
theorem dX4_rounds_52 : decode cX4_rounds 52 = .ok (.ireturn, 1) := by decide +kernel
theorem dX4_image_0 : decode cX4_image 0 = .ok (.aload_n 0, 1) := by decide +kernel
theorem dX4_image_1 : decode cX4_image 1 = .ok (.getfield 19, 3) := by decide +kernel
theorem dX4_image_4 : decode cX4_image 4 = .ok (.invokevirtual 123, 3) := by decide +kernel
theorem dX4_image_7 : decode cX4_image 7 = .ok (.ifCond .ne 6, 3) := by decide +kernel
theorem dX4_image_10 : decode cX4_image 10 = .ok (.bipush (-103), 2) := by decide +kernel
theorem dX4_image_12 : decode cX4_image 12 = .ok (.ireturn, 1) := by decide +kernel
theorem dX4_image_13 : decode cX4_image 13 = .ok (.aload_n 0, 1) := by decide +kernel
theorem dX4_image_14 : decode cX4_image 14 = .ok (.getfield 23, 3) := by decide +kernel
theorem dX4_image_17 : decode cX4_image 17 = .ok (.aload_n 0, 1) := by decide +kernel
theorem dX4_image_18 : decode cX4_image 18 = .ok (.getfield 19, 3) := by decide +kernel
theorem dX4_image_21 : decode cX4_image 21 = .ok (.invokevirtual 169, 3) := by decide +kernel
theorem dX4_image_24 : decode cX4_image 24 = .ok (.aload_n 0, 1) := by decide +kernel
theorem dX4_image_25 : decode cX4_image 25 = .ok (.iconst 1, 1) := by decide +kernel
theorem dX4_image_26 : decode cX4_image 26 = .ok (.putfield 55, 3) := by decide +kernel
theorem dX4_image_29 : decode cX4_image 29 = .ok (.aload_n 0, 1) := by decide +kernel
theorem dX4_image_30 : decode cX4_image 30 = .ok (.getfield 23, 3) := by decide +kernel
theorem dX4_image_33 : decode cX4_image 33 = .ok (.getfield 111, 3) := by decide +kernel
theorem dX4_image_36 : decode cX4_image 36 = .ok (.ireturn, 1) := by decide +kernel
theorem dX4_restore_0 : decode cX4_restore 0 = .ok (.aload_n 0, 1) := by decide +kernel
theorem dX4_restore_1 : decode cX4_restore 1 = .ok (.getfield 55, 3) := by decide +kernel
theorem dX4_restore_4 : decode cX4_restore 4 = .ok (.ifCond .ne 6, 3) := by decide +kernel
theorem dX4_restore_7 : decode cX4_restore 7 = .ok (.bipush (-103), 2) := by decide +kernel
theorem dX4_restore_9 : decode cX4_restore 9 = .ok (.ireturn, 1) := by decide +kernel
theorem dX4_restore_10 : decode cX4_restore 10 = .ok (.aload_n 0, 1) := by decide +kernel
theorem dX4_restore_11 : decode cX4_restore 11 = .ok (.getfield 19, 3) := by decide +kernel
theorem dX4_restore_14 : decode cX4_restore 14 = .ok (.aload_n 0, 1) := by decide +kernel
theorem dX4_restore_15 : decode cX4_restore 15 = .ok (.getfield 23, 3) := by decide +kernel
theorem dX4_restore_18 : decode cX4_restore 18 = .ok (.invokevirtual 169, 3) := by decide +kernel
theorem dX4_restore_21 : decode cX4_restore 21 = .ok (.aload_n 0, 1) := by decide +kernel
theorem dX4_restore_22 : decode cX4_restore 22 = .ok (.getfield 19, 3) := by decide +kernel
theorem dX4_restore_25 : decode cX4_restore 25 = .ok (.getfield 111, 3) := by decide +kernel
theorem dX4_restore_28 : decode cX4_restore 28 = .ok (.ireturn, 1) := by decide +kernel
theorem dX4_count_0 : decode cX4_count 0 = .ok (.aload_n 0, 1) := by decide +kernel
theorem dX4_count_1 : decode cX4_count 1 = .ok (.getfield 19, 3) := by decide +kernel
theorem dX4_count_4 : decode cX4_count 4 = .ok (.getfield 62, 3) := by decide +kernel
theorem dX4_count_7 : decode cX4_count 7 = .ok (.astore_n 2, 1) := by decide +kernel
theorem dX4_count_8 : decode cX4_count 8 = .ok (.iload_n 1, 1) := by decide +kernel
theorem dX4_count_9 : decode cX4_count 9 = .ok (.tableswitch 137 0 10 #[59, 64, 69, 77, 85, 90, 103, 111, 116, 124, 132], 59) := by decide +kernel
theorem dX4_count_68 : decode cX4_count 68 = .ok (.aload_n 2, 1) := by decide +kernel
theorem dX4_count_69 : decode cX4_count 69 = .ok (.getfield 66, 3) := by decide +kernel
theorem dX4_count_72 : decode cX4_count 72 = .ok (.ireturn, 1) := by decide +kernel
theorem dX4_count_73 : decode cX4_count 73 = .ok (.aload_n 2, 1) := by decide +kernel
theorem dX4_count_74 : decode cX4_count 74 = .ok (.invokevirtual 120, 3) := by decide +kernel
theorem dX4_count_77 : decode cX4_count 77 = .ok (.ireturn, 1) := by decide +kernel
theorem dX4_count_78 : decode cX4_count 78 = .ok (.aload_n 0, 1) := by decide +kernel
theorem dX4_count_79 : decode cX4_count 79 = .ok (.getfield 19, 3) := by decide +kernel
theorem dX4_count_82 : decode cX4_count 82 = .ok (.getfield 172, 3) := by decide +kernel
theorem dX4_count_85 : decode cX4_count 85 = .ok (.ireturn, 1) := by decide +kernel
theorem dX4_count_86 : decode cX4_count 86 = .ok (.aload_n 2, 1) := by decide +kernel
theorem dX4_count_87 : decode cX4_count 87 = .ok (.getfield 175, 3) := by decide +kernel
theorem dX4_count_90 : decode cX4_count 90 = .ok (.invokestatic 178, 3) := by decide +kernel
theorem dX4_count_93 : decode cX4_count 93 = .ok (.ireturn, 1) := by decide +kernel
theorem dX4_count_94 : decode cX4_count 94 = .ok (.aload_n 2, 1) := by decide +kernel
theorem dX4_count_95 : decode cX4_count 95 = .ok (.getfield 88, 3) := by decide +kernel
theorem dX4_count_98 : decode cX4_count 98 = .ok (.ireturn, 1) := by decide +kernel
theorem dX4_count_99 : decode cX4_count 99 = .ok (.aload_n 2, 1) := by decide +kernel
theorem dX4_count_100 : decode cX4_count 100 = .ok (.getfield 126, 3) := by decide +kernel
theorem dX4_count_103 : decode cX4_count 103 = .ok (.ifCond .eq 7, 3) := by decide +kernel
theorem dX4_count_106 : decode cX4_count 106 = .ok (.iconst 1, 1) := by decide +kernel
theorem dX4_count_107 : decode cX4_count 107 = .ok (.goto 4, 3) := by decide +kernel
theorem dX4_count_110 : decode cX4_count 110 = .ok (.iconst 0, 1) := by decide +kernel
theorem dX4_count_111 : decode cX4_count 111 = .ok (.ireturn, 1) := by decide +kernel
theorem dX4_count_112 : decode cX4_count 112 = .ok (.aload_n 0, 1) := by decide +kernel
theorem dX4_count_113 : decode cX4_count 113 = .ok (.getfield 19, 3) := by decide +kernel
theorem dX4_count_116 : decode cX4_count 116 = .ok (.getfield 111, 3) := by decide +kernel
theorem dX4_count_119 : decode cX4_count 119 = .ok (.ireturn, 1) := by decide +kernel
theorem dX4_count_120 : decode cX4_count 120 = .ok (.aload_n 2, 1) := by decide +kernel
theorem dX4_count_121 : decode cX4_count 121 = .ok (.invokevirtual 183, 3) := by decide +kernel
theorem dX4_count_124 : decode cX4_count 124 = .ok (.ireturn, 1) := by decide +kernel
theorem dX4_count_125 : decode cX4_count 125 = .ok (.aload_n 0, 1) := by decide +kernel
theorem dX4_count_126 : decode cX4_count 126 = .ok (.getfield 19, 3) := by decide +kernel
theorem dX4_count_129 : decode cX4_count 129 = .ok (.getfield 156, 3) := by decide +kernel
theorem dX4_count_132 : decode cX4_count 132 = .ok (.ireturn, 1) := by decide +kernel
theorem dX4_count_133 : decode cX4_count 133 = .ok (.aload_n 0, 1) := by decide +kernel
theorem dX4_count_134 : decode cX4_count 134 = .ok (.getfield 15, 3) := by decide +kernel
theorem dX4_count_137 : decode cX4_count 137 = .ok (.getfield 39, 3) := by decide +kernel
theorem dX4_count_140 : decode cX4_count 140 = .ok (.ireturn, 1) := by decide +kernel
theorem dX4_count_141 : decode cX4_count 141 = .ok (.aload_n 0, 1) := by decide +kernel
theorem dX4_count_142 : decode cX4_count 142 = .ok (.getfield 59, 3) := by decide +kernel
theorem dX4_count_145 : decode cX4_count 145 = .ok (.ireturn, 1) := by decide +kernel
theorem dX4_count_146 : decode cX4_count 146 = .ok (.bipush (-102), 2) := by decide +kernel
theorem dX4_count_148 : decode cX4_count 148 = .ok (.ireturn, 1) := by decide +kernel
theorem dX4_digest_0 : decode cX4_digest 0 = .ok (.ldc2_w 186, 3) := by decide +kernel
theorem dX4_digest_3 : decode cX4_digest 3 = .ok (.lstore_n 1, 1) := by decide +kernel
theorem dX4_digest_4 : decode cX4_digest 4 = .ok (.aload_n 0, 1) := by decide +kernel
theorem dX4_digest_5 : decode cX4_digest 5 = .ok (.getfield 19, 3) := by decide +kernel
theorem dX4_digest_8 : decode cX4_digest 8 = .ok (.getfield 62, 3) := by decide +kernel
theorem dX4_digest_11 : decode cX4_digest 11 = .ok (.getfield 66, 3) := by decide +kernel
theorem dX4_digest_14 : decode cX4_digest 14 = .ok (.istore_n 3, 1) := by decide +kernel
theorem dX4_digest_15 : decode cX4_digest 15 = .ok (.iconst 0, 1) := by decide +kernel
theorem dX4_digest_16 : decode cX4_digest 16 = .ok (.istore 4, 2) := by decide +kernel
theorem dX4_digest_18 : decode cX4_digest 18 = .ok (.iload 4, 2) := by decide +kernel
theorem dX4_digest_20 : decode cX4_digest 20 = .ok (.iload_n 3, 1) := by decide +kernel
theorem dX4_digest_21 : decode cX4_digest 21 = .ok (.if_icmp .ge 56, 3) := by decide +kernel
theorem dX4_digest_24 : decode cX4_digest 24 = .ok (.iconst 0, 1) := by decide +kernel
theorem dX4_digest_25 : decode cX4_digest 25 = .ok (.istore 5, 2) := by decide +kernel
theorem dX4_digest_27 : decode cX4_digest 27 = .ok (.iload 5, 2) := by decide +kernel
theorem dX4_digest_29 : decode cX4_digest 29 = .ok (.iconst 5, 1) := by decide +kernel
theorem dX4_digest_30 : decode cX4_digest 30 = .ok (.if_icmp .gt 25, 3) := by decide +kernel
theorem dX4_digest_33 : decode cX4_digest 33 = .ok (.ldc2_w 188, 3) := by decide +kernel
theorem dX4_digest_36 : decode cX4_digest 36 = .ok (.lload_n 1, 1) := by decide +kernel
theorem dX4_digest_37 : decode cX4_digest 37 = .ok (.lmul, 1) := by decide +kernel
theorem dX4_digest_38 : decode cX4_digest 38 = .ok (.aload_n 0, 1) := by decide +kernel
theorem dX4_digest_39 : decode cX4_digest 39 = .ok (.iload 4, 2) := by decide +kernel
theorem dX4_digest_41 : decode cX4_digest 41 = .ok (.iload 5, 2) := by decide +kernel
theorem dX4_digest_43 : decode cX4_digest 43 = .ok (.invokevirtual 190, 3) := by decide +kernel
theorem dX4_digest_46 : decode cX4_digest 46 = .ok (.i2l, 1) := by decide +kernel
theorem dX4_digest_47 : decode cX4_digest 47 = .ok (.ladd, 1) := by decide +kernel
theorem dX4_digest_48 : decode cX4_digest 48 = .ok (.lstore_n 1, 1) := by decide +kernel
theorem dX4_digest_49 : decode cX4_digest 49 = .ok (.iinc 5 1, 3) := by decide +kernel
theorem dX4_digest_52 : decode cX4_digest 52 = .ok (.goto (-25), 3) := by decide +kernel
theorem dX4_digest_55 : decode cX4_digest 55 = .ok (.ldc2_w 188, 3) := by decide +kernel
theorem dX4_digest_58 : decode cX4_digest 58 = .ok (.lload_n 1, 1) := by decide +kernel
theorem dX4_digest_59 : decode cX4_digest 59 = .ok (.lmul, 1) := by decide +kernel
theorem dX4_digest_60 : decode cX4_digest 60 = .ok (.aload_n 0, 1) := by decide +kernel
theorem dX4_digest_61 : decode cX4_digest 61 = .ok (.iload 4, 2) := by decide +kernel
theorem dX4_digest_63 : decode cX4_digest 63 = .ok (.bipush 7, 2) := by decide +kernel
theorem dX4_digest_65 : decode cX4_digest 65 = .ok (.invokevirtual 193, 3) := by decide +kernel
theorem dX4_digest_68 : decode cX4_digest 68 = .ok (.i2l, 1) := by decide +kernel
theorem dX4_digest_69 : decode cX4_digest 69 = .ok (.ladd, 1) := by decide +kernel
theorem dX4_digest_70 : decode cX4_digest 70 = .ok (.lstore_n 1, 1) := by decide +kernel
theorem dX4_digest_71 : decode cX4_digest 71 = .ok (.iinc 4 1, 3) := by decide +kernel
theorem dX4_digest_74 : decode cX4_digest 74 = .ok (.goto (-56), 3) := by decide +kernel
theorem dX4_digest_77 : decode cX4_digest 77 = .ok (.iconst 0, 1) := by decide +kernel
theorem dX4_digest_78 : decode cX4_digest 78 = .ok (.istore 4, 2) := by decide +kernel
theorem dX4_digest_80 : decode cX4_digest 80 = .ok (.iload 4, 2) := by decide +kernel
theorem dX4_digest_82 : decode cX4_digest 82 = .ok (.aload_n 0, 1) := by decide +kernel
theorem dX4_digest_83 : decode cX4_digest 83 = .ok (.getfield 19, 3) := by decide +kernel
theorem dX4_digest_86 : decode cX4_digest 86 = .ok (.getfield 172, 3) := by decide +kernel
theorem dX4_digest_89 : decode cX4_digest 89 = .ok (.if_icmp .ge 40, 3) := by decide +kernel
theorem dX4_digest_92 : decode cX4_digest 92 = .ok (.iconst 0, 1) := by decide +kernel
theorem dX4_digest_93 : decode cX4_digest 93 = .ok (.istore 5, 2) := by decide +kernel
theorem dX4_digest_95 : decode cX4_digest 95 = .ok (.iload 5, 2) := by decide +kernel
theorem dX4_digest_97 : decode cX4_digest 97 = .ok (.iconst 2, 1) := by decide +kernel
theorem dX4_digest_98 : decode cX4_digest 98 = .ok (.if_icmp .gt 25, 3) := by decide +kernel
theorem dX4_digest_101 : decode cX4_digest 101 = .ok (.ldc2_w 188, 3) := by decide +kernel
theorem dX4_digest_104 : decode cX4_digest 104 = .ok (.lload_n 1, 1) := by decide +kernel
theorem dX4_digest_105 : decode cX4_digest 105 = .ok (.lmul, 1) := by decide +kernel
theorem dX4_digest_106 : decode cX4_digest 106 = .ok (.aload_n 0, 1) := by decide +kernel
theorem dX4_digest_107 : decode cX4_digest 107 = .ok (.iload 4, 2) := by decide +kernel
theorem dX4_digest_109 : decode cX4_digest 109 = .ok (.iload 5, 2) := by decide +kernel
theorem dX4_digest_111 : decode cX4_digest 111 = .ok (.invokevirtual 196, 3) := by decide +kernel
theorem dX4_digest_114 : decode cX4_digest 114 = .ok (.i2l, 1) := by decide +kernel
theorem dX4_digest_115 : decode cX4_digest 115 = .ok (.ladd, 1) := by decide +kernel
theorem dX4_digest_116 : decode cX4_digest 116 = .ok (.lstore_n 1, 1) := by decide +kernel
theorem dX4_digest_117 : decode cX4_digest 117 = .ok (.iinc 5 1, 3) := by decide +kernel
theorem dX4_digest_120 : decode cX4_digest 120 = .ok (.goto (-25), 3) := by decide +kernel
theorem dX4_digest_123 : decode cX4_digest 123 = .ok (.iinc 4 1, 3) := by decide +kernel
theorem dX4_digest_126 : decode cX4_digest 126 = .ok (.goto (-46), 3) := by decide +kernel
theorem dX4_digest_129 : decode cX4_digest 129 = .ok (.aload_n 0, 1) := by decide +kernel
theorem dX4_digest_130 : decode cX4_digest 130 = .ok (.getfield 19, 3) := by decide +kernel
theorem dX4_digest_133 : decode cX4_digest 133 = .ok (.invokevirtual 123, 3) := by decide +kernel
theorem dX4_digest_136 : decode cX4_digest 136 = .ok (.ifCond .eq 54, 3) := by decide +kernel
theorem dX4_digest_139 : decode cX4_digest 139 = .ok (.ldc2_w 188, 3) := by decide +kernel
theorem dX4_digest_142 : decode cX4_digest 142 = .ok (.lload_n 1, 1) := by decide +kernel
theorem dX4_digest_143 : decode cX4_digest 143 = .ok (.lmul, 1) := by decide +kernel
theorem dX4_digest_144 : decode cX4_digest 144 = .ok (.aload_n 0, 1) := by decide +kernel
theorem dX4_digest_145 : decode cX4_digest 145 = .ok (.iconst 3, 1) := by decide +kernel
theorem dX4_digest_146 : decode cX4_digest 146 = .ok (.invokevirtual 199, 3) := by decide +kernel
theorem dX4_digest_149 : decode cX4_digest 149 = .ok (.i2l, 1) := by decide +kernel
theorem dX4_digest_150 : decode cX4_digest 150 = .ok (.ladd, 1) := by decide +kernel
theorem dX4_digest_151 : decode cX4_digest 151 = .ok (.lstore_n 1, 1) := by decide +kernel
theorem dX4_digest_152 : decode cX4_digest 152 = .ok (.ldc2_w 188, 3) := by decide +kernel
theorem dX4_digest_155 : decode cX4_digest 155 = .ok (.lload_n 1, 1) := by decide +kernel
theorem dX4_digest_156 : decode cX4_digest 156 = .ok (.lmul, 1) := by decide +kernel
theorem dX4_digest_157 : decode cX4_digest 157 = .ok (.aload_n 0, 1) := by decide +kernel
theorem dX4_digest_158 : decode cX4_digest 158 = .ok (.iconst 0, 1) := by decide +kernel
theorem dX4_digest_159 : decode cX4_digest 159 = .ok (.iconst 5, 1) := by decide +kernel
theorem dX4_digest_160 : decode cX4_digest 160 = .ok (.invokevirtual 202, 3) := by decide +kernel
theorem dX4_digest_163 : decode cX4_digest 163 = .ok (.i2l, 1) := by decide +kernel
theorem dX4_digest_164 : decode cX4_digest 164 = .ok (.ladd, 1) := by decide +kernel
theorem dX4_digest_165 : decode cX4_digest 165 = .ok (.lstore_n 1, 1) := by decide +kernel
theorem dX4_digest_166 : decode cX4_digest 166 = .ok (.ldc2_w 188, 3) := by decide +kernel
theorem dX4_digest_169 : decode cX4_digest 169 = .ok (.lload_n 1, 1) := by decide +kernel
theorem dX4_digest_170 : decode cX4_digest 170 = .ok (.lmul, 1) := by decide +kernel
theorem dX4_digest_171 : decode cX4_digest 171 = .ok (.aload_n 0, 1) := by decide +kernel
theorem dX4_digest_172 : decode cX4_digest 172 = .ok (.invokevirtual 205, 3) := by decide +kernel
theorem dX4_digest_175 : decode cX4_digest 175 = .ok (.i2l, 1) := by decide +kernel
theorem dX4_digest_176 : decode cX4_digest 176 = .ok (.ladd, 1) := by decide +kernel
theorem dX4_digest_177 : decode cX4_digest 177 = .ok (.lstore_n 1, 1) := by decide +kernel
theorem dX4_digest_178 : decode cX4_digest 178 = .ok (.ldc2_w 188, 3) := by decide +kernel
theorem dX4_digest_181 : decode cX4_digest 181 = .ok (.lload_n 1, 1) := by decide +kernel
theorem dX4_digest_182 : decode cX4_digest 182 = .ok (.lmul, 1) := by decide +kernel
theorem dX4_digest_183 : decode cX4_digest 183 = .ok (.aload_n 0, 1) := by decide +kernel
theorem dX4_digest_184 : decode cX4_digest 184 = .ok (.invokevirtual 208, 3) := by decide +kernel
theorem dX4_digest_187 : decode cX4_digest 187 = .ok (.i2l, 1) := by decide +kernel
theorem dX4_digest_188 : decode cX4_digest 188 = .ok (.ladd, 1) := by decide +kernel
theorem dX4_digest_189 : decode cX4_digest 189 = .ok (.lstore_n 1, 1) := by decide +kernel
theorem dX4_digest_190 : decode cX4_digest 190 = .ok (.aload_n 0, 1) := by decide +kernel
theorem dX4_digest_191 : decode cX4_digest 191 = .ok (.getfield 19, 3) := by decide +kernel
theorem dX4_digest_194 : decode cX4_digest 194 = .ok (.invokevirtual 123, 3) := by decide +kernel
theorem dX4_digest_197 : decode cX4_digest 197 = .ok (.ifCond .eq 61, 3) := by decide +kernel
theorem dX4_digest_200 : decode cX4_digest 200 = .ok (.aload_n 0, 1) := by decide +kernel
theorem dX4_digest_201 : decode cX4_digest 201 = .ok (.getfield 19, 3) := by decide +kernel
theorem dX4_digest_204 : decode cX4_digest 204 = .ok (.getfield 62, 3) := by decide +kernel
theorem dX4_digest_207 : decode cX4_digest 207 = .ok (.iconst 0, 1) := by decide +kernel
theorem dX4_digest_208 : decode cX4_digest 208 = .ok (.invokevirtual 76, 3) := by decide +kernel
theorem dX4_digest_211 : decode cX4_digest 211 = .ok (.ifCond .eq 47, 3) := by decide +kernel
theorem dX4_digest_214 : decode cX4_digest 214 = .ok (.aload_n 0, 1) := by decide +kernel
theorem dX4_digest_215 : decode cX4_digest 215 = .ok (.getfield 19, 3) := by decide +kernel
theorem dX4_digest_218 : decode cX4_digest 218 = .ok (.getfield 62, 3) := by decide +kernel
theorem dX4_digest_221 : decode cX4_digest 221 = .ok (.iconst 1, 1) := by decide +kernel
theorem dX4_digest_222 : decode cX4_digest 222 = .ok (.invokevirtual 76, 3) := by decide +kernel
theorem dX4_digest_225 : decode cX4_digest 225 = .ok (.ifCond .eq 33, 3) := by decide +kernel
theorem dX4_digest_228 : decode cX4_digest 228 = .ok (.ldc2_w 188, 3) := by decide +kernel
theorem dX4_digest_231 : decode cX4_digest 231 = .ok (.lload_n 1, 1) := by decide +kernel
theorem dX4_digest_232 : decode cX4_digest 232 = .ok (.lmul, 1) := by decide +kernel
theorem dX4_digest_233 : decode cX4_digest 233 = .ok (.aload_n 0, 1) := by decide +kernel
theorem dX4_digest_234 : decode cX4_digest 234 = .ok (.iconst 0, 1) := by decide +kernel
theorem dX4_digest_235 : decode cX4_digest 235 = .ok (.iconst 1, 1) := by decide +kernel
theorem dX4_digest_236 : decode cX4_digest 236 = .ok (.iconst 0, 1) := by decide +kernel
theorem dX4_digest_237 : decode cX4_digest 237 = .ok (.invokevirtual 211, 3) := by decide +kernel
theorem dX4_digest_240 : decode cX4_digest 240 = .ok (.i2l, 1) := by decide +kernel
theorem dX4_digest_241 : decode cX4_digest 241 = .ok (.ladd, 1) := by decide +kernel
theorem dX4_digest_242 : decode cX4_digest 242 = .ok (.lstore_n 1, 1) := by decide +kernel
theorem dX4_digest_243 : decode cX4_digest 243 = .ok (.ldc2_w 188, 3) := by decide +kernel
theorem dX4_digest_246 : decode cX4_digest 246 = .ok (.lload_n 1, 1) := by decide +kernel
theorem dX4_digest_247 : decode cX4_digest 247 = .ok (.lmul, 1) := by decide +kernel
theorem dX4_digest_248 : decode cX4_digest 248 = .ok (.aload_n 0, 1) := by decide +kernel
theorem dX4_digest_249 : decode cX4_digest 249 = .ok (.iconst 0, 1) := by decide +kernel
theorem dX4_digest_250 : decode cX4_digest 250 = .ok (.iconst 1, 1) := by decide +kernel
theorem dX4_digest_251 : decode cX4_digest 251 = .ok (.iconst 1, 1) := by decide +kernel
theorem dX4_digest_252 : decode cX4_digest 252 = .ok (.invokevirtual 211, 3) := by decide +kernel
theorem dX4_digest_255 : decode cX4_digest 255 = .ok (.i2l, 1) := by decide +kernel
theorem dX4_digest_256 : decode cX4_digest 256 = .ok (.ladd, 1) := by decide +kernel
theorem dX4_digest_257 : decode cX4_digest 257 = .ok (.lstore_n 1, 1) := by decide +kernel
theorem dX4_digest_258 : decode cX4_digest 258 = .ok (.iconst 0, 1) := by decide +kernel
theorem dX4_digest_259 : decode cX4_digest 259 = .ok (.istore 4, 2) := by decide +kernel
theorem dX4_digest_261 : decode cX4_digest 261 = .ok (.iload 4, 2) := by decide +kernel
theorem dX4_digest_263 : decode cX4_digest 263 = .ok (.iload_n 3, 1) := by decide +kernel
theorem dX4_digest_264 : decode cX4_digest 264 = .ok (.if_icmp .ge 54, 3) := by decide +kernel
theorem dX4_digest_267 : decode cX4_digest 267 = .ok (.aload_n 0, 1) := by decide +kernel
theorem dX4_digest_268 : decode cX4_digest 268 = .ok (.getfield 19, 3) := by decide +kernel
theorem dX4_digest_271 : decode cX4_digest 271 = .ok (.getfield 62, 3) := by decide +kernel
theorem dX4_digest_274 : decode cX4_digest 274 = .ok (.iload 4, 2) := by decide +kernel
theorem dX4_digest_276 : decode cX4_digest 276 = .ok (.invokevirtual 76, 3) := by decide +kernel
theorem dX4_digest_279 : decode cX4_digest 279 = .ok (.ifCond .eq 33, 3) := by decide +kernel
theorem dX4_digest_282 : decode cX4_digest 282 = .ok (.ldc2_w 188, 3) := by decide +kernel
theorem dX4_digest_285 : decode cX4_digest 285 = .ok (.lload_n 1, 1) := by decide +kernel
theorem dX4_digest_286 : decode cX4_digest 286 = .ok (.lmul, 1) := by decide +kernel
theorem dX4_digest_287 : decode cX4_digest 287 = .ok (.aload_n 0, 1) := by decide +kernel
theorem dX4_digest_288 : decode cX4_digest 288 = .ok (.iload 4, 2) := by decide +kernel
theorem dX4_digest_290 : decode cX4_digest 290 = .ok (.iconst 0, 1) := by decide +kernel
theorem dX4_digest_291 : decode cX4_digest 291 = .ok (.invokevirtual 214, 3) := by decide +kernel
theorem dX4_digest_294 : decode cX4_digest 294 = .ok (.i2l, 1) := by decide +kernel
theorem dX4_digest_295 : decode cX4_digest 295 = .ok (.ladd, 1) := by decide +kernel
theorem dX4_digest_296 : decode cX4_digest 296 = .ok (.lstore_n 1, 1) := by decide +kernel
theorem dX4_digest_297 : decode cX4_digest 297 = .ok (.ldc2_w 188, 3) := by decide +kernel
theorem dX4_digest_300 : decode cX4_digest 300 = .ok (.lload_n 1, 1) := by decide +kernel
theorem dX4_digest_301 : decode cX4_digest 301 = .ok (.lmul, 1) := by decide +kernel
theorem dX4_digest_302 : decode cX4_digest 302 = .ok (.aload_n 0, 1) := by decide +kernel
theorem dX4_digest_303 : decode cX4_digest 303 = .ok (.iload 4, 2) := by decide +kernel
theorem dX4_digest_305 : decode cX4_digest 305 = .ok (.iconst 1, 1) := by decide +kernel
theorem dX4_digest_306 : decode cX4_digest 306 = .ok (.invokevirtual 214, 3) := by decide +kernel
theorem dX4_digest_309 : decode cX4_digest 309 = .ok (.i2l, 1) := by decide +kernel
theorem dX4_digest_310 : decode cX4_digest 310 = .ok (.ladd, 1) := by decide +kernel
theorem dX4_digest_311 : decode cX4_digest 311 = .ok (.lstore_n 1, 1) := by decide +kernel
theorem dX4_digest_312 : decode cX4_digest 312 = .ok (.iinc 4 1, 3) := by decide +kernel
theorem dX4_digest_315 : decode cX4_digest 315 = .ok (.goto (-54), 3) := by decide +kernel
theorem dX4_digest_318 : decode cX4_digest 318 = .ok (.iconst 0, 1) := by decide +kernel
theorem dX4_digest_319 : decode cX4_digest 319 = .ok (.istore 4, 2) := by decide +kernel
theorem dX4_digest_321 : decode cX4_digest 321 = .ok (.iload 4, 2) := by decide +kernel
theorem dX4_digest_323 : decode cX4_digest 323 = .ok (.aload_n 0, 1) := by decide +kernel
theorem dX4_digest_324 : decode cX4_digest 324 = .ok (.getfield 15, 3) := by decide +kernel
theorem dX4_digest_327 : decode cX4_digest 327 = .ok (.getfield 39, 3) := by decide +kernel
theorem dX4_digest_330 : decode cX4_digest 330 = .ok (.if_icmp .ge 40, 3) := by decide +kernel
theorem dX4_digest_333 : decode cX4_digest 333 = .ok (.iload 4, 2) := by decide +kernel
theorem dX4_digest_335 : decode cX4_digest 335 = .ok (.aload_n 0, 1) := by decide +kernel
theorem dX4_digest_336 : decode cX4_digest 336 = .ok (.getfield 15, 3) := by decide +kernel
theorem dX4_digest_339 : decode cX4_digest 339 = .ok (.getfield 217, 3) := by decide +kernel
theorem dX4_digest_342 : decode cX4_digest 342 = .ok (.arraylength, 1) := by decide +kernel
theorem dX4_digest_343 : decode cX4_digest 343 = .ok (.if_icmp .ge 27, 3) := by decide +kernel
theorem dX4_digest_346 : decode cX4_digest 346 = .ok (.ldc2_w 188, 3) := by decide +kernel
theorem dX4_digest_349 : decode cX4_digest 349 = .ok (.lload_n 1, 1) := by decide +kernel
theorem dX4_digest_350 : decode cX4_digest 350 = .ok (.lmul, 1) := by decide +kernel
theorem dX4_digest_351 : decode cX4_digest 351 = .ok (.aload_n 0, 1) := by decide +kernel
theorem dX4_digest_352 : decode cX4_digest 352 = .ok (.getfield 15, 3) := by decide +kernel
theorem dX4_digest_355 : decode cX4_digest 355 = .ok (.getfield 217, 3) := by decide +kernel
theorem dX4_digest_358 : decode cX4_digest 358 = .ok (.iload 4, 2) := by decide +kernel
theorem dX4_digest_360 : decode cX4_digest 360 = .ok (.iaload, 1) := by decide +kernel
theorem dX4_digest_361 : decode cX4_digest 361 = .ok (.i2l, 1) := by decide +kernel
theorem dX4_digest_362 : decode cX4_digest 362 = .ok (.ladd, 1) := by decide +kernel
theorem dX4_digest_363 : decode cX4_digest 363 = .ok (.lstore_n 1, 1) := by decide +kernel
theorem dX4_digest_364 : decode cX4_digest 364 = .ok (.iinc 4 1, 3) := by decide +kernel
theorem dX4_digest_367 : decode cX4_digest 367 = .ok (.goto (-46), 3) := by decide +kernel
theorem dX4_digest_370 : decode cX4_digest 370 = .ok (.iconst 0, 1) := by decide +kernel
theorem dX4_digest_371 : decode cX4_digest 371 = .ok (.istore 4, 2) := by decide +kernel
theorem dX4_digest_373 : decode cX4_digest 373 = .ok (.iload 4, 2) := by decide +kernel
theorem dX4_digest_375 : decode cX4_digest 375 = .ok (.bipush 10, 2) := by decide +kernel
theorem dX4_digest_377 : decode cX4_digest 377 = .ok (.if_icmp .gt 23, 3) := by decide +kernel
theorem dX4_digest_380 : decode cX4_digest 380 = .ok (.ldc2_w 188, 3) := by decide +kernel
theorem dX4_digest_383 : decode cX4_digest 383 = .ok (.lload_n 1, 1) := by decide +kernel
theorem dX4_digest_384 : decode cX4_digest 384 = .ok (.lmul, 1) := by decide +kernel
theorem dX4_digest_385 : decode cX4_digest 385 = .ok (.aload_n 0, 1) := by decide +kernel
theorem dX4_digest_386 : decode cX4_digest 386 = .ok (.iload 4, 2) := by decide +kernel
theorem dX4_digest_388 : decode cX4_digest 388 = .ok (.invokevirtual 220, 3) := by decide +kernel
theorem dX4_digest_391 : decode cX4_digest 391 = .ok (.i2l, 1) := by decide +kernel
theorem dX4_digest_392 : decode cX4_digest 392 = .ok (.ladd, 1) := by decide +kernel
theorem dX4_digest_393 : decode cX4_digest 393 = .ok (.lstore_n 1, 1) := by decide +kernel
theorem dX4_digest_394 : decode cX4_digest 394 = .ok (.iinc 4 1, 3) := by decide +kernel
theorem dX4_digest_397 : decode cX4_digest 397 = .ok (.goto (-24), 3) := by decide +kernel
theorem dX4_digest_400 : decode cX4_digest 400 = .ok (.lload_n 1, 1) := by decide +kernel
theorem dX4_digest_401 : decode cX4_digest 401 = .ok (.lreturn, 1) := by decide +kernel
theorem dX4_isKind_0 : decode cX4_isKind 0 = .ok (.iload_n 0, 1) := by decide +kernel
theorem dX4_isKind_1 : decode cX4_isKind 1 = .ok (.ifCond .lt 12, 3) := by decide +kernel
theorem dX4_isKind_4 : decode cX4_isKind 4 = .ok (.iload_n 0, 1) := by decide +kernel
theorem dX4_isKind_5 : decode cX4_isKind 5 = .ok (.iconst 4, 1) := by decide +kernel
theorem dX4_isKind_6 : decode cX4_isKind 6 = .ok (.if_icmp .gt 7, 3) := by decide +kernel
theorem dX4_isKind_9 : decode cX4_isKind 9 = .ok (.iconst 1, 1) := by decide +kernel
theorem dX4_isKind_10 : decode cX4_isKind 10 = .ok (.goto 4, 3) := by decide +kernel
theorem dX4_isKind_13 : decode cX4_isKind 13 = .ok (.iconst 0, 1) := by decide +kernel
theorem dX4_isKind_14 : decode cX4_isKind 14 = .ok (.ireturn, 1) := by decide +kernel
theorem dX4_isBeats_0 : decode cX4_isBeats 0 = .ok (.iload_n 0, 1) := by decide +kernel
theorem dX4_isBeats_1 : decode cX4_isBeats 1 = .ok (.iconst 1, 1) := by decide +kernel
theorem dX4_isBeats_2 : decode cX4_isBeats 2 = .ok (.if_icmp .lt 13, 3) := by decide +kernel
theorem dX4_isBeats_5 : decode cX4_isBeats 5 = .ok (.iload_n 0, 1) := by decide +kernel
theorem dX4_isBeats_6 : decode cX4_isBeats 6 = .ok (.bipush 99, 2) := by decide +kernel
theorem dX4_isBeats_8 : decode cX4_isBeats 8 = .ok (.if_icmp .gt 7, 3) := by decide +kernel
theorem dX4_isBeats_11 : decode cX4_isBeats 11 = .ok (.iconst 1, 1) := by decide +kernel
theorem dX4_isBeats_12 : decode cX4_isBeats 12 = .ok (.goto 4, 3) := by decide +kernel
theorem dX4_isBeats_15 : decode cX4_isBeats 15 = .ok (.iconst 0, 1) := by decide +kernel
theorem dX4_isBeats_16 : decode cX4_isBeats 16 = .ok (.ireturn, 1) := by decide +kernel
theorem dX5_init_0 : decode cX5_init 0 = .ok (.aload_n 0, 1) := by decide +kernel
theorem dX5_init_1 : decode cX5_init 1 = .ok (.invokespecial 1, 3) := by decide +kernel
theorem dX5_init_4 : decode cX5_init 4 = .ok (.aload_n 0, 1) := by decide +kernel
theorem dX5_init_5 : decode cX5_init 5 = .ok (.iconst 3, 1) := by decide +kernel
theorem dX5_init_6 : decode cX5_init 6 = .ok (.newarray .int, 2) := by decide +kernel
theorem dX5_init_8 : decode cX5_init 8 = .ok (.putfield 7, 3) := by decide +kernel
theorem dX5_init_11 : decode cX5_init 11 = .ok (.aload_n 0, 1) := by decide +kernel
theorem dX5_init_12 : decode cX5_init 12 = .ok (.bipush 9, 2) := by decide +kernel
theorem dX5_init_14 : decode cX5_init 14 = .ok (.newarray .int, 2) := by decide +kernel
theorem dX5_init_16 : decode cX5_init 16 = .ok (.putfield 13, 3) := by decide +kernel
theorem dX5_init_19 : decode cX5_init 19 = .ok (.aload_n 0, 1) := by decide +kernel
theorem dX5_init_20 : decode cX5_init 20 = .ok (.bipush 6, 2) := by decide +kernel
theorem dX5_init_22 : decode cX5_init 22 = .ok (.newarray .int, 2) := by decide +kernel
theorem dX5_init_24 : decode cX5_init 24 = .ok (.putfield 16, 3) := by decide +kernel
theorem dX5_init_27 : decode cX5_init 27 = .ok (.aload_n 0, 1) := by decide +kernel
theorem dX5_init_28 : decode cX5_init 28 = .ok (.bipush 6, 2) := by decide +kernel
theorem dX5_init_30 : decode cX5_init 30 = .ok (.newarray .int, 2) := by decide +kernel
theorem dX5_init_32 : decode cX5_init 32 = .ok (.putfield 19, 3) := by decide +kernel
theorem dX5_init_35 : decode cX5_init 35 = .ok (.aload_n 0, 1) := by decide +kernel
theorem dX5_init_36 : decode cX5_init 36 = .ok (.bipush 20, 2) := by decide +kernel
theorem dX5_init_38 : decode cX5_init 38 = .ok (.newarray .byte, 2) := by decide +kernel
theorem dX5_init_40 : decode cX5_init 40 = .ok (.putfield 22, 3) := by decide +kernel
theorem dX5_init_43 : decode cX5_init 43 = .ok (.aload_n 0, 1) := by decide +kernel
theorem dX5_init_44 : decode cX5_init 44 = .ok (.sipush 2187, 3) := by decide +kernel
theorem dX5_init_47 : decode cX5_init 47 = .ok (.newarray .int, 2) := by decide +kernel
theorem dX5_init_49 : decode cX5_init 49 = .ok (.putfield 26, 3) := by decide +kernel
theorem dX5_init_52 : decode cX5_init 52 = .ok (.aload_n 0, 1) := by decide +kernel
theorem dX5_init_53 : decode cX5_init 53 = .ok (.bipush 8, 2) := by decide +kernel
theorem dX5_init_55 : decode cX5_init 55 = .ok (.newarray .int, 2) := by decide +kernel
theorem dX5_init_57 : decode cX5_init 57 = .ok (.putfield 29, 3) := by decide +kernel
theorem dX5_init_60 : decode cX5_init 60 = .ok (.aload_n 0, 1) := by decide +kernel
theorem dX5_init_61 : decode cX5_init 61 = .ok (.bipush 8, 2) := by decide +kernel
theorem dX5_init_63 : decode cX5_init 63 = .ok (.newarray .int, 2) := by decide +kernel
theorem dX5_init_65 : decode cX5_init 65 = .ok (.putfield 32, 3) := by decide +kernel
theorem dX5_init_68 : decode cX5_init 68 = .ok (.aload_n 0, 1) := by decide +kernel
theorem dX5_init_69 : decode cX5_init 69 = .ok (.bipush 8, 2) := by decide +kernel
theorem dX5_init_71 : decode cX5_init 71 = .ok (.newarray .int, 2) := by decide +kernel
theorem dX5_init_73 : decode cX5_init 73 = .ok (.putfield 35, 3) := by decide +kernel
theorem dX5_init_76 : decode cX5_init 76 = .ok (.aload_n 0, 1) := by decide +kernel
theorem dX5_init_77 : decode cX5_init 77 = .ok (.bipush 8, 2) := by decide +kernel
theorem dX5_init_79 : decode cX5_init 79 = .ok (.newarray .int, 2) := by decide +kernel
theorem dX5_init_81 : decode cX5_init 81 = .ok (.putfield 38, 3) := by decide +kernel
theorem dX5_init_84 : decode cX5_init 84 = .ok (.aload_n 0, 1) := by decide +kernel
theorem dX5_init_85 : decode cX5_init 85 = .ok (.bipush 8, 2) := by decide +kernel
theorem dX5_init_87 : decode cX5_init 87 = .ok (.newarray .int, 2) := by decide +kernel
theorem dX5_init_89 : decode cX5_init 89 = .ok (.putfield 41, 3) := by decide +kernel
theorem dX5_init_92 : decode cX5_init 92 = .ok (.aload_n 0, 1) := by decide +kernel
theorem dX5_init_93 : decode cX5_init 93 = .ok (.bipush 8, 2) := by decide +kernel
theorem dX5_init_95 : decode cX5_init 95 = .ok (.newarray .int, 2) := by decide +kernel
theorem dX5_init_97 : decode cX5_init 97 = .ok (.putfield 44, 3) := by decide +kernel
theorem dX5_init_100 : decode cX5_init 100 = .ok (.aload_n 0, 1) := by decide +kernel
theorem dX5_init_101 : decode cX5_init 101 = .ok (.bipush 24, 2) := by decide +kernel
theorem dX5_init_103 : decode cX5_init 103 = .ok (.newarray .int, 2) := by decide +kernel
theorem dX5_init_105 : decode cX5_init 105 = .ok (.putfield 47, 3) := by decide +kernel
theorem dX5_init_108 : decode cX5_init 108 = .ok (.aload_n 0, 1) := by decide +kernel
theorem dX5_init_109 : decode cX5_init 109 = .ok (.bipush 24, 2) := by decide +kernel
theorem dX5_init_111 : decode cX5_init 111 = .ok (.newarray .int, 2) := by decide +kernel
theorem dX5_init_113 : decode cX5_init 113 = .ok (.putfield 50, 3) := by decide +kernel
theorem dX5_init_116 : decode cX5_init 116 = .ok (.aload_n 0, 1) := by decide +kernel
theorem dX5_init_117 : decode cX5_init 117 = .ok (.bipush 24, 2) := by decide +kernel
theorem dX5_init_119 : decode cX5_init 119 = .ok (.newarray .int, 2) := by decide +kernel
theorem dX5_init_121 : decode cX5_init 121 = .ok (.putfield 53, 3) := by decide +kernel
theorem dX5_init_124 : decode cX5_init 124 = .ok (.aload_n 0, 1) := by decide +kernel
theorem dX5_init_125 : decode cX5_init 125 = .ok (.bipush 24, 2) := by decide +kernel
theorem dX5_init_127 : decode cX5_init 127 = .ok (.newarray .int, 2) := by decide +kernel
theorem dX5_init_129 : decode cX5_init 129 = .ok (.putfield 56, 3) := by decide +kernel
theorem dX5_init_132 : decode cX5_init 132 = .ok (.aload_n 0, 1) := by decide +kernel
theorem dX5_init_133 : decode cX5_init 133 = .ok (.bipush 8, 2) := by decide +kernel
theorem dX5_init_135 : decode cX5_init 135 = .ok (.newarray .int, 2) := by decide +kernel
theorem dX5_init_137 : decode cX5_init 137 = .ok (.putfield 59, 3) := by decide +kernel
theorem dX5_init_140 : decode cX5_init 140 = .ok (.aload_n 0, 1) := by decide +kernel
theorem dX5_init_141 : decode cX5_init 141 = .ok (.bipush 8, 2) := by decide +kernel
theorem dX5_init_143 : decode cX5_init 143 = .ok (.newarray .int, 2) := by decide +kernel
theorem dX5_init_145 : decode cX5_init 145 = .ok (.putfield 62, 3) := by decide +kernel
theorem dX5_init_148 : decode cX5_init 148 = .ok (.aload_n 0, 1) := by decide +kernel
theorem dX5_init_149 : decode cX5_init 149 = .ok (.bipush 8, 2) := by decide +kernel
theorem dX5_init_151 : decode cX5_init 151 = .ok (.newarray .int, 2) := by decide +kernel
theorem dX5_init_153 : decode cX5_init 153 = .ok (.putfield 65, 3) := by decide +kernel
theorem dX5_init_156 : decode cX5_init 156 = .ok (.aload_n 0, 1) := by decide +kernel
theorem dX5_init_157 : decode cX5_init 157 = .ok (.iconst 3, 1) := by decide +kernel
theorem dX5_init_158 : decode cX5_init 158 = .ok (.newarray .int, 2) := by decide +kernel
theorem dX5_init_160 : decode cX5_init 160 = .ok (.putfield 68, 3) := by decide +kernel
theorem dX5_init_163 : decode cX5_init 163 = .ok (.aload_n 0, 1) := by decide +kernel
theorem dX5_init_164 : decode cX5_init 164 = .ok (.bipush 6, 2) := by decide +kernel
theorem dX5_init_166 : decode cX5_init 166 = .ok (.newarray .int, 2) := by decide +kernel
theorem dX5_init_168 : decode cX5_init 168 = .ok (.putfield 71, 3) := by decide +kernel
theorem dX5_init_171 : decode cX5_init 171 = .ok (.aload_n 0, 1) := by decide +kernel
theorem dX5_init_172 : decode cX5_init 172 = .ok (.bipush 6, 2) := by decide +kernel
theorem dX5_init_174 : decode cX5_init 174 = .ok (.newarray .int, 2) := by decide +kernel
theorem dX5_init_176 : decode cX5_init 176 = .ok (.putfield 74, 3) := by decide +kernel
theorem dX5_init_179 : decode cX5_init 179 = .ok (.return_, 1) := by decide +kernel
theorem dX5_within_0 : decode cX5_within 0 = .ok (.iload_n 0, 1) := by decide +kernel
theorem dX5_within_1 : decode cX5_within 1 = .ok (.iload_n 1, 1) := by decide +kernel
theorem dX5_within_2 : decode cX5_within 2 = .ok (.if_icmp .lt 12, 3) := by decide +kernel
theorem dX5_within_5 : decode cX5_within 5 = .ok (.iload_n 0, 1) := by decide +kernel
theorem dX5_within_6 : decode cX5_within 6 = .ok (.iload_n 2, 1) := by decide +kernel
theorem dX5_within_7 : decode cX5_within 7 = .ok (.if_icmp .gt 7, 3) := by decide +kernel
theorem dX5_within_10 : decode cX5_within 10 = .ok (.iconst 1, 1) := by decide +kernel
theorem dX5_within_11 : decode cX5_within 11 = .ok (.goto 4, 3) := by decide +kernel
theorem dX5_within_14 : decode cX5_within 14 = .ok (.iconst 0, 1) := by decide +kernel
theorem dX5_within_15 : decode cX5_within 15 = .ok (.ireturn, 1) := by decide +kernel
theorem dX5_isIn_0 : decode cX5_isIn 0 = .ok (.iload_n 0, 1) := by decide +kernel
theorem dX5_isIn_1 : decode cX5_isIn 1 = .ok (.iload_n 1, 1) := by decide +kernel
theorem dX5_isIn_2 : decode cX5_isIn 2 = .ok (.ishr, 1) := by decide +kernel
theorem dX5_isIn_3 : decode cX5_isIn 3 = .ok (.iconst 1, 1) := by decide +kernel
theorem dX5_isIn_4 : decode cX5_isIn 4 = .ok (.iand, 1) := by decide +kernel
theorem dX5_isIn_5 : decode cX5_isIn 5 = .ok (.iconst 1, 1) := by decide +kernel
theorem dX5_isIn_6 : decode cX5_isIn 6 = .ok (.if_icmp .ne 7, 3) := by decide +kernel
theorem dX5_isIn_9 : decode cX5_isIn 9 = .ok (.iconst 1, 1) := by decide +kernel
theorem dX5_isIn_10 : decode cX5_isIn 10 = .ok (.goto 4, 3) := by decide +kernel
theorem dX5_isIn_13 : decode cX5_isIn 13 = .ok (.iconst 0, 1) := by decide +kernel
theorem dX5_isIn_14 : decode cX5_isIn 14 = .ok (.ireturn, 1) := by decide +kernel
theorem dX5_size_0 : decode cX5_size 0 = .ok (.iconst 0, 1) := by decide +kernel
theorem dX5_size_1 : decode cX5_size 1 = .ok (.istore_n 1, 1) := by decide +kernel
theorem dX5_size_2 : decode cX5_size 2 = .ok (.iconst 0, 1) := by decide +kernel
theorem dX5_size_3 : decode cX5_size 3 = .ok (.istore_n 2, 1) := by decide +kernel
theorem dX5_size_4 : decode cX5_size 4 = .ok (.iload_n 2, 1) := by decide +kernel
theorem dX5_size_5 : decode cX5_size 5 = .ok (.bipush 24, 2) := by decide +kernel
theorem dX5_size_7 : decode cX5_size 7 = .ok (.if_icmp .ge 17, 3) := by decide +kernel
theorem dX5_size_10 : decode cX5_size 10 = .ok (.iload_n 1, 1) := by decide +kernel
theorem dX5_size_11 : decode cX5_size 11 = .ok (.iload_n 0, 1) := by decide +kernel
theorem dX5_size_12 : decode cX5_size 12 = .ok (.iload_n 2, 1) := by decide +kernel
theorem dX5_size_13 : decode cX5_size 13 = .ok (.ishr, 1) := by decide +kernel
theorem dX5_size_14 : decode cX5_size 14 = .ok (.iconst 1, 1) := by decide +kernel
theorem dX5_size_15 : decode cX5_size 15 = .ok (.iand, 1) := by decide +kernel
theorem dX5_size_16 : decode cX5_size 16 = .ok (.iadd, 1) := by decide +kernel
theorem dX5_size_17 : decode cX5_size 17 = .ok (.istore_n 1, 1) := by decide +kernel
theorem dX5_size_18 : decode cX5_size 18 = .ok (.iinc 2 1, 3) := by decide +kernel
theorem dX5_size_21 : decode cX5_size 21 = .ok (.goto (-17), 3) := by decide +kernel
theorem dX5_size_24 : decode cX5_size 24 = .ok (.iload_n 1, 1) := by decide +kernel
theorem dX5_size_25 : decode cX5_size 25 = .ok (.ireturn, 1) := by decide +kernel
theorem dX5_divisor_0 : decode cX5_divisor 0 = .ok (.iload_n 0, 1) := by decide +kernel
theorem dX5_divisor_1 : decode cX5_divisor 1 = .ok (.istore_n 2, 1) := by decide +kernel
theorem dX5_divisor_2 : decode cX5_divisor 2 = .ok (.iload_n 1, 1) := by decide +kernel
theorem dX5_divisor_3 : decode cX5_divisor 3 = .ok (.istore_n 3, 1) := by decide +kernel
theorem dX5_divisor_4 : decode cX5_divisor 4 = .ok (.iload_n 3, 1) := by decide +kernel
theorem dX5_divisor_5 : decode cX5_divisor 5 = .ok (.ifCond .eq 16, 3) := by decide +kernel
theorem dX5_divisor_8 : decode cX5_divisor 8 = .ok (.iload_n 2, 1) := by decide +kernel
theorem dX5_divisor_9 : decode cX5_divisor 9 = .ok (.iload_n 3, 1) := by decide +kernel
theorem dX5_divisor_10 : decode cX5_divisor 10 = .ok (.irem, 1) := by decide +kernel
theorem dX5_divisor_11 : decode cX5_divisor 11 = .ok (.istore 4, 2) := by decide +kernel
theorem dX5_divisor_13 : decode cX5_divisor 13 = .ok (.iload_n 3, 1) := by decide +kernel
theorem dX5_divisor_14 : decode cX5_divisor 14 = .ok (.istore_n 2, 1) := by decide +kernel
theorem dX5_divisor_15 : decode cX5_divisor 15 = .ok (.iload 4, 2) := by decide +kernel
theorem dX5_divisor_17 : decode cX5_divisor 17 = .ok (.istore_n 3, 1) := by decide +kernel
theorem dX5_divisor_18 : decode cX5_divisor 18 = .ok (.goto (-14), 3) := by decide +kernel
theorem dX5_divisor_21 : decode cX5_divisor 21 = .ok (.iload_n 2, 1) := by decide +kernel
theorem dX5_divisor_22 : decode cX5_divisor 22 = .ok (.ireturn, 1) := by decide +kernel
theorem dX5_letter_0 : decode cX5_letter 0 = .ok (.iload_n 1, 1) := by decide +kernel
theorem dX5_letter_1 : decode cX5_letter 1 = .ok (.bipush 32, 2) := by decide +kernel
theorem dX5_letter_3 : decode cX5_letter 3 = .ok (.bipush 126, 2) := by decide +kernel
theorem dX5_letter_5 : decode cX5_letter 5 = .ok (.invokestatic 77, 3) := by decide +kernel
theorem dX5_letter_8 : decode cX5_letter 8 = .ok (.ifCond .ne 6, 3) := by decide +kernel
theorem dX5_letter_11 : decode cX5_letter 11 = .ok (.bipush (-102), 2) := by decide +kernel
theorem dX5_letter_13 : decode cX5_letter 13 = .ok (.ireturn, 1) := by decide +kernel
theorem dX5_letter_14 : decode cX5_letter 14 = .ok (.aload_n 0, 1) := by decide +kernel
theorem dX5_letter_15 : decode cX5_letter 15 = .ok (.getfield 81, 3) := by decide +kernel
theorem dX5_letter_18 : decode cX5_letter 18 = .ok (.bipush 20, 2) := by decide +kernel
theorem dX5_letter_20 : decode cX5_letter 20 = .ok (.if_icmp .ne 6, 3) := by decide +kernel
theorem dX5_letter_23 : decode cX5_letter 23 = .ok (.bipush (-104), 2) := by decide +kernel
theorem dX5_letter_25 : decode cX5_letter 25 = .ok (.ireturn, 1) := by decide +kernel
theorem dX5_letter_26 : decode cX5_letter 26 = .ok (.aload_n 0, 1) := by decide +kernel
theorem dX5_letter_27 : decode cX5_letter 27 = .ok (.getfield 22, 3) := by decide +kernel
theorem dX5_letter_30 : decode cX5_letter 30 = .ok (.aload_n 0, 1) := by decide +kernel
theorem dX5_letter_31 : decode cX5_letter 31 = .ok (.getfield 81, 3) := by decide +kernel
theorem dX5_letter_34 : decode cX5_letter 34 = .ok (.iload_n 1, 1) := by decide +kernel
theorem dX5_letter_35 : decode cX5_letter 35 = .ok (.i2b, 1) := by decide +kernel
theorem dX5_letter_36 : decode cX5_letter 36 = .ok (.bastore, 1) := by decide +kernel
theorem dX5_letter_37 : decode cX5_letter 37 = .ok (.aload_n 0, 1) := by decide +kernel
theorem dX5_letter_38 : decode cX5_letter 38 = .ok (.dup, 1) := by decide +kernel
theorem dX5_letter_39 : decode cX5_letter 39 = .ok (.getfield 81, 3) := by decide +kernel
theorem dX5_letter_42 : decode cX5_letter 42 = .ok (.iconst 1, 1) := by decide +kernel
theorem dX5_letter_43 : decode cX5_letter 43 = .ok (.iadd, 1) := by decide +kernel
theorem dX5_letter_44 : decode cX5_letter 44 = .ok (.putfield 81, 3) := by decide +kernel
theorem dX5_letter_47 : decode cX5_letter 47 = .ok (.aload_n 0, 1) := by decide +kernel
theorem dX5_letter_48 : decode cX5_letter 48 = .ok (.getfield 81, 3) := by decide +kernel
theorem dX5_letter_51 : decode cX5_letter 51 = .ok (.ireturn, 1) := by decide +kernel
theorem dX5_blank_0 : decode cX5_blank 0 = .ok (.aload_n 0, 1) := by decide +kernel
theorem dX5_blank_1 : decode cX5_blank 1 = .ok (.getfield 81, 3) := by decide +kernel
theorem dX5_blank_4 : decode cX5_blank 4 = .ok (.istore_n 1, 1) := by decide +kernel
theorem dX5_blank_5 : decode cX5_blank 5 = .ok (.aload_n 0, 1) := by decide +kernel
theorem dX5_blank_6 : decode cX5_blank 6 = .ok (.iconst 0, 1) := by decide +kernel
theorem dX5_blank_7 : decode cX5_blank 7 = .ok (.putfield 81, 3) := by decide +kernel
theorem dX5_blank_10 : decode cX5_blank 10 = .ok (.iload_n 1, 1) := by decide +kernel
theorem dX5_blank_11 : decode cX5_blank 11 = .ok (.ireturn, 1) := by decide +kernel
theorem dX5_kindBy_0 : decode cX5_kindBy 0 = .ok (.iload_n 0, 1) := by decide +kernel
theorem dX5_kindBy_1 : decode cX5_kindBy 1 = .ok (.lookupswitch 61 #[(98, 55), (99, 51), (107, 59), (115, 57), (116, 53)], 51) := by decide +kernel
theorem dX5_kindBy_52 : decode cX5_kindBy 52 = .ok (.iconst 0, 1) := by decide +kernel
theorem dX5_kindBy_53 : decode cX5_kindBy 53 = .ok (.ireturn, 1) := by decide +kernel
theorem dX5_kindBy_54 : decode cX5_kindBy 54 = .ok (.iconst 1, 1) := by decide +kernel
theorem dX5_kindBy_55 : decode cX5_kindBy 55 = .ok (.ireturn, 1) := by decide +kernel
theorem dX5_kindBy_56 : decode cX5_kindBy 56 = .ok (.iconst 2, 1) := by decide +kernel
theorem dX5_kindBy_57 : decode cX5_kindBy 57 = .ok (.ireturn, 1) := by decide +kernel
theorem dX5_kindBy_58 : decode cX5_kindBy 58 = .ok (.iconst 3, 1) := by decide +kernel
theorem dX5_kindBy_59 : decode cX5_kindBy 59 = .ok (.ireturn, 1) := by decide +kernel
theorem dX5_kindBy_60 : decode cX5_kindBy 60 = .ok (.iconst 4, 1) := by decide +kernel
theorem dX5_kindBy_61 : decode cX5_kindBy 61 = .ok (.ireturn, 1) := by decide +kernel
theorem dX5_kindBy_62 : decode cX5_kindBy 62 = .ok (.iconst (-1), 1) := by decide +kernel
theorem dX5_kindBy_63 : decode cX5_kindBy 63 = .ok (.ireturn, 1) := by decide +kernel
theorem dX5_at_0 : decode cX5_at 0 = .ok (.iload_n 1, 1) := by decide +kernel
theorem dX5_at_1 : decode cX5_at 1 = .ok (.aload_n 0, 1) := by decide +kernel
theorem dX5_at_2 : decode cX5_at 2 = .ok (.getfield 81, 3) := by decide +kernel
theorem dX5_at_5 : decode cX5_at 5 = .ok (.if_icmp .ge 12, 3) := by decide +kernel
theorem dX5_at_8 : decode cX5_at 8 = .ok (.aload_n 0, 1) := by decide +kernel
theorem dX5_at_9 : decode cX5_at 9 = .ok (.getfield 22, 3) := by decide +kernel
theorem dX5_at_12 : decode cX5_at 12 = .ok (.iload_n 1, 1) := by decide +kernel
theorem dX5_at_13 : decode cX5_at 13 = .ok (.baload, 1) := by decide +kernel
theorem dX5_at_14 : decode cX5_at 14 = .ok (.goto 4, 3) := by decide +kernel
theorem dX5_at_17 : decode cX5_at 17 = .ok (.iconst 0, 1) := by decide +kernel
theorem dX5_at_18 : decode cX5_at 18 = .ok (.ireturn, 1) := by decide +kernel
theorem dX5_isFigure_0 : decode cX5_isFigure 0 = .ok (.aload_n 0, 1) := by decide +kernel
theorem dX5_isFigure_1 : decode cX5_isFigure 1 = .ok (.iload_n 1, 1) := by decide +kernel
theorem dX5_isFigure_2 : decode cX5_isFigure 2 = .ok (.invokevirtual 85, 3) := by decide +kernel
theorem dX5_isFigure_5 : decode cX5_isFigure 5 = .ok (.bipush 48, 2) := by decide +kernel
theorem dX5_isFigure_7 : decode cX5_isFigure 7 = .ok (.isub, 1) := by decide +kernel
theorem dX5_isFigure_8 : decode cX5_isFigure 8 = .ok (.iload_n 2, 1) := by decide +kernel
theorem dX5_isFigure_9 : decode cX5_isFigure 9 = .ok (.bipush 9, 2) := by decide +kernel
theorem dX5_isFigure_11 : decode cX5_isFigure 11 = .ok (.invokestatic 77, 3) := by decide +kernel
theorem dX5_isFigure_14 : decode cX5_isFigure 14 = .ok (.ireturn, 1) := by decide +kernel
theorem dX5_readChildren_0 : decode cX5_readChildren 0 = .ok (.iload_n 1, 1) := by decide +kernel
theorem dX5_readChildren_1 : decode cX5_readChildren 1 = .ok (.istore_n 2, 1) := by decide +kernel
theorem dX5_readChildren_2 : decode cX5_readChildren 2 = .ok (.aload_n 0, 1) := by decide +kernel
theorem dX5_readChildren_3 : decode cX5_readChildren 3 = .ok (.getfield 89, 3) := by decide +kernel
theorem dX5_readChildren_6 : decode cX5_readChildren 6 = .ok (.bipush 8, 2) := by decide +kernel
theorem dX5_readChildren_8 : decode cX5_readChildren 8 = .ok (.if_icmp .ge 31, 3) := by decide +kernel
theorem dX5_readChildren_11 : decode cX5_readChildren 11 = .ok (.aload_n 0, 1) := by decide +kernel
theorem dX5_readChildren_12 : decode cX5_readChildren 12 = .ok (.iload_n 2, 1) := by decide +kernel
theorem dX5_readChildren_13 : decode cX5_readChildren 13 = .ok (.invokevirtual 85, 3) := by decide +kernel
theorem dX5_readChildren_16 : decode cX5_readChildren 16 = .ok (.invokestatic 92, 3) := by decide +kernel
theorem dX5_readChildren_19 : decode cX5_readChildren 19 = .ok (.iconst (-1), 1) := by decide +kernel
theorem dX5_readChildren_20 : decode cX5_readChildren 20 = .ok (.if_icmp .eq 19, 3) := by decide +kernel
theorem dX5_readChildren_23 : decode cX5_readChildren 23 = .ok (.aload_n 0, 1) := by decide +kernel
theorem dX5_readChildren_24 : decode cX5_readChildren 24 = .ok (.dup, 1) := by decide +kernel
theorem dX5_readChildren_25 : decode cX5_readChildren 25 = .ok (.getfield 89, 3) := by decide +kernel
theorem dX5_readChildren_28 : decode cX5_readChildren 28 = .ok (.iconst 1, 1) := by decide +kernel
theorem dX5_readChildren_29 : decode cX5_readChildren 29 = .ok (.iadd, 1) := by decide +kernel
theorem dX5_readChildren_30 : decode cX5_readChildren 30 = .ok (.putfield 89, 3) := by decide +kernel
theorem dX5_readChildren_33 : decode cX5_readChildren 33 = .ok (.iinc 2 1, 3) := by decide +kernel
theorem dX5_readChildren_36 : decode cX5_readChildren 36 = .ok (.goto (-34), 3) := by decide +kernel
theorem dX5_readChildren_39 : decode cX5_readChildren 39 = .ok (.aload_n 0, 1) := by decide +kernel
theorem dX5_readChildren_40 : decode cX5_readChildren 40 = .ok (.aload_n 0, 1) := by decide +kernel
theorem dX5_readChildren_41 : decode cX5_readChildren 41 = .ok (.getfield 89, 3) := by decide +kernel
theorem dX5_readChildren_44 : decode cX5_readChildren 44 = .ok (.iconst 1, 1) := by decide +kernel
theorem dX5_readChildren_45 : decode cX5_readChildren 45 = .ok (.if_icmp .le 15, 3) := by decide +kernel
theorem dX5_readChildren_48 : decode cX5_readChildren 48 = .ok (.iload_n 2, 1) := by decide +kernel
theorem dX5_readChildren_49 : decode cX5_readChildren 49 = .ok (.aload_n 0, 1) := by decide +kernel
theorem dX5_readChildren_50 : decode cX5_readChildren 50 = .ok (.getfield 81, 3) := by decide +kernel
theorem dX5_readChildren_53 : decode cX5_readChildren 53 = .ok (.if_icmp .ne 7, 3) := by decide +kernel
theorem dX5_readChildren_56 : decode cX5_readChildren 56 = .ok (.iconst 1, 1) := by decide +kernel
theorem dX5_readChildren_57 : decode cX5_readChildren 57 = .ok (.goto 4, 3) := by decide +kernel
theorem dX5_readChildren_60 : decode cX5_readChildren 60 = .ok (.iconst 0, 1) := by decide +kernel
theorem dX5_readChildren_61 : decode cX5_readChildren 61 = .ok (.putfield 95, 3) := by decide +kernel
theorem dX5_readChildren_64 : decode cX5_readChildren 64 = .ok (.iload_n 2, 1) := by decide +kernel
theorem dX5_readChildren_65 : decode cX5_readChildren 65 = .ok (.ireturn, 1) := by decide +kernel
theorem dX5_read_0 : decode cX5_read 0 = .ok (.aload_n 0, 1) := by decide +kernel
theorem dX5_read_1 : decode cX5_read 1 = .ok (.iconst 0, 1) := by decide +kernel
theorem dX5_read_2 : decode cX5_read 2 = .ok (.putfield 95, 3) := by decide +kernel
theorem dX5_read_5 : decode cX5_read 5 = .ok (.aload_n 0, 1) := by decide +kernel
theorem dX5_read_6 : decode cX5_read 6 = .ok (.iconst 0, 1) := by decide +kernel
theorem dX5_read_7 : decode cX5_read 7 = .ok (.putfield 99, 3) := by decide +kernel
theorem dX5_read_10 : decode cX5_read 10 = .ok (.aload_n 0, 1) := by decide +kernel
theorem dX5_read_11 : decode cX5_read 11 = .ok (.iconst 0, 1) := by decide +kernel
theorem dX5_read_12 : decode cX5_read 12 = .ok (.putfield 89, 3) := by decide +kernel
theorem dX5_read_15 : decode cX5_read 15 = .ok (.iconst 0, 1) := by decide +kernel
theorem dX5_read_16 : decode cX5_read 16 = .ok (.istore_n 1, 1) := by decide +kernel
theorem dX5_read_17 : decode cX5_read 17 = .ok (.aload_n 0, 1) := by decide +kernel
theorem dX5_read_18 : decode cX5_read 18 = .ok (.getfield 99, 3) := by decide +kernel
theorem dX5_read_21 : decode cX5_read 21 = .ok (.iconst 3, 1) := by decide +kernel
theorem dX5_read_22 : decode cX5_read 22 = .ok (.if_icmp .ge 100, 3) := by decide +kernel
theorem dX5_read_25 : decode cX5_read 25 = .ok (.aload_n 0, 1) := by decide +kernel
theorem dX5_read_26 : decode cX5_read 26 = .ok (.iload_n 1, 1) := by decide +kernel
theorem dX5_read_27 : decode cX5_read 27 = .ok (.iconst 0, 1) := by decide +kernel
theorem dX5_read_28 : decode cX5_read 28 = .ok (.invokevirtual 102, 3) := by decide +kernel
theorem dX5_read_31 : decode cX5_read 31 = .ok (.ifCond .ne 5, 3) := by decide +kernel
theorem dX5_read_34 : decode cX5_read 34 = .ok (.iload_n 1, 1) := by decide +kernel
theorem dX5_read_35 : decode cX5_read 35 = .ok (.ireturn, 1) := by decide +kernel
theorem dX5_read_36 : decode cX5_read 36 = .ok (.aload_n 0, 1) := by decide +kernel
theorem dX5_read_37 : decode cX5_read 37 = .ok (.iload_n 1, 1) := by decide +kernel
theorem dX5_read_38 : decode cX5_read 38 = .ok (.iconst 1, 1) := by decide +kernel
theorem dX5_read_39 : decode cX5_read 39 = .ok (.iadd, 1) := by decide +kernel
theorem dX5_read_40 : decode cX5_read 40 = .ok (.aload_n 0, 1) := by decide +kernel
theorem dX5_read_41 : decode cX5_read 41 = .ok (.iload_n 1, 1) := by decide +kernel
theorem dX5_read_42 : decode cX5_read 42 = .ok (.invokevirtual 85, 3) := by decide +kernel
theorem dX5_read_45 : decode cX5_read 45 = .ok (.bipush 48, 2) := by decide +kernel
theorem dX5_read_47 : decode cX5_read 47 = .ok (.if_icmp .ne 7, 3) := by decide +kernel
theorem dX5_read_50 : decode cX5_read 50 = .ok (.iconst 1, 1) := by decide +kernel
theorem dX5_read_51 : decode cX5_read 51 = .ok (.goto 4, 3) := by decide +kernel
theorem dX5_read_54 : decode cX5_read 54 = .ok (.iconst 0, 1) := by decide +kernel
theorem dX5_read_55 : decode cX5_read 55 = .ok (.invokevirtual 102, 3) := by decide +kernel
theorem dX5_read_58 : decode cX5_read 58 = .ok (.ifCond .ne 7, 3) := by decide +kernel
theorem dX5_read_61 : decode cX5_read 61 = .ok (.iload_n 1, 1) := by decide +kernel
theorem dX5_read_62 : decode cX5_read 62 = .ok (.iconst 1, 1) := by decide +kernel
theorem dX5_read_63 : decode cX5_read 63 = .ok (.iadd, 1) := by decide +kernel
theorem dX5_read_64 : decode cX5_read 64 = .ok (.ireturn, 1) := by decide +kernel
theorem dX5_read_65 : decode cX5_read 65 = .ok (.aload_n 0, 1) := by decide +kernel
theorem dX5_read_66 : decode cX5_read 66 = .ok (.dup, 1) := by decide +kernel
theorem dX5_read_67 : decode cX5_read 67 = .ok (.getfield 99, 3) := by decide +kernel
theorem dX5_read_70 : decode cX5_read 70 = .ok (.iconst 1, 1) := by decide +kernel
theorem dX5_read_71 : decode cX5_read 71 = .ok (.iadd, 1) := by decide +kernel
theorem dX5_read_72 : decode cX5_read 72 = .ok (.putfield 99, 3) := by decide +kernel
theorem dX5_read_75 : decode cX5_read 75 = .ok (.iinc 1 2, 3) := by decide +kernel
theorem dX5_read_78 : decode cX5_read 78 = .ok (.aload_n 0, 1) := by decide +kernel
theorem dX5_read_79 : decode cX5_read 79 = .ok (.iload_n 1, 1) := by decide +kernel
theorem dX5_read_80 : decode cX5_read 80 = .ok (.invokevirtual 85, 3) := by decide +kernel
theorem dX5_read_83 : decode cX5_read 83 = .ok (.bipush 59, 2) := by decide +kernel
theorem dX5_read_85 : decode cX5_read 85 = .ok (.if_icmp .ne 11, 3) := by decide +kernel
theorem dX5_read_88 : decode cX5_read 88 = .ok (.aload_n 0, 1) := by decide +kernel
theorem dX5_read_89 : decode cX5_read 89 = .ok (.iload_n 1, 1) := by decide +kernel
theorem dX5_read_90 : decode cX5_read 90 = .ok (.iconst 1, 1) := by decide +kernel
theorem dX5_read_91 : decode cX5_read 91 = .ok (.iadd, 1) := by decide +kernel
theorem dX5_read_92 : decode cX5_read 92 = .ok (.invokevirtual 106, 3) := by decide +kernel
theorem dX5_read_95 : decode cX5_read 95 = .ok (.ireturn, 1) := by decide +kernel
theorem dX5_read_96 : decode cX5_read 96 = .ok (.aload_n 0, 1) := by decide +kernel
theorem dX5_read_97 : decode cX5_read 97 = .ok (.getfield 99, 3) := by decide +kernel
theorem dX5_read_100 : decode cX5_read 100 = .ok (.iconst 3, 1) := by decide +kernel
theorem dX5_read_101 : decode cX5_read 101 = .ok (.if_icmp .eq 13, 3) := by decide +kernel
theorem dX5_read_104 : decode cX5_read 104 = .ok (.aload_n 0, 1) := by decide +kernel
theorem dX5_read_105 : decode cX5_read 105 = .ok (.iload_n 1, 1) := by decide +kernel
theorem dX5_read_106 : decode cX5_read 106 = .ok (.invokevirtual 85, 3) := by decide +kernel
theorem dX5_read_109 : decode cX5_read 109 = .ok (.bipush 44, 2) := by decide +kernel
theorem dX5_read_111 : decode cX5_read 111 = .ok (.if_icmp .eq 5, 3) := by decide +kernel
theorem dX5_read_114 : decode cX5_read 114 = .ok (.iload_n 1, 1) := by decide +kernel
theorem dX5_read_115 : decode cX5_read 115 = .ok (.ireturn, 1) := by decide +kernel
theorem dX5_read_116 : decode cX5_read 116 = .ok (.iinc 1 1, 3) := by decide +kernel
theorem dX5_read_119 : decode cX5_read 119 = .ok (.goto (-102), 3) := by decide +kernel
theorem dX5_read_122 : decode cX5_read 122 = .ok (.iload_n 1, 1) := by decide +kernel
theorem dX5_read_123 : decode cX5_read 123 = .ok (.ireturn, 1) := by decide +kernel
theorem dX5_fault_0 : decode cX5_fault 0 = .ok (.aload_n 0, 1) := by decide +kernel
theorem dX5_fault_1 : decode cX5_fault 1 = .ok (.invokevirtual 109, 3) := by decide +kernel
theorem dX5_fault_4 : decode cX5_fault 4 = .ok (.ireturn, 1) := by decide +kernel
theorem dX5_ring_0 : decode cX5_ring 0 = .ok (.aload_n 0, 1) := by decide +kernel
theorem dX5_ring_1 : decode cX5_ring 1 = .ok (.invokevirtual 109, 3) := by decide +kernel
theorem dX5_ring_4 : decode cX5_ring 4 = .ok (.pop, 1) := by decide +kernel
theorem dX5_ring_5 : decode cX5_ring 5 = .ok (.aload_n 0, 1) := by decide +kernel
theorem dX5_ring_6 : decode cX5_ring 6 = .ok (.getfield 95, 3) := by decide +kernel
theorem dX5_ring_9 : decode cX5_ring 9 = .ok (.ifCond .ne 6, 3) := by decide +kernel
theorem dX5_ring_12 : decode cX5_ring 12 = .ok (.bipush (-103), 2) := by decide +kernel
theorem dX5_ring_14 : decode cX5_ring 14 = .ok (.ireturn, 1) := by decide +kernel
theorem dX5_ring_15 : decode cX5_ring 15 = .ok (.aload_n 0, 1) := by decide +kernel
theorem dX5_ring_16 : decode cX5_ring 16 = .ok (.aload_n 0, 1) := by decide +kernel
theorem dX5_ring_17 : decode cX5_ring 17 = .ok (.getfield 99, 3) := by decide +kernel
theorem dX5_ring_20 : decode cX5_ring 20 = .ok (.putfield 113, 3) := by decide +kernel
theorem dX5_ring_23 : decode cX5_ring 23 = .ok (.aload_n 0, 1) := by decide +kernel
theorem dX5_ring_24 : decode cX5_ring 24 = .ok (.aload_n 0, 1) := by decide +kernel
theorem dX5_ring_25 : decode cX5_ring 25 = .ok (.getfield 89, 3) := by decide +kernel
theorem dX5_ring_28 : decode cX5_ring 28 = .ok (.putfield 116, 3) := by decide +kernel
theorem dX5_ring_31 : decode cX5_ring 31 = .ok (.iconst 0, 1) := by decide +kernel
theorem dX5_ring_32 : decode cX5_ring 32 = .ok (.istore_n 1, 1) := by decide +kernel
theorem dX5_ring_33 : decode cX5_ring 33 = .ok (.iload_n 1, 1) := by decide +kernel
theorem dX5_ring_34 : decode cX5_ring 34 = .ok (.aload_n 0, 1) := by decide +kernel
theorem dX5_ring_35 : decode cX5_ring 35 = .ok (.getfield 113, 3) := by decide +kernel
theorem dX5_ring_38 : decode cX5_ring 38 = .ok (.if_icmp .ge 43, 3) := by decide +kernel
theorem dX5_ring_41 : decode cX5_ring 41 = .ok (.aload_n 0, 1) := by decide +kernel
theorem dX5_ring_42 : decode cX5_ring 42 = .ok (.getfield 7, 3) := by decide +kernel
theorem dX5_ring_45 : decode cX5_ring 45 = .ok (.iload_n 1, 1) := by decide +kernel
theorem dX5_ring_46 : decode cX5_ring 46 = .ok (.bipush 10, 2) := by decide +kernel
theorem dX5_ring_48 : decode cX5_ring 48 = .ok (.aload_n 0, 1) := by decide +kernel
theorem dX5_ring_49 : decode cX5_ring 49 = .ok (.getfield 22, 3) := by decide +kernel
theorem dX5_ring_52 : decode cX5_ring 52 = .ok (.iconst 3, 1) := by decide +kernel
theorem dX5_ring_53 : decode cX5_ring 53 = .ok (.iload_n 1, 1) := by decide +kernel
theorem dX5_ring_54 : decode cX5_ring 54 = .ok (.imul, 1) := by decide +kernel
theorem dX5_ring_55 : decode cX5_ring 55 = .ok (.baload, 1) := by decide +kernel
theorem dX5_ring_56 : decode cX5_ring 56 = .ok (.bipush 48, 2) := by decide +kernel
theorem dX5_ring_58 : decode cX5_ring 58 = .ok (.isub, 1) := by decide +kernel
theorem dX5_ring_59 : decode cX5_ring 59 = .ok (.imul, 1) := by decide +kernel
theorem dX5_ring_60 : decode cX5_ring 60 = .ok (.aload_n 0, 1) := by decide +kernel
theorem dX5_ring_61 : decode cX5_ring 61 = .ok (.getfield 22, 3) := by decide +kernel
theorem dX5_ring_64 : decode cX5_ring 64 = .ok (.iconst 3, 1) := by decide +kernel
theorem dX5_ring_65 : decode cX5_ring 65 = .ok (.iload_n 1, 1) := by decide +kernel
theorem dX5_ring_66 : decode cX5_ring 66 = .ok (.imul, 1) := by decide +kernel
theorem dX5_ring_67 : decode cX5_ring 67 = .ok (.iconst 1, 1) := by decide +kernel
theorem dX5_ring_68 : decode cX5_ring 68 = .ok (.iadd, 1) := by decide +kernel
theorem dX5_ring_69 : decode cX5_ring 69 = .ok (.baload, 1) := by decide +kernel
theorem dX5_ring_70 : decode cX5_ring 70 = .ok (.iadd, 1) := by decide +kernel
theorem dX5_ring_71 : decode cX5_ring 71 = .ok (.bipush 48, 2) := by decide +kernel
theorem dX5_ring_73 : decode cX5_ring 73 = .ok (.isub, 1) := by decide +kernel
theorem dX5_ring_74 : decode cX5_ring 74 = .ok (.iastore, 1) := by decide +kernel
theorem dX5_ring_75 : decode cX5_ring 75 = .ok (.iinc 1 1, 3) := by decide +kernel
theorem dX5_ring_78 : decode cX5_ring 78 = .ok (.goto (-45), 3) := by decide +kernel
theorem dX5_ring_81 : decode cX5_ring 81 = .ok (.iconst 0, 1) := by decide +kernel
theorem dX5_ring_82 : decode cX5_ring 82 = .ok (.istore_n 1, 1) := by decide +kernel
theorem dX5_ring_83 : decode cX5_ring 83 = .ok (.iload_n 1, 1) := by decide +kernel
theorem dX5_ring_84 : decode cX5_ring 84 = .ok (.aload_n 0, 1) := by decide +kernel
theorem dX5_ring_85 : decode cX5_ring 85 = .ok (.getfield 116, 3) := by decide +kernel
theorem dX5_ring_88 : decode cX5_ring 88 = .ok (.if_icmp .ge 31, 3) := by decide +kernel
theorem dX5_ring_91 : decode cX5_ring 91 = .ok (.aload_n 0, 1) := by decide +kernel
theorem dX5_ring_92 : decode cX5_ring 92 = .ok (.getfield 13, 3) := by decide +kernel
theorem dX5_ring_95 : decode cX5_ring 95 = .ok (.iload_n 1, 1) := by decide +kernel
theorem dX5_ring_96 : decode cX5_ring 96 = .ok (.aload_n 0, 1) := by decide +kernel
theorem dX5_ring_97 : decode cX5_ring 97 = .ok (.getfield 22, 3) := by decide +kernel
theorem dX5_ring_100 : decode cX5_ring 100 = .ok (.iconst 3, 1) := by decide +kernel
theorem dX5_ring_101 : decode cX5_ring 101 = .ok (.aload_n 0, 1) := by decide +kernel
theorem dX5_ring_102 : decode cX5_ring 102 = .ok (.getfield 113, 3) := by decide +kernel
theorem dX5_ring_105 : decode cX5_ring 105 = .ok (.imul, 1) := by decide +kernel
theorem dX5_ring_106 : decode cX5_ring 106 = .ok (.iload_n 1, 1) := by decide +kernel
theorem dX5_ring_107 : decode cX5_ring 107 = .ok (.iadd, 1) := by decide +kernel
theorem dX5_ring_108 : decode cX5_ring 108 = .ok (.baload, 1) := by decide +kernel
theorem dX5_ring_109 : decode cX5_ring 109 = .ok (.invokestatic 92, 3) := by decide +kernel
theorem dX5_ring_112 : decode cX5_ring 112 = .ok (.iastore, 1) := by decide +kernel
theorem dX5_ring_113 : decode cX5_ring 113 = .ok (.iinc 1 1, 3) := by decide +kernel
theorem dX5_ring_116 : decode cX5_ring 116 = .ok (.goto (-33), 3) := by decide +kernel
theorem dX5_ring_119 : decode cX5_ring 119 = .ok (.aload_n 0, 1) := by decide +kernel
theorem dX5_ring_120 : decode cX5_ring 120 = .ok (.iconst 1, 1) := by decide +kernel
theorem dX5_ring_121 : decode cX5_ring 121 = .ok (.aload_n 0, 1) := by decide +kernel
theorem dX5_ring_122 : decode cX5_ring 122 = .ok (.getfield 116, 3) := by decide +kernel
theorem dX5_ring_125 : decode cX5_ring 125 = .ok (.ishl, 1) := by decide +kernel
theorem dX5_ring_126 : decode cX5_ring 126 = .ok (.iconst 1, 1) := by decide +kernel
theorem dX5_ring_127 : decode cX5_ring 127 = .ok (.isub, 1) := by decide +kernel
theorem dX5_ring_128 : decode cX5_ring 128 = .ok (.putfield 119, 3) := by decide +kernel
theorem dX5_ring_131 : decode cX5_ring 131 = .ok (.aload_n 0, 1) := by decide +kernel
theorem dX5_ring_132 : decode cX5_ring 132 = .ok (.iconst 0, 1) := by decide +kernel
theorem dX5_ring_133 : decode cX5_ring 133 = .ok (.putfield 122, 3) := by decide +kernel
theorem dX5_ring_136 : decode cX5_ring 136 = .ok (.aload_n 0, 1) := by decide +kernel
theorem dX5_ring_137 : decode cX5_ring 137 = .ok (.iconst 0, 1) := by decide +kernel
theorem dX5_ring_138 : decode cX5_ring 138 = .ok (.putfield 125, 3) := by decide +kernel
theorem dX5_ring_141 : decode cX5_ring 141 = .ok (.aload_n 0, 1) := by decide +kernel
theorem dX5_ring_142 : decode cX5_ring 142 = .ok (.iconst 1, 1) := by decide +kernel
theorem dX5_ring_143 : decode cX5_ring 143 = .ok (.putfield 128, 3) := by decide +kernel
theorem dX5_ring_146 : decode cX5_ring 146 = .ok (.aload_n 0, 1) := by decide +kernel
theorem dX5_ring_147 : decode cX5_ring 147 = .ok (.iconst 0, 1) := by decide +kernel
theorem dX5_ring_148 : decode cX5_ring 148 = .ok (.putfield 131, 3) := by decide +kernel
theorem dX5_ring_151 : decode cX5_ring 151 = .ok (.aload_n 0, 1) := by decide +kernel
theorem dX5_ring_152 : decode cX5_ring 152 = .ok (.dup, 1) := by decide +kernel
theorem dX5_ring_153 : decode cX5_ring 153 = .ok (.getfield 134, 3) := by decide +kernel
theorem dX5_ring_156 : decode cX5_ring 156 = .ok (.iconst 1, 1) := by decide +kernel
theorem dX5_ring_157 : decode cX5_ring 157 = .ok (.iadd, 1) := by decide +kernel
theorem dX5_ring_158 : decode cX5_ring 158 = .ok (.putfield 134, 3) := by decide +kernel
theorem dX5_ring_161 : decode cX5_ring 161 = .ok (.aload_n 0, 1) := by decide +kernel
theorem dX5_ring_162 : decode cX5_ring 162 = .ok (.iconst 0, 1) := by decide +kernel
theorem dX5_ring_163 : decode cX5_ring 163 = .ok (.putfield 137, 3) := by decide +kernel
theorem dX5_ring_166 : decode cX5_ring 166 = .ok (.aload_n 0, 1) := by decide +kernel
theorem dX5_ring_167 : decode cX5_ring 167 = .ok (.iconst 0, 1) := by decide +kernel
theorem dX5_ring_168 : decode cX5_ring 168 = .ok (.putfield 81, 3) := by decide +kernel
theorem dX5_ring_171 : decode cX5_ring 171 = .ok (.aload_n 0, 1) := by decide +kernel
theorem dX5_ring_172 : decode cX5_ring 172 = .ok (.getfield 116, 3) := by decide +kernel
theorem dX5_ring_175 : decode cX5_ring 175 = .ok (.ireturn, 1) := by decide +kernel
theorem dX5_isChild_0 : decode cX5_isChild 0 = .ok (.iload_n 1, 1) := by decide +kernel
theorem dX5_isChild_1 : decode cX5_isChild 1 = .ok (.iconst 0, 1) := by decide +kernel
theorem dX5_isChild_2 : decode cX5_isChild 2 = .ok (.aload_n 0, 1) := by decide +kernel
theorem dX5_isChild_3 : decode cX5_isChild 3 = .ok (.getfield 116, 3) := by decide +kernel
theorem dX5_isChild_6 : decode cX5_isChild 6 = .ok (.iconst 1, 1) := by decide +kernel
theorem dX5_isChild_7 : decode cX5_isChild 7 = .ok (.isub, 1) := by decide +kernel
theorem dX5_isChild_8 : decode cX5_isChild 8 = .ok (.invokestatic 77, 3) := by decide +kernel
theorem dX5_isChild_11 : decode cX5_isChild 11 = .ok (.ireturn, 1) := by decide +kernel
theorem dX5_isVerse_0 : decode cX5_isVerse 0 = .ok (.iload_n 1, 1) := by decide +kernel
theorem dX5_isVerse_1 : decode cX5_isVerse 1 = .ok (.iconst 0, 1) := by decide +kernel
theorem dX5_isVerse_2 : decode cX5_isVerse 2 = .ok (.aload_n 0, 1) := by decide +kernel
theorem dX5_isVerse_3 : decode cX5_isVerse 3 = .ok (.getfield 113, 3) := by decide +kernel
theorem dX5_isVerse_6 : decode cX5_isVerse 6 = .ok (.iconst 1, 1) := by decide +kernel
theorem dX5_isVerse_7 : decode cX5_isVerse 7 = .ok (.isub, 1) := by decide +kernel
theorem dX5_isVerse_8 : decode cX5_isVerse 8 = .ok (.invokestatic 77, 3) := by decide +kernel
theorem dX5_isVerse_11 : decode cX5_isVerse 11 = .ok (.ireturn, 1) := by decide +kernel
theorem dX5_takes_0 : decode cX5_takes 0 = .ok (.iload_n 0, 1) := by decide +kernel
theorem dX5_takes_1 : decode cX5_takes 1 = .ok (.iconst 1, 1) := by decide +kernel
theorem dX5_takes_2 : decode cX5_takes 2 = .ok (.if_icmp .ne 7, 3) := by decide +kernel
theorem dX5_takes_5 : decode cX5_takes 5 = .ok (.iconst 2, 1) := by decide +kernel
theorem dX5_takes_6 : decode cX5_takes 6 = .ok (.goto 13, 3) := by decide +kernel
theorem dX5_takes_9 : decode cX5_takes 9 = .ok (.iload_n 0, 1) := by decide +kernel
theorem dX5_takes_10 : decode cX5_takes 10 = .ok (.iconst 2, 1) := by decide +kernel
theorem dX5_takes_11 : decode cX5_takes 11 = .ok (.if_icmp .ne 7, 3) := by decide +kernel
theorem dX5_takes_14 : decode cX5_takes 14 = .ok (.iconst 0, 1) := by decide +kernel
theorem dX5_takes_15 : decode cX5_takes 15 = .ok (.goto 4, 3) := by decide +kernel
theorem dX5_takes_18 : decode cX5_takes 18 = .ok (.iconst 1, 1) := by decide +kernel
theorem dX5_takes_19 : decode cX5_takes 19 = .ok (.ireturn, 1) := by decide +kernel
theorem dX5_isSly_0 : decode cX5_isSly 0 = .ok (.aload_n 0, 1) := by decide +kernel
theorem dX5_isSly_1 : decode cX5_isSly 1 = .ok (.getfield 13, 3) := by decide +kernel
theorem dX5_isSly_4 : decode cX5_isSly 4 = .ok (.iload_n 1, 1) := by decide +kernel
theorem dX5_isSly_5 : decode cX5_isSly 5 = .ok (.iaload, 1) := by decide +kernel
theorem dX5_isSly_6 : decode cX5_isSly 6 = .ok (.iconst 3, 1) := by decide +kernel
theorem dX5_isSly_7 : decode cX5_isSly 7 = .ok (.if_icmp .eq 13, 3) := by decide +kernel
theorem dX5_isSly_10 : decode cX5_isSly 10 = .ok (.aload_n 0, 1) := by decide +kernel
theorem dX5_isSly_11 : decode cX5_isSly 11 = .ok (.getfield 13, 3) := by decide +kernel
theorem dX5_isSly_14 : decode cX5_isSly 14 = .ok (.iload_n 1, 1) := by decide +kernel
theorem dX5_isSly_15 : decode cX5_isSly 15 = .ok (.iaload, 1) := by decide +kernel
theorem dX5_isSly_16 : decode cX5_isSly 16 = .ok (.iconst 4, 1) := by decide +kernel
theorem dX5_isSly_17 : decode cX5_isSly 17 = .ok (.if_icmp .ne 7, 3) := by decide +kernel
theorem dX5_isSly_20 : decode cX5_isSly 20 = .ok (.iconst 1, 1) := by decide +kernel
theorem dX5_isSly_21 : decode cX5_isSly 21 = .ok (.goto 4, 3) := by decide +kernel
theorem dX5_isSly_24 : decode cX5_isSly 24 = .ok (.iconst 0, 1) := by decide +kernel
theorem dX5_isSly_25 : decode cX5_isSly 25 = .ok (.ireturn, 1) := by decide +kernel
theorem dX5_beatsIn_0 : decode cX5_beatsIn 0 = .ok (.iconst 0, 1) := by decide +kernel
theorem dX5_beatsIn_1 : decode cX5_beatsIn 1 = .ok (.istore_n 1, 1) := by decide +kernel
theorem dX5_beatsIn_2 : decode cX5_beatsIn 2 = .ok (.iconst 0, 1) := by decide +kernel
theorem dX5_beatsIn_3 : decode cX5_beatsIn 3 = .ok (.istore_n 2, 1) := by decide +kernel
theorem dX5_beatsIn_4 : decode cX5_beatsIn 4 = .ok (.iload_n 2, 1) := by decide +kernel
theorem dX5_beatsIn_5 : decode cX5_beatsIn 5 = .ok (.aload_n 0, 1) := by decide +kernel
theorem dX5_beatsIn_6 : decode cX5_beatsIn 6 = .ok (.getfield 116, 3) := by decide +kernel
theorem dX5_beatsIn_9 : decode cX5_beatsIn 9 = .ok (.if_icmp .ge 36, 3) := by decide +kernel
theorem dX5_beatsIn_12 : decode cX5_beatsIn 12 = .ok (.iload_n 1, 1) := by decide +kernel
theorem dX5_beatsIn_13 : decode cX5_beatsIn 13 = .ok (.aload_n 0, 1) := by decide +kernel
theorem dX5_beatsIn_14 : decode cX5_beatsIn 14 = .ok (.getfield 119, 3) := by decide +kernel
theorem dX5_beatsIn_17 : decode cX5_beatsIn 17 = .ok (.iload_n 2, 1) := by decide +kernel
theorem dX5_beatsIn_18 : decode cX5_beatsIn 18 = .ok (.invokestatic 140, 3) := by decide +kernel
theorem dX5_beatsIn_21 : decode cX5_beatsIn 21 = .ok (.ifCond .eq 15, 3) := by decide +kernel
theorem dX5_beatsIn_24 : decode cX5_beatsIn 24 = .ok (.aload_n 0, 1) := by decide +kernel
theorem dX5_beatsIn_25 : decode cX5_beatsIn 25 = .ok (.getfield 13, 3) := by decide +kernel
theorem dX5_beatsIn_28 : decode cX5_beatsIn 28 = .ok (.iload_n 2, 1) := by decide +kernel
theorem dX5_beatsIn_29 : decode cX5_beatsIn 29 = .ok (.iaload, 1) := by decide +kernel
theorem dX5_beatsIn_30 : decode cX5_beatsIn 30 = .ok (.invokestatic 143, 3) := by decide +kernel
theorem dX5_beatsIn_33 : decode cX5_beatsIn 33 = .ok (.goto 4, 3) := by decide +kernel
theorem dX5_beatsIn_36 : decode cX5_beatsIn 36 = .ok (.iconst 0, 1) := by decide +kernel
theorem dX5_beatsIn_37 : decode cX5_beatsIn 37 = .ok (.iadd, 1) := by decide +kernel
theorem dX5_beatsIn_38 : decode cX5_beatsIn 38 = .ok (.istore_n 1, 1) := by decide +kernel
theorem dX5_beatsIn_39 : decode cX5_beatsIn 39 = .ok (.iinc 2 1, 3) := by decide +kernel
theorem dX5_beatsIn_42 : decode cX5_beatsIn 42 = .ok (.goto (-38), 3) := by decide +kernel
theorem dX5_beatsIn_45 : decode cX5_beatsIn 45 = .ok (.iload_n 1, 1) := by decide +kernel
theorem dX5_beatsIn_46 : decode cX5_beatsIn 46 = .ok (.ireturn, 1) := by decide +kernel
theorem dX5_isCount_0 : decode cX5_isCount 0 = .ok (.aload_n 0, 1) := by decide +kernel
theorem dX5_isCount_1 : decode cX5_isCount 1 = .ok (.getfield 119, 3) := by decide +kernel
theorem dX5_isCount_4 : decode cX5_isCount 4 = .ok (.invokestatic 146, 3) := by decide +kernel
theorem dX5_isCount_7 : decode cX5_isCount 7 = .ok (.iconst 1, 1) := by decide +kernel
theorem dX5_isCount_8 : decode cX5_isCount 8 = .ok (.if_icmp .le 14, 3) := by decide +kernel
theorem dX5_isCount_11 : decode cX5_isCount 11 = .ok (.aload_n 0, 1) := by decide +kernel
theorem dX5_isCount_12 : decode cX5_isCount 12 = .ok (.invokevirtual 149, 3) := by decide +kernel
theorem dX5_isCount_15 : decode cX5_isCount 15 = .ok (.ifCond .le 7, 3) := by decide +kernel
theorem dX5_isCount_18 : decode cX5_isCount 18 = .ok (.iconst 1, 1) := by decide +kernel
theorem dX5_isCount_19 : decode cX5_isCount 19 = .ok (.goto 4, 3) := by decide +kernel
theorem dX5_isCount_22 : decode cX5_isCount 22 = .ok (.iconst 0, 1) := by decide +kernel
theorem dX5_isCount_23 : decode cX5_isCount 23 = .ok (.ireturn, 1) := by decide +kernel
theorem dX5_nextFrom_0 : decode cX5_nextFrom 0 = .ok (.iload_n 1, 1) := by decide +kernel
theorem dX5_nextFrom_1 : decode cX5_nextFrom 1 = .ok (.istore_n 3, 1) := by decide +kernel
theorem dX5_nextFrom_2 : decode cX5_nextFrom 2 = .ok (.iconst 0, 1) := by decide +kernel
theorem dX5_nextFrom_3 : decode cX5_nextFrom 3 = .ok (.istore 4, 2) := by decide +kernel
theorem dX5_nextFrom_5 : decode cX5_nextFrom 5 = .ok (.iload 4, 2) := by decide +kernel
theorem dX5_nextFrom_7 : decode cX5_nextFrom 7 = .ok (.ifCond .ne 63, 3) := by decide +kernel
theorem dX5_nextFrom_10 : decode cX5_nextFrom 10 = .ok (.iload_n 3, 1) := by decide +kernel
theorem dX5_nextFrom_11 : decode cX5_nextFrom 11 = .ok (.aload_n 0, 1) := by decide +kernel
theorem dX5_nextFrom_12 : decode cX5_nextFrom 12 = .ok (.getfield 128, 3) := by decide +kernel
theorem dX5_nextFrom_15 : decode cX5_nextFrom 15 = .ok (.ifCond .eq 7, 3) := by decide +kernel
theorem dX5_nextFrom_18 : decode cX5_nextFrom 18 = .ok (.iconst 1, 1) := by decide +kernel
theorem dX5_nextFrom_19 : decode cX5_nextFrom 19 = .ok (.goto 9, 3) := by decide +kernel
theorem dX5_nextFrom_22 : decode cX5_nextFrom 22 = .ok (.aload_n 0, 1) := by decide +kernel
theorem dX5_nextFrom_23 : decode cX5_nextFrom 23 = .ok (.getfield 116, 3) := by decide +kernel
theorem dX5_nextFrom_26 : decode cX5_nextFrom 26 = .ok (.iconst 1, 1) := by decide +kernel
theorem dX5_nextFrom_27 : decode cX5_nextFrom 27 = .ok (.isub, 1) := by decide +kernel
theorem dX5_nextFrom_28 : decode cX5_nextFrom 28 = .ok (.iadd, 1) := by decide +kernel
theorem dX5_nextFrom_29 : decode cX5_nextFrom 29 = .ok (.aload_n 0, 1) := by decide +kernel
theorem dX5_nextFrom_30 : decode cX5_nextFrom 30 = .ok (.getfield 116, 3) := by decide +kernel
theorem dX5_nextFrom_33 : decode cX5_nextFrom 33 = .ok (.irem, 1) := by decide +kernel
theorem dX5_nextFrom_34 : decode cX5_nextFrom 34 = .ok (.istore_n 3, 1) := by decide +kernel
theorem dX5_nextFrom_35 : decode cX5_nextFrom 35 = .ok (.aload_n 0, 1) := by decide +kernel
theorem dX5_nextFrom_36 : decode cX5_nextFrom 36 = .ok (.getfield 119, 3) := by decide +kernel
theorem dX5_nextFrom_39 : decode cX5_nextFrom 39 = .ok (.iload_n 3, 1) := by decide +kernel
theorem dX5_nextFrom_40 : decode cX5_nextFrom 40 = .ok (.invokestatic 140, 3) := by decide +kernel
theorem dX5_nextFrom_43 : decode cX5_nextFrom 43 = .ok (.ifCond .eq 21, 3) := by decide +kernel
theorem dX5_nextFrom_46 : decode cX5_nextFrom 46 = .ok (.iload_n 2, 1) := by decide +kernel
theorem dX5_nextFrom_47 : decode cX5_nextFrom 47 = .ok (.ifCond .eq 13, 3) := by decide +kernel
theorem dX5_nextFrom_50 : decode cX5_nextFrom 50 = .ok (.aload_n 0, 1) := by decide +kernel
theorem dX5_nextFrom_51 : decode cX5_nextFrom 51 = .ok (.getfield 13, 3) := by decide +kernel
theorem dX5_nextFrom_54 : decode cX5_nextFrom 54 = .ok (.iload_n 3, 1) := by decide +kernel
theorem dX5_nextFrom_55 : decode cX5_nextFrom 55 = .ok (.iaload, 1) := by decide +kernel
theorem dX5_nextFrom_56 : decode cX5_nextFrom 56 = .ok (.iconst 2, 1) := by decide +kernel
theorem dX5_nextFrom_57 : decode cX5_nextFrom 57 = .ok (.if_icmp .eq 7, 3) := by decide +kernel
theorem dX5_nextFrom_60 : decode cX5_nextFrom 60 = .ok (.iconst 1, 1) := by decide +kernel
theorem dX5_nextFrom_61 : decode cX5_nextFrom 61 = .ok (.goto 4, 3) := by decide +kernel
theorem dX5_nextFrom_64 : decode cX5_nextFrom 64 = .ok (.iconst 0, 1) := by decide +kernel
theorem dX5_nextFrom_65 : decode cX5_nextFrom 65 = .ok (.istore 4, 2) := by decide +kernel
theorem dX5_nextFrom_67 : decode cX5_nextFrom 67 = .ok (.goto (-62), 3) := by decide +kernel
theorem dX5_nextFrom_70 : decode cX5_nextFrom 70 = .ok (.iload_n 3, 1) := by decide +kernel
theorem dX5_nextFrom_71 : decode cX5_nextFrom 71 = .ok (.ireturn, 1) := by decide +kernel
theorem dX5_isOther_0 : decode cX5_isOther 0 = .ok (.iconst 0, 1) := by decide +kernel
theorem dX5_isOther_1 : decode cX5_isOther 1 = .ok (.istore_n 2, 1) := by decide +kernel
theorem dX5_isOther_2 : decode cX5_isOther 2 = .ok (.iconst 0, 1) := by decide +kernel
theorem dX5_isOther_3 : decode cX5_isOther 3 = .ok (.istore_n 3, 1) := by decide +kernel
theorem dX5_isOther_4 : decode cX5_isOther 4 = .ok (.iload_n 3, 1) := by decide +kernel
theorem dX5_isOther_5 : decode cX5_isOther 5 = .ok (.aload_n 0, 1) := by decide +kernel
theorem dX5_isOther_6 : decode cX5_isOther 6 = .ok (.getfield 116, 3) := by decide +kernel
theorem dX5_isOther_9 : decode cX5_isOther 9 = .ok (.if_icmp .ge 45, 3) := by decide +kernel
theorem dX5_isOther_12 : decode cX5_isOther 12 = .ok (.iload_n 2, 1) := by decide +kernel
theorem dX5_isOther_13 : decode cX5_isOther 13 = .ok (.ifCond .ne 29, 3) := by decide +kernel
theorem dX5_isOther_16 : decode cX5_isOther 16 = .ok (.iload_n 3, 1) := by decide +kernel
theorem dX5_isOther_17 : decode cX5_isOther 17 = .ok (.iload_n 1, 1) := by decide +kernel
theorem dX5_isOther_18 : decode cX5_isOther 18 = .ok (.if_icmp .eq 28, 3) := by decide +kernel
theorem dX5_isOther_21 : decode cX5_isOther 21 = .ok (.aload_n 0, 1) := by decide +kernel
theorem dX5_isOther_22 : decode cX5_isOther 22 = .ok (.getfield 119, 3) := by decide +kernel
theorem dX5_isOther_25 : decode cX5_isOther 25 = .ok (.iload_n 3, 1) := by decide +kernel
theorem dX5_isOther_26 : decode cX5_isOther 26 = .ok (.invokestatic 140, 3) := by decide +kernel
theorem dX5_isOther_29 : decode cX5_isOther 29 = .ok (.ifCond .eq 17, 3) := by decide +kernel
theorem dX5_isOther_32 : decode cX5_isOther 32 = .ok (.aload_n 0, 1) := by decide +kernel
theorem dX5_isOther_33 : decode cX5_isOther 33 = .ok (.getfield 13, 3) := by decide +kernel
theorem dX5_isOther_36 : decode cX5_isOther 36 = .ok (.iload_n 3, 1) := by decide +kernel
theorem dX5_isOther_37 : decode cX5_isOther 37 = .ok (.iaload, 1) := by decide +kernel
theorem dX5_isOther_38 : decode cX5_isOther 38 = .ok (.iconst 2, 1) := by decide +kernel
theorem dX5_isOther_39 : decode cX5_isOther 39 = .ok (.if_icmp .eq 7, 3) := by decide +kernel
theorem dX5_isOther_42 : decode cX5_isOther 42 = .ok (.iconst 1, 1) := by decide +kernel
theorem dX5_isOther_43 : decode cX5_isOther 43 = .ok (.goto 4, 3) := by decide +kernel
theorem dX5_isOther_46 : decode cX5_isOther 46 = .ok (.iconst 0, 1) := by decide +kernel
theorem dX5_isOther_47 : decode cX5_isOther 47 = .ok (.istore_n 2, 1) := by decide +kernel
theorem dX5_isOther_48 : decode cX5_isOther 48 = .ok (.iinc 3 1, 3) := by decide +kernel
theorem dX5_isOther_51 : decode cX5_isOther 51 = .ok (.goto (-47), 3) := by decide +kernel
theorem dX5_isOther_54 : decode cX5_isOther 54 = .ok (.iload_n 2, 1) := by decide +kernel
theorem dX5_isOther_55 : decode cX5_isOther 55 = .ok (.ireturn, 1) := by decide +kernel
theorem dX5_goCount_0 : decode cX5_goCount 0 = .ok (.iload_n 1, 1) := by decide +kernel
theorem dX5_goCount_1 : decode cX5_goCount 1 = .ok (.iconst 1, 1) := by decide +kernel
theorem dX5_goCount_2 : decode cX5_goCount 2 = .ok (.isub, 1) := by decide +kernel
theorem dX5_goCount_3 : decode cX5_goCount 3 = .ok (.aload_n 0, 1) := by decide +kernel
theorem dX5_goCount_4 : decode cX5_goCount 4 = .ok (.invokevirtual 149, 3) := by decide +kernel
theorem dX5_goCount_7 : decode cX5_goCount 7 = .ok (.irem, 1) := by decide +kernel
theorem dX5_goCount_8 : decode cX5_goCount 8 = .ok (.iconst 1, 1) := by decide +kernel
theorem dX5_goCount_9 : decode cX5_goCount 9 = .ok (.iadd, 1) := by decide +kernel
theorem dX5_goCount_10 : decode cX5_goCount 10 = .ok (.istore_n 2, 1) := by decide +kernel
theorem dX5_goCount_11 : decode cX5_goCount 11 = .ok (.aload_n 0, 1) := by decide +kernel
theorem dX5_goCount_12 : decode cX5_goCount 12 = .ok (.getfield 119, 3) := by decide +kernel
theorem dX5_goCount_15 : decode cX5_goCount 15 = .ok (.aload_n 0, 1) := by decide +kernel
theorem dX5_goCount_16 : decode cX5_goCount 16 = .ok (.getfield 125, 3) := by decide +kernel
theorem dX5_goCount_19 : decode cX5_goCount 19 = .ok (.invokestatic 140, 3) := by decide +kernel
theorem dX5_goCount_22 : decode cX5_goCount 22 = .ok (.ifCond .eq 10, 3) := by decide +kernel
theorem dX5_goCount_25 : decode cX5_goCount 25 = .ok (.aload_n 0, 1) := by decide +kernel
theorem dX5_goCount_26 : decode cX5_goCount 26 = .ok (.getfield 125, 3) := by decide +kernel
theorem dX5_goCount_29 : decode cX5_goCount 29 = .ok (.goto 12, 3) := by decide +kernel
theorem dX5_goCount_32 : decode cX5_goCount 32 = .ok (.aload_n 0, 1) := by decide +kernel
theorem dX5_goCount_33 : decode cX5_goCount 33 = .ok (.aload_n 0, 1) := by decide +kernel
theorem dX5_goCount_34 : decode cX5_goCount 34 = .ok (.getfield 125, 3) := by decide +kernel
theorem dX5_goCount_37 : decode cX5_goCount 37 = .ok (.iconst 0, 1) := by decide +kernel
theorem dX5_goCount_38 : decode cX5_goCount 38 = .ok (.invokevirtual 152, 3) := by decide +kernel
theorem dX5_goCount_41 : decode cX5_goCount 41 = .ok (.istore_n 3, 1) := by decide +kernel
theorem dX5_goCount_42 : decode cX5_goCount 42 = .ok (.iload_n 2, 1) := by decide +kernel
theorem dX5_goCount_43 : decode cX5_goCount 43 = .ok (.aload_n 0, 1) := by decide +kernel
theorem dX5_goCount_44 : decode cX5_goCount 44 = .ok (.getfield 13, 3) := by decide +kernel
theorem dX5_goCount_47 : decode cX5_goCount 47 = .ok (.iload_n 3, 1) := by decide +kernel
theorem dX5_goCount_48 : decode cX5_goCount 48 = .ok (.iaload, 1) := by decide +kernel
theorem dX5_goCount_49 : decode cX5_goCount 49 = .ok (.invokestatic 143, 3) := by decide +kernel
theorem dX5_goCount_52 : decode cX5_goCount 52 = .ok (.isub, 1) := by decide +kernel
theorem dX5_goCount_53 : decode cX5_goCount 53 = .ok (.istore_n 2, 1) := by decide +kernel
theorem dX5_goCount_54 : decode cX5_goCount 54 = .ok (.iload_n 2, 1) := by decide +kernel
theorem dX5_goCount_55 : decode cX5_goCount 55 = .ok (.ifCond .gt 15, 3) := by decide +kernel
theorem dX5_goCount_58 : decode cX5_goCount 58 = .ok (.aload_n 0, 1) := by decide +kernel
theorem dX5_goCount_59 : decode cX5_goCount 59 = .ok (.getfield 13, 3) := by decide +kernel
theorem dX5_goCount_62 : decode cX5_goCount 62 = .ok (.iload_n 3, 1) := by decide +kernel
theorem dX5_goCount_63 : decode cX5_goCount 63 = .ok (.iaload, 1) := by decide +kernel
theorem dX5_goCount_64 : decode cX5_goCount 64 = .ok (.invokestatic 143, 3) := by decide +kernel
theorem dX5_goCount_67 : decode cX5_goCount 67 = .ok (.ifCond .ne 25, 3) := by decide +kernel
theorem dX5_goCount_70 : decode cX5_goCount 70 = .ok (.aload_n 0, 1) := by decide +kernel
theorem dX5_goCount_71 : decode cX5_goCount 71 = .ok (.iload_n 3, 1) := by decide +kernel
theorem dX5_goCount_72 : decode cX5_goCount 72 = .ok (.iconst 0, 1) := by decide +kernel
theorem dX5_goCount_73 : decode cX5_goCount 73 = .ok (.invokevirtual 152, 3) := by decide +kernel
theorem dX5_goCount_76 : decode cX5_goCount 76 = .ok (.istore_n 3, 1) := by decide +kernel
theorem dX5_goCount_77 : decode cX5_goCount 77 = .ok (.iload_n 2, 1) := by decide +kernel
theorem dX5_goCount_78 : decode cX5_goCount 78 = .ok (.aload_n 0, 1) := by decide +kernel
theorem dX5_goCount_79 : decode cX5_goCount 79 = .ok (.getfield 13, 3) := by decide +kernel
theorem dX5_goCount_82 : decode cX5_goCount 82 = .ok (.iload_n 3, 1) := by decide +kernel
theorem dX5_goCount_83 : decode cX5_goCount 83 = .ok (.iaload, 1) := by decide +kernel
theorem dX5_goCount_84 : decode cX5_goCount 84 = .ok (.invokestatic 143, 3) := by decide +kernel
theorem dX5_goCount_87 : decode cX5_goCount 87 = .ok (.isub, 1) := by decide +kernel
theorem dX5_goCount_88 : decode cX5_goCount 88 = .ok (.istore_n 2, 1) := by decide +kernel
theorem dX5_goCount_89 : decode cX5_goCount 89 = .ok (.goto (-35), 3) := by decide +kernel
theorem dX5_goCount_92 : decode cX5_goCount 92 = .ok (.aload_n 0, 1) := by decide +kernel
theorem dX5_goCount_93 : decode cX5_goCount 93 = .ok (.iload_n 3, 1) := by decide +kernel
theorem dX5_goCount_94 : decode cX5_goCount 94 = .ok (.invokevirtual 156, 3) := by decide +kernel
theorem dX5_goCount_97 : decode cX5_goCount 97 = .ok (.ifCond .eq 77, 3) := by decide +kernel
theorem dX5_goCount_100 : decode cX5_goCount 100 = .ok (.aload_n 0, 1) := by decide +kernel
theorem dX5_goCount_101 : decode cX5_goCount 101 = .ok (.getfield 122, 3) := by decide +kernel
theorem dX5_goCount_104 : decode cX5_goCount 104 = .ok (.iload_n 3, 1) := by decide +kernel
theorem dX5_goCount_105 : decode cX5_goCount 105 = .ok (.invokestatic 140, 3) := by decide +kernel
theorem dX5_goCount_108 : decode cX5_goCount 108 = .ok (.ifCond .ne 66, 3) := by decide +kernel
theorem dX5_goCount_111 : decode cX5_goCount 111 = .ok (.aload_n 0, 1) := by decide +kernel
theorem dX5_goCount_112 : decode cX5_goCount 112 = .ok (.iload_n 3, 1) := by decide +kernel
theorem dX5_goCount_113 : decode cX5_goCount 113 = .ok (.invokevirtual 160, 3) := by decide +kernel
theorem dX5_goCount_116 : decode cX5_goCount 116 = .ok (.ifCond .eq 58, 3) := by decide +kernel
theorem dX5_goCount_119 : decode cX5_goCount 119 = .ok (.aload_n 0, 1) := by decide +kernel
theorem dX5_goCount_120 : decode cX5_goCount 120 = .ok (.dup, 1) := by decide +kernel
theorem dX5_goCount_121 : decode cX5_goCount 121 = .ok (.getfield 122, 3) := by decide +kernel
theorem dX5_goCount_124 : decode cX5_goCount 124 = .ok (.iconst 1, 1) := by decide +kernel
theorem dX5_goCount_125 : decode cX5_goCount 125 = .ok (.iload_n 3, 1) := by decide +kernel
theorem dX5_goCount_126 : decode cX5_goCount 126 = .ok (.ishl, 1) := by decide +kernel
theorem dX5_goCount_127 : decode cX5_goCount 127 = .ok (.ior, 1) := by decide +kernel
theorem dX5_goCount_128 : decode cX5_goCount 128 = .ok (.putfield 122, 3) := by decide +kernel
theorem dX5_goCount_131 : decode cX5_goCount 131 = .ok (.aload_n 0, 1) := by decide +kernel
theorem dX5_goCount_132 : decode cX5_goCount 132 = .ok (.aload_n 0, 1) := by decide +kernel
theorem dX5_goCount_133 : decode cX5_goCount 133 = .ok (.getfield 13, 3) := by decide +kernel
theorem dX5_goCount_136 : decode cX5_goCount 136 = .ok (.iload_n 3, 1) := by decide +kernel
theorem dX5_goCount_137 : decode cX5_goCount 137 = .ok (.iaload, 1) := by decide +kernel
theorem dX5_goCount_138 : decode cX5_goCount 138 = .ok (.iconst 4, 1) := by decide +kernel
theorem dX5_goCount_139 : decode cX5_goCount 139 = .ok (.if_icmp .ne 18, 3) := by decide +kernel
theorem dX5_goCount_142 : decode cX5_goCount 142 = .ok (.aload_n 0, 1) := by decide +kernel
theorem dX5_goCount_143 : decode cX5_goCount 143 = .ok (.getfield 128, 3) := by decide +kernel
theorem dX5_goCount_146 : decode cX5_goCount 146 = .ok (.ifCond .ne 7, 3) := by decide +kernel
theorem dX5_goCount_149 : decode cX5_goCount 149 = .ok (.iconst 1, 1) := by decide +kernel
theorem dX5_goCount_150 : decode cX5_goCount 150 = .ok (.goto 11, 3) := by decide +kernel
theorem dX5_goCount_153 : decode cX5_goCount 153 = .ok (.iconst 0, 1) := by decide +kernel
theorem dX5_goCount_154 : decode cX5_goCount 154 = .ok (.goto 7, 3) := by decide +kernel
theorem dX5_goCount_157 : decode cX5_goCount 157 = .ok (.aload_n 0, 1) := by decide +kernel
theorem dX5_goCount_158 : decode cX5_goCount 158 = .ok (.getfield 128, 3) := by decide +kernel
theorem dX5_goCount_161 : decode cX5_goCount 161 = .ok (.putfield 128, 3) := by decide +kernel
theorem dX5_goCount_164 : decode cX5_goCount 164 = .ok (.aload_n 0, 1) := by decide +kernel
theorem dX5_goCount_165 : decode cX5_goCount 165 = .ok (.iload_n 3, 1) := by decide +kernel
theorem dX5_goCount_166 : decode cX5_goCount 166 = .ok (.iconst 1, 1) := by decide +kernel
theorem dX5_goCount_167 : decode cX5_goCount 167 = .ok (.invokevirtual 152, 3) := by decide +kernel
theorem dX5_goCount_170 : decode cX5_goCount 170 = .ok (.istore_n 3, 1) := by decide +kernel
theorem dX5_goCount_171 : decode cX5_goCount 171 = .ok (.goto (-79), 3) := by decide +kernel
theorem dX5_goCount_174 : decode cX5_goCount 174 = .ok (.aload_n 0, 1) := by decide +kernel
theorem dX5_goCount_175 : decode cX5_goCount 175 = .ok (.dup, 1) := by decide +kernel
theorem dX5_goCount_176 : decode cX5_goCount 176 = .ok (.getfield 119, 3) := by decide +kernel
theorem dX5_goCount_179 : decode cX5_goCount 179 = .ok (.iconst 1, 1) := by decide +kernel
theorem dX5_goCount_180 : decode cX5_goCount 180 = .ok (.iload_n 3, 1) := by decide +kernel
theorem dX5_goCount_181 : decode cX5_goCount 181 = .ok (.ishl, 1) := by decide +kernel
theorem dX5_goCount_182 : decode cX5_goCount 182 = .ok (.iconst (-1), 1) := by decide +kernel
theorem dX5_goCount_183 : decode cX5_goCount 183 = .ok (.ixor, 1) := by decide +kernel
theorem dX5_goCount_184 : decode cX5_goCount 184 = .ok (.iand, 1) := by decide +kernel
theorem dX5_goCount_185 : decode cX5_goCount 185 = .ok (.putfield 119, 3) := by decide +kernel
theorem dX5_goCount_188 : decode cX5_goCount 188 = .ok (.aload_n 0, 1) := by decide +kernel
theorem dX5_goCount_189 : decode cX5_goCount 189 = .ok (.aload_n 0, 1) := by decide +kernel
theorem dX5_goCount_190 : decode cX5_goCount 190 = .ok (.iload_n 3, 1) := by decide +kernel
theorem dX5_goCount_191 : decode cX5_goCount 191 = .ok (.iconst 0, 1) := by decide +kernel
theorem dX5_goCount_192 : decode cX5_goCount 192 = .ok (.invokevirtual 152, 3) := by decide +kernel
theorem dX5_goCount_195 : decode cX5_goCount 195 = .ok (.putfield 125, 3) := by decide +kernel
theorem dX5_goCount_198 : decode cX5_goCount 198 = .ok (.iload_n 3, 1) := by decide +kernel
theorem dX5_goCount_199 : decode cX5_goCount 199 = .ok (.ireturn, 1) := by decide +kernel
theorem dX5_save_0 : decode cX5_save 0 = .ok (.aload_n 0, 1) := by decide +kernel
theorem dX5_save_1 : decode cX5_save 1 = .ok (.aload_n 0, 1) := by decide +kernel
theorem dX5_save_2 : decode cX5_save 2 = .ok (.getfield 119, 3) := by decide +kernel
theorem dX5_save_5 : decode cX5_save 5 = .ok (.putfield 163, 3) := by decide +kernel
theorem dX5_save_8 : decode cX5_save 8 = .ok (.aload_n 0, 1) := by decide +kernel
theorem dX5_save_9 : decode cX5_save 9 = .ok (.aload_n 0, 1) := by decide +kernel
theorem dX5_save_10 : decode cX5_save 10 = .ok (.getfield 122, 3) := by decide +kernel
theorem dX5_save_13 : decode cX5_save 13 = .ok (.putfield 166, 3) := by decide +kernel
theorem dX5_save_16 : decode cX5_save 16 = .ok (.aload_n 0, 1) := by decide +kernel
theorem dX5_save_17 : decode cX5_save 17 = .ok (.aload_n 0, 1) := by decide +kernel
theorem dX5_save_18 : decode cX5_save 18 = .ok (.getfield 125, 3) := by decide +kernel
theorem dX5_save_21 : decode cX5_save 21 = .ok (.putfield 169, 3) := by decide +kernel
theorem dX5_save_24 : decode cX5_save 24 = .ok (.aload_n 0, 1) := by decide +kernel
theorem dX5_save_25 : decode cX5_save 25 = .ok (.aload_n 0, 1) := by decide +kernel
theorem dX5_save_26 : decode cX5_save 26 = .ok (.getfield 128, 3) := by decide +kernel
theorem dX5_save_29 : decode cX5_save 29 = .ok (.putfield 172, 3) := by decide +kernel
theorem dX5_save_32 : decode cX5_save 32 = .ok (.return_, 1) := by decide +kernel
theorem dX5_load_0 : decode cX5_load 0 = .ok (.aload_n 0, 1) := by decide +kernel
theorem dX5_load_1 : decode cX5_load 1 = .ok (.aload_n 0, 1) := by decide +kernel
theorem dX5_load_2 : decode cX5_load 2 = .ok (.getfield 163, 3) := by decide +kernel
theorem dX5_load_5 : decode cX5_load 5 = .ok (.putfield 119, 3) := by decide +kernel
theorem dX5_load_8 : decode cX5_load 8 = .ok (.aload_n 0, 1) := by decide +kernel
theorem dX5_load_9 : decode cX5_load 9 = .ok (.aload_n 0, 1) := by decide +kernel
theorem dX5_load_10 : decode cX5_load 10 = .ok (.getfield 166, 3) := by decide +kernel
theorem dX5_load_13 : decode cX5_load 13 = .ok (.putfield 122, 3) := by decide +kernel
theorem dX5_load_16 : decode cX5_load 16 = .ok (.aload_n 0, 1) := by decide +kernel
theorem dX5_load_17 : decode cX5_load 17 = .ok (.aload_n 0, 1) := by decide +kernel
theorem dX5_load_18 : decode cX5_load 18 = .ok (.getfield 169, 3) := by decide +kernel
theorem dX5_load_21 : decode cX5_load 21 = .ok (.putfield 125, 3) := by decide +kernel
theorem dX5_load_24 : decode cX5_load 24 = .ok (.aload_n 0, 1) := by decide +kernel
theorem dX5_load_25 : decode cX5_load 25 = .ok (.aload_n 0, 1) := by decide +kernel
theorem dX5_load_26 : decode cX5_load 26 = .ok (.getfield 172, 3) := by decide +kernel
theorem dX5_load_29 : decode cX5_load 29 = .ok (.putfield 128, 3) := by decide +kernel
theorem dX5_load_32 : decode cX5_load 32 = .ok (.return_, 1) := by decide +kernel
theorem dX5_lastNow_0 : decode cX5_lastNow 0 = .ok (.aload_n 0, 1) := by decide +kernel
theorem dX5_lastNow_1 : decode cX5_lastNow 1 = .ok (.invokevirtual 175, 3) := by decide +kernel
theorem dX5_lastNow_4 : decode cX5_lastNow 4 = .ok (.ifCond .eq 12, 3) := by decide +kernel
theorem dX5_lastNow_7 : decode cX5_lastNow 7 = .ok (.aload_n 0, 1) := by decide +kernel
theorem dX5_lastNow_8 : decode cX5_lastNow 8 = .ok (.iload_n 1, 1) := by decide +kernel
theorem dX5_lastNow_9 : decode cX5_lastNow 9 = .ok (.invokevirtual 179, 3) := by decide +kernel
theorem dX5_lastNow_12 : decode cX5_lastNow 12 = .ok (.pop, 1) := by decide +kernel
theorem dX5_lastNow_13 : decode cX5_lastNow 13 = .ok (.goto (-13), 3) := by decide +kernel
theorem dX5_lastNow_16 : decode cX5_lastNow 16 = .ok (.iconst (-1), 1) := by decide +kernel
theorem dX5_lastNow_17 : decode cX5_lastNow 17 = .ok (.istore_n 2, 1) := by decide +kernel
theorem dX5_lastNow_18 : decode cX5_lastNow 18 = .ok (.iconst 0, 1) := by decide +kernel
theorem dX5_lastNow_19 : decode cX5_lastNow 19 = .ok (.istore_n 3, 1) := by decide +kernel
theorem dX5_lastNow_20 : decode cX5_lastNow 20 = .ok (.iload_n 3, 1) := by decide +kernel
theorem dX5_lastNow_21 : decode cX5_lastNow 21 = .ok (.aload_n 0, 1) := by decide +kernel
theorem dX5_lastNow_22 : decode cX5_lastNow 22 = .ok (.getfield 116, 3) := by decide +kernel
theorem dX5_lastNow_25 : decode cX5_lastNow 25 = .ok (.if_icmp .ge 26, 3) := by decide +kernel
theorem dX5_lastNow_28 : decode cX5_lastNow 28 = .ok (.aload_n 0, 1) := by decide +kernel
theorem dX5_lastNow_29 : decode cX5_lastNow 29 = .ok (.getfield 119, 3) := by decide +kernel
theorem dX5_lastNow_32 : decode cX5_lastNow 32 = .ok (.iload_n 3, 1) := by decide +kernel
theorem dX5_lastNow_33 : decode cX5_lastNow 33 = .ok (.invokestatic 140, 3) := by decide +kernel
theorem dX5_lastNow_36 : decode cX5_lastNow 36 = .ok (.ifCond .eq 7, 3) := by decide +kernel
theorem dX5_lastNow_39 : decode cX5_lastNow 39 = .ok (.iload_n 3, 1) := by decide +kernel
theorem dX5_lastNow_40 : decode cX5_lastNow 40 = .ok (.goto 4, 3) := by decide +kernel
theorem dX5_lastNow_43 : decode cX5_lastNow 43 = .ok (.iload_n 2, 1) := by decide +kernel
theorem dX5_lastNow_44 : decode cX5_lastNow 44 = .ok (.istore_n 2, 1) := by decide +kernel
theorem dX5_lastNow_45 : decode cX5_lastNow 45 = .ok (.iinc 3 1, 3) := by decide +kernel
theorem dX5_lastNow_48 : decode cX5_lastNow 48 = .ok (.goto (-28), 3) := by decide +kernel
theorem dX5_lastNow_51 : decode cX5_lastNow 51 = .ok (.aload_n 0, 1) := by decide +kernel
theorem dX5_lastNow_52 : decode cX5_lastNow 52 = .ok (.getfield 119, 3) := by decide +kernel
theorem dX5_lastNow_55 : decode cX5_lastNow 55 = .ok (.invokestatic 146, 3) := by decide +kernel
theorem dX5_lastNow_58 : decode cX5_lastNow 58 = .ok (.iconst 1, 1) := by decide +kernel
theorem dX5_lastNow_59 : decode cX5_lastNow 59 = .ok (.if_icmp .ne 7, 3) := by decide +kernel
theorem dX5_lastNow_62 : decode cX5_lastNow 62 = .ok (.iload_n 2, 1) := by decide +kernel
theorem dX5_lastNow_63 : decode cX5_lastNow 63 = .ok (.goto 4, 3) := by decide +kernel
theorem dX5_lastNow_66 : decode cX5_lastNow 66 = .ok (.iconst (-1), 1) := by decide +kernel
theorem dX5_lastNow_67 : decode cX5_lastNow 67 = .ok (.ireturn, 1) := by decide +kernel
theorem dX5_lastBy_0 : decode cX5_lastBy 0 = .ok (.aload_n 0, 1) := by decide +kernel
theorem dX5_lastBy_1 : decode cX5_lastBy 1 = .ok (.invokevirtual 182, 3) := by decide +kernel
theorem dX5_lastBy_4 : decode cX5_lastBy 4 = .ok (.aload_n 0, 1) := by decide +kernel
theorem dX5_lastBy_5 : decode cX5_lastBy 5 = .ok (.iload_n 1, 1) := by decide +kernel
theorem dX5_lastBy_6 : decode cX5_lastBy 6 = .ok (.invokevirtual 185, 3) := by decide +kernel
theorem dX5_lastBy_9 : decode cX5_lastBy 9 = .ok (.istore_n 2, 1) := by decide +kernel
theorem dX5_lastBy_10 : decode cX5_lastBy 10 = .ok (.aload_n 0, 1) := by decide +kernel
theorem dX5_lastBy_11 : decode cX5_lastBy 11 = .ok (.invokevirtual 188, 3) := by decide +kernel
theorem dX5_lastBy_14 : decode cX5_lastBy 14 = .ok (.iload_n 2, 1) := by decide +kernel
theorem dX5_lastBy_15 : decode cX5_lastBy 15 = .ok (.ireturn, 1) := by decide +kernel
theorem dX5_outBy_0 : decode cX5_outBy 0 = .ok (.aload_n 0, 1) := by decide +kernel
theorem dX5_outBy_1 : decode cX5_outBy 1 = .ok (.invokevirtual 175, 3) := by decide +kernel
theorem dX5_outBy_4 : decode cX5_outBy 4 = .ok (.ifCond .ne 5, 3) := by decide +kernel
theorem dX5_outBy_7 : decode cX5_outBy 7 = .ok (.iconst (-1), 1) := by decide +kernel
theorem dX5_outBy_8 : decode cX5_outBy 8 = .ok (.ireturn, 1) := by decide +kernel
theorem dX5_outBy_9 : decode cX5_outBy 9 = .ok (.aload_n 0, 1) := by decide +kernel
theorem dX5_outBy_10 : decode cX5_outBy 10 = .ok (.invokevirtual 182, 3) := by decide +kernel
theorem dX5_outBy_13 : decode cX5_outBy 13 = .ok (.aload_n 0, 1) := by decide +kernel
theorem dX5_outBy_14 : decode cX5_outBy 14 = .ok (.iload_n 1, 1) := by decide +kernel
theorem dX5_outBy_15 : decode cX5_outBy 15 = .ok (.putfield 125, 3) := by decide +kernel
theorem dX5_outBy_18 : decode cX5_outBy 18 = .ok (.aload_n 0, 1) := by decide +kernel
theorem dX5_outBy_19 : decode cX5_outBy 19 = .ok (.iload_n 2, 1) := by decide +kernel
theorem dX5_outBy_20 : decode cX5_outBy 20 = .ok (.invokevirtual 179, 3) := by decide +kernel
theorem dX5_outBy_23 : decode cX5_outBy 23 = .ok (.istore_n 3, 1) := by decide +kernel
theorem dX5_outBy_24 : decode cX5_outBy 24 = .ok (.aload_n 0, 1) := by decide +kernel
theorem dX5_outBy_25 : decode cX5_outBy 25 = .ok (.invokevirtual 188, 3) := by decide +kernel
theorem dX5_outBy_28 : decode cX5_outBy 28 = .ok (.iload_n 3, 1) := by decide +kernel
theorem dX5_outBy_29 : decode cX5_outBy 29 = .ok (.ireturn, 1) := by decide +kernel
theorem dX5_beatsFor_0 : decode cX5_beatsFor 0 = .ok (.iconst 1, 1) := by decide +kernel
theorem dX5_beatsFor_1 : decode cX5_beatsFor 1 = .ok (.istore_n 2, 1) := by decide +kernel
theorem dX5_beatsFor_2 : decode cX5_beatsFor 2 = .ok (.iload_n 2, 1) := by decide +kernel
theorem dX5_beatsFor_3 : decode cX5_beatsFor 3 = .ok (.bipush 60, 2) := by decide +kernel
theorem dX5_beatsFor_5 : decode cX5_beatsFor 5 = .ok (.if_icmp .gt 20, 3) := by decide +kernel
theorem dX5_beatsFor_8 : decode cX5_beatsFor 8 = .ok (.aload_n 0, 1) := by decide +kernel
theorem dX5_beatsFor_9 : decode cX5_beatsFor 9 = .ok (.iload_n 2, 1) := by decide +kernel
theorem dX5_beatsFor_10 : decode cX5_beatsFor 10 = .ok (.invokevirtual 191, 3) := by decide +kernel
theorem dX5_beatsFor_13 : decode cX5_beatsFor 13 = .ok (.iload_n 1, 1) := by decide +kernel
theorem dX5_beatsFor_14 : decode cX5_beatsFor 14 = .ok (.if_icmp .ne 5, 3) := by decide +kernel
theorem dX5_beatsFor_17 : decode cX5_beatsFor 17 = .ok (.iload_n 2, 1) := by decide +kernel
theorem dX5_beatsFor_18 : decode cX5_beatsFor 18 = .ok (.ireturn, 1) := by decide +kernel
theorem dX5_beatsFor_19 : decode cX5_beatsFor 19 = .ok (.iinc 2 1, 3) := by decide +kernel
theorem dX5_beatsFor_22 : decode cX5_beatsFor 22 = .ok (.goto (-20), 3) := by decide +kernel
theorem dX5_beatsFor_25 : decode cX5_beatsFor 25 = .ok (.iconst (-1), 1) := by decide +kernel
theorem dX5_beatsFor_26 : decode cX5_beatsFor 26 = .ok (.ireturn, 1) := by decide +kernel
theorem dX5_childNow_0 : decode cX5_childNow 0 = .ok (.iload_n 2, 1) := by decide +kernel
theorem dX5_childNow_1 : decode cX5_childNow 1 = .ok (.tableswitch 92 0 4 #[35, 42, 59, 76, 86], 35) := by decide +kernel
theorem dX5_childNow_36 : decode cX5_childNow 36 = .ok (.aload_n 0, 1) := by decide +kernel
theorem dX5_childNow_37 : decode cX5_childNow 37 = .ok (.getfield 13, 3) := by decide +kernel
theorem dX5_childNow_40 : decode cX5_childNow 40 = .ok (.iload_n 1, 1) := by decide +kernel
theorem dX5_childNow_41 : decode cX5_childNow 41 = .ok (.iaload, 1) := by decide +kernel
theorem dX5_childNow_42 : decode cX5_childNow 42 = .ok (.ireturn, 1) := by decide +kernel
theorem dX5_childNow_43 : decode cX5_childNow 43 = .ok (.aload_n 0, 1) := by decide +kernel
theorem dX5_childNow_44 : decode cX5_childNow 44 = .ok (.getfield 119, 3) := by decide +kernel
theorem dX5_childNow_47 : decode cX5_childNow 47 = .ok (.iload_n 1, 1) := by decide +kernel
theorem dX5_childNow_48 : decode cX5_childNow 48 = .ok (.invokestatic 140, 3) := by decide +kernel
theorem dX5_childNow_51 : decode cX5_childNow 51 = .ok (.ifCond .eq 7, 3) := by decide +kernel
theorem dX5_childNow_54 : decode cX5_childNow 54 = .ok (.iconst 1, 1) := by decide +kernel
theorem dX5_childNow_55 : decode cX5_childNow 55 = .ok (.goto 4, 3) := by decide +kernel
theorem dX5_childNow_58 : decode cX5_childNow 58 = .ok (.iconst 0, 1) := by decide +kernel
theorem dX5_childNow_59 : decode cX5_childNow 59 = .ok (.ireturn, 1) := by decide +kernel
theorem dX5_childNow_60 : decode cX5_childNow 60 = .ok (.aload_n 0, 1) := by decide +kernel
theorem dX5_childNow_61 : decode cX5_childNow 61 = .ok (.getfield 122, 3) := by decide +kernel
theorem dX5_childNow_64 : decode cX5_childNow 64 = .ok (.iload_n 1, 1) := by decide +kernel
theorem dX5_childNow_65 : decode cX5_childNow 65 = .ok (.invokestatic 140, 3) := by decide +kernel
theorem dX5_childNow_68 : decode cX5_childNow 68 = .ok (.ifCond .eq 7, 3) := by decide +kernel
theorem dX5_childNow_71 : decode cX5_childNow 71 = .ok (.iconst 1, 1) := by decide +kernel
theorem dX5_childNow_72 : decode cX5_childNow 72 = .ok (.goto 4, 3) := by decide +kernel
theorem dX5_childNow_75 : decode cX5_childNow 75 = .ok (.iconst 0, 1) := by decide +kernel
theorem dX5_childNow_76 : decode cX5_childNow 76 = .ok (.ireturn, 1) := by decide +kernel
theorem dX5_childNow_77 : decode cX5_childNow 77 = .ok (.aload_n 0, 1) := by decide +kernel
theorem dX5_childNow_78 : decode cX5_childNow 78 = .ok (.getfield 13, 3) := by decide +kernel
theorem dX5_childNow_81 : decode cX5_childNow 81 = .ok (.iload_n 1, 1) := by decide +kernel
theorem dX5_childNow_82 : decode cX5_childNow 82 = .ok (.iaload, 1) := by decide +kernel
theorem dX5_childNow_83 : decode cX5_childNow 83 = .ok (.invokestatic 143, 3) := by decide +kernel
theorem dX5_childNow_86 : decode cX5_childNow 86 = .ok (.ireturn, 1) := by decide +kernel
theorem dX5_childNow_87 : decode cX5_childNow 87 = .ok (.aload_n 0, 1) := by decide +kernel
theorem dX5_childNow_88 : decode cX5_childNow 88 = .ok (.iload_n 1, 1) := by decide +kernel
theorem dX5_childNow_89 : decode cX5_childNow 89 = .ok (.invokevirtual 194, 3) := by decide +kernel
theorem dX5_childNow_92 : decode cX5_childNow 92 = .ok (.ireturn, 1) := by decide +kernel
theorem dX5_childNow_93 : decode cX5_childNow 93 = .ok (.aload_n 0, 1) := by decide +kernel
theorem dX5_childNow_94 : decode cX5_childNow 94 = .ok (.getfield 125, 3) := by decide +kernel
theorem dX5_childNow_97 : decode cX5_childNow 97 = .ok (.iload_n 1, 1) := by decide +kernel
theorem dX5_childNow_98 : decode cX5_childNow 98 = .ok (.if_icmp .ne 7, 3) := by decide +kernel
theorem dX5_childNow_101 : decode cX5_childNow 101 = .ok (.iconst 1, 1) := by decide +kernel
theorem dX5_childNow_102 : decode cX5_childNow 102 = .ok (.goto 4, 3) := by decide +kernel
theorem dX5_childNow_105 : decode cX5_childNow 105 = .ok (.iconst 0, 1) := by decide +kernel
theorem dX5_childNow_106 : decode cX5_childNow 106 = .ok (.ireturn, 1) := by decide +kernel
theorem dX5_child_0 : decode cX5_child 0 = .ok (.aload_n 0, 1) := by decide +kernel
theorem dX5_child_1 : decode cX5_child 1 = .ok (.iload_n 1, 1) := by decide +kernel
theorem dX5_child_2 : decode cX5_child 2 = .ok (.invokevirtual 197, 3) := by decide +kernel
theorem dX5_child_5 : decode cX5_child 5 = .ok (.ifCond .ne 8, 3) := by decide +kernel
theorem dX5_child_8 : decode cX5_child 8 = .ok (.bipush (-101), 2) := by decide +kernel
theorem dX5_child_10 : decode cX5_child 10 = .ok (.goto 23, 3) := by decide +kernel
theorem dX5_child_13 : decode cX5_child 13 = .ok (.iload_n 2, 1) := by decide +kernel
theorem dX5_child_14 : decode cX5_child 14 = .ok (.iconst 0, 1) := by decide +kernel
theorem dX5_child_15 : decode cX5_child 15 = .ok (.iconst 5, 1) := by decide +kernel
theorem dX5_child_16 : decode cX5_child 16 = .ok (.invokestatic 77, 3) := by decide +kernel
theorem dX5_child_19 : decode cX5_child 19 = .ok (.ifCond .eq 12, 3) := by decide +kernel
theorem dX5_child_22 : decode cX5_child 22 = .ok (.aload_n 0, 1) := by decide +kernel
theorem dX5_child_23 : decode cX5_child 23 = .ok (.iload_n 1, 1) := by decide +kernel
theorem dX5_child_24 : decode cX5_child 24 = .ok (.iload_n 2, 1) := by decide +kernel
theorem dX5_child_25 : decode cX5_child 25 = .ok (.invokevirtual 200, 3) := by decide +kernel
theorem dX5_child_28 : decode cX5_child 28 = .ok (.goto 5, 3) := by decide +kernel
theorem dX5_child_31 : decode cX5_child 31 = .ok (.bipush (-102), 2) := by decide +kernel
theorem dX5_child_33 : decode cX5_child 33 = .ok (.ireturn, 1) := by decide +kernel
theorem dX5_as_0 : decode cX5_as 0 = .ok (.aload_n 0, 1) := by decide +kernel
theorem dX5_as_1 : decode cX5_as 1 = .ok (.iload_n 1, 1) := by decide +kernel
theorem dX5_as_2 : decode cX5_as 2 = .ok (.invokevirtual 197, 3) := by decide +kernel
theorem dX5_as_5 : decode cX5_as 5 = .ok (.ifCond .ne 6, 3) := by decide +kernel
theorem dX5_as_8 : decode cX5_as 8 = .ok (.bipush (-101), 2) := by decide +kernel
theorem dX5_as_10 : decode cX5_as 10 = .ok (.ireturn, 1) := by decide +kernel
theorem dX5_as_11 : decode cX5_as 11 = .ok (.iload_n 2, 1) := by decide +kernel
theorem dX5_as_12 : decode cX5_as 12 = .ok (.iconst 0, 1) := by decide +kernel
theorem dX5_as_13 : decode cX5_as 13 = .ok (.iconst 4, 1) := by decide +kernel
theorem dX5_as_14 : decode cX5_as 14 = .ok (.invokestatic 77, 3) := by decide +kernel
theorem dX5_as_17 : decode cX5_as 17 = .ok (.ifCond .ne 6, 3) := by decide +kernel
theorem dX5_as_20 : decode cX5_as 20 = .ok (.bipush (-102), 2) := by decide +kernel
theorem dX5_as_22 : decode cX5_as 22 = .ok (.ireturn, 1) := by decide +kernel
theorem dX5_as_23 : decode cX5_as 23 = .ok (.aload_n 0, 1) := by decide +kernel
theorem dX5_as_24 : decode cX5_as 24 = .ok (.getfield 13, 3) := by decide +kernel
theorem dX5_as_27 : decode cX5_as 27 = .ok (.iload_n 1, 1) := by decide +kernel
theorem dX5_as_28 : decode cX5_as 28 = .ok (.iaload, 1) := by decide +kernel
theorem dX5_as_29 : decode cX5_as 29 = .ok (.istore_n 3, 1) := by decide +kernel
theorem dX5_as_30 : decode cX5_as 30 = .ok (.iload_n 2, 1) := by decide +kernel
theorem dX5_as_31 : decode cX5_as 31 = .ok (.ifCond .eq 18, 3) := by decide +kernel
theorem dX5_as_34 : decode cX5_as 34 = .ok (.iload_n 3, 1) := by decide +kernel
theorem dX5_as_35 : decode cX5_as 35 = .ok (.iload_n 2, 1) := by decide +kernel
theorem dX5_as_36 : decode cX5_as 36 = .ok (.if_icmp .eq 13, 3) := by decide +kernel
theorem dX5_as_39 : decode cX5_as 39 = .ok (.iload_n 2, 1) := by decide +kernel
theorem dX5_as_40 : decode cX5_as 40 = .ok (.iconst 3, 1) := by decide +kernel
theorem dX5_as_41 : decode cX5_as 41 = .ok (.if_icmp .ne 12, 3) := by decide +kernel
theorem dX5_as_44 : decode cX5_as 44 = .ok (.iload_n 3, 1) := by decide +kernel
theorem dX5_as_45 : decode cX5_as 45 = .ok (.iconst 4, 1) := by decide +kernel
theorem dX5_as_46 : decode cX5_as 46 = .ok (.if_icmp .ne 7, 3) := by decide +kernel
theorem dX5_as_49 : decode cX5_as 49 = .ok (.iload_n 1, 1) := by decide +kernel
theorem dX5_as_50 : decode cX5_as 50 = .ok (.goto 4, 3) := by decide +kernel
theorem dX5_as_53 : decode cX5_as 53 = .ok (.iconst (-1), 1) := by decide +kernel
theorem dX5_as_54 : decode cX5_as 54 = .ok (.ireturn, 1) := by decide +kernel
theorem dX5_verseNow_0 : decode cX5_verseNow 0 = .ok (.iload_n 2, 1) := by decide +kernel
theorem dX5_verseNow_1 : decode cX5_verseNow 1 = .ok (.ifCond .ne 12, 3) := by decide +kernel
theorem dX5_verseNow_4 : decode cX5_verseNow 4 = .ok (.aload_n 0, 1) := by decide +kernel
theorem dX5_verseNow_5 : decode cX5_verseNow 5 = .ok (.getfield 7, 3) := by decide +kernel
theorem dX5_verseNow_8 : decode cX5_verseNow 8 = .ok (.iload_n 1, 1) := by decide +kernel
theorem dX5_verseNow_9 : decode cX5_verseNow 9 = .ok (.iaload, 1) := by decide +kernel
theorem dX5_verseNow_10 : decode cX5_verseNow 10 = .ok (.goto 35, 3) := by decide +kernel
theorem dX5_verseNow_13 : decode cX5_verseNow 13 = .ok (.iload_n 2, 1) := by decide +kernel
theorem dX5_verseNow_14 : decode cX5_verseNow 14 = .ok (.iconst 1, 1) := by decide +kernel
theorem dX5_verseNow_15 : decode cX5_verseNow 15 = .ok (.if_icmp .ne 20, 3) := by decide +kernel
theorem dX5_verseNow_18 : decode cX5_verseNow 18 = .ok (.aload_n 0, 1) := by decide +kernel
theorem dX5_verseNow_19 : decode cX5_verseNow 19 = .ok (.aload_n 0, 1) := by decide +kernel
theorem dX5_verseNow_20 : decode cX5_verseNow 20 = .ok (.getfield 125, 3) := by decide +kernel
theorem dX5_verseNow_23 : decode cX5_verseNow 23 = .ok (.aload_n 0, 1) := by decide +kernel
theorem dX5_verseNow_24 : decode cX5_verseNow 24 = .ok (.getfield 7, 3) := by decide +kernel
theorem dX5_verseNow_27 : decode cX5_verseNow 27 = .ok (.iload_n 1, 1) := by decide +kernel
theorem dX5_verseNow_28 : decode cX5_verseNow 28 = .ok (.iaload, 1) := by decide +kernel
theorem dX5_verseNow_29 : decode cX5_verseNow 29 = .ok (.invokevirtual 204, 3) := by decide +kernel
theorem dX5_verseNow_32 : decode cX5_verseNow 32 = .ok (.goto 13, 3) := by decide +kernel
theorem dX5_verseNow_35 : decode cX5_verseNow 35 = .ok (.aload_n 0, 1) := by decide +kernel
theorem dX5_verseNow_36 : decode cX5_verseNow 36 = .ok (.aload_n 0, 1) := by decide +kernel
theorem dX5_verseNow_37 : decode cX5_verseNow 37 = .ok (.getfield 7, 3) := by decide +kernel
theorem dX5_verseNow_40 : decode cX5_verseNow 40 = .ok (.iload_n 1, 1) := by decide +kernel
theorem dX5_verseNow_41 : decode cX5_verseNow 41 = .ok (.iaload, 1) := by decide +kernel
theorem dX5_verseNow_42 : decode cX5_verseNow 42 = .ok (.invokevirtual 191, 3) := by decide +kernel
theorem dX5_verseNow_45 : decode cX5_verseNow 45 = .ok (.ireturn, 1) := by decide +kernel
theorem dX5_verse_0 : decode cX5_verse 0 = .ok (.aload_n 0, 1) := by decide +kernel
theorem dX5_verse_1 : decode cX5_verse 1 = .ok (.iload_n 1, 1) := by decide +kernel
theorem dX5_verse_2 : decode cX5_verse 2 = .ok (.invokevirtual 207, 3) := by decide +kernel
theorem dX5_verse_5 : decode cX5_verse 5 = .ok (.ifCond .ne 8, 3) := by decide +kernel
theorem dX5_verse_8 : decode cX5_verse 8 = .ok (.bipush (-101), 2) := by decide +kernel
theorem dX5_verse_10 : decode cX5_verse 10 = .ok (.goto 23, 3) := by decide +kernel
theorem dX5_verse_13 : decode cX5_verse 13 = .ok (.iload_n 2, 1) := by decide +kernel
theorem dX5_verse_14 : decode cX5_verse 14 = .ok (.iconst 0, 1) := by decide +kernel
theorem dX5_verse_15 : decode cX5_verse 15 = .ok (.iconst 2, 1) := by decide +kernel
theorem dX5_verse_16 : decode cX5_verse 16 = .ok (.invokestatic 77, 3) := by decide +kernel
theorem dX5_verse_19 : decode cX5_verse 19 = .ok (.ifCond .eq 12, 3) := by decide +kernel
theorem dX5_verse_22 : decode cX5_verse 22 = .ok (.aload_n 0, 1) := by decide +kernel
theorem dX5_verse_23 : decode cX5_verse 23 = .ok (.iload_n 1, 1) := by decide +kernel
theorem dX5_verse_24 : decode cX5_verse 24 = .ok (.iload_n 2, 1) := by decide +kernel
theorem dX5_verse_25 : decode cX5_verse 25 = .ok (.invokevirtual 210, 3) := by decide +kernel
theorem dX5_verse_28 : decode cX5_verse 28 = .ok (.goto 5, 3) := by decide +kernel
theorem dX5_verse_31 : decode cX5_verse 31 = .ok (.bipush (-102), 2) := by decide +kernel
theorem dX5_verse_33 : decode cX5_verse 33 = .ok (.ireturn, 1) := by decide +kernel
theorem dX5_say_0 : decode cX5_say 0 = .ok (.aload_n 0, 1) := by decide +kernel
theorem dX5_say_1 : decode cX5_say 1 = .ok (.iload_n 1, 1) := by decide +kernel
theorem dX5_say_2 : decode cX5_say 2 = .ok (.invokevirtual 207, 3) := by decide +kernel
theorem dX5_say_5 : decode cX5_say 5 = .ok (.ifCond .ne 6, 3) := by decide +kernel
theorem dX5_say_8 : decode cX5_say 8 = .ok (.bipush (-101), 2) := by decide +kernel
theorem dX5_say_10 : decode cX5_say 10 = .ok (.ireturn, 1) := by decide +kernel
theorem dX5_say_11 : decode cX5_say 11 = .ok (.aload_n 0, 1) := by decide +kernel
theorem dX5_say_12 : decode cX5_say 12 = .ok (.invokevirtual 175, 3) := by decide +kernel
theorem dX5_say_15 : decode cX5_say 15 = .ok (.ifCond .ne 6, 3) := by decide +kernel
theorem dX5_say_18 : decode cX5_say 18 = .ok (.bipush (-103), 2) := by decide +kernel
theorem dX5_say_20 : decode cX5_say 20 = .ok (.ireturn, 1) := by decide +kernel
theorem dX5_say_21 : decode cX5_say 21 = .ok (.aload_n 0, 1) := by decide +kernel
theorem dX5_say_22 : decode cX5_say 22 = .ok (.getfield 131, 3) := by decide +kernel
theorem dX5_say_25 : decode cX5_say 25 = .ok (.sipush 999, 3) := by decide +kernel
theorem dX5_say_28 : decode cX5_say 28 = .ok (.if_icmp .ne 6, 3) := by decide +kernel
theorem dX5_say_31 : decode cX5_say 31 = .ok (.bipush (-104), 2) := by decide +kernel
theorem dX5_say_33 : decode cX5_say 33 = .ok (.ireturn, 1) := by decide +kernel
theorem dX5_say_34 : decode cX5_say 34 = .ok (.aload_n 0, 1) := by decide +kernel
theorem dX5_say_35 : decode cX5_say 35 = .ok (.dup, 1) := by decide +kernel
theorem dX5_say_36 : decode cX5_say 36 = .ok (.getfield 131, 3) := by decide +kernel
theorem dX5_say_39 : decode cX5_say 39 = .ok (.iconst 1, 1) := by decide +kernel
theorem dX5_say_40 : decode cX5_say 40 = .ok (.iadd, 1) := by decide +kernel
theorem dX5_say_41 : decode cX5_say 41 = .ok (.putfield 131, 3) := by decide +kernel
theorem dX5_say_44 : decode cX5_say 44 = .ok (.aload_n 0, 1) := by decide +kernel
theorem dX5_say_45 : decode cX5_say 45 = .ok (.aload_n 0, 1) := by decide +kernel
theorem dX5_say_46 : decode cX5_say 46 = .ok (.getfield 7, 3) := by decide +kernel
theorem dX5_say_49 : decode cX5_say 49 = .ok (.iload_n 1, 1) := by decide +kernel
theorem dX5_say_50 : decode cX5_say 50 = .ok (.iaload, 1) := by decide +kernel
theorem dX5_say_51 : decode cX5_say 51 = .ok (.invokevirtual 179, 3) := by decide +kernel
theorem dX5_say_54 : decode cX5_say 54 = .ok (.ireturn, 1) := by decide +kernel
theorem dX5_back_0 : decode cX5_back 0 = .ok (.aload_n 0, 1) := by decide +kernel
theorem dX5_back_1 : decode cX5_back 1 = .ok (.iload_n 1, 1) := by decide +kernel
theorem dX5_back_2 : decode cX5_back 2 = .ok (.invokevirtual 197, 3) := by decide +kernel
theorem dX5_back_5 : decode cX5_back 5 = .ok (.ifCond .ne 6, 3) := by decide +kernel
theorem dX5_back_8 : decode cX5_back 8 = .ok (.bipush (-101), 2) := by decide +kernel
theorem dX5_back_10 : decode cX5_back 10 = .ok (.ireturn, 1) := by decide +kernel
theorem dX5_back_11 : decode cX5_back 11 = .ok (.aload_n 0, 1) := by decide +kernel
theorem dX5_back_12 : decode cX5_back 12 = .ok (.getfield 119, 3) := by decide +kernel
theorem dX5_back_15 : decode cX5_back 15 = .ok (.iload_n 1, 1) := by decide +kernel
theorem dX5_back_16 : decode cX5_back 16 = .ok (.invokestatic 140, 3) := by decide +kernel
theorem dX5_back_19 : decode cX5_back 19 = .ok (.ifCond .eq 6, 3) := by decide +kernel
theorem dX5_back_22 : decode cX5_back 22 = .ok (.bipush (-103), 2) := by decide +kernel
theorem dX5_back_24 : decode cX5_back 24 = .ok (.ireturn, 1) := by decide +kernel
theorem dX5_back_25 : decode cX5_back 25 = .ok (.aload_n 0, 1) := by decide +kernel
theorem dX5_back_26 : decode cX5_back 26 = .ok (.dup, 1) := by decide +kernel
theorem dX5_back_27 : decode cX5_back 27 = .ok (.getfield 119, 3) := by decide +kernel
theorem dX5_back_30 : decode cX5_back 30 = .ok (.iconst 1, 1) := by decide +kernel
theorem dX5_back_31 : decode cX5_back 31 = .ok (.iload_n 1, 1) := by decide +kernel
theorem dX5_back_32 : decode cX5_back 32 = .ok (.ishl, 1) := by decide +kernel
theorem dX5_back_33 : decode cX5_back 33 = .ok (.ior, 1) := by decide +kernel
theorem dX5_back_34 : decode cX5_back 34 = .ok (.putfield 119, 3) := by decide +kernel
theorem dX5_back_37 : decode cX5_back 37 = .ok (.aload_n 0, 1) := by decide +kernel
theorem dX5_back_38 : decode cX5_back 38 = .ok (.getfield 119, 3) := by decide +kernel
theorem dX5_back_41 : decode cX5_back 41 = .ok (.invokestatic 146, 3) := by decide +kernel
theorem dX5_back_44 : decode cX5_back 44 = .ok (.ireturn, 1) := by decide +kernel
theorem dX5_first_0 : decode cX5_first 0 = .ok (.aload_n 0, 1) := by decide +kernel
theorem dX5_first_1 : decode cX5_first 1 = .ok (.iload_n 1, 1) := by decide +kernel
theorem dX5_first_2 : decode cX5_first 2 = .ok (.invokevirtual 197, 3) := by decide +kernel
theorem dX5_first_5 : decode cX5_first 5 = .ok (.ifCond .ne 6, 3) := by decide +kernel
theorem dX5_first_8 : decode cX5_first 8 = .ok (.bipush (-101), 2) := by decide +kernel
theorem dX5_first_10 : decode cX5_first 10 = .ok (.ireturn, 1) := by decide +kernel
theorem dX5_first_11 : decode cX5_first 11 = .ok (.aload_n 0, 1) := by decide +kernel
theorem dX5_first_12 : decode cX5_first 12 = .ok (.getfield 125, 3) := by decide +kernel
theorem dX5_first_15 : decode cX5_first 15 = .ok (.istore_n 2, 1) := by decide +kernel
theorem dX5_first_16 : decode cX5_first 16 = .ok (.aload_n 0, 1) := by decide +kernel
theorem dX5_first_17 : decode cX5_first 17 = .ok (.iload_n 1, 1) := by decide +kernel
theorem dX5_first_18 : decode cX5_first 18 = .ok (.putfield 125, 3) := by decide +kernel
theorem dX5_first_21 : decode cX5_first 21 = .ok (.iload_n 2, 1) := by decide +kernel
theorem dX5_first_22 : decode cX5_first 22 = .ok (.ireturn, 1) := by decide +kernel
theorem dX5_turn_0 : decode cX5_turn 0 = .ok (.aload_n 0, 1) := by decide +kernel
theorem dX5_turn_1 : decode cX5_turn 1 = .ok (.getfield 116, 3) := by decide +kernel
theorem dX5_turn_4 : decode cX5_turn 4 = .ok (.ifCond .ne 6, 3) := by decide +kernel
theorem dX5_turn_7 : decode cX5_turn 7 = .ok (.bipush (-103), 2) := by decide +kernel
theorem dX5_turn_9 : decode cX5_turn 9 = .ok (.ireturn, 1) := by decide +kernel
theorem dX5_turn_10 : decode cX5_turn 10 = .ok (.aload_n 0, 1) := by decide +kernel
theorem dX5_turn_11 : decode cX5_turn 11 = .ok (.aload_n 0, 1) := by decide +kernel
theorem dX5_turn_12 : decode cX5_turn 12 = .ok (.getfield 128, 3) := by decide +kernel
theorem dX5_turn_15 : decode cX5_turn 15 = .ok (.ifCond .ne 7, 3) := by decide +kernel
theorem dX5_turn_18 : decode cX5_turn 18 = .ok (.iconst 1, 1) := by decide +kernel
theorem dX5_turn_19 : decode cX5_turn 19 = .ok (.goto 4, 3) := by decide +kernel
theorem dX5_turn_22 : decode cX5_turn 22 = .ok (.iconst 0, 1) := by decide +kernel
theorem dX5_turn_23 : decode cX5_turn 23 = .ok (.putfield 128, 3) := by decide +kernel
theorem dX5_turn_26 : decode cX5_turn 26 = .ok (.aload_n 0, 1) := by decide +kernel
theorem dX5_turn_27 : decode cX5_turn 27 = .ok (.getfield 128, 3) := by decide +kernel
theorem dX5_turn_30 : decode cX5_turn 30 = .ok (.ifCond .eq 7, 3) := by decide +kernel
theorem dX5_turn_33 : decode cX5_turn 33 = .ok (.iconst 0, 1) := by decide +kernel
theorem dX5_turn_34 : decode cX5_turn 34 = .ok (.goto 4, 3) := by decide +kernel
theorem dX5_turn_37 : decode cX5_turn 37 = .ok (.iconst 1, 1) := by decide +kernel
theorem dX5_turn_38 : decode cX5_turn 38 = .ok (.ireturn, 1) := by decide +kernel
theorem dX5_beats_0 : decode cX5_beats 0 = .ok (.aload_n 0, 1) := by decide +kernel
theorem dX5_beats_1 : decode cX5_beats 1 = .ok (.iload_n 1, 1) := by decide +kernel
theorem dX5_beats_2 : decode cX5_beats 2 = .ok (.invokevirtual 207, 3) := by decide +kernel
theorem dX5_beats_5 : decode cX5_beats 5 = .ok (.ifCond .ne 6, 3) := by decide +kernel
theorem dX5_beats_8 : decode cX5_beats 8 = .ok (.bipush (-101), 2) := by decide +kernel
theorem dX5_beats_10 : decode cX5_beats 10 = .ok (.ireturn, 1) := by decide +kernel
theorem dX5_beats_11 : decode cX5_beats 11 = .ok (.iload_n 2, 1) := by decide +kernel
theorem dX5_beats_12 : decode cX5_beats 12 = .ok (.iconst 1, 1) := by decide +kernel
theorem dX5_beats_13 : decode cX5_beats 13 = .ok (.bipush 99, 2) := by decide +kernel
theorem dX5_beats_15 : decode cX5_beats 15 = .ok (.invokestatic 77, 3) := by decide +kernel
theorem dX5_beats_18 : decode cX5_beats 18 = .ok (.ifCond .ne 6, 3) := by decide +kernel
theorem dX5_beats_21 : decode cX5_beats 21 = .ok (.bipush (-102), 2) := by decide +kernel
theorem dX5_beats_23 : decode cX5_beats 23 = .ok (.ireturn, 1) := by decide +kernel
theorem dX5_beats_24 : decode cX5_beats 24 = .ok (.aload_n 0, 1) := by decide +kernel
theorem dX5_beats_25 : decode cX5_beats 25 = .ok (.getfield 7, 3) := by decide +kernel
theorem dX5_beats_28 : decode cX5_beats 28 = .ok (.iload_n 1, 1) := by decide +kernel
theorem dX5_beats_29 : decode cX5_beats 29 = .ok (.iaload, 1) := by decide +kernel
theorem dX5_beats_30 : decode cX5_beats 30 = .ok (.istore_n 3, 1) := by decide +kernel
theorem dX5_beats_31 : decode cX5_beats 31 = .ok (.aload_n 0, 1) := by decide +kernel
theorem dX5_beats_32 : decode cX5_beats 32 = .ok (.getfield 7, 3) := by decide +kernel
theorem dX5_beats_35 : decode cX5_beats 35 = .ok (.iload_n 1, 1) := by decide +kernel
theorem dX5_beats_36 : decode cX5_beats 36 = .ok (.iload_n 2, 1) := by decide +kernel
theorem dX5_beats_37 : decode cX5_beats 37 = .ok (.iastore, 1) := by decide +kernel
theorem dX5_beats_38 : decode cX5_beats 38 = .ok (.iload_n 3, 1) := by decide +kernel
theorem dX5_beats_39 : decode cX5_beats 39 = .ok (.ireturn, 1) := by decide +kernel
theorem dX5_be_0 : decode cX5_be 0 = .ok (.aload_n 0, 1) := by decide +kernel
theorem dX5_be_1 : decode cX5_be 1 = .ok (.iload_n 1, 1) := by decide +kernel
theorem dX5_be_2 : decode cX5_be 2 = .ok (.invokevirtual 197, 3) := by decide +kernel
theorem dX5_be_5 : decode cX5_be 5 = .ok (.ifCond .ne 6, 3) := by decide +kernel
theorem dX5_be_8 : decode cX5_be 8 = .ok (.bipush (-101), 2) := by decide +kernel
theorem dX5_be_10 : decode cX5_be 10 = .ok (.ireturn, 1) := by decide +kernel
theorem dX5_be_11 : decode cX5_be 11 = .ok (.iload_n 2, 1) := by decide +kernel
theorem dX5_be_12 : decode cX5_be 12 = .ok (.iconst 0, 1) := by decide +kernel
theorem dX5_be_13 : decode cX5_be 13 = .ok (.iconst 4, 1) := by decide +kernel
theorem dX5_be_14 : decode cX5_be 14 = .ok (.invokestatic 77, 3) := by decide +kernel
theorem dX5_be_17 : decode cX5_be 17 = .ok (.ifCond .ne 6, 3) := by decide +kernel
theorem dX5_be_20 : decode cX5_be 20 = .ok (.bipush (-102), 2) := by decide +kernel
theorem dX5_be_22 : decode cX5_be 22 = .ok (.ireturn, 1) := by decide +kernel
theorem dX5_be_23 : decode cX5_be 23 = .ok (.aload_n 0, 1) := by decide +kernel
theorem dX5_be_24 : decode cX5_be 24 = .ok (.getfield 13, 3) := by decide +kernel
theorem dX5_be_27 : decode cX5_be 27 = .ok (.iload_n 1, 1) := by decide +kernel
theorem dX5_be_28 : decode cX5_be 28 = .ok (.iaload, 1) := by decide +kernel
theorem dX5_be_29 : decode cX5_be 29 = .ok (.istore_n 3, 1) := by decide +kernel
theorem dX5_be_30 : decode cX5_be 30 = .ok (.aload_n 0, 1) := by decide +kernel
theorem dX5_be_31 : decode cX5_be 31 = .ok (.getfield 13, 3) := by decide +kernel
theorem dX5_be_34 : decode cX5_be 34 = .ok (.iload_n 1, 1) := by decide +kernel
theorem dX5_be_35 : decode cX5_be 35 = .ok (.iload_n 2, 1) := by decide +kernel
theorem dX5_be_36 : decode cX5_be 36 = .ok (.iastore, 1) := by decide +kernel
theorem dX5_be_37 : decode cX5_be 37 = .ok (.aload_n 0, 1) := by decide +kernel
theorem dX5_be_38 : decode cX5_be 38 = .ok (.dup, 1) := by decide +kernel
theorem dX5_be_39 : decode cX5_be 39 = .ok (.getfield 122, 3) := by decide +kernel
theorem dX5_be_42 : decode cX5_be 42 = .ok (.iconst 1, 1) := by decide +kernel
theorem dX5_be_43 : decode cX5_be 43 = .ok (.iload_n 1, 1) := by decide +kernel
theorem dX5_be_44 : decode cX5_be 44 = .ok (.ishl, 1) := by decide +kernel
theorem dX5_be_45 : decode cX5_be 45 = .ok (.iconst (-1), 1) := by decide +kernel
theorem dX5_be_46 : decode cX5_be 46 = .ok (.ixor, 1) := by decide +kernel
theorem dX5_be_47 : decode cX5_be 47 = .ok (.iand, 1) := by decide +kernel
theorem dX5_be_48 : decode cX5_be 48 = .ok (.putfield 122, 3) := by decide +kernel
theorem dX5_be_51 : decode cX5_be 51 = .ok (.iload_n 3, 1) := by decide +kernel
theorem dX5_be_52 : decode cX5_be 52 = .ok (.ireturn, 1) := by decide +kernel
theorem dX5_areBeats_0 : decode cX5_areBeats 0 = .ok (.iload_n 0, 1) := by decide +kernel
theorem dX5_areBeats_1 : decode cX5_areBeats 1 = .ok (.iconst 1, 1) := by decide +kernel
theorem dX5_areBeats_2 : decode cX5_areBeats 2 = .ok (.bipush 99, 2) := by decide +kernel
theorem dX5_areBeats_4 : decode cX5_areBeats 4 = .ok (.invokestatic 77, 3) := by decide +kernel
theorem dX5_areBeats_7 : decode cX5_areBeats 7 = .ok (.ireturn, 1) := by decide +kernel
theorem dX5_last_0 : decode cX5_last 0 = .ok (.iload_n 1, 1) := by decide +kernel
theorem dX5_last_1 : decode cX5_last 1 = .ok (.invokestatic 213, 3) := by decide +kernel
theorem dX5_last_4 : decode cX5_last 4 = .ok (.ifCond .ne 6, 3) := by decide +kernel
theorem dX5_last_7 : decode cX5_last 7 = .ok (.bipush (-102), 2) := by decide +kernel
theorem dX5_last_9 : decode cX5_last 9 = .ok (.ireturn, 1) := by decide +kernel
theorem dX5_last_10 : decode cX5_last 10 = .ok (.aload_n 0, 1) := by decide +kernel
theorem dX5_last_11 : decode cX5_last 11 = .ok (.getfield 116, 3) := by decide +kernel
theorem dX5_last_14 : decode cX5_last 14 = .ok (.ifCond .ne 8, 3) := by decide +kernel
theorem dX5_last_17 : decode cX5_last 17 = .ok (.bipush (-103), 2) := by decide +kernel
theorem dX5_last_19 : decode cX5_last 19 = .ok (.goto 8, 3) := by decide +kernel
theorem dX5_last_22 : decode cX5_last 22 = .ok (.aload_n 0, 1) := by decide +kernel
theorem dX5_last_23 : decode cX5_last 23 = .ok (.iload_n 1, 1) := by decide +kernel
theorem dX5_last_24 : decode cX5_last 24 = .ok (.invokevirtual 191, 3) := by decide +kernel
theorem dX5_last_27 : decode cX5_last 27 = .ok (.ireturn, 1) := by decide +kernel
theorem dX5_beginNow_0 : decode cX5_beginNow 0 = .ok (.iconst 0, 1) := by decide +kernel
theorem dX5_beginNow_1 : decode cX5_beginNow 1 = .ok (.istore_n 3, 1) := by decide +kernel
theorem dX5_beginNow_2 : decode cX5_beginNow 2 = .ok (.iconst 0, 1) := by decide +kernel
theorem dX5_beginNow_3 : decode cX5_beginNow 3 = .ok (.istore 4, 2) := by decide +kernel
theorem dX5_beginNow_5 : decode cX5_beginNow 5 = .ok (.iload 4, 2) := by decide +kernel
theorem dX5_beginNow_7 : decode cX5_beginNow 7 = .ok (.aload_n 0, 1) := by decide +kernel
theorem dX5_beginNow_8 : decode cX5_beginNow 8 = .ok (.getfield 116, 3) := by decide +kernel
theorem dX5_beginNow_11 : decode cX5_beginNow 11 = .ok (.if_icmp .ge 55, 3) := by decide +kernel
theorem dX5_beginNow_14 : decode cX5_beginNow 14 = .ok (.aload_n 0, 1) := by decide +kernel
theorem dX5_beginNow_15 : decode cX5_beginNow 15 = .ok (.getfield 119, 3) := by decide +kernel
theorem dX5_beginNow_18 : decode cX5_beginNow 18 = .ok (.iload 4, 2) := by decide +kernel
theorem dX5_beginNow_20 : decode cX5_beginNow 20 = .ok (.invokestatic 140, 3) := by decide +kernel
theorem dX5_beginNow_23 : decode cX5_beginNow 23 = .ok (.ifCond .eq 37, 3) := by decide +kernel
theorem dX5_beginNow_26 : decode cX5_beginNow 26 = .ok (.aload_n 0, 1) := by decide +kernel
theorem dX5_beginNow_27 : decode cX5_beginNow 27 = .ok (.invokevirtual 182, 3) := by decide +kernel
theorem dX5_beginNow_30 : decode cX5_beginNow 30 = .ok (.aload_n 0, 1) := by decide +kernel
theorem dX5_beginNow_31 : decode cX5_beginNow 31 = .ok (.iload 4, 2) := by decide +kernel
theorem dX5_beginNow_33 : decode cX5_beginNow 33 = .ok (.putfield 125, 3) := by decide +kernel
theorem dX5_beginNow_36 : decode cX5_beginNow 36 = .ok (.iload_n 3, 1) := by decide +kernel
theorem dX5_beginNow_37 : decode cX5_beginNow 37 = .ok (.aload_n 0, 1) := by decide +kernel
theorem dX5_beginNow_38 : decode cX5_beginNow 38 = .ok (.iload_n 2, 1) := by decide +kernel
theorem dX5_beginNow_39 : decode cX5_beginNow 39 = .ok (.invokevirtual 185, 3) := by decide +kernel
theorem dX5_beginNow_42 : decode cX5_beginNow 42 = .ok (.iload_n 1, 1) := by decide +kernel
theorem dX5_beginNow_43 : decode cX5_beginNow 43 = .ok (.if_icmp .ne 10, 3) := by decide +kernel
theorem dX5_beginNow_46 : decode cX5_beginNow 46 = .ok (.iconst 1, 1) := by decide +kernel
theorem dX5_beginNow_47 : decode cX5_beginNow 47 = .ok (.iload 4, 2) := by decide +kernel
theorem dX5_beginNow_49 : decode cX5_beginNow 49 = .ok (.ishl, 1) := by decide +kernel
theorem dX5_beginNow_50 : decode cX5_beginNow 50 = .ok (.goto 4, 3) := by decide +kernel
theorem dX5_beginNow_53 : decode cX5_beginNow 53 = .ok (.iconst 0, 1) := by decide +kernel
theorem dX5_beginNow_54 : decode cX5_beginNow 54 = .ok (.ior, 1) := by decide +kernel
theorem dX5_beginNow_55 : decode cX5_beginNow 55 = .ok (.istore_n 3, 1) := by decide +kernel
theorem dX5_beginNow_56 : decode cX5_beginNow 56 = .ok (.aload_n 0, 1) := by decide +kernel
theorem dX5_beginNow_57 : decode cX5_beginNow 57 = .ok (.invokevirtual 188, 3) := by decide +kernel
theorem dX5_beginNow_60 : decode cX5_beginNow 60 = .ok (.iinc 4 1, 3) := by decide +kernel
theorem dX5_beginNow_63 : decode cX5_beginNow 63 = .ok (.goto (-58), 3) := by decide +kernel
theorem dX5_beginNow_66 : decode cX5_beginNow 66 = .ok (.iload_n 3, 1) := by decide +kernel
theorem dX5_beginNow_67 : decode cX5_beginNow 67 = .ok (.ireturn, 1) := by decide +kernel
theorem dX5_begin_0 : decode cX5_begin 0 = .ok (.aload_n 0, 1) := by decide +kernel
theorem dX5_begin_1 : decode cX5_begin 1 = .ok (.iload_n 1, 1) := by decide +kernel
theorem dX5_begin_2 : decode cX5_begin 2 = .ok (.invokevirtual 197, 3) := by decide +kernel
theorem dX5_begin_5 : decode cX5_begin 5 = .ok (.ifCond .ne 6, 3) := by decide +kernel
theorem dX5_begin_8 : decode cX5_begin 8 = .ok (.bipush (-101), 2) := by decide +kernel
theorem dX5_begin_10 : decode cX5_begin 10 = .ok (.ireturn, 1) := by decide +kernel
theorem dX5_begin_11 : decode cX5_begin 11 = .ok (.iload_n 2, 1) := by decide +kernel
theorem dX5_begin_12 : decode cX5_begin 12 = .ok (.invokestatic 213, 3) := by decide +kernel
theorem dX5_begin_15 : decode cX5_begin 15 = .ok (.ifCond .eq 12, 3) := by decide +kernel
theorem dX5_begin_18 : decode cX5_begin 18 = .ok (.aload_n 0, 1) := by decide +kernel
theorem dX5_begin_19 : decode cX5_begin 19 = .ok (.iload_n 1, 1) := by decide +kernel
theorem dX5_begin_20 : decode cX5_begin 20 = .ok (.iload_n 2, 1) := by decide +kernel
theorem dX5_begin_21 : decode cX5_begin 21 = .ok (.invokevirtual 216, 3) := by decide +kernel
theorem dX5_begin_24 : decode cX5_begin 24 = .ok (.goto 5, 3) := by decide +kernel
theorem dX5_begin_27 : decode cX5_begin 27 = .ok (.bipush (-102), 2) := by decide +kernel
theorem dX5_begin_29 : decode cX5_begin 29 = .ok (.ireturn, 1) := by decide +kernel
theorem dX5_opened_0 : decode cX5_opened 0 = .ok (.iconst 1, 1) := by decide +kernel
theorem dX5_opened_1 : decode cX5_opened 1 = .ok (.iload_n 1, 1) := by decide +kernel
theorem dX5_opened_2 : decode cX5_opened 2 = .ok (.ishl, 1) := by decide +kernel
theorem dX5_opened_3 : decode cX5_opened 3 = .ok (.iconst 1, 1) := by decide +kernel
theorem dX5_opened_4 : decode cX5_opened 4 = .ok (.isub, 1) := by decide +kernel
theorem dX5_opened_5 : decode cX5_opened 5 = .ok (.istore_n 2, 1) := by decide +kernel
theorem dX5_opened_6 : decode cX5_opened 6 = .ok (.iload_n 0, 1) := by decide +kernel
theorem dX5_opened_7 : decode cX5_opened 7 = .ok (.iload_n 2, 1) := by decide +kernel
theorem dX5_opened_8 : decode cX5_opened 8 = .ok (.iand, 1) := by decide +kernel
theorem dX5_opened_9 : decode cX5_opened 9 = .ok (.iload_n 0, 1) := by decide +kernel
theorem dX5_opened_10 : decode cX5_opened 10 = .ok (.iload_n 2, 1) := by decide +kernel
theorem dX5_opened_11 : decode cX5_opened 11 = .ok (.iconst (-1), 1) := by decide +kernel
theorem dX5_opened_12 : decode cX5_opened 12 = .ok (.ixor, 1) := by decide +kernel
theorem dX5_opened_13 : decode cX5_opened 13 = .ok (.iand, 1) := by decide +kernel
theorem dX5_opened_14 : decode cX5_opened 14 = .ok (.iconst 1, 1) := by decide +kernel
theorem dX5_opened_15 : decode cX5_opened 15 = .ok (.ishl, 1) := by decide +kernel
theorem dX5_opened_16 : decode cX5_opened 16 = .ok (.ior, 1) := by decide +kernel
theorem dX5_opened_17 : decode cX5_opened 17 = .ok (.ireturn, 1) := by decide +kernel
theorem dX5_standNow_0 : decode cX5_standNow 0 = .ok (.iconst 0, 1) := by decide +kernel
theorem dX5_standNow_1 : decode cX5_standNow 1 = .ok (.istore_n 3, 1) := by decide +kernel
theorem dX5_standNow_2 : decode cX5_standNow 2 = .ok (.iconst 0, 1) := by decide +kernel
theorem dX5_standNow_3 : decode cX5_standNow 3 = .ok (.istore 4, 2) := by decide +kernel
theorem dX5_standNow_5 : decode cX5_standNow 5 = .ok (.iload 4, 2) := by decide +kernel
theorem dX5_standNow_7 : decode cX5_standNow 7 = .ok (.aload_n 0, 1) := by decide +kernel
theorem dX5_standNow_8 : decode cX5_standNow 8 = .ok (.getfield 116, 3) := by decide +kernel
theorem dX5_standNow_11 : decode cX5_standNow 11 = .ok (.if_icmp .gt 190, 3) := by decide +kernel
theorem dX5_standNow_14 : decode cX5_standNow 14 = .ok (.aload_n 0, 1) := by decide +kernel
theorem dX5_standNow_15 : decode cX5_standNow 15 = .ok (.invokevirtual 182, 3) := by decide +kernel
theorem dX5_standNow_18 : decode cX5_standNow 18 = .ok (.aload_n 0, 1) := by decide +kernel
theorem dX5_standNow_19 : decode cX5_standNow 19 = .ok (.getfield 116, 3) := by decide +kernel
theorem dX5_standNow_22 : decode cX5_standNow 22 = .ok (.istore 5, 2) := by decide +kernel
theorem dX5_standNow_24 : decode cX5_standNow 24 = .ok (.iload 5, 2) := by decide +kernel
theorem dX5_standNow_26 : decode cX5_standNow 26 = .ok (.iload 4, 2) := by decide +kernel
theorem dX5_standNow_28 : decode cX5_standNow 28 = .ok (.if_icmp .le 25, 3) := by decide +kernel
theorem dX5_standNow_31 : decode cX5_standNow 31 = .ok (.aload_n 0, 1) := by decide +kernel
theorem dX5_standNow_32 : decode cX5_standNow 32 = .ok (.getfield 13, 3) := by decide +kernel
theorem dX5_standNow_35 : decode cX5_standNow 35 = .ok (.iload 5, 2) := by decide +kernel
theorem dX5_standNow_37 : decode cX5_standNow 37 = .ok (.aload_n 0, 1) := by decide +kernel
theorem dX5_standNow_38 : decode cX5_standNow 38 = .ok (.getfield 13, 3) := by decide +kernel
theorem dX5_standNow_41 : decode cX5_standNow 41 = .ok (.iload 5, 2) := by decide +kernel
theorem dX5_standNow_43 : decode cX5_standNow 43 = .ok (.iconst 1, 1) := by decide +kernel
theorem dX5_standNow_44 : decode cX5_standNow 44 = .ok (.isub, 1) := by decide +kernel
theorem dX5_standNow_45 : decode cX5_standNow 45 = .ok (.iaload, 1) := by decide +kernel
theorem dX5_standNow_46 : decode cX5_standNow 46 = .ok (.iastore, 1) := by decide +kernel
theorem dX5_standNow_47 : decode cX5_standNow 47 = .ok (.iinc 5 (-1), 3) := by decide +kernel
theorem dX5_standNow_50 : decode cX5_standNow 50 = .ok (.goto (-26), 3) := by decide +kernel
theorem dX5_standNow_53 : decode cX5_standNow 53 = .ok (.aload_n 0, 1) := by decide +kernel
theorem dX5_standNow_54 : decode cX5_standNow 54 = .ok (.getfield 13, 3) := by decide +kernel
theorem dX5_standNow_57 : decode cX5_standNow 57 = .ok (.iload 4, 2) := by decide +kernel
theorem dX5_standNow_59 : decode cX5_standNow 59 = .ok (.iload_n 1, 1) := by decide +kernel
theorem dX5_standNow_60 : decode cX5_standNow 60 = .ok (.iastore, 1) := by decide +kernel
theorem dX5_standNow_61 : decode cX5_standNow 61 = .ok (.aload_n 0, 1) := by decide +kernel
theorem dX5_standNow_62 : decode cX5_standNow 62 = .ok (.aload_n 0, 1) := by decide +kernel
theorem dX5_standNow_63 : decode cX5_standNow 63 = .ok (.getfield 119, 3) := by decide +kernel
theorem dX5_standNow_66 : decode cX5_standNow 66 = .ok (.iload 4, 2) := by decide +kernel
theorem dX5_standNow_68 : decode cX5_standNow 68 = .ok (.invokestatic 219, 3) := by decide +kernel
theorem dX5_standNow_71 : decode cX5_standNow 71 = .ok (.iconst 1, 1) := by decide +kernel
theorem dX5_standNow_72 : decode cX5_standNow 72 = .ok (.iload 4, 2) := by decide +kernel
theorem dX5_standNow_74 : decode cX5_standNow 74 = .ok (.ishl, 1) := by decide +kernel
theorem dX5_standNow_75 : decode cX5_standNow 75 = .ok (.ior, 1) := by decide +kernel
theorem dX5_standNow_76 : decode cX5_standNow 76 = .ok (.putfield 119, 3) := by decide +kernel
theorem dX5_standNow_79 : decode cX5_standNow 79 = .ok (.aload_n 0, 1) := by decide +kernel
theorem dX5_standNow_80 : decode cX5_standNow 80 = .ok (.aload_n 0, 1) := by decide +kernel
theorem dX5_standNow_81 : decode cX5_standNow 81 = .ok (.getfield 122, 3) := by decide +kernel
theorem dX5_standNow_84 : decode cX5_standNow 84 = .ok (.iload 4, 2) := by decide +kernel
theorem dX5_standNow_86 : decode cX5_standNow 86 = .ok (.invokestatic 219, 3) := by decide +kernel
theorem dX5_standNow_89 : decode cX5_standNow 89 = .ok (.putfield 122, 3) := by decide +kernel
theorem dX5_standNow_92 : decode cX5_standNow 92 = .ok (.aload_n 0, 1) := by decide +kernel
theorem dX5_standNow_93 : decode cX5_standNow 93 = .ok (.dup, 1) := by decide +kernel
theorem dX5_standNow_94 : decode cX5_standNow 94 = .ok (.getfield 125, 3) := by decide +kernel
theorem dX5_standNow_97 : decode cX5_standNow 97 = .ok (.aload_n 0, 1) := by decide +kernel
theorem dX5_standNow_98 : decode cX5_standNow 98 = .ok (.getfield 125, 3) := by decide +kernel
theorem dX5_standNow_101 : decode cX5_standNow 101 = .ok (.iload 4, 2) := by decide +kernel
theorem dX5_standNow_103 : decode cX5_standNow 103 = .ok (.if_icmp .lt 7, 3) := by decide +kernel
theorem dX5_standNow_106 : decode cX5_standNow 106 = .ok (.iconst 1, 1) := by decide +kernel
theorem dX5_standNow_107 : decode cX5_standNow 107 = .ok (.goto 4, 3) := by decide +kernel
theorem dX5_standNow_110 : decode cX5_standNow 110 = .ok (.iconst 0, 1) := by decide +kernel
theorem dX5_standNow_111 : decode cX5_standNow 111 = .ok (.iadd, 1) := by decide +kernel
theorem dX5_standNow_112 : decode cX5_standNow 112 = .ok (.putfield 125, 3) := by decide +kernel
theorem dX5_standNow_115 : decode cX5_standNow 115 = .ok (.aload_n 0, 1) := by decide +kernel
theorem dX5_standNow_116 : decode cX5_standNow 116 = .ok (.dup, 1) := by decide +kernel
theorem dX5_standNow_117 : decode cX5_standNow 117 = .ok (.getfield 116, 3) := by decide +kernel
theorem dX5_standNow_120 : decode cX5_standNow 120 = .ok (.iconst 1, 1) := by decide +kernel
theorem dX5_standNow_121 : decode cX5_standNow 121 = .ok (.iadd, 1) := by decide +kernel
theorem dX5_standNow_122 : decode cX5_standNow 122 = .ok (.putfield 116, 3) := by decide +kernel
theorem dX5_standNow_125 : decode cX5_standNow 125 = .ok (.iload_n 3, 1) := by decide +kernel
theorem dX5_standNow_126 : decode cX5_standNow 126 = .ok (.aload_n 0, 1) := by decide +kernel
theorem dX5_standNow_127 : decode cX5_standNow 127 = .ok (.iload_n 2, 1) := by decide +kernel
theorem dX5_standNow_128 : decode cX5_standNow 128 = .ok (.invokevirtual 185, 3) := by decide +kernel
theorem dX5_standNow_131 : decode cX5_standNow 131 = .ok (.iload 4, 2) := by decide +kernel
theorem dX5_standNow_133 : decode cX5_standNow 133 = .ok (.if_icmp .ne 10, 3) := by decide +kernel
theorem dX5_standNow_136 : decode cX5_standNow 136 = .ok (.iconst 1, 1) := by decide +kernel
theorem dX5_standNow_137 : decode cX5_standNow 137 = .ok (.iload 4, 2) := by decide +kernel
theorem dX5_standNow_139 : decode cX5_standNow 139 = .ok (.ishl, 1) := by decide +kernel
theorem dX5_standNow_140 : decode cX5_standNow 140 = .ok (.goto 4, 3) := by decide +kernel
theorem dX5_standNow_143 : decode cX5_standNow 143 = .ok (.iconst 0, 1) := by decide +kernel
theorem dX5_standNow_144 : decode cX5_standNow 144 = .ok (.ior, 1) := by decide +kernel
theorem dX5_standNow_145 : decode cX5_standNow 145 = .ok (.istore_n 3, 1) := by decide +kernel
theorem dX5_standNow_146 : decode cX5_standNow 146 = .ok (.aload_n 0, 1) := by decide +kernel
theorem dX5_standNow_147 : decode cX5_standNow 147 = .ok (.dup, 1) := by decide +kernel
theorem dX5_standNow_148 : decode cX5_standNow 148 = .ok (.getfield 116, 3) := by decide +kernel
theorem dX5_standNow_151 : decode cX5_standNow 151 = .ok (.iconst 1, 1) := by decide +kernel
theorem dX5_standNow_152 : decode cX5_standNow 152 = .ok (.isub, 1) := by decide +kernel
theorem dX5_standNow_153 : decode cX5_standNow 153 = .ok (.putfield 116, 3) := by decide +kernel
theorem dX5_standNow_156 : decode cX5_standNow 156 = .ok (.iload 4, 2) := by decide +kernel
theorem dX5_standNow_158 : decode cX5_standNow 158 = .ok (.istore 5, 2) := by decide +kernel
theorem dX5_standNow_160 : decode cX5_standNow 160 = .ok (.iload 5, 2) := by decide +kernel
theorem dX5_standNow_162 : decode cX5_standNow 162 = .ok (.aload_n 0, 1) := by decide +kernel
theorem dX5_standNow_163 : decode cX5_standNow 163 = .ok (.getfield 116, 3) := by decide +kernel
theorem dX5_standNow_166 : decode cX5_standNow 166 = .ok (.if_icmp .ge 25, 3) := by decide +kernel
theorem dX5_standNow_169 : decode cX5_standNow 169 = .ok (.aload_n 0, 1) := by decide +kernel
theorem dX5_standNow_170 : decode cX5_standNow 170 = .ok (.getfield 13, 3) := by decide +kernel
theorem dX5_standNow_173 : decode cX5_standNow 173 = .ok (.iload 5, 2) := by decide +kernel
theorem dX5_standNow_175 : decode cX5_standNow 175 = .ok (.aload_n 0, 1) := by decide +kernel
theorem dX5_standNow_176 : decode cX5_standNow 176 = .ok (.getfield 13, 3) := by decide +kernel
theorem dX5_standNow_179 : decode cX5_standNow 179 = .ok (.iload 5, 2) := by decide +kernel
theorem dX5_standNow_181 : decode cX5_standNow 181 = .ok (.iconst 1, 1) := by decide +kernel
theorem dX5_standNow_182 : decode cX5_standNow 182 = .ok (.iadd, 1) := by decide +kernel
theorem dX5_standNow_183 : decode cX5_standNow 183 = .ok (.iaload, 1) := by decide +kernel
theorem dX5_standNow_184 : decode cX5_standNow 184 = .ok (.iastore, 1) := by decide +kernel
theorem dX5_standNow_185 : decode cX5_standNow 185 = .ok (.iinc 5 1, 3) := by decide +kernel
theorem dX5_standNow_188 : decode cX5_standNow 188 = .ok (.goto (-28), 3) := by decide +kernel
theorem dX5_standNow_191 : decode cX5_standNow 191 = .ok (.aload_n 0, 1) := by decide +kernel
theorem dX5_standNow_192 : decode cX5_standNow 192 = .ok (.invokevirtual 188, 3) := by decide +kernel
theorem dX5_standNow_195 : decode cX5_standNow 195 = .ok (.iinc 4 1, 3) := by decide +kernel
theorem dX5_standNow_198 : decode cX5_standNow 198 = .ok (.goto (-193), 3) := by decide +kernel
theorem dX5_standNow_201 : decode cX5_standNow 201 = .ok (.iload_n 3, 1) := by decide +kernel
theorem dX5_standNow_202 : decode cX5_standNow 202 = .ok (.ireturn, 1) := by decide +kernel
theorem dX5_stand_0 : decode cX5_stand 0 = .ok (.iload_n 1, 1) := by decide +kernel
theorem dX5_stand_1 : decode cX5_stand 1 = .ok (.iconst 0, 1) := by decide +kernel
theorem dX5_stand_2 : decode cX5_stand 2 = .ok (.iconst 4, 1) := by decide +kernel
theorem dX5_stand_3 : decode cX5_stand 3 = .ok (.invokestatic 77, 3) := by decide +kernel
theorem dX5_stand_6 : decode cX5_stand 6 = .ok (.ifCond .eq 10, 3) := by decide +kernel
theorem dX5_stand_9 : decode cX5_stand 9 = .ok (.iload_n 2, 1) := by decide +kernel
theorem dX5_stand_10 : decode cX5_stand 10 = .ok (.invokestatic 213, 3) := by decide +kernel
theorem dX5_stand_13 : decode cX5_stand 13 = .ok (.ifCond .ne 6, 3) := by decide +kernel
theorem dX5_stand_16 : decode cX5_stand 16 = .ok (.bipush (-102), 2) := by decide +kernel
theorem dX5_stand_18 : decode cX5_stand 18 = .ok (.ireturn, 1) := by decide +kernel
theorem dX5_stand_19 : decode cX5_stand 19 = .ok (.aload_n 0, 1) := by decide +kernel
theorem dX5_stand_20 : decode cX5_stand 20 = .ok (.getfield 116, 3) := by decide +kernel
theorem dX5_stand_23 : decode cX5_stand 23 = .ok (.ifCond .ne 8, 3) := by decide +kernel
theorem dX5_stand_26 : decode cX5_stand 26 = .ok (.bipush (-103), 2) := by decide +kernel
theorem dX5_stand_28 : decode cX5_stand 28 = .ok (.goto 9, 3) := by decide +kernel
theorem dX5_stand_31 : decode cX5_stand 31 = .ok (.aload_n 0, 1) := by decide +kernel
theorem dX5_stand_32 : decode cX5_stand 32 = .ok (.iload_n 1, 1) := by decide +kernel
theorem dX5_stand_33 : decode cX5_stand 33 = .ok (.iload_n 2, 1) := by decide +kernel
theorem dX5_stand_34 : decode cX5_stand 34 = .ok (.invokevirtual 222, 3) := by decide +kernel
theorem dX5_stand_37 : decode cX5_stand 37 = .ok (.ireturn, 1) := by decide +kernel
theorem dX5_playBy_0 : decode cX5_playBy 0 = .ok (.aload_n 0, 1) := by decide +kernel
theorem dX5_playBy_1 : decode cX5_playBy 1 = .ok (.invokevirtual 182, 3) := by decide +kernel
theorem dX5_playBy_4 : decode cX5_playBy 4 = .ok (.iload_n 2, 1) := by decide +kernel
theorem dX5_playBy_5 : decode cX5_playBy 5 = .ok (.istore 5, 2) := by decide +kernel
theorem dX5_playBy_7 : decode cX5_playBy 7 = .ok (.iconst (-1), 1) := by decide +kernel
theorem dX5_playBy_8 : decode cX5_playBy 8 = .ok (.istore 6, 2) := by decide +kernel
theorem dX5_playBy_10 : decode cX5_playBy 10 = .ok (.aload_n 0, 1) := by decide +kernel
theorem dX5_playBy_11 : decode cX5_playBy 11 = .ok (.iconst 0, 1) := by decide +kernel
theorem dX5_playBy_12 : decode cX5_playBy 12 = .ok (.putfield 225, 3) := by decide +kernel
theorem dX5_playBy_15 : decode cX5_playBy 15 = .ok (.iload 6, 2) := by decide +kernel
theorem dX5_playBy_17 : decode cX5_playBy 17 = .ok (.iconst (-1), 1) := by decide +kernel
theorem dX5_playBy_18 : decode cX5_playBy 18 = .ok (.if_icmp .ne 82, 3) := by decide +kernel
theorem dX5_playBy_21 : decode cX5_playBy 21 = .ok (.aload_n 0, 1) := by decide +kernel
theorem dX5_playBy_22 : decode cX5_playBy 22 = .ok (.invokevirtual 175, 3) := by decide +kernel
theorem dX5_playBy_25 : decode cX5_playBy 25 = .ok (.ifCond .ne 9, 3) := by decide +kernel
theorem dX5_playBy_28 : decode cX5_playBy 28 = .ok (.iconst 1, 1) := by decide +kernel
theorem dX5_playBy_29 : decode cX5_playBy 29 = .ok (.istore 6, 2) := by decide +kernel
theorem dX5_playBy_31 : decode cX5_playBy 31 = .ok (.goto (-16), 3) := by decide +kernel
theorem dX5_playBy_34 : decode cX5_playBy 34 = .ok (.iload 5, 2) := by decide +kernel
theorem dX5_playBy_36 : decode cX5_playBy 36 = .ok (.aload_n 0, 1) := by decide +kernel
theorem dX5_playBy_37 : decode cX5_playBy 37 = .ok (.getfield 113, 3) := by decide +kernel
theorem dX5_playBy_40 : decode cX5_playBy 40 = .ok (.idiv, 1) := by decide +kernel
theorem dX5_playBy_41 : decode cX5_playBy 41 = .ok (.istore 5, 2) := by decide +kernel
theorem dX5_playBy_43 : decode cX5_playBy 43 = .ok (.aload_n 0, 1) := by decide +kernel
theorem dX5_playBy_44 : decode cX5_playBy 44 = .ok (.aload_n 0, 1) := by decide +kernel
theorem dX5_playBy_45 : decode cX5_playBy 45 = .ok (.getfield 7, 3) := by decide +kernel
theorem dX5_playBy_48 : decode cX5_playBy 48 = .ok (.iload_n 1, 1) := by decide +kernel
theorem dX5_playBy_49 : decode cX5_playBy 49 = .ok (.iload 5, 2) := by decide +kernel
theorem dX5_playBy_51 : decode cX5_playBy 51 = .ok (.idiv, 1) := by decide +kernel
theorem dX5_playBy_52 : decode cX5_playBy 52 = .ok (.aload_n 0, 1) := by decide +kernel
theorem dX5_playBy_53 : decode cX5_playBy 53 = .ok (.getfield 113, 3) := by decide +kernel
theorem dX5_playBy_56 : decode cX5_playBy 56 = .ok (.irem, 1) := by decide +kernel
theorem dX5_playBy_57 : decode cX5_playBy 57 = .ok (.iaload, 1) := by decide +kernel
theorem dX5_playBy_58 : decode cX5_playBy 58 = .ok (.invokevirtual 179, 3) := by decide +kernel
theorem dX5_playBy_61 : decode cX5_playBy 61 = .ok (.istore 7, 2) := by decide +kernel
theorem dX5_playBy_63 : decode cX5_playBy 63 = .ok (.aload_n 0, 1) := by decide +kernel
theorem dX5_playBy_64 : decode cX5_playBy 64 = .ok (.dup, 1) := by decide +kernel
theorem dX5_playBy_65 : decode cX5_playBy 65 = .ok (.getfield 225, 3) := by decide +kernel
theorem dX5_playBy_68 : decode cX5_playBy 68 = .ok (.iconst 1, 1) := by decide +kernel
theorem dX5_playBy_69 : decode cX5_playBy 69 = .ok (.iadd, 1) := by decide +kernel
theorem dX5_playBy_70 : decode cX5_playBy 70 = .ok (.putfield 225, 3) := by decide +kernel
theorem dX5_playBy_73 : decode cX5_playBy 73 = .ok (.iload 7, 2) := by decide +kernel
theorem dX5_playBy_75 : decode cX5_playBy 75 = .ok (.iload 4, 2) := by decide +kernel
theorem dX5_playBy_77 : decode cX5_playBy 77 = .ok (.if_icmp .ne 7, 3) := by decide +kernel
theorem dX5_playBy_80 : decode cX5_playBy 80 = .ok (.iconst 2, 1) := by decide +kernel
theorem dX5_playBy_81 : decode cX5_playBy 81 = .ok (.goto 14, 3) := by decide +kernel
theorem dX5_playBy_84 : decode cX5_playBy 84 = .ok (.iload 7, 2) := by decide +kernel
theorem dX5_playBy_86 : decode cX5_playBy 86 = .ok (.iload_n 3, 1) := by decide +kernel
theorem dX5_playBy_87 : decode cX5_playBy 87 = .ok (.if_icmp .ne 7, 3) := by decide +kernel
theorem dX5_playBy_90 : decode cX5_playBy 90 = .ok (.iconst 0, 1) := by decide +kernel
theorem dX5_playBy_91 : decode cX5_playBy 91 = .ok (.goto 4, 3) := by decide +kernel
theorem dX5_playBy_94 : decode cX5_playBy 94 = .ok (.iconst (-1), 1) := by decide +kernel
theorem dX5_playBy_95 : decode cX5_playBy 95 = .ok (.istore 6, 2) := by decide +kernel
theorem dX5_playBy_97 : decode cX5_playBy 97 = .ok (.goto (-82), 3) := by decide +kernel
theorem dX5_playBy_100 : decode cX5_playBy 100 = .ok (.aload_n 0, 1) := by decide +kernel
theorem dX5_playBy_101 : decode cX5_playBy 101 = .ok (.invokevirtual 188, 3) := by decide +kernel
theorem dX5_playBy_104 : decode cX5_playBy 104 = .ok (.iload 6, 2) := by decide +kernel
theorem dX5_playBy_106 : decode cX5_playBy 106 = .ok (.ireturn, 1) := by decide +kernel
theorem dX5_layGame_0 : decode cX5_layGame 0 = .ok (.iconst 1, 1) := by decide +kernel
theorem dX5_layGame_1 : decode cX5_layGame 1 = .ok (.istore_n 3, 1) := by decide +kernel
theorem dX5_layGame_2 : decode cX5_layGame 2 = .ok (.iconst 0, 1) := by decide +kernel
theorem dX5_layGame_3 : decode cX5_layGame 3 = .ok (.istore 4, 2) := by decide +kernel
theorem dX5_layGame_5 : decode cX5_layGame 5 = .ok (.iload 4, 2) := by decide +kernel
theorem dX5_layGame_7 : decode cX5_layGame 7 = .ok (.bipush 7, 2) := by decide +kernel
theorem dX5_layGame_9 : decode cX5_layGame 9 = .ok (.if_icmp .ge 16, 3) := by decide +kernel
theorem dX5_layGame_12 : decode cX5_layGame 12 = .ok (.iload_n 3, 1) := by decide +kernel
theorem dX5_layGame_13 : decode cX5_layGame 13 = .ok (.aload_n 0, 1) := by decide +kernel
theorem dX5_layGame_14 : decode cX5_layGame 14 = .ok (.getfield 113, 3) := by decide +kernel
theorem dX5_layGame_17 : decode cX5_layGame 17 = .ok (.imul, 1) := by decide +kernel
theorem dX5_layGame_18 : decode cX5_layGame 18 = .ok (.istore_n 3, 1) := by decide +kernel
theorem dX5_layGame_19 : decode cX5_layGame 19 = .ok (.iinc 4 1, 3) := by decide +kernel
theorem dX5_layGame_22 : decode cX5_layGame 22 = .ok (.goto (-17), 3) := by decide +kernel
theorem dX5_layGame_25 : decode cX5_layGame 25 = .ok (.iconst 0, 1) := by decide +kernel
theorem dX5_layGame_26 : decode cX5_layGame 26 = .ok (.istore 4, 2) := by decide +kernel
theorem dX5_layGame_28 : decode cX5_layGame 28 = .ok (.iload 4, 2) := by decide +kernel
theorem dX5_layGame_30 : decode cX5_layGame 30 = .ok (.iload_n 3, 1) := by decide +kernel
theorem dX5_layGame_31 : decode cX5_layGame 31 = .ok (.if_icmp .ge 82, 3) := by decide +kernel
theorem dX5_layGame_34 : decode cX5_layGame 34 = .ok (.aload_n 0, 1) := by decide +kernel
theorem dX5_layGame_35 : decode cX5_layGame 35 = .ok (.iload 4, 2) := by decide +kernel
theorem dX5_layGame_37 : decode cX5_layGame 37 = .ok (.iload_n 3, 1) := by decide +kernel
theorem dX5_layGame_38 : decode cX5_layGame 38 = .ok (.iload_n 1, 1) := by decide +kernel
theorem dX5_layGame_39 : decode cX5_layGame 39 = .ok (.iload_n 2, 1) := by decide +kernel
theorem dX5_layGame_40 : decode cX5_layGame 40 = .ok (.invokevirtual 228, 3) := by decide +kernel
theorem dX5_layGame_43 : decode cX5_layGame 43 = .ok (.istore 5, 2) := by decide +kernel
theorem dX5_layGame_45 : decode cX5_layGame 45 = .ok (.iload_n 3, 1) := by decide +kernel
theorem dX5_layGame_46 : decode cX5_layGame 46 = .ok (.istore 6, 2) := by decide +kernel
theorem dX5_layGame_48 : decode cX5_layGame 48 = .ok (.iconst 0, 1) := by decide +kernel
theorem dX5_layGame_49 : decode cX5_layGame 49 = .ok (.istore 7, 2) := by decide +kernel
theorem dX5_layGame_51 : decode cX5_layGame 51 = .ok (.iload 7, 2) := by decide +kernel
theorem dX5_layGame_53 : decode cX5_layGame 53 = .ok (.aload_n 0, 1) := by decide +kernel
theorem dX5_layGame_54 : decode cX5_layGame 54 = .ok (.getfield 225, 3) := by decide +kernel
theorem dX5_layGame_57 : decode cX5_layGame 57 = .ok (.if_icmp .ge 18, 3) := by decide +kernel
theorem dX5_layGame_60 : decode cX5_layGame 60 = .ok (.iload 6, 2) := by decide +kernel
theorem dX5_layGame_62 : decode cX5_layGame 62 = .ok (.aload_n 0, 1) := by decide +kernel
theorem dX5_layGame_63 : decode cX5_layGame 63 = .ok (.getfield 113, 3) := by decide +kernel
theorem dX5_layGame_66 : decode cX5_layGame 66 = .ok (.idiv, 1) := by decide +kernel
theorem dX5_layGame_67 : decode cX5_layGame 67 = .ok (.istore 6, 2) := by decide +kernel
theorem dX5_layGame_69 : decode cX5_layGame 69 = .ok (.iinc 7 1, 3) := by decide +kernel
theorem dX5_layGame_72 : decode cX5_layGame 72 = .ok (.goto (-21), 3) := by decide +kernel
theorem dX5_layGame_75 : decode cX5_layGame 75 = .ok (.iconst 0, 1) := by decide +kernel
theorem dX5_layGame_76 : decode cX5_layGame 76 = .ok (.istore 7, 2) := by decide +kernel
theorem dX5_layGame_78 : decode cX5_layGame 78 = .ok (.iload 7, 2) := by decide +kernel
theorem dX5_layGame_80 : decode cX5_layGame 80 = .ok (.iload 6, 2) := by decide +kernel
theorem dX5_layGame_82 : decode cX5_layGame 82 = .ok (.if_icmp .ge 21, 3) := by decide +kernel
theorem dX5_layGame_85 : decode cX5_layGame 85 = .ok (.aload_n 0, 1) := by decide +kernel
theorem dX5_layGame_86 : decode cX5_layGame 86 = .ok (.getfield 26, 3) := by decide +kernel
theorem dX5_layGame_89 : decode cX5_layGame 89 = .ok (.iload 4, 2) := by decide +kernel
theorem dX5_layGame_91 : decode cX5_layGame 91 = .ok (.iload 7, 2) := by decide +kernel
theorem dX5_layGame_93 : decode cX5_layGame 93 = .ok (.iadd, 1) := by decide +kernel
theorem dX5_layGame_94 : decode cX5_layGame 94 = .ok (.iload 5, 2) := by decide +kernel
theorem dX5_layGame_96 : decode cX5_layGame 96 = .ok (.iastore, 1) := by decide +kernel
theorem dX5_layGame_97 : decode cX5_layGame 97 = .ok (.iinc 7 1, 3) := by decide +kernel
theorem dX5_layGame_100 : decode cX5_layGame 100 = .ok (.goto (-22), 3) := by decide +kernel
theorem dX5_layGame_103 : decode cX5_layGame 103 = .ok (.iload 4, 2) := by decide +kernel
theorem dX5_layGame_105 : decode cX5_layGame 105 = .ok (.iload 6, 2) := by decide +kernel
theorem dX5_layGame_107 : decode cX5_layGame 107 = .ok (.iadd, 1) := by decide +kernel
theorem dX5_layGame_108 : decode cX5_layGame 108 = .ok (.istore 4, 2) := by decide +kernel
theorem dX5_layGame_110 : decode cX5_layGame 110 = .ok (.goto (-82), 3) := by decide +kernel
theorem dX5_layGame_113 : decode cX5_layGame 113 = .ok (.iload_n 3, 1) := by decide +kernel
theorem dX5_layGame_114 : decode cX5_layGame 114 = .ok (.ireturn, 1) := by decide +kernel
theorem dX5_foldGame_0 : decode cX5_foldGame 0 = .ok (.iload_n 1, 1) := by decide +kernel
theorem dX5_foldGame_1 : decode cX5_foldGame 1 = .ok (.istore_n 2, 1) := by decide +kernel
theorem dX5_foldGame_2 : decode cX5_foldGame 2 = .ok (.bipush 6, 2) := by decide +kernel
theorem dX5_foldGame_4 : decode cX5_foldGame 4 = .ok (.istore_n 3, 1) := by decide +kernel
theorem dX5_foldGame_5 : decode cX5_foldGame 5 = .ok (.iload_n 3, 1) := by decide +kernel
theorem dX5_foldGame_6 : decode cX5_foldGame 6 = .ok (.ifCond .le 138, 3) := by decide +kernel
theorem dX5_foldGame_9 : decode cX5_foldGame 9 = .ok (.iload_n 2, 1) := by decide +kernel
theorem dX5_foldGame_10 : decode cX5_foldGame 10 = .ok (.aload_n 0, 1) := by decide +kernel
theorem dX5_foldGame_11 : decode cX5_foldGame 11 = .ok (.getfield 113, 3) := by decide +kernel
theorem dX5_foldGame_14 : decode cX5_foldGame 14 = .ok (.idiv, 1) := by decide +kernel
theorem dX5_foldGame_15 : decode cX5_foldGame 15 = .ok (.istore_n 2, 1) := by decide +kernel
theorem dX5_foldGame_16 : decode cX5_foldGame 16 = .ok (.iconst 0, 1) := by decide +kernel
theorem dX5_foldGame_17 : decode cX5_foldGame 17 = .ok (.istore 4, 2) := by decide +kernel
theorem dX5_foldGame_19 : decode cX5_foldGame 19 = .ok (.iload 4, 2) := by decide +kernel
theorem dX5_foldGame_21 : decode cX5_foldGame 21 = .ok (.iload_n 2, 1) := by decide +kernel
theorem dX5_foldGame_22 : decode cX5_foldGame 22 = .ok (.if_icmp .ge 116, 3) := by decide +kernel
theorem dX5_foldGame_25 : decode cX5_foldGame 25 = .ok (.aload_n 0, 1) := by decide +kernel
theorem dX5_foldGame_26 : decode cX5_foldGame 26 = .ok (.getfield 26, 3) := by decide +kernel
theorem dX5_foldGame_29 : decode cX5_foldGame 29 = .ok (.aload_n 0, 1) := by decide +kernel
theorem dX5_foldGame_30 : decode cX5_foldGame 30 = .ok (.getfield 113, 3) := by decide +kernel
theorem dX5_foldGame_33 : decode cX5_foldGame 33 = .ok (.iload 4, 2) := by decide +kernel
theorem dX5_foldGame_35 : decode cX5_foldGame 35 = .ok (.imul, 1) := by decide +kernel
theorem dX5_foldGame_36 : decode cX5_foldGame 36 = .ok (.iaload, 1) := by decide +kernel
theorem dX5_foldGame_37 : decode cX5_foldGame 37 = .ok (.istore 5, 2) := by decide +kernel
theorem dX5_foldGame_39 : decode cX5_foldGame 39 = .ok (.iconst 1, 1) := by decide +kernel
theorem dX5_foldGame_40 : decode cX5_foldGame 40 = .ok (.istore 6, 2) := by decide +kernel
theorem dX5_foldGame_42 : decode cX5_foldGame 42 = .ok (.iload 6, 2) := by decide +kernel
theorem dX5_foldGame_44 : decode cX5_foldGame 44 = .ok (.aload_n 0, 1) := by decide +kernel
theorem dX5_foldGame_45 : decode cX5_foldGame 45 = .ok (.getfield 113, 3) := by decide +kernel
theorem dX5_foldGame_48 : decode cX5_foldGame 48 = .ok (.if_icmp .ge 75, 3) := by decide +kernel
theorem dX5_foldGame_51 : decode cX5_foldGame 51 = .ok (.aload_n 0, 1) := by decide +kernel
theorem dX5_foldGame_52 : decode cX5_foldGame 52 = .ok (.getfield 26, 3) := by decide +kernel
theorem dX5_foldGame_55 : decode cX5_foldGame 55 = .ok (.aload_n 0, 1) := by decide +kernel
theorem dX5_foldGame_56 : decode cX5_foldGame 56 = .ok (.getfield 113, 3) := by decide +kernel
theorem dX5_foldGame_59 : decode cX5_foldGame 59 = .ok (.iload 4, 2) := by decide +kernel
theorem dX5_foldGame_61 : decode cX5_foldGame 61 = .ok (.imul, 1) := by decide +kernel
theorem dX5_foldGame_62 : decode cX5_foldGame 62 = .ok (.iload 6, 2) := by decide +kernel
theorem dX5_foldGame_64 : decode cX5_foldGame 64 = .ok (.iadd, 1) := by decide +kernel
theorem dX5_foldGame_65 : decode cX5_foldGame 65 = .ok (.iaload, 1) := by decide +kernel
theorem dX5_foldGame_66 : decode cX5_foldGame 66 = .ok (.istore 7, 2) := by decide +kernel
theorem dX5_foldGame_68 : decode cX5_foldGame 68 = .ok (.iload_n 3, 1) := by decide +kernel
theorem dX5_foldGame_69 : decode cX5_foldGame 69 = .ok (.iconst 2, 1) := by decide +kernel
theorem dX5_foldGame_70 : decode cX5_foldGame 70 = .ok (.irem, 1) := by decide +kernel
theorem dX5_foldGame_71 : decode cX5_foldGame 71 = .ok (.ifCond .ne 18, 3) := by decide +kernel
theorem dX5_foldGame_74 : decode cX5_foldGame 74 = .ok (.iload 7, 2) := by decide +kernel
theorem dX5_foldGame_76 : decode cX5_foldGame 76 = .ok (.iload 5, 2) := by decide +kernel
theorem dX5_foldGame_78 : decode cX5_foldGame 78 = .ok (.if_icmp .le 7, 3) := by decide +kernel
theorem dX5_foldGame_81 : decode cX5_foldGame 81 = .ok (.iconst 1, 1) := by decide +kernel
theorem dX5_foldGame_82 : decode cX5_foldGame 82 = .ok (.goto 19, 3) := by decide +kernel
theorem dX5_foldGame_85 : decode cX5_foldGame 85 = .ok (.iconst 0, 1) := by decide +kernel
theorem dX5_foldGame_86 : decode cX5_foldGame 86 = .ok (.goto 15, 3) := by decide +kernel
theorem dX5_foldGame_89 : decode cX5_foldGame 89 = .ok (.iload 7, 2) := by decide +kernel
theorem dX5_foldGame_91 : decode cX5_foldGame 91 = .ok (.iload 5, 2) := by decide +kernel
theorem dX5_foldGame_93 : decode cX5_foldGame 93 = .ok (.if_icmp .ge 7, 3) := by decide +kernel
theorem dX5_foldGame_96 : decode cX5_foldGame 96 = .ok (.iconst 1, 1) := by decide +kernel
theorem dX5_foldGame_97 : decode cX5_foldGame 97 = .ok (.goto 4, 3) := by decide +kernel
theorem dX5_foldGame_100 : decode cX5_foldGame 100 = .ok (.iconst 0, 1) := by decide +kernel
theorem dX5_foldGame_101 : decode cX5_foldGame 101 = .ok (.istore 8, 2) := by decide +kernel
theorem dX5_foldGame_103 : decode cX5_foldGame 103 = .ok (.iload 8, 2) := by decide +kernel
theorem dX5_foldGame_105 : decode cX5_foldGame 105 = .ok (.ifCond .eq 8, 3) := by decide +kernel
theorem dX5_foldGame_108 : decode cX5_foldGame 108 = .ok (.iload 7, 2) := by decide +kernel
theorem dX5_foldGame_110 : decode cX5_foldGame 110 = .ok (.goto 5, 3) := by decide +kernel
theorem dX5_foldGame_113 : decode cX5_foldGame 113 = .ok (.iload 5, 2) := by decide +kernel
theorem dX5_foldGame_115 : decode cX5_foldGame 115 = .ok (.istore 5, 2) := by decide +kernel
theorem dX5_foldGame_117 : decode cX5_foldGame 117 = .ok (.iinc 6 1, 3) := by decide +kernel
theorem dX5_foldGame_120 : decode cX5_foldGame 120 = .ok (.goto (-78), 3) := by decide +kernel
theorem dX5_foldGame_123 : decode cX5_foldGame 123 = .ok (.aload_n 0, 1) := by decide +kernel
theorem dX5_foldGame_124 : decode cX5_foldGame 124 = .ok (.getfield 26, 3) := by decide +kernel
theorem dX5_foldGame_127 : decode cX5_foldGame 127 = .ok (.iload 4, 2) := by decide +kernel
theorem dX5_foldGame_129 : decode cX5_foldGame 129 = .ok (.iload 5, 2) := by decide +kernel
theorem dX5_foldGame_131 : decode cX5_foldGame 131 = .ok (.iastore, 1) := by decide +kernel
theorem dX5_foldGame_132 : decode cX5_foldGame 132 = .ok (.iinc 4 1, 3) := by decide +kernel
theorem dX5_foldGame_135 : decode cX5_foldGame 135 = .ok (.goto (-116), 3) := by decide +kernel
theorem dX5_foldGame_138 : decode cX5_foldGame 138 = .ok (.iinc 3 (-1), 3) := by decide +kernel
theorem dX5_foldGame_141 : decode cX5_foldGame 141 = .ok (.goto (-136), 3) := by decide +kernel
theorem dX5_foldGame_144 : decode cX5_foldGame 144 = .ok (.return_, 1) := by decide +kernel
theorem dX5_gameNow_0 : decode cX5_gameNow 0 = .ok (.aload_n 0, 1) := by decide +kernel
theorem dX5_gameNow_1 : decode cX5_gameNow 1 = .ok (.invokevirtual 175, 3) := by decide +kernel
theorem dX5_gameNow_4 : decode cX5_gameNow 4 = .ok (.ifCond .ne 13, 3) := by decide +kernel
theorem dX5_gameNow_7 : decode cX5_gameNow 7 = .ok (.iload_n 3, 1) := by decide +kernel
theorem dX5_gameNow_8 : decode cX5_gameNow 8 = .ok (.ifCond .ne 7, 3) := by decide +kernel
theorem dX5_gameNow_11 : decode cX5_gameNow 11 = .ok (.iconst 1, 1) := by decide +kernel
theorem dX5_gameNow_12 : decode cX5_gameNow 12 = .ok (.goto 4, 3) := by decide +kernel
theorem dX5_gameNow_15 : decode cX5_gameNow 15 = .ok (.iconst (-1), 1) := by decide +kernel
theorem dX5_gameNow_16 : decode cX5_gameNow 16 = .ok (.ireturn, 1) := by decide +kernel
theorem dX5_gameNow_17 : decode cX5_gameNow 17 = .ok (.aload_n 0, 1) := by decide +kernel
theorem dX5_gameNow_18 : decode cX5_gameNow 18 = .ok (.aload_n 0, 1) := by decide +kernel
theorem dX5_gameNow_19 : decode cX5_gameNow 19 = .ok (.iload_n 1, 1) := by decide +kernel
theorem dX5_gameNow_20 : decode cX5_gameNow 20 = .ok (.iload_n 2, 1) := by decide +kernel
theorem dX5_gameNow_21 : decode cX5_gameNow 21 = .ok (.invokevirtual 232, 3) := by decide +kernel
theorem dX5_gameNow_24 : decode cX5_gameNow 24 = .ok (.invokevirtual 235, 3) := by decide +kernel
theorem dX5_gameNow_27 : decode cX5_gameNow 27 = .ok (.iconst 0, 1) := by decide +kernel
theorem dX5_gameNow_28 : decode cX5_gameNow 28 = .ok (.istore 4, 2) := by decide +kernel
theorem dX5_gameNow_30 : decode cX5_gameNow 30 = .ok (.iconst 1, 1) := by decide +kernel
theorem dX5_gameNow_31 : decode cX5_gameNow 31 = .ok (.istore 5, 2) := by decide +kernel
theorem dX5_gameNow_33 : decode cX5_gameNow 33 = .ok (.iload 5, 2) := by decide +kernel
theorem dX5_gameNow_35 : decode cX5_gameNow 35 = .ok (.aload_n 0, 1) := by decide +kernel
theorem dX5_gameNow_36 : decode cX5_gameNow 36 = .ok (.getfield 113, 3) := by decide +kernel
theorem dX5_gameNow_39 : decode cX5_gameNow 39 = .ok (.if_icmp .ge 35, 3) := by decide +kernel
theorem dX5_gameNow_42 : decode cX5_gameNow 42 = .ok (.aload_n 0, 1) := by decide +kernel
theorem dX5_gameNow_43 : decode cX5_gameNow 43 = .ok (.getfield 26, 3) := by decide +kernel
theorem dX5_gameNow_46 : decode cX5_gameNow 46 = .ok (.iload 5, 2) := by decide +kernel
theorem dX5_gameNow_48 : decode cX5_gameNow 48 = .ok (.iaload, 1) := by decide +kernel
theorem dX5_gameNow_49 : decode cX5_gameNow 49 = .ok (.aload_n 0, 1) := by decide +kernel
theorem dX5_gameNow_50 : decode cX5_gameNow 50 = .ok (.getfield 26, 3) := by decide +kernel
theorem dX5_gameNow_53 : decode cX5_gameNow 53 = .ok (.iload 4, 2) := by decide +kernel
theorem dX5_gameNow_55 : decode cX5_gameNow 55 = .ok (.iaload, 1) := by decide +kernel
theorem dX5_gameNow_56 : decode cX5_gameNow 56 = .ok (.if_icmp .le 8, 3) := by decide +kernel
theorem dX5_gameNow_59 : decode cX5_gameNow 59 = .ok (.iload 5, 2) := by decide +kernel
theorem dX5_gameNow_61 : decode cX5_gameNow 61 = .ok (.goto 5, 3) := by decide +kernel
theorem dX5_gameNow_64 : decode cX5_gameNow 64 = .ok (.iload 4, 2) := by decide +kernel
theorem dX5_gameNow_66 : decode cX5_gameNow 66 = .ok (.istore 4, 2) := by decide +kernel
theorem dX5_gameNow_68 : decode cX5_gameNow 68 = .ok (.iinc 5 1, 3) := by decide +kernel
theorem dX5_gameNow_71 : decode cX5_gameNow 71 = .ok (.goto (-38), 3) := by decide +kernel
theorem dX5_gameNow_74 : decode cX5_gameNow 74 = .ok (.iload_n 3, 1) := by decide +kernel
theorem dX5_gameNow_75 : decode cX5_gameNow 75 = .ok (.ifCond .ne 13, 3) := by decide +kernel
theorem dX5_gameNow_78 : decode cX5_gameNow 78 = .ok (.aload_n 0, 1) := by decide +kernel
theorem dX5_gameNow_79 : decode cX5_gameNow 79 = .ok (.getfield 26, 3) := by decide +kernel
theorem dX5_gameNow_82 : decode cX5_gameNow 82 = .ok (.iload 4, 2) := by decide +kernel
theorem dX5_gameNow_84 : decode cX5_gameNow 84 = .ok (.iaload, 1) := by decide +kernel
theorem dX5_gameNow_85 : decode cX5_gameNow 85 = .ok (.goto 5, 3) := by decide +kernel
theorem dX5_gameNow_88 : decode cX5_gameNow 88 = .ok (.iload 4, 2) := by decide +kernel
theorem dX5_gameNow_90 : decode cX5_gameNow 90 = .ok (.ireturn, 1) := by decide +kernel
theorem dX5_game_0 : decode cX5_game 0 = .ok (.aload_n 0, 1) := by decide +kernel
theorem dX5_game_1 : decode cX5_game 1 = .ok (.iload_n 1, 1) := by decide +kernel
theorem dX5_game_2 : decode cX5_game 2 = .ok (.invokevirtual 197, 3) := by decide +kernel
theorem dX5_game_5 : decode cX5_game 5 = .ok (.ifCond .eq 16, 3) := by decide +kernel
theorem dX5_game_8 : decode cX5_game 8 = .ok (.aload_n 0, 1) := by decide +kernel
theorem dX5_game_9 : decode cX5_game 9 = .ok (.iload_n 2, 1) := by decide +kernel
theorem dX5_game_10 : decode cX5_game 10 = .ok (.invokevirtual 197, 3) := by decide +kernel
theorem dX5_game_13 : decode cX5_game 13 = .ok (.ifCond .eq 8, 3) := by decide +kernel
theorem dX5_game_16 : decode cX5_game 16 = .ok (.iload_n 1, 1) := by decide +kernel
theorem dX5_game_17 : decode cX5_game 17 = .ok (.iload_n 2, 1) := by decide +kernel
theorem dX5_game_18 : decode cX5_game 18 = .ok (.if_icmp .ne 6, 3) := by decide +kernel
theorem dX5_game_21 : decode cX5_game 21 = .ok (.bipush (-101), 2) := by decide +kernel
theorem dX5_game_23 : decode cX5_game 23 = .ok (.ireturn, 1) := by decide +kernel
theorem dX5_game_24 : decode cX5_game 24 = .ok (.iload_n 3, 1) := by decide +kernel
theorem dX5_game_25 : decode cX5_game 25 = .ok (.iconst 0, 1) := by decide +kernel
theorem dX5_game_26 : decode cX5_game 26 = .ok (.iconst 1, 1) := by decide +kernel
theorem dX5_game_27 : decode cX5_game 27 = .ok (.invokestatic 77, 3) := by decide +kernel
theorem dX5_game_30 : decode cX5_game 30 = .ok (.ifCond .ne 6, 3) := by decide +kernel
theorem dX5_game_33 : decode cX5_game 33 = .ok (.bipush (-102), 2) := by decide +kernel
theorem dX5_game_35 : decode cX5_game 35 = .ok (.ireturn, 1) := by decide +kernel
theorem dX5_game_36 : decode cX5_game 36 = .ok (.aload_n 0, 1) := by decide +kernel
theorem dX5_game_37 : decode cX5_game 37 = .ok (.getfield 119, 3) := by decide +kernel
theorem dX5_game_40 : decode cX5_game 40 = .ok (.iload_n 1, 1) := by decide +kernel
theorem dX5_game_41 : decode cX5_game 41 = .ok (.invokestatic 140, 3) := by decide +kernel
theorem dX5_game_44 : decode cX5_game 44 = .ok (.ifCond .eq 24, 3) := by decide +kernel
theorem dX5_game_47 : decode cX5_game 47 = .ok (.aload_n 0, 1) := by decide +kernel
theorem dX5_game_48 : decode cX5_game 48 = .ok (.getfield 119, 3) := by decide +kernel
theorem dX5_game_51 : decode cX5_game 51 = .ok (.iload_n 2, 1) := by decide +kernel
theorem dX5_game_52 : decode cX5_game 52 = .ok (.invokestatic 140, 3) := by decide +kernel
theorem dX5_game_55 : decode cX5_game 55 = .ok (.ifCond .eq 13, 3) := by decide +kernel
theorem dX5_game_58 : decode cX5_game 58 = .ok (.aload_n 0, 1) := by decide +kernel
theorem dX5_game_59 : decode cX5_game 59 = .ok (.iload_n 1, 1) := by decide +kernel
theorem dX5_game_60 : decode cX5_game 60 = .ok (.iload_n 2, 1) := by decide +kernel
theorem dX5_game_61 : decode cX5_game 61 = .ok (.iload_n 3, 1) := by decide +kernel
theorem dX5_game_62 : decode cX5_game 62 = .ok (.invokevirtual 239, 3) := by decide +kernel
theorem dX5_game_65 : decode cX5_game 65 = .ok (.goto 5, 3) := by decide +kernel
theorem dX5_game_68 : decode cX5_game 68 = .ok (.bipush (-103), 2) := by decide +kernel
theorem dX5_game_70 : decode cX5_game 70 = .ok (.ireturn, 1) := by decide +kernel
theorem dX5_setDeep_0 : decode cX5_setDeep 0 = .ok (.aload_n 0, 1) := by decide +kernel
theorem dX5_setDeep_1 : decode cX5_setDeep 1 = .ok (.aload_n 0, 1) := by decide +kernel
theorem dX5_setDeep_2 : decode cX5_setDeep 2 = .ok (.getfield 29, 3) := by decide +kernel
theorem dX5_setDeep_5 : decode cX5_setDeep 5 = .ok (.iload_n 1, 1) := by decide +kernel
theorem dX5_setDeep_6 : decode cX5_setDeep 6 = .ok (.iaload, 1) := by decide +kernel
theorem dX5_setDeep_7 : decode cX5_setDeep 7 = .ok (.putfield 119, 3) := by decide +kernel
theorem dX5_setDeep_10 : decode cX5_setDeep 10 = .ok (.aload_n 0, 1) := by decide +kernel
theorem dX5_setDeep_11 : decode cX5_setDeep 11 = .ok (.aload_n 0, 1) := by decide +kernel
theorem dX5_setDeep_12 : decode cX5_setDeep 12 = .ok (.getfield 32, 3) := by decide +kernel
theorem dX5_setDeep_15 : decode cX5_setDeep 15 = .ok (.iload_n 1, 1) := by decide +kernel
theorem dX5_setDeep_16 : decode cX5_setDeep 16 = .ok (.iaload, 1) := by decide +kernel
theorem dX5_setDeep_17 : decode cX5_setDeep 17 = .ok (.putfield 122, 3) := by decide +kernel
theorem dX5_setDeep_20 : decode cX5_setDeep 20 = .ok (.aload_n 0, 1) := by decide +kernel
theorem dX5_setDeep_21 : decode cX5_setDeep 21 = .ok (.aload_n 0, 1) := by decide +kernel
theorem dX5_setDeep_22 : decode cX5_setDeep 22 = .ok (.getfield 35, 3) := by decide +kernel
theorem dX5_setDeep_25 : decode cX5_setDeep 25 = .ok (.iload_n 1, 1) := by decide +kernel
theorem dX5_setDeep_26 : decode cX5_setDeep 26 = .ok (.iaload, 1) := by decide +kernel
theorem dX5_setDeep_27 : decode cX5_setDeep 27 = .ok (.putfield 125, 3) := by decide +kernel
theorem dX5_setDeep_30 : decode cX5_setDeep 30 = .ok (.aload_n 0, 1) := by decide +kernel
theorem dX5_setDeep_31 : decode cX5_setDeep 31 = .ok (.aload_n 0, 1) := by decide +kernel
theorem dX5_setDeep_32 : decode cX5_setDeep 32 = .ok (.getfield 38, 3) := by decide +kernel
theorem dX5_setDeep_35 : decode cX5_setDeep 35 = .ok (.iload_n 1, 1) := by decide +kernel
theorem dX5_setDeep_36 : decode cX5_setDeep 36 = .ok (.iaload, 1) := by decide +kernel
theorem dX5_setDeep_37 : decode cX5_setDeep 37 = .ok (.iconst 1, 1) := by decide +kernel
theorem dX5_setDeep_38 : decode cX5_setDeep 38 = .ok (.if_icmp .ne 7, 3) := by decide +kernel
theorem dX5_setDeep_41 : decode cX5_setDeep 41 = .ok (.iconst 1, 1) := by decide +kernel
theorem dX5_setDeep_42 : decode cX5_setDeep 42 = .ok (.goto 4, 3) := by decide +kernel
theorem dX5_setDeep_45 : decode cX5_setDeep 45 = .ok (.iconst 0, 1) := by decide +kernel
theorem dX5_setDeep_46 : decode cX5_setDeep 46 = .ok (.putfield 128, 3) := by decide +kernel
theorem dX5_setDeep_49 : decode cX5_setDeep 49 = .ok (.return_, 1) := by decide +kernel
theorem dX5_putDeep_0 : decode cX5_putDeep 0 = .ok (.aload_n 0, 1) := by decide +kernel
theorem dX5_putDeep_1 : decode cX5_putDeep 1 = .ok (.getfield 29, 3) := by decide +kernel
theorem dX5_putDeep_4 : decode cX5_putDeep 4 = .ok (.iload_n 1, 1) := by decide +kernel
theorem dX5_putDeep_5 : decode cX5_putDeep 5 = .ok (.aload_n 0, 1) := by decide +kernel
theorem dX5_putDeep_6 : decode cX5_putDeep 6 = .ok (.getfield 119, 3) := by decide +kernel
theorem dX5_putDeep_9 : decode cX5_putDeep 9 = .ok (.iastore, 1) := by decide +kernel
theorem dX5_putDeep_10 : decode cX5_putDeep 10 = .ok (.aload_n 0, 1) := by decide +kernel
theorem dX5_putDeep_11 : decode cX5_putDeep 11 = .ok (.getfield 32, 3) := by decide +kernel
theorem dX5_putDeep_14 : decode cX5_putDeep 14 = .ok (.iload_n 1, 1) := by decide +kernel
theorem dX5_putDeep_15 : decode cX5_putDeep 15 = .ok (.aload_n 0, 1) := by decide +kernel
theorem dX5_putDeep_16 : decode cX5_putDeep 16 = .ok (.getfield 122, 3) := by decide +kernel
theorem dX5_putDeep_19 : decode cX5_putDeep 19 = .ok (.iastore, 1) := by decide +kernel
theorem dX5_putDeep_20 : decode cX5_putDeep 20 = .ok (.aload_n 0, 1) := by decide +kernel
theorem dX5_putDeep_21 : decode cX5_putDeep 21 = .ok (.getfield 35, 3) := by decide +kernel
theorem dX5_putDeep_24 : decode cX5_putDeep 24 = .ok (.iload_n 1, 1) := by decide +kernel
theorem dX5_putDeep_25 : decode cX5_putDeep 25 = .ok (.aload_n 0, 1) := by decide +kernel
theorem dX5_putDeep_26 : decode cX5_putDeep 26 = .ok (.getfield 125, 3) := by decide +kernel
theorem dX5_putDeep_29 : decode cX5_putDeep 29 = .ok (.iastore, 1) := by decide +kernel
theorem dX5_putDeep_30 : decode cX5_putDeep 30 = .ok (.aload_n 0, 1) := by decide +kernel
theorem dX5_putDeep_31 : decode cX5_putDeep 31 = .ok (.getfield 38, 3) := by decide +kernel
theorem dX5_putDeep_34 : decode cX5_putDeep 34 = .ok (.iload_n 1, 1) := by decide +kernel
theorem dX5_putDeep_35 : decode cX5_putDeep 35 = .ok (.aload_n 0, 1) := by decide +kernel
theorem dX5_putDeep_36 : decode cX5_putDeep 36 = .ok (.getfield 128, 3) := by decide +kernel
theorem dX5_putDeep_39 : decode cX5_putDeep 39 = .ok (.ifCond .eq 7, 3) := by decide +kernel
theorem dX5_putDeep_42 : decode cX5_putDeep 42 = .ok (.iconst 1, 1) := by decide +kernel
theorem dX5_putDeep_43 : decode cX5_putDeep 43 = .ok (.goto 4, 3) := by decide +kernel
theorem dX5_putDeep_46 : decode cX5_putDeep 46 = .ok (.iconst 0, 1) := by decide +kernel
theorem dX5_putDeep_47 : decode cX5_putDeep 47 = .ok (.iastore, 1) := by decide +kernel
theorem dX5_putDeep_48 : decode cX5_putDeep 48 = .ok (.aload_n 0, 1) := by decide +kernel
theorem dX5_putDeep_49 : decode cX5_putDeep 49 = .ok (.getfield 41, 3) := by decide +kernel
theorem dX5_putDeep_52 : decode cX5_putDeep 52 = .ok (.iload_n 1, 1) := by decide +kernel
theorem dX5_putDeep_53 : decode cX5_putDeep 53 = .ok (.iload_n 2, 1) := by decide +kernel
theorem dX5_putDeep_54 : decode cX5_putDeep 54 = .ok (.iastore, 1) := by decide +kernel
theorem dX5_putDeep_55 : decode cX5_putDeep 55 = .ok (.aload_n 0, 1) := by decide +kernel
theorem dX5_putDeep_56 : decode cX5_putDeep 56 = .ok (.getfield 44, 3) := by decide +kernel
theorem dX5_putDeep_59 : decode cX5_putDeep 59 = .ok (.iload_n 1, 1) := by decide +kernel
theorem dX5_putDeep_60 : decode cX5_putDeep 60 = .ok (.iconst 0, 1) := by decide +kernel
theorem dX5_putDeep_61 : decode cX5_putDeep 61 = .ok (.iastore, 1) := by decide +kernel
theorem dX5_putDeep_62 : decode cX5_putDeep 62 = .ok (.return_, 1) := by decide +kernel
theorem dX5_layFaces_0 : decode cX5_layFaces 0 = .ok (.iconst 0, 1) := by decide +kernel
theorem dX5_layFaces_1 : decode cX5_layFaces 1 = .ok (.istore_n 2, 1) := by decide +kernel
theorem dX5_layFaces_2 : decode cX5_layFaces 2 = .ok (.iload_n 2, 1) := by decide +kernel
theorem dX5_layFaces_3 : decode cX5_layFaces 3 = .ok (.iconst 3, 1) := by decide +kernel
theorem dX5_layFaces_4 : decode cX5_layFaces 4 = .ok (.if_icmp .ge 76, 3) := by decide +kernel
theorem dX5_layFaces_7 : decode cX5_layFaces 7 = .ok (.aload_n 0, 1) := by decide +kernel
theorem dX5_layFaces_8 : decode cX5_layFaces 8 = .ok (.iload_n 1, 1) := by decide +kernel
theorem dX5_layFaces_9 : decode cX5_layFaces 9 = .ok (.invokevirtual 243, 3) := by decide +kernel
theorem dX5_layFaces_12 : decode cX5_layFaces 12 = .ok (.aload_n 0, 1) := by decide +kernel
theorem dX5_layFaces_13 : decode cX5_layFaces 13 = .ok (.iload_n 2, 1) := by decide +kernel
theorem dX5_layFaces_14 : decode cX5_layFaces 14 = .ok (.iconst 1, 1) := by decide +kernel
theorem dX5_layFaces_15 : decode cX5_layFaces 15 = .ok (.iadd, 1) := by decide +kernel
theorem dX5_layFaces_16 : decode cX5_layFaces 16 = .ok (.invokevirtual 179, 3) := by decide +kernel
theorem dX5_layFaces_19 : decode cX5_layFaces 19 = .ok (.pop, 1) := by decide +kernel
theorem dX5_layFaces_20 : decode cX5_layFaces 20 = .ok (.iconst 3, 1) := by decide +kernel
theorem dX5_layFaces_21 : decode cX5_layFaces 21 = .ok (.iload_n 1, 1) := by decide +kernel
theorem dX5_layFaces_22 : decode cX5_layFaces 22 = .ok (.imul, 1) := by decide +kernel
theorem dX5_layFaces_23 : decode cX5_layFaces 23 = .ok (.iload_n 2, 1) := by decide +kernel
theorem dX5_layFaces_24 : decode cX5_layFaces 24 = .ok (.iadd, 1) := by decide +kernel
theorem dX5_layFaces_25 : decode cX5_layFaces 25 = .ok (.istore_n 3, 1) := by decide +kernel
theorem dX5_layFaces_26 : decode cX5_layFaces 26 = .ok (.aload_n 0, 1) := by decide +kernel
theorem dX5_layFaces_27 : decode cX5_layFaces 27 = .ok (.getfield 47, 3) := by decide +kernel
theorem dX5_layFaces_30 : decode cX5_layFaces 30 = .ok (.iload_n 3, 1) := by decide +kernel
theorem dX5_layFaces_31 : decode cX5_layFaces 31 = .ok (.aload_n 0, 1) := by decide +kernel
theorem dX5_layFaces_32 : decode cX5_layFaces 32 = .ok (.getfield 119, 3) := by decide +kernel
theorem dX5_layFaces_35 : decode cX5_layFaces 35 = .ok (.iastore, 1) := by decide +kernel
theorem dX5_layFaces_36 : decode cX5_layFaces 36 = .ok (.aload_n 0, 1) := by decide +kernel
theorem dX5_layFaces_37 : decode cX5_layFaces 37 = .ok (.getfield 50, 3) := by decide +kernel
theorem dX5_layFaces_40 : decode cX5_layFaces 40 = .ok (.iload_n 3, 1) := by decide +kernel
theorem dX5_layFaces_41 : decode cX5_layFaces 41 = .ok (.aload_n 0, 1) := by decide +kernel
theorem dX5_layFaces_42 : decode cX5_layFaces 42 = .ok (.getfield 122, 3) := by decide +kernel
theorem dX5_layFaces_45 : decode cX5_layFaces 45 = .ok (.iastore, 1) := by decide +kernel
theorem dX5_layFaces_46 : decode cX5_layFaces 46 = .ok (.aload_n 0, 1) := by decide +kernel
theorem dX5_layFaces_47 : decode cX5_layFaces 47 = .ok (.getfield 53, 3) := by decide +kernel
theorem dX5_layFaces_50 : decode cX5_layFaces 50 = .ok (.iload_n 3, 1) := by decide +kernel
theorem dX5_layFaces_51 : decode cX5_layFaces 51 = .ok (.aload_n 0, 1) := by decide +kernel
theorem dX5_layFaces_52 : decode cX5_layFaces 52 = .ok (.getfield 125, 3) := by decide +kernel
theorem dX5_layFaces_55 : decode cX5_layFaces 55 = .ok (.iastore, 1) := by decide +kernel
theorem dX5_layFaces_56 : decode cX5_layFaces 56 = .ok (.aload_n 0, 1) := by decide +kernel
theorem dX5_layFaces_57 : decode cX5_layFaces 57 = .ok (.getfield 56, 3) := by decide +kernel
theorem dX5_layFaces_60 : decode cX5_layFaces 60 = .ok (.iload_n 3, 1) := by decide +kernel
theorem dX5_layFaces_61 : decode cX5_layFaces 61 = .ok (.aload_n 0, 1) := by decide +kernel
theorem dX5_layFaces_62 : decode cX5_layFaces 62 = .ok (.getfield 128, 3) := by decide +kernel
theorem dX5_layFaces_65 : decode cX5_layFaces 65 = .ok (.ifCond .eq 7, 3) := by decide +kernel
theorem dX5_layFaces_68 : decode cX5_layFaces 68 = .ok (.iconst 1, 1) := by decide +kernel
theorem dX5_layFaces_69 : decode cX5_layFaces 69 = .ok (.goto 4, 3) := by decide +kernel
theorem dX5_layFaces_72 : decode cX5_layFaces 72 = .ok (.iconst 0, 1) := by decide +kernel
theorem dX5_layFaces_73 : decode cX5_layFaces 73 = .ok (.iastore, 1) := by decide +kernel
theorem dX5_layFaces_74 : decode cX5_layFaces 74 = .ok (.iinc 2 1, 3) := by decide +kernel
