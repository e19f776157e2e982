theorem dX0_init_0 : decode cX0_init 0 = .ok (.aload_n 0, 1) := by decide +kernel
theorem dX0_init_1 : decode cX0_init 1 = .ok (.invokespecial 3, 3) := by decide +kernel
theorem dX0_init_4 : decode cX0_init 4 = .ok (.return_, 1) := by decide +kernel
theorem dX0_clear_0 : decode cX0_clear 0 = .ok (.aload_n 0, 1) := by decide +kernel
theorem dX0_clear_1 : decode cX0_clear 1 = .ok (.iconst 0, 1) := by decide +kernel
theorem dX0_clear_2 : decode cX0_clear 2 = .ok (.putfield 9, 3) := by decide +kernel
theorem dX0_clear_5 : decode cX0_clear 5 = .ok (.aload_n 0, 1) := by decide +kernel
theorem dX0_clear_6 : decode cX0_clear 6 = .ok (.iconst 0, 1) := by decide +kernel
theorem dX0_clear_7 : decode cX0_clear 7 = .ok (.putfield 15, 3) := by decide +kernel
theorem dX0_clear_10 : decode cX0_clear 10 = .ok (.aload_n 0, 1) := by decide +kernel
theorem dX0_clear_11 : decode cX0_clear 11 = .ok (.iconst 0, 1) := by decide +kernel
theorem dX0_clear_12 : decode cX0_clear 12 = .ok (.putfield 18, 3) := by decide +kernel
theorem dX0_clear_15 : decode cX0_clear 15 = .ok (.aload_n 0, 1) := by decide +kernel
theorem dX0_clear_16 : decode cX0_clear 16 = .ok (.iconst 0, 1) := by decide +kernel
theorem dX0_clear_17 : decode cX0_clear 17 = .ok (.putfield 21, 3) := by decide +kernel
theorem dX0_clear_20 : decode cX0_clear 20 = .ok (.aload_n 0, 1) := by decide +kernel
theorem dX0_clear_21 : decode cX0_clear 21 = .ok (.iconst 0, 1) := by decide +kernel
theorem dX0_clear_22 : decode cX0_clear 22 = .ok (.putfield 24, 3) := by decide +kernel
theorem dX0_clear_25 : decode cX0_clear 25 = .ok (.aload_n 0, 1) := by decide +kernel
theorem dX0_clear_26 : decode cX0_clear 26 = .ok (.iconst 0, 1) := by decide +kernel
theorem dX0_clear_27 : decode cX0_clear 27 = .ok (.putfield 27, 3) := by decide +kernel
theorem dX0_clear_30 : decode cX0_clear 30 = .ok (.aload_n 0, 1) := by decide +kernel
theorem dX0_clear_31 : decode cX0_clear 31 = .ok (.iconst 0, 1) := by decide +kernel
theorem dX0_clear_32 : decode cX0_clear 32 = .ok (.putfield 30, 3) := by decide +kernel
theorem dX0_clear_35 : decode cX0_clear 35 = .ok (.aload_n 0, 1) := by decide +kernel
theorem dX0_clear_36 : decode cX0_clear 36 = .ok (.iconst 0, 1) := by decide +kernel
theorem dX0_clear_37 : decode cX0_clear 37 = .ok (.putfield 33, 3) := by decide +kernel
theorem dX0_clear_40 : decode cX0_clear 40 = .ok (.aload_n 0, 1) := by decide +kernel
theorem dX0_clear_41 : decode cX0_clear 41 = .ok (.iconst 1, 1) := by decide +kernel
theorem dX0_clear_42 : decode cX0_clear 42 = .ok (.putfield 36, 3) := by decide +kernel
theorem dX0_clear_45 : decode cX0_clear 45 = .ok (.return_, 1) := by decide +kernel
theorem dX0_takeAll_0 : decode cX0_takeAll 0 = .ok (.aload_n 0, 1) := by decide +kernel
theorem dX0_takeAll_1 : decode cX0_takeAll 1 = .ok (.aload_n 1, 1) := by decide +kernel
theorem dX0_takeAll_2 : decode cX0_takeAll 2 = .ok (.getfield 9, 3) := by decide +kernel
theorem dX0_takeAll_5 : decode cX0_takeAll 5 = .ok (.putfield 9, 3) := by decide +kernel
theorem dX0_takeAll_8 : decode cX0_takeAll 8 = .ok (.aload_n 0, 1) := by decide +kernel
theorem dX0_takeAll_9 : decode cX0_takeAll 9 = .ok (.aload_n 1, 1) := by decide +kernel
theorem dX0_takeAll_10 : decode cX0_takeAll 10 = .ok (.getfield 15, 3) := by decide +kernel
theorem dX0_takeAll_13 : decode cX0_takeAll 13 = .ok (.putfield 15, 3) := by decide +kernel
theorem dX0_takeAll_16 : decode cX0_takeAll 16 = .ok (.aload_n 0, 1) := by decide +kernel
theorem dX0_takeAll_17 : decode cX0_takeAll 17 = .ok (.aload_n 1, 1) := by decide +kernel
theorem dX0_takeAll_18 : decode cX0_takeAll 18 = .ok (.getfield 18, 3) := by decide +kernel
theorem dX0_takeAll_21 : decode cX0_takeAll 21 = .ok (.putfield 18, 3) := by decide +kernel
theorem dX0_takeAll_24 : decode cX0_takeAll 24 = .ok (.aload_n 0, 1) := by decide +kernel
theorem dX0_takeAll_25 : decode cX0_takeAll 25 = .ok (.aload_n 1, 1) := by decide +kernel
theorem dX0_takeAll_26 : decode cX0_takeAll 26 = .ok (.getfield 21, 3) := by decide +kernel
theorem dX0_takeAll_29 : decode cX0_takeAll 29 = .ok (.putfield 21, 3) := by decide +kernel
theorem dX0_takeAll_32 : decode cX0_takeAll 32 = .ok (.aload_n 0, 1) := by decide +kernel
theorem dX0_takeAll_33 : decode cX0_takeAll 33 = .ok (.aload_n 1, 1) := by decide +kernel
theorem dX0_takeAll_34 : decode cX0_takeAll 34 = .ok (.getfield 24, 3) := by decide +kernel
theorem dX0_takeAll_37 : decode cX0_takeAll 37 = .ok (.putfield 24, 3) := by decide +kernel
theorem dX0_takeAll_40 : decode cX0_takeAll 40 = .ok (.aload_n 0, 1) := by decide +kernel
theorem dX0_takeAll_41 : decode cX0_takeAll 41 = .ok (.aload_n 1, 1) := by decide +kernel
theorem dX0_takeAll_42 : decode cX0_takeAll 42 = .ok (.getfield 27, 3) := by decide +kernel
theorem dX0_takeAll_45 : decode cX0_takeAll 45 = .ok (.putfield 27, 3) := by decide +kernel
theorem dX0_takeAll_48 : decode cX0_takeAll 48 = .ok (.aload_n 0, 1) := by decide +kernel
theorem dX0_takeAll_49 : decode cX0_takeAll 49 = .ok (.aload_n 1, 1) := by decide +kernel
theorem dX0_takeAll_50 : decode cX0_takeAll 50 = .ok (.getfield 30, 3) := by decide +kernel
theorem dX0_takeAll_53 : decode cX0_takeAll 53 = .ok (.putfield 30, 3) := by decide +kernel
theorem dX0_takeAll_56 : decode cX0_takeAll 56 = .ok (.aload_n 0, 1) := by decide +kernel
theorem dX0_takeAll_57 : decode cX0_takeAll 57 = .ok (.aload_n 1, 1) := by decide +kernel
theorem dX0_takeAll_58 : decode cX0_takeAll 58 = .ok (.getfield 33, 3) := by decide +kernel
theorem dX0_takeAll_61 : decode cX0_takeAll 61 = .ok (.putfield 33, 3) := by decide +kernel
theorem dX0_takeAll_64 : decode cX0_takeAll 64 = .ok (.aload_n 0, 1) := by decide +kernel
theorem dX0_takeAll_65 : decode cX0_takeAll 65 = .ok (.aload_n 1, 1) := by decide +kernel
theorem dX0_takeAll_66 : decode cX0_takeAll 66 = .ok (.getfield 36, 3) := by decide +kernel
theorem dX0_takeAll_69 : decode cX0_takeAll 69 = .ok (.putfield 36, 3) := by decide +kernel
theorem dX0_takeAll_72 : decode cX0_takeAll 72 = .ok (.return_, 1) := by decide +kernel
theorem dX0_addBehind_0 : decode cX0_addBehind 0 = .ok (.aload_n 0, 1) := by decide +kernel
theorem dX0_addBehind_1 : decode cX0_addBehind 1 = .ok (.dup, 1) := by decide +kernel
theorem dX0_addBehind_2 : decode cX0_addBehind 2 = .ok (.getfield 27, 3) := by decide +kernel
theorem dX0_addBehind_5 : decode cX0_addBehind 5 = .ok (.iconst 1, 1) := by decide +kernel
theorem dX0_addBehind_6 : decode cX0_addBehind 6 = .ok (.aload_n 0, 1) := by decide +kernel
theorem dX0_addBehind_7 : decode cX0_addBehind 7 = .ok (.getfield 9, 3) := by decide +kernel
theorem dX0_addBehind_10 : decode cX0_addBehind 10 = .ok (.ishl, 1) := by decide +kernel
theorem dX0_addBehind_11 : decode cX0_addBehind 11 = .ok (.ior, 1) := by decide +kernel
theorem dX0_addBehind_12 : decode cX0_addBehind 12 = .ok (.putfield 27, 3) := by decide +kernel
theorem dX0_addBehind_15 : decode cX0_addBehind 15 = .ok (.aload_n 0, 1) := by decide +kernel
theorem dX0_addBehind_16 : decode cX0_addBehind 16 = .ok (.aload_n 0, 1) := by decide +kernel
theorem dX0_addBehind_17 : decode cX0_addBehind 17 = .ok (.getfield 9, 3) := by decide +kernel
theorem dX0_addBehind_20 : decode cX0_addBehind 20 = .ok (.iload_n 1, 1) := by decide +kernel
theorem dX0_addBehind_21 : decode cX0_addBehind 21 = .ok (.invokevirtual 40, 3) := by decide +kernel
theorem dX0_addBehind_24 : decode cX0_addBehind 24 = .ok (.aload_n 0, 1) := by decide +kernel
theorem dX0_addBehind_25 : decode cX0_addBehind 25 = .ok (.dup, 1) := by decide +kernel
theorem dX0_addBehind_26 : decode cX0_addBehind 26 = .ok (.getfield 9, 3) := by decide +kernel
theorem dX0_addBehind_29 : decode cX0_addBehind 29 = .ok (.iconst 1, 1) := by decide +kernel
theorem dX0_addBehind_30 : decode cX0_addBehind 30 = .ok (.iadd, 1) := by decide +kernel
theorem dX0_addBehind_31 : decode cX0_addBehind 31 = .ok (.putfield 9, 3) := by decide +kernel
theorem dX0_addBehind_34 : decode cX0_addBehind 34 = .ok (.return_, 1) := by decide +kernel
theorem dX0_addAhead_0 : decode cX0_addAhead 0 = .ok (.aload_n 0, 1) := by decide +kernel
theorem dX0_addAhead_1 : decode cX0_addAhead 1 = .ok (.aload_n 0, 1) := by decide +kernel
theorem dX0_addAhead_2 : decode cX0_addAhead 2 = .ok (.getfield 15, 3) := by decide +kernel
theorem dX0_addAhead_5 : decode cX0_addAhead 5 = .ok (.iload_n 1, 1) := by decide +kernel
theorem dX0_addAhead_6 : decode cX0_addAhead 6 = .ok (.invokestatic 44, 3) := by decide +kernel
theorem dX0_addAhead_9 : decode cX0_addAhead 9 = .ok (.putfield 15, 3) := by decide +kernel
theorem dX0_addAhead_12 : decode cX0_addAhead 12 = .ok (.aload_n 0, 1) := by decide +kernel
theorem dX0_addAhead_13 : decode cX0_addAhead 13 = .ok (.aload_n 0, 1) := by decide +kernel
theorem dX0_addAhead_14 : decode cX0_addAhead 14 = .ok (.getfield 18, 3) := by decide +kernel
theorem dX0_addAhead_17 : decode cX0_addAhead 17 = .ok (.iload_n 1, 1) := by decide +kernel
theorem dX0_addAhead_18 : decode cX0_addAhead 18 = .ok (.invokestatic 44, 3) := by decide +kernel
theorem dX0_addAhead_21 : decode cX0_addAhead 21 = .ok (.putfield 18, 3) := by decide +kernel
theorem dX0_addAhead_24 : decode cX0_addAhead 24 = .ok (.aload_n 0, 1) := by decide +kernel
theorem dX0_addAhead_25 : decode cX0_addAhead 25 = .ok (.aload_n 0, 1) := by decide +kernel
theorem dX0_addAhead_26 : decode cX0_addAhead 26 = .ok (.getfield 21, 3) := by decide +kernel
theorem dX0_addAhead_29 : decode cX0_addAhead 29 = .ok (.iload_n 1, 1) := by decide +kernel
theorem dX0_addAhead_30 : decode cX0_addAhead 30 = .ok (.invokestatic 44, 3) := by decide +kernel
theorem dX0_addAhead_33 : decode cX0_addAhead 33 = .ok (.putfield 21, 3) := by decide +kernel
theorem dX0_addAhead_36 : decode cX0_addAhead 36 = .ok (.aload_n 0, 1) := by decide +kernel
theorem dX0_addAhead_37 : decode cX0_addAhead 37 = .ok (.aload_n 0, 1) := by decide +kernel
theorem dX0_addAhead_38 : decode cX0_addAhead 38 = .ok (.getfield 24, 3) := by decide +kernel
theorem dX0_addAhead_41 : decode cX0_addAhead 41 = .ok (.iload_n 1, 1) := by decide +kernel
theorem dX0_addAhead_42 : decode cX0_addAhead 42 = .ok (.invokestatic 44, 3) := by decide +kernel
theorem dX0_addAhead_45 : decode cX0_addAhead 45 = .ok (.putfield 24, 3) := by decide +kernel
theorem dX0_addAhead_48 : decode cX0_addAhead 48 = .ok (.aload_n 0, 1) := by decide +kernel
theorem dX0_addAhead_49 : decode cX0_addAhead 49 = .ok (.aload_n 0, 1) := by decide +kernel
theorem dX0_addAhead_50 : decode cX0_addAhead 50 = .ok (.getfield 30, 3) := by decide +kernel
theorem dX0_addAhead_53 : decode cX0_addAhead 53 = .ok (.iload_n 1, 1) := by decide +kernel
theorem dX0_addAhead_54 : decode cX0_addAhead 54 = .ok (.invokestatic 44, 3) := by decide +kernel
theorem dX0_addAhead_57 : decode cX0_addAhead 57 = .ok (.putfield 30, 3) := by decide +kernel
theorem dX0_addAhead_60 : decode cX0_addAhead 60 = .ok (.aload_n 0, 1) := by decide +kernel
theorem dX0_addAhead_61 : decode cX0_addAhead 61 = .ok (.aload_n 0, 1) := by decide +kernel
theorem dX0_addAhead_62 : decode cX0_addAhead 62 = .ok (.getfield 27, 3) := by decide +kernel
theorem dX0_addAhead_65 : decode cX0_addAhead 65 = .ok (.iload_n 1, 1) := by decide +kernel
theorem dX0_addAhead_66 : decode cX0_addAhead 66 = .ok (.invokestatic 44, 3) := by decide +kernel
theorem dX0_addAhead_69 : decode cX0_addAhead 69 = .ok (.iconst 1, 1) := by decide +kernel
theorem dX0_addAhead_70 : decode cX0_addAhead 70 = .ok (.iload_n 1, 1) := by decide +kernel
theorem dX0_addAhead_71 : decode cX0_addAhead 71 = .ok (.ishl, 1) := by decide +kernel
theorem dX0_addAhead_72 : decode cX0_addAhead 72 = .ok (.ior, 1) := by decide +kernel
theorem dX0_addAhead_73 : decode cX0_addAhead 73 = .ok (.putfield 27, 3) := by decide +kernel
theorem dX0_addAhead_76 : decode cX0_addAhead 76 = .ok (.aload_n 0, 1) := by decide +kernel
theorem dX0_addAhead_77 : decode cX0_addAhead 77 = .ok (.getfield 33, 3) := by decide +kernel
theorem dX0_addAhead_80 : decode cX0_addAhead 80 = .ok (.iload_n 1, 1) := by decide +kernel
theorem dX0_addAhead_81 : decode cX0_addAhead 81 = .ok (.if_icmp .lt 13, 3) := by decide +kernel
theorem dX0_addAhead_84 : decode cX0_addAhead 84 = .ok (.aload_n 0, 1) := by decide +kernel
theorem dX0_addAhead_85 : decode cX0_addAhead 85 = .ok (.dup, 1) := by decide +kernel
theorem dX0_addAhead_86 : decode cX0_addAhead 86 = .ok (.getfield 33, 3) := by decide +kernel
theorem dX0_addAhead_89 : decode cX0_addAhead 89 = .ok (.iconst 1, 1) := by decide +kernel
theorem dX0_addAhead_90 : decode cX0_addAhead 90 = .ok (.iadd, 1) := by decide +kernel
theorem dX0_addAhead_91 : decode cX0_addAhead 91 = .ok (.putfield 33, 3) := by decide +kernel
theorem dX0_addAhead_94 : decode cX0_addAhead 94 = .ok (.aload_n 0, 1) := by decide +kernel
theorem dX0_addAhead_95 : decode cX0_addAhead 95 = .ok (.dup, 1) := by decide +kernel
theorem dX0_addAhead_96 : decode cX0_addAhead 96 = .ok (.getfield 9, 3) := by decide +kernel
theorem dX0_addAhead_99 : decode cX0_addAhead 99 = .ok (.iconst 1, 1) := by decide +kernel
theorem dX0_addAhead_100 : decode cX0_addAhead 100 = .ok (.iadd, 1) := by decide +kernel
theorem dX0_addAhead_101 : decode cX0_addAhead 101 = .ok (.putfield 9, 3) := by decide +kernel
theorem dX0_addAhead_104 : decode cX0_addAhead 104 = .ok (.aload_n 0, 1) := by decide +kernel
theorem dX0_addAhead_105 : decode cX0_addAhead 105 = .ok (.iload_n 1, 1) := by decide +kernel
theorem dX0_addAhead_106 : decode cX0_addAhead 106 = .ok (.iload_n 2, 1) := by decide +kernel
theorem dX0_addAhead_107 : decode cX0_addAhead 107 = .ok (.invokevirtual 40, 3) := by decide +kernel
theorem dX0_addAhead_110 : decode cX0_addAhead 110 = .ok (.return_, 1) := by decide +kernel
theorem dX0_movedUp_0 : decode cX0_movedUp 0 = .ok (.iconst 1, 1) := by decide +kernel
theorem dX0_movedUp_1 : decode cX0_movedUp 1 = .ok (.iload_n 1, 1) := by decide +kernel
theorem dX0_movedUp_2 : decode cX0_movedUp 2 = .ok (.ishl, 1) := by decide +kernel
theorem dX0_movedUp_3 : decode cX0_movedUp 3 = .ok (.iconst 1, 1) := by decide +kernel
theorem dX0_movedUp_4 : decode cX0_movedUp 4 = .ok (.isub, 1) := by decide +kernel
theorem dX0_movedUp_5 : decode cX0_movedUp 5 = .ok (.istore_n 2, 1) := by decide +kernel
theorem dX0_movedUp_6 : decode cX0_movedUp 6 = .ok (.iload_n 0, 1) := by decide +kernel
theorem dX0_movedUp_7 : decode cX0_movedUp 7 = .ok (.iload_n 2, 1) := by decide +kernel
theorem dX0_movedUp_8 : decode cX0_movedUp 8 = .ok (.iand, 1) := by decide +kernel
theorem dX0_movedUp_9 : decode cX0_movedUp 9 = .ok (.iload_n 0, 1) := by decide +kernel
theorem dX0_movedUp_10 : decode cX0_movedUp 10 = .ok (.iload_n 2, 1) := by decide +kernel
theorem dX0_movedUp_11 : decode cX0_movedUp 11 = .ok (.iconst (-1), 1) := by decide +kernel
theorem dX0_movedUp_12 : decode cX0_movedUp 12 = .ok (.ixor, 1) := by decide +kernel
theorem dX0_movedUp_13 : decode cX0_movedUp 13 = .ok (.iand, 1) := by decide +kernel
theorem dX0_movedUp_14 : decode cX0_movedUp 14 = .ok (.iconst 1, 1) := by decide +kernel
theorem dX0_movedUp_15 : decode cX0_movedUp 15 = .ok (.ishl, 1) := by decide +kernel
theorem dX0_movedUp_16 : decode cX0_movedUp 16 = .ok (.ior, 1) := by decide +kernel
theorem dX0_movedUp_17 : decode cX0_movedUp 17 = .ok (.ireturn, 1) := by decide +kernel
theorem dX0_become_0 : decode cX0_become 0 = .ok (.iconst 1, 1) := by decide +kernel
theorem dX0_become_1 : decode cX0_become 1 = .ok (.iload_n 1, 1) := by decide +kernel
theorem dX0_become_2 : decode cX0_become 2 = .ok (.ishl, 1) := by decide +kernel
theorem dX0_become_3 : decode cX0_become 3 = .ok (.istore_n 3, 1) := by decide +kernel
theorem dX0_become_4 : decode cX0_become 4 = .ok (.aload_n 0, 1) := by decide +kernel
theorem dX0_become_5 : decode cX0_become 5 = .ok (.iload_n 2, 1) := by decide +kernel
theorem dX0_become_6 : decode cX0_become 6 = .ok (.iconst 1, 1) := by decide +kernel
theorem dX0_become_7 : decode cX0_become 7 = .ok (.if_icmp .ne 12, 3) := by decide +kernel
theorem dX0_become_10 : decode cX0_become 10 = .ok (.aload_n 0, 1) := by decide +kernel
theorem dX0_become_11 : decode cX0_become 11 = .ok (.getfield 15, 3) := by decide +kernel
theorem dX0_become_14 : decode cX0_become 14 = .ok (.iload_n 3, 1) := by decide +kernel
theorem dX0_become_15 : decode cX0_become 15 = .ok (.ior, 1) := by decide +kernel
theorem dX0_become_16 : decode cX0_become 16 = .ok (.goto 11, 3) := by decide +kernel
theorem dX0_become_19 : decode cX0_become 19 = .ok (.aload_n 0, 1) := by decide +kernel
theorem dX0_become_20 : decode cX0_become 20 = .ok (.getfield 15, 3) := by decide +kernel
theorem dX0_become_23 : decode cX0_become 23 = .ok (.iload_n 3, 1) := by decide +kernel
theorem dX0_become_24 : decode cX0_become 24 = .ok (.iconst (-1), 1) := by decide +kernel
theorem dX0_become_25 : decode cX0_become 25 = .ok (.ixor, 1) := by decide +kernel
theorem dX0_become_26 : decode cX0_become 26 = .ok (.iand, 1) := by decide +kernel
theorem dX0_become_27 : decode cX0_become 27 = .ok (.putfield 15, 3) := by decide +kernel
theorem dX0_become_30 : decode cX0_become 30 = .ok (.aload_n 0, 1) := by decide +kernel
theorem dX0_become_31 : decode cX0_become 31 = .ok (.iload_n 2, 1) := by decide +kernel
theorem dX0_become_32 : decode cX0_become 32 = .ok (.iconst 2, 1) := by decide +kernel
theorem dX0_become_33 : decode cX0_become 33 = .ok (.if_icmp .ne 12, 3) := by decide +kernel
theorem dX0_become_36 : decode cX0_become 36 = .ok (.aload_n 0, 1) := by decide +kernel
theorem dX0_become_37 : decode cX0_become 37 = .ok (.getfield 18, 3) := by decide +kernel
theorem dX0_become_40 : decode cX0_become 40 = .ok (.iload_n 3, 1) := by decide +kernel
theorem dX0_become_41 : decode cX0_become 41 = .ok (.ior, 1) := by decide +kernel
theorem dX0_become_42 : decode cX0_become 42 = .ok (.goto 11, 3) := by decide +kernel
theorem dX0_become_45 : decode cX0_become 45 = .ok (.aload_n 0, 1) := by decide +kernel
theorem dX0_become_46 : decode cX0_become 46 = .ok (.getfield 18, 3) := by decide +kernel
theorem dX0_become_49 : decode cX0_become 49 = .ok (.iload_n 3, 1) := by decide +kernel
theorem dX0_become_50 : decode cX0_become 50 = .ok (.iconst (-1), 1) := by decide +kernel
theorem dX0_become_51 : decode cX0_become 51 = .ok (.ixor, 1) := by decide +kernel
theorem dX0_become_52 : decode cX0_become 52 = .ok (.iand, 1) := by decide +kernel
theorem dX0_become_53 : decode cX0_become 53 = .ok (.putfield 18, 3) := by decide +kernel
theorem dX0_become_56 : decode cX0_become 56 = .ok (.aload_n 0, 1) := by decide +kernel
theorem dX0_become_57 : decode cX0_become 57 = .ok (.iload_n 2, 1) := by decide +kernel
theorem dX0_become_58 : decode cX0_become 58 = .ok (.iconst 3, 1) := by decide +kernel
theorem dX0_become_59 : decode cX0_become 59 = .ok (.if_icmp .eq 8, 3) := by decide +kernel
theorem dX0_become_62 : decode cX0_become 62 = .ok (.iload_n 2, 1) := by decide +kernel
theorem dX0_become_63 : decode cX0_become 63 = .ok (.iconst 4, 1) := by decide +kernel
theorem dX0_become_64 : decode cX0_become 64 = .ok (.if_icmp .ne 12, 3) := by decide +kernel
theorem dX0_become_67 : decode cX0_become 67 = .ok (.aload_n 0, 1) := by decide +kernel
theorem dX0_become_68 : decode cX0_become 68 = .ok (.getfield 21, 3) := by decide +kernel
theorem dX0_become_71 : decode cX0_become 71 = .ok (.iload_n 3, 1) := by decide +kernel
theorem dX0_become_72 : decode cX0_become 72 = .ok (.ior, 1) := by decide +kernel
theorem dX0_become_73 : decode cX0_become 73 = .ok (.goto 11, 3) := by decide +kernel
theorem dX0_become_76 : decode cX0_become 76 = .ok (.aload_n 0, 1) := by decide +kernel
theorem dX0_become_77 : decode cX0_become 77 = .ok (.getfield 21, 3) := by decide +kernel
theorem dX0_become_80 : decode cX0_become 80 = .ok (.iload_n 3, 1) := by decide +kernel
theorem dX0_become_81 : decode cX0_become 81 = .ok (.iconst (-1), 1) := by decide +kernel
theorem dX0_become_82 : decode cX0_become 82 = .ok (.ixor, 1) := by decide +kernel
theorem dX0_become_83 : decode cX0_become 83 = .ok (.iand, 1) := by decide +kernel
theorem dX0_become_84 : decode cX0_become 84 = .ok (.putfield 21, 3) := by decide +kernel
theorem dX0_become_87 : decode cX0_become 87 = .ok (.aload_n 0, 1) := by decide +kernel
theorem dX0_become_88 : decode cX0_become 88 = .ok (.iload_n 2, 1) := by decide +kernel
theorem dX0_become_89 : decode cX0_become 89 = .ok (.iconst 4, 1) := by decide +kernel
theorem dX0_become_90 : decode cX0_become 90 = .ok (.if_icmp .ne 12, 3) := by decide +kernel
theorem dX0_become_93 : decode cX0_become 93 = .ok (.aload_n 0, 1) := by decide +kernel
theorem dX0_become_94 : decode cX0_become 94 = .ok (.getfield 24, 3) := by decide +kernel
theorem dX0_become_97 : decode cX0_become 97 = .ok (.iload_n 3, 1) := by decide +kernel
theorem dX0_become_98 : decode cX0_become 98 = .ok (.ior, 1) := by decide +kernel
theorem dX0_become_99 : decode cX0_become 99 = .ok (.goto 11, 3) := by decide +kernel
theorem dX0_become_102 : decode cX0_become 102 = .ok (.aload_n 0, 1) := by decide +kernel
theorem dX0_become_103 : decode cX0_become 103 = .ok (.getfield 24, 3) := by decide +kernel
theorem dX0_become_106 : decode cX0_become 106 = .ok (.iload_n 3, 1) := by decide +kernel
theorem dX0_become_107 : decode cX0_become 107 = .ok (.iconst (-1), 1) := by decide +kernel
theorem dX0_become_108 : decode cX0_become 108 = .ok (.ixor, 1) := by decide +kernel
theorem dX0_become_109 : decode cX0_become 109 = .ok (.iand, 1) := by decide +kernel
theorem dX0_become_110 : decode cX0_become 110 = .ok (.putfield 24, 3) := by decide +kernel
theorem dX0_become_113 : decode cX0_become 113 = .ok (.aload_n 0, 1) := by decide +kernel
theorem dX0_become_114 : decode cX0_become 114 = .ok (.dup, 1) := by decide +kernel
theorem dX0_become_115 : decode cX0_become 115 = .ok (.getfield 30, 3) := by decide +kernel
theorem dX0_become_118 : decode cX0_become 118 = .ok (.iload_n 3, 1) := by decide +kernel
theorem dX0_become_119 : decode cX0_become 119 = .ok (.iconst (-1), 1) := by decide +kernel
theorem dX0_become_120 : decode cX0_become 120 = .ok (.ixor, 1) := by decide +kernel
theorem dX0_become_121 : decode cX0_become 121 = .ok (.iand, 1) := by decide +kernel
theorem dX0_become_122 : decode cX0_become 122 = .ok (.putfield 30, 3) := by decide +kernel
theorem dX0_become_125 : decode cX0_become 125 = .ok (.return_, 1) := by decide +kernel
theorem dX0_kindOf_0 : decode cX0_kindOf 0 = .ok (.iconst 1, 1) := by decide +kernel
theorem dX0_kindOf_1 : decode cX0_kindOf 1 = .ok (.iload_n 1, 1) := by decide +kernel
theorem dX0_kindOf_2 : decode cX0_kindOf 2 = .ok (.ishl, 1) := by decide +kernel
theorem dX0_kindOf_3 : decode cX0_kindOf 3 = .ok (.istore_n 2, 1) := by decide +kernel
theorem dX0_kindOf_4 : decode cX0_kindOf 4 = .ok (.aload_n 0, 1) := by decide +kernel
theorem dX0_kindOf_5 : decode cX0_kindOf 5 = .ok (.getfield 15, 3) := by decide +kernel
theorem dX0_kindOf_8 : decode cX0_kindOf 8 = .ok (.iload_n 2, 1) := by decide +kernel
theorem dX0_kindOf_9 : decode cX0_kindOf 9 = .ok (.iand, 1) := by decide +kernel
theorem dX0_kindOf_10 : decode cX0_kindOf 10 = .ok (.ifCond .eq 5, 3) := by decide +kernel
theorem dX0_kindOf_13 : decode cX0_kindOf 13 = .ok (.iconst 1, 1) := by decide +kernel
theorem dX0_kindOf_14 : decode cX0_kindOf 14 = .ok (.ireturn, 1) := by decide +kernel
theorem dX0_kindOf_15 : decode cX0_kindOf 15 = .ok (.aload_n 0, 1) := by decide +kernel
theorem dX0_kindOf_16 : decode cX0_kindOf 16 = .ok (.getfield 18, 3) := by decide +kernel
theorem dX0_kindOf_19 : decode cX0_kindOf 19 = .ok (.iload_n 2, 1) := by decide +kernel
theorem dX0_kindOf_20 : decode cX0_kindOf 20 = .ok (.iand, 1) := by decide +kernel
theorem dX0_kindOf_21 : decode cX0_kindOf 21 = .ok (.ifCond .eq 5, 3) := by decide +kernel
theorem dX0_kindOf_24 : decode cX0_kindOf 24 = .ok (.iconst 2, 1) := by decide +kernel
theorem dX0_kindOf_25 : decode cX0_kindOf 25 = .ok (.ireturn, 1) := by decide +kernel
theorem dX0_kindOf_26 : decode cX0_kindOf 26 = .ok (.aload_n 0, 1) := by decide +kernel
theorem dX0_kindOf_27 : decode cX0_kindOf 27 = .ok (.getfield 24, 3) := by decide +kernel
theorem dX0_kindOf_30 : decode cX0_kindOf 30 = .ok (.iload_n 2, 1) := by decide +kernel
theorem dX0_kindOf_31 : decode cX0_kindOf 31 = .ok (.iand, 1) := by decide +kernel
theorem dX0_kindOf_32 : decode cX0_kindOf 32 = .ok (.ifCond .eq 5, 3) := by decide +kernel
theorem dX0_kindOf_35 : decode cX0_kindOf 35 = .ok (.iconst 4, 1) := by decide +kernel
theorem dX0_kindOf_36 : decode cX0_kindOf 36 = .ok (.ireturn, 1) := by decide +kernel
theorem dX0_kindOf_37 : decode cX0_kindOf 37 = .ok (.aload_n 0, 1) := by decide +kernel
theorem dX0_kindOf_38 : decode cX0_kindOf 38 = .ok (.getfield 21, 3) := by decide +kernel
theorem dX0_kindOf_41 : decode cX0_kindOf 41 = .ok (.iload_n 2, 1) := by decide +kernel
theorem dX0_kindOf_42 : decode cX0_kindOf 42 = .ok (.iand, 1) := by decide +kernel
theorem dX0_kindOf_43 : decode cX0_kindOf 43 = .ok (.ifCond .eq 7, 3) := by decide +kernel
theorem dX0_kindOf_46 : decode cX0_kindOf 46 = .ok (.iconst 3, 1) := by decide +kernel
theorem dX0_kindOf_47 : decode cX0_kindOf 47 = .ok (.goto 4, 3) := by decide +kernel
theorem dX0_kindOf_50 : decode cX0_kindOf 50 = .ok (.iconst 0, 1) := by decide +kernel
theorem dX0_kindOf_51 : decode cX0_kindOf 51 = .ok (.ireturn, 1) := by decide +kernel
theorem dX0_isIn_0 : decode cX0_isIn 0 = .ok (.aload_n 0, 1) := by decide +kernel
theorem dX0_isIn_1 : decode cX0_isIn 1 = .ok (.getfield 27, 3) := by decide +kernel
theorem dX0_isIn_4 : decode cX0_isIn 4 = .ok (.iload_n 1, 1) := by decide +kernel
theorem dX0_isIn_5 : decode cX0_isIn 5 = .ok (.ishr, 1) := by decide +kernel
theorem dX0_isIn_6 : decode cX0_isIn 6 = .ok (.iconst 1, 1) := by decide +kernel
theorem dX0_isIn_7 : decode cX0_isIn 7 = .ok (.iand, 1) := by decide +kernel
theorem dX0_isIn_8 : decode cX0_isIn 8 = .ok (.ifCond .eq 7, 3) := by decide +kernel
theorem dX0_isIn_11 : decode cX0_isIn 11 = .ok (.iconst 1, 1) := by decide +kernel
theorem dX0_isIn_12 : decode cX0_isIn 12 = .ok (.goto 4, 3) := by decide +kernel
theorem dX0_isIn_15 : decode cX0_isIn 15 = .ok (.iconst 0, 1) := by decide +kernel
theorem dX0_isIn_16 : decode cX0_isIn 16 = .ok (.ireturn, 1) := by decide +kernel
theorem dX0_hasSlipped_0 : decode cX0_hasSlipped 0 = .ok (.aload_n 0, 1) := by decide +kernel
theorem dX0_hasSlipped_1 : decode cX0_hasSlipped 1 = .ok (.getfield 30, 3) := by decide +kernel
theorem dX0_hasSlipped_4 : decode cX0_hasSlipped 4 = .ok (.iload_n 1, 1) := by decide +kernel
theorem dX0_hasSlipped_5 : decode cX0_hasSlipped 5 = .ok (.ishr, 1) := by decide +kernel
theorem dX0_hasSlipped_6 : decode cX0_hasSlipped 6 = .ok (.iconst 1, 1) := by decide +kernel
theorem dX0_hasSlipped_7 : decode cX0_hasSlipped 7 = .ok (.iand, 1) := by decide +kernel
theorem dX0_hasSlipped_8 : decode cX0_hasSlipped 8 = .ok (.ifCond .eq 7, 3) := by decide +kernel
theorem dX0_hasSlipped_11 : decode cX0_hasSlipped 11 = .ok (.iconst 1, 1) := by decide +kernel
theorem dX0_hasSlipped_12 : decode cX0_hasSlipped 12 = .ok (.goto 4, 3) := by decide +kernel
theorem dX0_hasSlipped_15 : decode cX0_hasSlipped 15 = .ok (.iconst 0, 1) := by decide +kernel
theorem dX0_hasSlipped_16 : decode cX0_hasSlipped 16 = .ok (.ireturn, 1) := by decide +kernel
theorem dX0_takenBy_0 : decode cX0_takenBy 0 = .ok (.iconst 1, 1) := by decide +kernel
theorem dX0_takenBy_1 : decode cX0_takenBy 1 = .ok (.iload_n 1, 1) := by decide +kernel
theorem dX0_takenBy_2 : decode cX0_takenBy 2 = .ok (.ishl, 1) := by decide +kernel
theorem dX0_takenBy_3 : decode cX0_takenBy 3 = .ok (.istore_n 2, 1) := by decide +kernel
theorem dX0_takenBy_4 : decode cX0_takenBy 4 = .ok (.aload_n 0, 1) := by decide +kernel
theorem dX0_takenBy_5 : decode cX0_takenBy 5 = .ok (.getfield 18, 3) := by decide +kernel
theorem dX0_takenBy_8 : decode cX0_takenBy 8 = .ok (.iload_n 2, 1) := by decide +kernel
theorem dX0_takenBy_9 : decode cX0_takenBy 9 = .ok (.iand, 1) := by decide +kernel
theorem dX0_takenBy_10 : decode cX0_takenBy 10 = .ok (.ifCond .eq 5, 3) := by decide +kernel
theorem dX0_takenBy_13 : decode cX0_takenBy 13 = .ok (.iconst 0, 1) := by decide +kernel
theorem dX0_takenBy_14 : decode cX0_takenBy 14 = .ok (.ireturn, 1) := by decide +kernel
theorem dX0_takenBy_15 : decode cX0_takenBy 15 = .ok (.aload_n 0, 1) := by decide +kernel
theorem dX0_takenBy_16 : decode cX0_takenBy 16 = .ok (.getfield 15, 3) := by decide +kernel
theorem dX0_takenBy_19 : decode cX0_takenBy 19 = .ok (.iload_n 2, 1) := by decide +kernel
theorem dX0_takenBy_20 : decode cX0_takenBy 20 = .ok (.iand, 1) := by decide +kernel
theorem dX0_takenBy_21 : decode cX0_takenBy 21 = .ok (.ifCond .eq 7, 3) := by decide +kernel
theorem dX0_takenBy_24 : decode cX0_takenBy 24 = .ok (.iconst 2, 1) := by decide +kernel
theorem dX0_takenBy_25 : decode cX0_takenBy 25 = .ok (.goto 4, 3) := by decide +kernel
theorem dX0_takenBy_28 : decode cX0_takenBy 28 = .ok (.iconst 1, 1) := by decide +kernel
theorem dX0_takenBy_29 : decode cX0_takenBy 29 = .ok (.ireturn, 1) := by decide +kernel
theorem dX0_takenTogether_0 : decode cX0_takenTogether 0 = .ok (.aload_n 0, 1) := by decide +kernel
theorem dX0_takenTogether_1 : decode cX0_takenTogether 1 = .ok (.getfield 27, 3) := by decide +kernel
theorem dX0_takenTogether_4 : decode cX0_takenTogether 4 = .ok (.aload_n 0, 1) := by decide +kernel
theorem dX0_takenTogether_5 : decode cX0_takenTogether 5 = .ok (.getfield 18, 3) := by decide +kernel
theorem dX0_takenTogether_8 : decode cX0_takenTogether 8 = .ok (.iconst (-1), 1) := by decide +kernel
theorem dX0_takenTogether_9 : decode cX0_takenTogether 9 = .ok (.ixor, 1) := by decide +kernel
theorem dX0_takenTogether_10 : decode cX0_takenTogether 10 = .ok (.iand, 1) := by decide +kernel
theorem dX0_takenTogether_11 : decode cX0_takenTogether 11 = .ok (.invokestatic 48, 3) := by decide +kernel
theorem dX0_takenTogether_14 : decode cX0_takenTogether 14 = .ok (.aload_n 0, 1) := by decide +kernel
theorem dX0_takenTogether_15 : decode cX0_takenTogether 15 = .ok (.getfield 27, 3) := by decide +kernel
theorem dX0_takenTogether_18 : decode cX0_takenTogether 18 = .ok (.aload_n 0, 1) := by decide +kernel
theorem dX0_takenTogether_19 : decode cX0_takenTogether 19 = .ok (.getfield 15, 3) := by decide +kernel
theorem dX0_takenTogether_22 : decode cX0_takenTogether 22 = .ok (.iand, 1) := by decide +kernel
theorem dX0_takenTogether_23 : decode cX0_takenTogether 23 = .ok (.invokestatic 48, 3) := by decide +kernel
theorem dX0_takenTogether_26 : decode cX0_takenTogether 26 = .ok (.iadd, 1) := by decide +kernel
theorem dX0_takenTogether_27 : decode cX0_takenTogether 27 = .ok (.ireturn, 1) := by decide +kernel
theorem dX0_howManyIn_0 : decode cX0_howManyIn 0 = .ok (.aload_n 0, 1) := by decide +kernel
theorem dX0_howManyIn_1 : decode cX0_howManyIn 1 = .ok (.getfield 27, 3) := by decide +kernel
theorem dX0_howManyIn_4 : decode cX0_howManyIn 4 = .ok (.invokestatic 48, 3) := by decide +kernel
theorem dX0_howManyIn_7 : decode cX0_howManyIn 7 = .ok (.ireturn, 1) := by decide +kernel
theorem dX0_onlyOneIn_0 : decode cX0_onlyOneIn 0 = .ok (.aload_n 0, 1) := by decide +kernel
theorem dX0_onlyOneIn_1 : decode cX0_onlyOneIn 1 = .ok (.getfield 27, 3) := by decide +kernel
theorem dX0_onlyOneIn_4 : decode cX0_onlyOneIn 4 = .ok (.invokestatic 48, 3) := by decide +kernel
theorem dX0_onlyOneIn_7 : decode cX0_onlyOneIn 7 = .ok (.iconst 1, 1) := by decide +kernel
theorem dX0_onlyOneIn_8 : decode cX0_onlyOneIn 8 = .ok (.if_icmp .ne 13, 3) := by decide +kernel
theorem dX0_onlyOneIn_11 : decode cX0_onlyOneIn 11 = .ok (.aload_n 0, 1) := by decide +kernel
theorem dX0_onlyOneIn_12 : decode cX0_onlyOneIn 12 = .ok (.getfield 27, 3) := by decide +kernel
theorem dX0_onlyOneIn_15 : decode cX0_onlyOneIn 15 = .ok (.invokestatic 54, 3) := by decide +kernel
theorem dX0_onlyOneIn_18 : decode cX0_onlyOneIn 18 = .ok (.goto 4, 3) := by decide +kernel
theorem dX0_onlyOneIn_21 : decode cX0_onlyOneIn 21 = .ok (.iconst (-1), 1) := by decide +kernel
theorem dX0_onlyOneIn_22 : decode cX0_onlyOneIn 22 = .ok (.ireturn, 1) := by decide +kernel
theorem dX0_allComeBack_0 : decode cX0_allComeBack 0 = .ok (.aload_n 0, 1) := by decide +kernel
theorem dX0_allComeBack_1 : decode cX0_allComeBack 1 = .ok (.iconst 1, 1) := by decide +kernel
theorem dX0_allComeBack_2 : decode cX0_allComeBack 2 = .ok (.aload_n 0, 1) := by decide +kernel
theorem dX0_allComeBack_3 : decode cX0_allComeBack 3 = .ok (.getfield 9, 3) := by decide +kernel
theorem dX0_allComeBack_6 : decode cX0_allComeBack 6 = .ok (.ishl, 1) := by decide +kernel
theorem dX0_allComeBack_7 : decode cX0_allComeBack 7 = .ok (.iconst 1, 1) := by decide +kernel
theorem dX0_allComeBack_8 : decode cX0_allComeBack 8 = .ok (.isub, 1) := by decide +kernel
theorem dX0_allComeBack_9 : decode cX0_allComeBack 9 = .ok (.putfield 27, 3) := by decide +kernel
theorem dX0_allComeBack_12 : decode cX0_allComeBack 12 = .ok (.aload_n 0, 1) := by decide +kernel
theorem dX0_allComeBack_13 : decode cX0_allComeBack 13 = .ok (.iconst 0, 1) := by decide +kernel
theorem dX0_allComeBack_14 : decode cX0_allComeBack 14 = .ok (.putfield 30, 3) := by decide +kernel
theorem dX0_allComeBack_17 : decode cX0_allComeBack 17 = .ok (.return_, 1) := by decide +kernel
theorem dX0_canCount_0 : decode cX0_canCount 0 = .ok (.aload_n 0, 1) := by decide +kernel
theorem dX0_canCount_1 : decode cX0_canCount 1 = .ok (.getfield 27, 3) := by decide +kernel
theorem dX0_canCount_4 : decode cX0_canCount 4 = .ok (.aload_n 0, 1) := by decide +kernel
theorem dX0_canCount_5 : decode cX0_canCount 5 = .ok (.getfield 18, 3) := by decide +kernel
theorem dX0_canCount_8 : decode cX0_canCount 8 = .ok (.iconst (-1), 1) := by decide +kernel
theorem dX0_canCount_9 : decode cX0_canCount 9 = .ok (.ixor, 1) := by decide +kernel
theorem dX0_canCount_10 : decode cX0_canCount 10 = .ok (.iand, 1) := by decide +kernel
theorem dX0_canCount_11 : decode cX0_canCount 11 = .ok (.ifCond .eq 18, 3) := by decide +kernel
theorem dX0_canCount_14 : decode cX0_canCount 14 = .ok (.aload_n 0, 1) := by decide +kernel
theorem dX0_canCount_15 : decode cX0_canCount 15 = .ok (.getfield 27, 3) := by decide +kernel
theorem dX0_canCount_18 : decode cX0_canCount 18 = .ok (.invokestatic 48, 3) := by decide +kernel
theorem dX0_canCount_21 : decode cX0_canCount 21 = .ok (.iconst 2, 1) := by decide +kernel
theorem dX0_canCount_22 : decode cX0_canCount 22 = .ok (.if_icmp .lt 7, 3) := by decide +kernel
theorem dX0_canCount_25 : decode cX0_canCount 25 = .ok (.iconst 1, 1) := by decide +kernel
theorem dX0_canCount_26 : decode cX0_canCount 26 = .ok (.goto 4, 3) := by decide +kernel
theorem dX0_canCount_29 : decode cX0_canCount 29 = .ok (.iconst 0, 1) := by decide +kernel
theorem dX0_canCount_30 : decode cX0_canCount 30 = .ok (.ireturn, 1) := by decide +kernel
theorem dX0_putOut_0 : decode cX0_putOut 0 = .ok (.aload_n 0, 1) := by decide +kernel
theorem dX0_putOut_1 : decode cX0_putOut 1 = .ok (.invokevirtual 57, 3) := by decide +kernel
theorem dX0_putOut_4 : decode cX0_putOut 4 = .ok (.ifCond .ne 5, 3) := by decide +kernel
theorem dX0_putOut_7 : decode cX0_putOut 7 = .ok (.iconst (-1), 1) := by decide +kernel
theorem dX0_putOut_8 : decode cX0_putOut 8 = .ok (.ireturn, 1) := by decide +kernel
theorem dX0_putOut_9 : decode cX0_putOut 9 = .ok (.aload_n 0, 1) := by decide +kernel
theorem dX0_putOut_10 : decode cX0_putOut 10 = .ok (.aload_n 0, 1) := by decide +kernel
theorem dX0_putOut_11 : decode cX0_putOut 11 = .ok (.iload_n 1, 1) := by decide +kernel
theorem dX0_putOut_12 : decode cX0_putOut 12 = .ok (.invokevirtual 61, 3) := by decide +kernel
theorem dX0_putOut_15 : decode cX0_putOut 15 = .ok (.invokevirtual 64, 3) := by decide +kernel
theorem dX0_putOut_18 : decode cX0_putOut 18 = .ok (.istore_n 2, 1) := by decide +kernel
theorem dX0_putOut_19 : decode cX0_putOut 19 = .ok (.aload_n 0, 1) := by decide +kernel
theorem dX0_putOut_20 : decode cX0_putOut 20 = .ok (.dup, 1) := by decide +kernel
theorem dX0_putOut_21 : decode cX0_putOut 21 = .ok (.getfield 27, 3) := by decide +kernel
theorem dX0_putOut_24 : decode cX0_putOut 24 = .ok (.iconst 1, 1) := by decide +kernel
theorem dX0_putOut_25 : decode cX0_putOut 25 = .ok (.iload_n 2, 1) := by decide +kernel
theorem dX0_putOut_26 : decode cX0_putOut 26 = .ok (.ishl, 1) := by decide +kernel
theorem dX0_putOut_27 : decode cX0_putOut 27 = .ok (.iconst (-1), 1) := by decide +kernel
theorem dX0_putOut_28 : decode cX0_putOut 28 = .ok (.ixor, 1) := by decide +kernel
theorem dX0_putOut_29 : decode cX0_putOut 29 = .ok (.iand, 1) := by decide +kernel
theorem dX0_putOut_30 : decode cX0_putOut 30 = .ok (.putfield 27, 3) := by decide +kernel
theorem dX0_putOut_33 : decode cX0_putOut 33 = .ok (.aload_n 0, 1) := by decide +kernel
theorem dX0_putOut_34 : decode cX0_putOut 34 = .ok (.aload_n 0, 1) := by decide +kernel
theorem dX0_putOut_35 : decode cX0_putOut 35 = .ok (.aload_n 0, 1) := by decide +kernel
theorem dX0_putOut_36 : decode cX0_putOut 36 = .ok (.getfield 27, 3) := by decide +kernel
theorem dX0_putOut_39 : decode cX0_putOut 39 = .ok (.iload_n 2, 1) := by decide +kernel
theorem dX0_putOut_40 : decode cX0_putOut 40 = .ok (.invokevirtual 67, 3) := by decide +kernel
theorem dX0_putOut_43 : decode cX0_putOut 43 = .ok (.putfield 33, 3) := by decide +kernel
theorem dX0_putOut_46 : decode cX0_putOut 46 = .ok (.iload_n 2, 1) := by decide +kernel
theorem dX0_putOut_47 : decode cX0_putOut 47 = .ok (.ireturn, 1) := by decide +kernel
theorem dX0_countDown_0 : decode cX0_countDown 0 = .ok (.iconst 0, 1) := by decide +kernel
theorem dX0_countDown_1 : decode cX0_countDown 1 = .ok (.istore_n 2, 1) := by decide +kernel
theorem dX0_countDown_2 : decode cX0_countDown 2 = .ok (.iload_n 2, 1) := by decide +kernel
theorem dX0_countDown_3 : decode cX0_countDown 3 = .ok (.aload_n 0, 1) := by decide +kernel
theorem dX0_countDown_4 : decode cX0_countDown 4 = .ok (.getfield 9, 3) := by decide +kernel
theorem dX0_countDown_7 : decode cX0_countDown 7 = .ok (.if_icmp .ge 22, 3) := by decide +kernel
theorem dX0_countDown_10 : decode cX0_countDown 10 = .ok (.aload_n 0, 1) := by decide +kernel
theorem dX0_countDown_11 : decode cX0_countDown 11 = .ok (.invokevirtual 57, 3) := by decide +kernel
theorem dX0_countDown_14 : decode cX0_countDown 14 = .ok (.ifCond .eq 15, 3) := by decide +kernel
theorem dX0_countDown_17 : decode cX0_countDown 17 = .ok (.aload_n 0, 1) := by decide +kernel
theorem dX0_countDown_18 : decode cX0_countDown 18 = .ok (.iload_n 1, 1) := by decide +kernel
theorem dX0_countDown_19 : decode cX0_countDown 19 = .ok (.invokevirtual 70, 3) := by decide +kernel
theorem dX0_countDown_22 : decode cX0_countDown 22 = .ok (.pop, 1) := by decide +kernel
theorem dX0_countDown_23 : decode cX0_countDown 23 = .ok (.iinc 2 1, 3) := by decide +kernel
theorem dX0_countDown_26 : decode cX0_countDown 26 = .ok (.goto (-24), 3) := by decide +kernel
theorem dX0_countDown_29 : decode cX0_countDown 29 = .ok (.aload_n 0, 1) := by decide +kernel
theorem dX0_countDown_30 : decode cX0_countDown 30 = .ok (.invokevirtual 73, 3) := by decide +kernel
theorem dX0_countDown_33 : decode cX0_countDown 33 = .ok (.ireturn, 1) := by decide +kernel
theorem dX0_fallsOn_0 : decode cX0_fallsOn 0 = .ok (.aload_n 0, 1) := by decide +kernel
theorem dX0_fallsOn_1 : decode cX0_fallsOn 1 = .ok (.getfield 27, 3) := by decide +kernel
theorem dX0_fallsOn_4 : decode cX0_fallsOn 4 = .ok (.aload_n 0, 1) := by decide +kernel
theorem dX0_fallsOn_5 : decode cX0_fallsOn 5 = .ok (.getfield 18, 3) := by decide +kernel
theorem dX0_fallsOn_8 : decode cX0_fallsOn 8 = .ok (.iconst (-1), 1) := by decide +kernel
theorem dX0_fallsOn_9 : decode cX0_fallsOn 9 = .ok (.ixor, 1) := by decide +kernel
theorem dX0_fallsOn_10 : decode cX0_fallsOn 10 = .ok (.iand, 1) := by decide +kernel
theorem dX0_fallsOn_11 : decode cX0_fallsOn 11 = .ok (.istore_n 2, 1) := by decide +kernel
theorem dX0_fallsOn_12 : decode cX0_fallsOn 12 = .ok (.iload_n 2, 1) := by decide +kernel
theorem dX0_fallsOn_13 : decode cX0_fallsOn 13 = .ok (.invokestatic 48, 3) := by decide +kernel
theorem dX0_fallsOn_16 : decode cX0_fallsOn 16 = .ok (.iload_n 2, 1) := by decide +kernel
theorem dX0_fallsOn_17 : decode cX0_fallsOn 17 = .ok (.aload_n 0, 1) := by decide +kernel
theorem dX0_fallsOn_18 : decode cX0_fallsOn 18 = .ok (.getfield 15, 3) := by decide +kernel
theorem dX0_fallsOn_21 : decode cX0_fallsOn 21 = .ok (.iand, 1) := by decide +kernel
theorem dX0_fallsOn_22 : decode cX0_fallsOn 22 = .ok (.invokestatic 48, 3) := by decide +kernel
theorem dX0_fallsOn_25 : decode cX0_fallsOn 25 = .ok (.iadd, 1) := by decide +kernel
theorem dX0_fallsOn_26 : decode cX0_fallsOn 26 = .ok (.istore_n 3, 1) := by decide +kernel
theorem dX0_fallsOn_27 : decode cX0_fallsOn 27 = .ok (.iload_n 3, 1) := by decide +kernel
theorem dX0_fallsOn_28 : decode cX0_fallsOn 28 = .ok (.ifCond .le 11, 3) := by decide +kernel
theorem dX0_fallsOn_31 : decode cX0_fallsOn 31 = .ok (.iload_n 1, 1) := by decide +kernel
theorem dX0_fallsOn_32 : decode cX0_fallsOn 32 = .ok (.iconst 1, 1) := by decide +kernel
theorem dX0_fallsOn_33 : decode cX0_fallsOn 33 = .ok (.isub, 1) := by decide +kernel
theorem dX0_fallsOn_34 : decode cX0_fallsOn 34 = .ok (.iload_n 3, 1) := by decide +kernel
theorem dX0_fallsOn_35 : decode cX0_fallsOn 35 = .ok (.irem, 1) := by decide +kernel
theorem dX0_fallsOn_36 : decode cX0_fallsOn 36 = .ok (.goto 4, 3) := by decide +kernel
theorem dX0_fallsOn_39 : decode cX0_fallsOn 39 = .ok (.iconst 0, 1) := by decide +kernel
theorem dX0_fallsOn_40 : decode cX0_fallsOn 40 = .ok (.istore 4, 2) := by decide +kernel
theorem dX0_fallsOn_42 : decode cX0_fallsOn 42 = .ok (.iload_n 2, 1) := by decide +kernel
theorem dX0_fallsOn_43 : decode cX0_fallsOn 43 = .ok (.aload_n 0, 1) := by decide +kernel
theorem dX0_fallsOn_44 : decode cX0_fallsOn 44 = .ok (.getfield 33, 3) := by decide +kernel
theorem dX0_fallsOn_47 : decode cX0_fallsOn 47 = .ok (.ishr, 1) := by decide +kernel
theorem dX0_fallsOn_48 : decode cX0_fallsOn 48 = .ok (.iconst 1, 1) := by decide +kernel
theorem dX0_fallsOn_49 : decode cX0_fallsOn 49 = .ok (.iand, 1) := by decide +kernel
theorem dX0_fallsOn_50 : decode cX0_fallsOn 50 = .ok (.ifCond .eq 10, 3) := by decide +kernel
theorem dX0_fallsOn_53 : decode cX0_fallsOn 53 = .ok (.aload_n 0, 1) := by decide +kernel
theorem dX0_fallsOn_54 : decode cX0_fallsOn 54 = .ok (.getfield 33, 3) := by decide +kernel
theorem dX0_fallsOn_57 : decode cX0_fallsOn 57 = .ok (.goto 12, 3) := by decide +kernel
theorem dX0_fallsOn_60 : decode cX0_fallsOn 60 = .ok (.aload_n 0, 1) := by decide +kernel
theorem dX0_fallsOn_61 : decode cX0_fallsOn 61 = .ok (.iload_n 2, 1) := by decide +kernel
theorem dX0_fallsOn_62 : decode cX0_fallsOn 62 = .ok (.aload_n 0, 1) := by decide +kernel
theorem dX0_fallsOn_63 : decode cX0_fallsOn 63 = .ok (.getfield 33, 3) := by decide +kernel
theorem dX0_fallsOn_66 : decode cX0_fallsOn 66 = .ok (.invokevirtual 67, 3) := by decide +kernel
theorem dX0_fallsOn_69 : decode cX0_fallsOn 69 = .ok (.istore 5, 2) := by decide +kernel
theorem dX0_fallsOn_71 : decode cX0_fallsOn 71 = .ok (.iconst 0, 1) := by decide +kernel
theorem dX0_fallsOn_72 : decode cX0_fallsOn 72 = .ok (.istore 6, 2) := by decide +kernel
theorem dX0_fallsOn_74 : decode cX0_fallsOn 74 = .ok (.iload 6, 2) := by decide +kernel
theorem dX0_fallsOn_76 : decode cX0_fallsOn 76 = .ok (.aload_n 0, 1) := by decide +kernel
theorem dX0_fallsOn_77 : decode cX0_fallsOn 77 = .ok (.getfield 9, 3) := by decide +kernel
theorem dX0_fallsOn_80 : decode cX0_fallsOn 80 = .ok (.if_icmp .ge 37, 3) := by decide +kernel
theorem dX0_fallsOn_83 : decode cX0_fallsOn 83 = .ok (.iload 4, 2) := by decide +kernel
theorem dX0_fallsOn_85 : decode cX0_fallsOn 85 = .ok (.aload_n 0, 1) := by decide +kernel
theorem dX0_fallsOn_86 : decode cX0_fallsOn 86 = .ok (.iload 5, 2) := by decide +kernel
theorem dX0_fallsOn_88 : decode cX0_fallsOn 88 = .ok (.invokevirtual 77, 3) := by decide +kernel
theorem dX0_fallsOn_91 : decode cX0_fallsOn 91 = .ok (.isub, 1) := by decide +kernel
theorem dX0_fallsOn_92 : decode cX0_fallsOn 92 = .ok (.istore 4, 2) := by decide +kernel
theorem dX0_fallsOn_94 : decode cX0_fallsOn 94 = .ok (.iload 4, 2) := by decide +kernel
theorem dX0_fallsOn_96 : decode cX0_fallsOn 96 = .ok (.ifCond .ge 6, 3) := by decide +kernel
theorem dX0_fallsOn_99 : decode cX0_fallsOn 99 = .ok (.goto 18, 3) := by decide +kernel
theorem dX0_fallsOn_102 : decode cX0_fallsOn 102 = .ok (.aload_n 0, 1) := by decide +kernel
theorem dX0_fallsOn_103 : decode cX0_fallsOn 103 = .ok (.iload_n 2, 1) := by decide +kernel
theorem dX0_fallsOn_104 : decode cX0_fallsOn 104 = .ok (.iload 5, 2) := by decide +kernel
theorem dX0_fallsOn_106 : decode cX0_fallsOn 106 = .ok (.invokevirtual 67, 3) := by decide +kernel
theorem dX0_fallsOn_109 : decode cX0_fallsOn 109 = .ok (.istore 5, 2) := by decide +kernel
theorem dX0_fallsOn_111 : decode cX0_fallsOn 111 = .ok (.iinc 6 1, 3) := by decide +kernel
theorem dX0_fallsOn_114 : decode cX0_fallsOn 114 = .ok (.goto (-40), 3) := by decide +kernel
theorem dX0_fallsOn_117 : decode cX0_fallsOn 117 = .ok (.iload 5, 2) := by decide +kernel
theorem dX0_fallsOn_119 : decode cX0_fallsOn 119 = .ok (.ireturn, 1) := by decide +kernel
theorem dX0_slipOn_0 : decode cX0_slipOn 0 = .ok (.aload_n 0, 1) := by decide +kernel
theorem dX0_slipOn_1 : decode cX0_slipOn 1 = .ok (.getfield 27, 3) := by decide +kernel
theorem dX0_slipOn_4 : decode cX0_slipOn 4 = .ok (.aload_n 0, 1) := by decide +kernel
theorem dX0_slipOn_5 : decode cX0_slipOn 5 = .ok (.getfield 18, 3) := by decide +kernel
theorem dX0_slipOn_8 : decode cX0_slipOn 8 = .ok (.iconst (-1), 1) := by decide +kernel
theorem dX0_slipOn_9 : decode cX0_slipOn 9 = .ok (.ixor, 1) := by decide +kernel
theorem dX0_slipOn_10 : decode cX0_slipOn 10 = .ok (.iand, 1) := by decide +kernel
theorem dX0_slipOn_11 : decode cX0_slipOn 11 = .ok (.istore_n 2, 1) := by decide +kernel
theorem dX0_slipOn_12 : decode cX0_slipOn 12 = .ok (.iload_n 1, 1) := by decide +kernel
theorem dX0_slipOn_13 : decode cX0_slipOn 13 = .ok (.istore_n 3, 1) := by decide +kernel
theorem dX0_slipOn_14 : decode cX0_slipOn 14 = .ok (.iconst 0, 1) := by decide +kernel
theorem dX0_slipOn_15 : decode cX0_slipOn 15 = .ok (.istore 4, 2) := by decide +kernel
theorem dX0_slipOn_17 : decode cX0_slipOn 17 = .ok (.iload 4, 2) := by decide +kernel
theorem dX0_slipOn_19 : decode cX0_slipOn 19 = .ok (.aload_n 0, 1) := by decide +kernel
theorem dX0_slipOn_20 : decode cX0_slipOn 20 = .ok (.getfield 9, 3) := by decide +kernel
theorem dX0_slipOn_23 : decode cX0_slipOn 23 = .ok (.if_icmp .ge 87, 3) := by decide +kernel
theorem dX0_slipOn_26 : decode cX0_slipOn 26 = .ok (.iconst 1, 1) := by decide +kernel
theorem dX0_slipOn_27 : decode cX0_slipOn 27 = .ok (.iload_n 3, 1) := by decide +kernel
theorem dX0_slipOn_28 : decode cX0_slipOn 28 = .ok (.ishl, 1) := by decide +kernel
theorem dX0_slipOn_29 : decode cX0_slipOn 29 = .ok (.istore 5, 2) := by decide +kernel
theorem dX0_slipOn_31 : decode cX0_slipOn 31 = .ok (.aload_n 0, 1) := by decide +kernel
theorem dX0_slipOn_32 : decode cX0_slipOn 32 = .ok (.getfield 21, 3) := by decide +kernel
theorem dX0_slipOn_35 : decode cX0_slipOn 35 = .ok (.aload_n 0, 1) := by decide +kernel
theorem dX0_slipOn_36 : decode cX0_slipOn 36 = .ok (.getfield 30, 3) := by decide +kernel
theorem dX0_slipOn_39 : decode cX0_slipOn 39 = .ok (.iconst (-1), 1) := by decide +kernel
theorem dX0_slipOn_40 : decode cX0_slipOn 40 = .ok (.ixor, 1) := by decide +kernel
theorem dX0_slipOn_41 : decode cX0_slipOn 41 = .ok (.iand, 1) := by decide +kernel
theorem dX0_slipOn_42 : decode cX0_slipOn 42 = .ok (.iload 5, 2) := by decide +kernel
theorem dX0_slipOn_44 : decode cX0_slipOn 44 = .ok (.iand, 1) := by decide +kernel
theorem dX0_slipOn_45 : decode cX0_slipOn 45 = .ok (.ifCond .eq 65, 3) := by decide +kernel
theorem dX0_slipOn_48 : decode cX0_slipOn 48 = .ok (.iload_n 2, 1) := by decide +kernel
theorem dX0_slipOn_49 : decode cX0_slipOn 49 = .ok (.iload 5, 2) := by decide +kernel
theorem dX0_slipOn_51 : decode cX0_slipOn 51 = .ok (.iconst (-1), 1) := by decide +kernel
theorem dX0_slipOn_52 : decode cX0_slipOn 52 = .ok (.ixor, 1) := by decide +kernel
theorem dX0_slipOn_53 : decode cX0_slipOn 53 = .ok (.iand, 1) := by decide +kernel
theorem dX0_slipOn_54 : decode cX0_slipOn 54 = .ok (.ifCond .ne 6, 3) := by decide +kernel
theorem dX0_slipOn_57 : decode cX0_slipOn 57 = .ok (.goto 53, 3) := by decide +kernel
theorem dX0_slipOn_60 : decode cX0_slipOn 60 = .ok (.aload_n 0, 1) := by decide +kernel
theorem dX0_slipOn_61 : decode cX0_slipOn 61 = .ok (.dup, 1) := by decide +kernel
theorem dX0_slipOn_62 : decode cX0_slipOn 62 = .ok (.getfield 30, 3) := by decide +kernel
theorem dX0_slipOn_65 : decode cX0_slipOn 65 = .ok (.iload 5, 2) := by decide +kernel
theorem dX0_slipOn_67 : decode cX0_slipOn 67 = .ok (.ior, 1) := by decide +kernel
theorem dX0_slipOn_68 : decode cX0_slipOn 68 = .ok (.putfield 30, 3) := by decide +kernel
theorem dX0_slipOn_71 : decode cX0_slipOn 71 = .ok (.aload_n 0, 1) := by decide +kernel
theorem dX0_slipOn_72 : decode cX0_slipOn 72 = .ok (.getfield 24, 3) := by decide +kernel
theorem dX0_slipOn_75 : decode cX0_slipOn 75 = .ok (.iload 5, 2) := by decide +kernel
theorem dX0_slipOn_77 : decode cX0_slipOn 77 = .ok (.iand, 1) := by decide +kernel
theorem dX0_slipOn_78 : decode cX0_slipOn 78 = .ok (.ifCond .eq 19, 3) := by decide +kernel
theorem dX0_slipOn_81 : decode cX0_slipOn 81 = .ok (.aload_n 0, 1) := by decide +kernel
theorem dX0_slipOn_82 : decode cX0_slipOn 82 = .ok (.aload_n 0, 1) := by decide +kernel
theorem dX0_slipOn_83 : decode cX0_slipOn 83 = .ok (.getfield 36, 3) := by decide +kernel
theorem dX0_slipOn_86 : decode cX0_slipOn 86 = .ok (.ifCond .ne 7, 3) := by decide +kernel
theorem dX0_slipOn_89 : decode cX0_slipOn 89 = .ok (.iconst 1, 1) := by decide +kernel
theorem dX0_slipOn_90 : decode cX0_slipOn 90 = .ok (.goto 4, 3) := by decide +kernel
theorem dX0_slipOn_93 : decode cX0_slipOn 93 = .ok (.iconst 0, 1) := by decide +kernel
theorem dX0_slipOn_94 : decode cX0_slipOn 94 = .ok (.putfield 36, 3) := by decide +kernel
theorem dX0_slipOn_97 : decode cX0_slipOn 97 = .ok (.aload_n 0, 1) := by decide +kernel
theorem dX0_slipOn_98 : decode cX0_slipOn 98 = .ok (.iload_n 2, 1) := by decide +kernel
theorem dX0_slipOn_99 : decode cX0_slipOn 99 = .ok (.iload_n 3, 1) := by decide +kernel
theorem dX0_slipOn_100 : decode cX0_slipOn 100 = .ok (.invokevirtual 67, 3) := by decide +kernel
theorem dX0_slipOn_103 : decode cX0_slipOn 103 = .ok (.istore_n 3, 1) := by decide +kernel
theorem dX0_slipOn_104 : decode cX0_slipOn 104 = .ok (.iinc 4 1, 3) := by decide +kernel
theorem dX0_slipOn_107 : decode cX0_slipOn 107 = .ok (.goto (-90), 3) := by decide +kernel
theorem dX0_slipOn_110 : decode cX0_slipOn 110 = .ok (.iload_n 3, 1) := by decide +kernel
theorem dX0_slipOn_111 : decode cX0_slipOn 111 = .ok (.ireturn, 1) := by decide +kernel
theorem dX0_nextOf_0 : decode cX0_nextOf 0 = .ok (.iload_n 2, 1) := by decide +kernel
theorem dX0_nextOf_1 : decode cX0_nextOf 1 = .ok (.istore_n 3, 1) := by decide +kernel
theorem dX0_nextOf_2 : decode cX0_nextOf 2 = .ok (.iconst 0, 1) := by decide +kernel
theorem dX0_nextOf_3 : decode cX0_nextOf 3 = .ok (.istore 4, 2) := by decide +kernel
theorem dX0_nextOf_5 : decode cX0_nextOf 5 = .ok (.iload 4, 2) := by decide +kernel
theorem dX0_nextOf_7 : decode cX0_nextOf 7 = .ok (.aload_n 0, 1) := by decide +kernel
theorem dX0_nextOf_8 : decode cX0_nextOf 8 = .ok (.getfield 9, 3) := by decide +kernel
theorem dX0_nextOf_11 : decode cX0_nextOf 11 = .ok (.if_icmp .ge 65, 3) := by decide +kernel
theorem dX0_nextOf_14 : decode cX0_nextOf 14 = .ok (.aload_n 0, 1) := by decide +kernel
theorem dX0_nextOf_15 : decode cX0_nextOf 15 = .ok (.getfield 36, 3) := by decide +kernel
theorem dX0_nextOf_18 : decode cX0_nextOf 18 = .ok (.ifCond .eq 24, 3) := by decide +kernel
theorem dX0_nextOf_21 : decode cX0_nextOf 21 = .ok (.iload_n 3, 1) := by decide +kernel
theorem dX0_nextOf_22 : decode cX0_nextOf 22 = .ok (.iconst 1, 1) := by decide +kernel
theorem dX0_nextOf_23 : decode cX0_nextOf 23 = .ok (.iadd, 1) := by decide +kernel
theorem dX0_nextOf_24 : decode cX0_nextOf 24 = .ok (.aload_n 0, 1) := by decide +kernel
theorem dX0_nextOf_25 : decode cX0_nextOf 25 = .ok (.getfield 9, 3) := by decide +kernel
theorem dX0_nextOf_28 : decode cX0_nextOf 28 = .ok (.if_icmp .ge 9, 3) := by decide +kernel
theorem dX0_nextOf_31 : decode cX0_nextOf 31 = .ok (.iload_n 3, 1) := by decide +kernel
theorem dX0_nextOf_32 : decode cX0_nextOf 32 = .ok (.iconst 1, 1) := by decide +kernel
theorem dX0_nextOf_33 : decode cX0_nextOf 33 = .ok (.iadd, 1) := by decide +kernel
theorem dX0_nextOf_34 : decode cX0_nextOf 34 = .ok (.goto 4, 3) := by decide +kernel
theorem dX0_nextOf_37 : decode cX0_nextOf 37 = .ok (.iconst 0, 1) := by decide +kernel
theorem dX0_nextOf_38 : decode cX0_nextOf 38 = .ok (.istore_n 3, 1) := by decide +kernel
theorem dX0_nextOf_39 : decode cX0_nextOf 39 = .ok (.goto 20, 3) := by decide +kernel
theorem dX0_nextOf_42 : decode cX0_nextOf 42 = .ok (.iload_n 3, 1) := by decide +kernel
theorem dX0_nextOf_43 : decode cX0_nextOf 43 = .ok (.ifCond .le 9, 3) := by decide +kernel
theorem dX0_nextOf_46 : decode cX0_nextOf 46 = .ok (.iload_n 3, 1) := by decide +kernel
theorem dX0_nextOf_47 : decode cX0_nextOf 47 = .ok (.iconst 1, 1) := by decide +kernel
theorem dX0_nextOf_48 : decode cX0_nextOf 48 = .ok (.isub, 1) := by decide +kernel
theorem dX0_nextOf_49 : decode cX0_nextOf 49 = .ok (.goto 9, 3) := by decide +kernel
theorem dX0_nextOf_52 : decode cX0_nextOf 52 = .ok (.aload_n 0, 1) := by decide +kernel
theorem dX0_nextOf_53 : decode cX0_nextOf 53 = .ok (.getfield 9, 3) := by decide +kernel
theorem dX0_nextOf_56 : decode cX0_nextOf 56 = .ok (.iconst 1, 1) := by decide +kernel
theorem dX0_nextOf_57 : decode cX0_nextOf 57 = .ok (.isub, 1) := by decide +kernel
theorem dX0_nextOf_58 : decode cX0_nextOf 58 = .ok (.istore_n 3, 1) := by decide +kernel
theorem dX0_nextOf_59 : decode cX0_nextOf 59 = .ok (.iload_n 1, 1) := by decide +kernel
theorem dX0_nextOf_60 : decode cX0_nextOf 60 = .ok (.iload_n 3, 1) := by decide +kernel
theorem dX0_nextOf_61 : decode cX0_nextOf 61 = .ok (.ishr, 1) := by decide +kernel
theorem dX0_nextOf_62 : decode cX0_nextOf 62 = .ok (.iconst 1, 1) := by decide +kernel
theorem dX0_nextOf_63 : decode cX0_nextOf 63 = .ok (.iand, 1) := by decide +kernel
theorem dX0_nextOf_64 : decode cX0_nextOf 64 = .ok (.ifCond .eq 6, 3) := by decide +kernel
theorem dX0_nextOf_67 : decode cX0_nextOf 67 = .ok (.goto 9, 3) := by decide +kernel
theorem dX0_nextOf_70 : decode cX0_nextOf 70 = .ok (.iinc 4 1, 3) := by decide +kernel
theorem dX0_nextOf_73 : decode cX0_nextOf 73 = .ok (.goto (-68), 3) := by decide +kernel
theorem dX0_nextOf_76 : decode cX0_nextOf 76 = .ok (.iload_n 3, 1) := by decide +kernel
theorem dX0_nextOf_77 : decode cX0_nextOf 77 = .ok (.ireturn, 1) := by decide +kernel
theorem dX0_pose_0 : decode cX0_pose 0 = .ok (.aload_n 0, 1) := by decide +kernel
theorem dX0_pose_1 : decode cX0_pose 1 = .ok (.getfield 36, 3) := by decide +kernel
theorem dX0_pose_4 : decode cX0_pose 4 = .ok (.ifCond .eq 7, 3) := by decide +kernel
theorem dX0_pose_7 : decode cX0_pose 7 = .ok (.iconst 1, 1) := by decide +kernel
theorem dX0_pose_8 : decode cX0_pose 8 = .ok (.goto 4, 3) := by decide +kernel
theorem dX0_pose_11 : decode cX0_pose 11 = .ok (.iconst 0, 1) := by decide +kernel
theorem dX0_pose_12 : decode cX0_pose 12 = .ok (.istore_n 1, 1) := by decide +kernel
theorem dX0_pose_13 : decode cX0_pose 13 = .ok (.iload_n 1, 1) := by decide +kernel
theorem dX0_pose_14 : decode cX0_pose 14 = .ok (.iconst 4, 1) := by decide +kernel
theorem dX0_pose_15 : decode cX0_pose 15 = .ok (.ishl, 1) := by decide +kernel
theorem dX0_pose_16 : decode cX0_pose 16 = .ok (.aload_n 0, 1) := by decide +kernel
theorem dX0_pose_17 : decode cX0_pose 17 = .ok (.getfield 33, 3) := by decide +kernel
theorem dX0_pose_20 : decode cX0_pose 20 = .ok (.ior, 1) := by decide +kernel
theorem dX0_pose_21 : decode cX0_pose 21 = .ok (.istore_n 1, 1) := by decide +kernel
theorem dX0_pose_22 : decode cX0_pose 22 = .ok (.iload_n 1, 1) := by decide +kernel
theorem dX0_pose_23 : decode cX0_pose 23 = .ok (.bipush 9, 2) := by decide +kernel
theorem dX0_pose_25 : decode cX0_pose 25 = .ok (.ishl, 1) := by decide +kernel
theorem dX0_pose_26 : decode cX0_pose 26 = .ok (.aload_n 0, 1) := by decide +kernel
theorem dX0_pose_27 : decode cX0_pose 27 = .ok (.getfield 30, 3) := by decide +kernel
theorem dX0_pose_30 : decode cX0_pose 30 = .ok (.ior, 1) := by decide +kernel
theorem dX0_pose_31 : decode cX0_pose 31 = .ok (.istore_n 1, 1) := by decide +kernel
theorem dX0_pose_32 : decode cX0_pose 32 = .ok (.iload_n 1, 1) := by decide +kernel
theorem dX0_pose_33 : decode cX0_pose 33 = .ok (.bipush 9, 2) := by decide +kernel
theorem dX0_pose_35 : decode cX0_pose 35 = .ok (.ishl, 1) := by decide +kernel
theorem dX0_pose_36 : decode cX0_pose 36 = .ok (.aload_n 0, 1) := by decide +kernel
theorem dX0_pose_37 : decode cX0_pose 37 = .ok (.getfield 27, 3) := by decide +kernel
theorem dX0_pose_40 : decode cX0_pose 40 = .ok (.ior, 1) := by decide +kernel
theorem dX0_pose_41 : decode cX0_pose 41 = .ok (.ireturn, 1) := by decide +kernel
theorem dX0_takePose_0 : decode cX0_takePose 0 = .ok (.aload_n 0, 1) := by decide +kernel
theorem dX0_takePose_1 : decode cX0_takePose 1 = .ok (.iload_n 1, 1) := by decide +kernel
theorem dX0_takePose_2 : decode cX0_takePose 2 = .ok (.sipush 511, 3) := by decide +kernel
theorem dX0_takePose_5 : decode cX0_takePose 5 = .ok (.iand, 1) := by decide +kernel
theorem dX0_takePose_6 : decode cX0_takePose 6 = .ok (.putfield 27, 3) := by decide +kernel
theorem dX0_takePose_9 : decode cX0_takePose 9 = .ok (.aload_n 0, 1) := by decide +kernel
theorem dX0_takePose_10 : decode cX0_takePose 10 = .ok (.iload_n 1, 1) := by decide +kernel
theorem dX0_takePose_11 : decode cX0_takePose 11 = .ok (.bipush 9, 2) := by decide +kernel
theorem dX0_takePose_13 : decode cX0_takePose 13 = .ok (.ishr, 1) := by decide +kernel
theorem dX0_takePose_14 : decode cX0_takePose 14 = .ok (.sipush 511, 3) := by decide +kernel
theorem dX0_takePose_17 : decode cX0_takePose 17 = .ok (.iand, 1) := by decide +kernel
theorem dX0_takePose_18 : decode cX0_takePose 18 = .ok (.putfield 30, 3) := by decide +kernel
theorem dX0_takePose_21 : decode cX0_takePose 21 = .ok (.aload_n 0, 1) := by decide +kernel
theorem dX0_takePose_22 : decode cX0_takePose 22 = .ok (.iload_n 1, 1) := by decide +kernel
theorem dX0_takePose_23 : decode cX0_takePose 23 = .ok (.bipush 18, 2) := by decide +kernel
theorem dX0_takePose_25 : decode cX0_takePose 25 = .ok (.ishr, 1) := by decide +kernel
theorem dX0_takePose_26 : decode cX0_takePose 26 = .ok (.bipush 15, 2) := by decide +kernel
theorem dX0_takePose_28 : decode cX0_takePose 28 = .ok (.iand, 1) := by decide +kernel
theorem dX0_takePose_29 : decode cX0_takePose 29 = .ok (.putfield 33, 3) := by decide +kernel
theorem dX0_takePose_32 : decode cX0_takePose 32 = .ok (.aload_n 0, 1) := by decide +kernel
theorem dX0_takePose_33 : decode cX0_takePose 33 = .ok (.iload_n 1, 1) := by decide +kernel
theorem dX0_takePose_34 : decode cX0_takePose 34 = .ok (.bipush 22, 2) := by decide +kernel
theorem dX0_takePose_36 : decode cX0_takePose 36 = .ok (.ishr, 1) := by decide +kernel
theorem dX0_takePose_37 : decode cX0_takePose 37 = .ok (.ifCond .eq 7, 3) := by decide +kernel
theorem dX0_takePose_40 : decode cX0_takePose 40 = .ok (.iconst 1, 1) := by decide +kernel
theorem dX0_takePose_41 : decode cX0_takePose 41 = .ok (.goto 4, 3) := by decide +kernel
theorem dX0_takePose_44 : decode cX0_takePose 44 = .ok (.iconst 0, 1) := by decide +kernel
theorem dX0_takePose_45 : decode cX0_takePose 45 = .ok (.putfield 36, 3) := by decide +kernel
theorem dX0_takePose_48 : decode cX0_takePose 48 = .ok (.return_, 1) := by decide +kernel
theorem dX0_key_0 : decode cX0_key 0 = .ok (.aload_n 0, 1) := by decide +kernel
theorem dX0_key_1 : decode cX0_key 1 = .ok (.getfield 9, 3) := by decide +kernel
theorem dX0_key_4 : decode cX0_key 4 = .ok (.i2l, 1) := by decide +kernel
theorem dX0_key_5 : decode cX0_key 5 = .ok (.lstore_n 1, 1) := by decide +kernel
theorem dX0_key_6 : decode cX0_key 6 = .ok (.lload_n 1, 1) := by decide +kernel
theorem dX0_key_7 : decode cX0_key 7 = .ok (.bipush 8, 2) := by decide +kernel
theorem dX0_key_9 : decode cX0_key 9 = .ok (.lshl, 1) := by decide +kernel
theorem dX0_key_10 : decode cX0_key 10 = .ok (.aload_n 0, 1) := by decide +kernel
theorem dX0_key_11 : decode cX0_key 11 = .ok (.getfield 15, 3) := by decide +kernel
theorem dX0_key_14 : decode cX0_key 14 = .ok (.i2l, 1) := by decide +kernel
theorem dX0_key_15 : decode cX0_key 15 = .ok (.lor, 1) := by decide +kernel
theorem dX0_key_16 : decode cX0_key 16 = .ok (.lstore_n 1, 1) := by decide +kernel
theorem dX0_key_17 : decode cX0_key 17 = .ok (.lload_n 1, 1) := by decide +kernel
theorem dX0_key_18 : decode cX0_key 18 = .ok (.bipush 8, 2) := by decide +kernel
theorem dX0_key_20 : decode cX0_key 20 = .ok (.lshl, 1) := by decide +kernel
theorem dX0_key_21 : decode cX0_key 21 = .ok (.aload_n 0, 1) := by decide +kernel
theorem dX0_key_22 : decode cX0_key 22 = .ok (.getfield 18, 3) := by decide +kernel
theorem dX0_key_25 : decode cX0_key 25 = .ok (.i2l, 1) := by decide +kernel
theorem dX0_key_26 : decode cX0_key 26 = .ok (.lor, 1) := by decide +kernel
theorem dX0_key_27 : decode cX0_key 27 = .ok (.lstore_n 1, 1) := by decide +kernel
theorem dX0_key_28 : decode cX0_key 28 = .ok (.lload_n 1, 1) := by decide +kernel
theorem dX0_key_29 : decode cX0_key 29 = .ok (.bipush 8, 2) := by decide +kernel
theorem dX0_key_31 : decode cX0_key 31 = .ok (.lshl, 1) := by decide +kernel
theorem dX0_key_32 : decode cX0_key 32 = .ok (.aload_n 0, 1) := by decide +kernel
theorem dX0_key_33 : decode cX0_key 33 = .ok (.getfield 21, 3) := by decide +kernel
theorem dX0_key_36 : decode cX0_key 36 = .ok (.i2l, 1) := by decide +kernel
theorem dX0_key_37 : decode cX0_key 37 = .ok (.lor, 1) := by decide +kernel
theorem dX0_key_38 : decode cX0_key 38 = .ok (.lstore_n 1, 1) := by decide +kernel
theorem dX0_key_39 : decode cX0_key 39 = .ok (.lload_n 1, 1) := by decide +kernel
theorem dX0_key_40 : decode cX0_key 40 = .ok (.bipush 8, 2) := by decide +kernel
theorem dX0_key_42 : decode cX0_key 42 = .ok (.lshl, 1) := by decide +kernel
theorem dX0_key_43 : decode cX0_key 43 = .ok (.aload_n 0, 1) := by decide +kernel
theorem dX0_key_44 : decode cX0_key 44 = .ok (.getfield 24, 3) := by decide +kernel
theorem dX0_key_47 : decode cX0_key 47 = .ok (.i2l, 1) := by decide +kernel
theorem dX0_key_48 : decode cX0_key 48 = .ok (.lor, 1) := by decide +kernel
theorem dX0_key_49 : decode cX0_key 49 = .ok (.lstore_n 1, 1) := by decide +kernel
theorem dX0_key_50 : decode cX0_key 50 = .ok (.lload_n 1, 1) := by decide +kernel
theorem dX0_key_51 : decode cX0_key 51 = .ok (.bipush 23, 2) := by decide +kernel
theorem dX0_key_53 : decode cX0_key 53 = .ok (.lshl, 1) := by decide +kernel
theorem dX0_key_54 : decode cX0_key 54 = .ok (.aload_n 0, 1) := by decide +kernel
theorem dX0_key_55 : decode cX0_key 55 = .ok (.invokevirtual 80, 3) := by decide +kernel
theorem dX0_key_58 : decode cX0_key 58 = .ok (.i2l, 1) := by decide +kernel
theorem dX0_key_59 : decode cX0_key 59 = .ok (.lor, 1) := by decide +kernel
theorem dX0_key_60 : decode cX0_key 60 = .ok (.lreturn, 1) := by decide +kernel
theorem dX1_init_0 : decode cX1_init 0 = .ok (.aload_n 0, 1) := by decide +kernel
theorem dX1_init_1 : decode cX1_init 1 = .ok (.invokespecial 3, 3) := by decide +kernel
theorem dX1_init_4 : decode cX1_init 4 = .ok (.aload_n 0, 1) := by decide +kernel
theorem dX1_init_5 : decode cX1_init 5 = .ok (.new 9, 3) := by decide +kernel
theorem dX1_init_8 : decode cX1_init 8 = .ok (.dup, 1) := by decide +kernel
theorem dX1_init_9 : decode cX1_init 9 = .ok (.invokespecial 11, 3) := by decide +kernel
theorem dX1_init_12 : decode cX1_init 12 = .ok (.putfield 12, 3) := by decide +kernel
theorem dX1_init_15 : decode cX1_init 15 = .ok (.aload_n 0, 1) := by decide +kernel
theorem dX1_init_16 : decode cX1_init 16 = .ok (.bipush 61, 2) := by decide +kernel
theorem dX1_init_18 : decode cX1_init 18 = .ok (.newarray .int, 2) := by decide +kernel
theorem dX1_init_20 : decode cX1_init 20 = .ok (.putfield 18, 3) := by decide +kernel
theorem dX1_init_23 : decode cX1_init 23 = .ok (.aload_n 0, 1) := by decide +kernel
theorem dX1_init_24 : decode cX1_init 24 = .ok (.ldc2_w 22, 3) := by decide +kernel
theorem dX1_init_27 : decode cX1_init 27 = .ok (.putfield 24, 3) := by decide +kernel
theorem dX1_init_30 : decode cX1_init 30 = .ok (.aload_n 0, 1) := by decide +kernel
theorem dX1_init_31 : decode cX1_init 31 = .ok (.bipush 8, 2) := by decide +kernel
theorem dX1_init_33 : decode cX1_init 33 = .ok (.newarray .int, 2) := by decide +kernel
theorem dX1_init_35 : decode cX1_init 35 = .ok (.putfield 28, 3) := by decide +kernel
theorem dX1_init_38 : decode cX1_init 38 = .ok (.aload_n 0, 1) := by decide +kernel
theorem dX1_init_39 : decode cX1_init 39 = .ok (.ldc2_w 22, 3) := by decide +kernel
theorem dX1_init_42 : decode cX1_init 42 = .ok (.putfield 31, 3) := by decide +kernel
theorem dX1_init_45 : decode cX1_init 45 = .ok (.aload_n 0, 1) := by decide +kernel
theorem dX1_init_46 : decode cX1_init 46 = .ok (.bipush 8, 2) := by decide +kernel
theorem dX1_init_48 : decode cX1_init 48 = .ok (.newarray .int, 2) := by decide +kernel
theorem dX1_init_50 : decode cX1_init 50 = .ok (.putfield 34, 3) := by decide +kernel
theorem dX1_init_53 : decode cX1_init 53 = .ok (.aload_n 0, 1) := by decide +kernel
theorem dX1_init_54 : decode cX1_init 54 = .ok (.aload_n 1, 1) := by decide +kernel
theorem dX1_init_55 : decode cX1_init 55 = .ok (.putfield 37, 3) := by decide +kernel
theorem dX1_init_58 : decode cX1_init 58 = .ok (.return_, 1) := by decide +kernel
theorem dX1_outBy_0 : decode cX1_outBy 0 = .ok (.aload_n 0, 1) := by decide +kernel
theorem dX1_outBy_1 : decode cX1_outBy 1 = .ok (.getfield 12, 3) := by decide +kernel
theorem dX1_outBy_4 : decode cX1_outBy 4 = .ok (.aload_n 0, 1) := by decide +kernel
theorem dX1_outBy_5 : decode cX1_outBy 5 = .ok (.getfield 37, 3) := by decide +kernel
theorem dX1_outBy_8 : decode cX1_outBy 8 = .ok (.getfield 41, 3) := by decide +kernel
theorem dX1_outBy_11 : decode cX1_outBy 11 = .ok (.invokevirtual 46, 3) := by decide +kernel
theorem dX1_outBy_14 : decode cX1_outBy 14 = .ok (.aload_n 0, 1) := by decide +kernel
theorem dX1_outBy_15 : decode cX1_outBy 15 = .ok (.getfield 12, 3) := by decide +kernel
theorem dX1_outBy_18 : decode cX1_outBy 18 = .ok (.iload_n 1, 1) := by decide +kernel
theorem dX1_outBy_19 : decode cX1_outBy 19 = .ok (.putfield 50, 3) := by decide +kernel
theorem dX1_outBy_22 : decode cX1_outBy 22 = .ok (.aload_n 0, 1) := by decide +kernel
theorem dX1_outBy_23 : decode cX1_outBy 23 = .ok (.getfield 12, 3) := by decide +kernel
theorem dX1_outBy_26 : decode cX1_outBy 26 = .ok (.iload_n 2, 1) := by decide +kernel
theorem dX1_outBy_27 : decode cX1_outBy 27 = .ok (.invokevirtual 54, 3) := by decide +kernel
theorem dX1_outBy_30 : decode cX1_outBy 30 = .ok (.ireturn, 1) := by decide +kernel
theorem dX1_leftBy_0 : decode cX1_leftBy 0 = .ok (.aload_n 0, 1) := by decide +kernel
theorem dX1_leftBy_1 : decode cX1_leftBy 1 = .ok (.getfield 12, 3) := by decide +kernel
theorem dX1_leftBy_4 : decode cX1_leftBy 4 = .ok (.aload_n 0, 1) := by decide +kernel
theorem dX1_leftBy_5 : decode cX1_leftBy 5 = .ok (.getfield 37, 3) := by decide +kernel
theorem dX1_leftBy_8 : decode cX1_leftBy 8 = .ok (.getfield 41, 3) := by decide +kernel
theorem dX1_leftBy_11 : decode cX1_leftBy 11 = .ok (.invokevirtual 46, 3) := by decide +kernel
theorem dX1_leftBy_14 : decode cX1_leftBy 14 = .ok (.aload_n 0, 1) := by decide +kernel
theorem dX1_leftBy_15 : decode cX1_leftBy 15 = .ok (.getfield 12, 3) := by decide +kernel
theorem dX1_leftBy_18 : decode cX1_leftBy 18 = .ok (.iload_n 1, 1) := by decide +kernel
theorem dX1_leftBy_19 : decode cX1_leftBy 19 = .ok (.invokevirtual 58, 3) := by decide +kernel
theorem dX1_leftBy_22 : decode cX1_leftBy 22 = .ok (.ireturn, 1) := by decide +kernel
theorem dX1_fewestBeats_0 : decode cX1_fewestBeats 0 = .ok (.aload_n 0, 1) := by decide +kernel
theorem dX1_fewestBeats_1 : decode cX1_fewestBeats 1 = .ok (.getfield 37, 3) := by decide +kernel
theorem dX1_fewestBeats_4 : decode cX1_fewestBeats 4 = .ok (.getfield 41, 3) := by decide +kernel
theorem dX1_fewestBeats_7 : decode cX1_fewestBeats 7 = .ok (.invokevirtual 61, 3) := by decide +kernel
theorem dX1_fewestBeats_10 : decode cX1_fewestBeats 10 = .ok (.lstore_n 2, 1) := by decide +kernel
theorem dX1_fewestBeats_11 : decode cX1_fewestBeats 11 = .ok (.lload_n 2, 1) := by decide +kernel
theorem dX1_fewestBeats_12 : decode cX1_fewestBeats 12 = .ok (.aload_n 0, 1) := by decide +kernel
theorem dX1_fewestBeats_13 : decode cX1_fewestBeats 13 = .ok (.getfield 24, 3) := by decide +kernel
theorem dX1_fewestBeats_16 : decode cX1_fewestBeats 16 = .ok (.lcmp, 1) := by decide +kernel
theorem dX1_fewestBeats_17 : decode cX1_fewestBeats 17 = .ok (.ifCond .eq 40, 3) := by decide +kernel
theorem dX1_fewestBeats_20 : decode cX1_fewestBeats 20 = .ok (.iconst 1, 1) := by decide +kernel
theorem dX1_fewestBeats_21 : decode cX1_fewestBeats 21 = .ok (.istore 4, 2) := by decide +kernel
theorem dX1_fewestBeats_23 : decode cX1_fewestBeats 23 = .ok (.iload 4, 2) := by decide +kernel
theorem dX1_fewestBeats_25 : decode cX1_fewestBeats 25 = .ok (.aload_n 0, 1) := by decide +kernel
theorem dX1_fewestBeats_26 : decode cX1_fewestBeats 26 = .ok (.getfield 18, 3) := by decide +kernel
theorem dX1_fewestBeats_29 : decode cX1_fewestBeats 29 = .ok (.arraylength, 1) := by decide +kernel
theorem dX1_fewestBeats_30 : decode cX1_fewestBeats 30 = .ok (.if_icmp .ge 22, 3) := by decide +kernel
theorem dX1_fewestBeats_33 : decode cX1_fewestBeats 33 = .ok (.aload_n 0, 1) := by decide +kernel
theorem dX1_fewestBeats_34 : decode cX1_fewestBeats 34 = .ok (.getfield 18, 3) := by decide +kernel
theorem dX1_fewestBeats_37 : decode cX1_fewestBeats 37 = .ok (.iload 4, 2) := by decide +kernel
theorem dX1_fewestBeats_39 : decode cX1_fewestBeats 39 = .ok (.aload_n 0, 1) := by decide +kernel
theorem dX1_fewestBeats_40 : decode cX1_fewestBeats 40 = .ok (.iload 4, 2) := by decide +kernel
theorem dX1_fewestBeats_42 : decode cX1_fewestBeats 42 = .ok (.invokevirtual 65, 3) := by decide +kernel
theorem dX1_fewestBeats_45 : decode cX1_fewestBeats 45 = .ok (.iastore, 1) := by decide +kernel
theorem dX1_fewestBeats_46 : decode cX1_fewestBeats 46 = .ok (.iinc 4 1, 3) := by decide +kernel
theorem dX1_fewestBeats_49 : decode cX1_fewestBeats 49 = .ok (.goto (-26), 3) := by decide +kernel
theorem dX1_fewestBeats_52 : decode cX1_fewestBeats 52 = .ok (.aload_n 0, 1) := by decide +kernel
theorem dX1_fewestBeats_53 : decode cX1_fewestBeats 53 = .ok (.lload_n 2, 1) := by decide +kernel
theorem dX1_fewestBeats_54 : decode cX1_fewestBeats 54 = .ok (.putfield 24, 3) := by decide +kernel
theorem dX1_fewestBeats_57 : decode cX1_fewestBeats 57 = .ok (.iconst 1, 1) := by decide +kernel
theorem dX1_fewestBeats_58 : decode cX1_fewestBeats 58 = .ok (.istore 4, 2) := by decide +kernel
theorem dX1_fewestBeats_60 : decode cX1_fewestBeats 60 = .ok (.iload 4, 2) := by decide +kernel
theorem dX1_fewestBeats_62 : decode cX1_fewestBeats 62 = .ok (.aload_n 0, 1) := by decide +kernel
theorem dX1_fewestBeats_63 : decode cX1_fewestBeats 63 = .ok (.getfield 18, 3) := by decide +kernel
theorem dX1_fewestBeats_66 : decode cX1_fewestBeats 66 = .ok (.arraylength, 1) := by decide +kernel
theorem dX1_fewestBeats_67 : decode cX1_fewestBeats 67 = .ok (.if_icmp .ge 23, 3) := by decide +kernel
theorem dX1_fewestBeats_70 : decode cX1_fewestBeats 70 = .ok (.aload_n 0, 1) := by decide +kernel
theorem dX1_fewestBeats_71 : decode cX1_fewestBeats 71 = .ok (.getfield 18, 3) := by decide +kernel
theorem dX1_fewestBeats_74 : decode cX1_fewestBeats 74 = .ok (.iload 4, 2) := by decide +kernel
theorem dX1_fewestBeats_76 : decode cX1_fewestBeats 76 = .ok (.iaload, 1) := by decide +kernel
theorem dX1_fewestBeats_77 : decode cX1_fewestBeats 77 = .ok (.iload_n 1, 1) := by decide +kernel
theorem dX1_fewestBeats_78 : decode cX1_fewestBeats 78 = .ok (.if_icmp .ne 6, 3) := by decide +kernel
theorem dX1_fewestBeats_81 : decode cX1_fewestBeats 81 = .ok (.iload 4, 2) := by decide +kernel
theorem dX1_fewestBeats_83 : decode cX1_fewestBeats 83 = .ok (.ireturn, 1) := by decide +kernel
theorem dX1_fewestBeats_84 : decode cX1_fewestBeats 84 = .ok (.iinc 4 1, 3) := by decide +kernel
theorem dX1_fewestBeats_87 : decode cX1_fewestBeats 87 = .ok (.goto (-27), 3) := by decide +kernel
theorem dX1_fewestBeats_90 : decode cX1_fewestBeats 90 = .ok (.iconst (-1), 1) := by decide +kernel
theorem dX1_fewestBeats_91 : decode cX1_fewestBeats 91 = .ok (.ireturn, 1) := by decide +kernel
theorem dX1_startsFor_0 : decode cX1_startsFor 0 = .ok (.iconst 0, 1) := by decide +kernel
theorem dX1_startsFor_1 : decode cX1_startsFor 1 = .ok (.istore_n 3, 1) := by decide +kernel
theorem dX1_startsFor_2 : decode cX1_startsFor 2 = .ok (.iconst 0, 1) := by decide +kernel
theorem dX1_startsFor_3 : decode cX1_startsFor 3 = .ok (.istore 4, 2) := by decide +kernel
theorem dX1_startsFor_5 : decode cX1_startsFor 5 = .ok (.iload 4, 2) := by decide +kernel
theorem dX1_startsFor_7 : decode cX1_startsFor 7 = .ok (.aload_n 0, 1) := by decide +kernel
theorem dX1_startsFor_8 : decode cX1_startsFor 8 = .ok (.getfield 37, 3) := by decide +kernel
theorem dX1_startsFor_11 : decode cX1_startsFor 11 = .ok (.getfield 41, 3) := by decide +kernel
theorem dX1_startsFor_14 : decode cX1_startsFor 14 = .ok (.getfield 68, 3) := by decide +kernel
theorem dX1_startsFor_17 : decode cX1_startsFor 17 = .ok (.if_icmp .ge 70, 3) := by decide +kernel
theorem dX1_startsFor_20 : decode cX1_startsFor 20 = .ok (.aload_n 0, 1) := by decide +kernel
theorem dX1_startsFor_21 : decode cX1_startsFor 21 = .ok (.getfield 37, 3) := by decide +kernel
theorem dX1_startsFor_24 : decode cX1_startsFor 24 = .ok (.getfield 41, 3) := by decide +kernel
theorem dX1_startsFor_27 : decode cX1_startsFor 27 = .ok (.iload 4, 2) := by decide +kernel
theorem dX1_startsFor_29 : decode cX1_startsFor 29 = .ok (.invokevirtual 71, 3) := by decide +kernel
theorem dX1_startsFor_32 : decode cX1_startsFor 32 = .ok (.ifCond .eq 49, 3) := by decide +kernel
theorem dX1_startsFor_35 : decode cX1_startsFor 35 = .ok (.aload_n 0, 1) := by decide +kernel
theorem dX1_startsFor_36 : decode cX1_startsFor 36 = .ok (.getfield 12, 3) := by decide +kernel
theorem dX1_startsFor_39 : decode cX1_startsFor 39 = .ok (.aload_n 0, 1) := by decide +kernel
theorem dX1_startsFor_40 : decode cX1_startsFor 40 = .ok (.getfield 37, 3) := by decide +kernel
theorem dX1_startsFor_43 : decode cX1_startsFor 43 = .ok (.getfield 41, 3) := by decide +kernel
theorem dX1_startsFor_46 : decode cX1_startsFor 46 = .ok (.invokevirtual 46, 3) := by decide +kernel
theorem dX1_startsFor_49 : decode cX1_startsFor 49 = .ok (.aload_n 0, 1) := by decide +kernel
theorem dX1_startsFor_50 : decode cX1_startsFor 50 = .ok (.getfield 12, 3) := by decide +kernel
theorem dX1_startsFor_53 : decode cX1_startsFor 53 = .ok (.iload 4, 2) := by decide +kernel
theorem dX1_startsFor_55 : decode cX1_startsFor 55 = .ok (.putfield 50, 3) := by decide +kernel
theorem dX1_startsFor_58 : decode cX1_startsFor 58 = .ok (.iload_n 3, 1) := by decide +kernel
theorem dX1_startsFor_59 : decode cX1_startsFor 59 = .ok (.aload_n 0, 1) := by decide +kernel
theorem dX1_startsFor_60 : decode cX1_startsFor 60 = .ok (.getfield 12, 3) := by decide +kernel
theorem dX1_startsFor_63 : decode cX1_startsFor 63 = .ok (.iload_n 2, 1) := by decide +kernel
theorem dX1_startsFor_64 : decode cX1_startsFor 64 = .ok (.invokevirtual 58, 3) := by decide +kernel
theorem dX1_startsFor_67 : decode cX1_startsFor 67 = .ok (.iload_n 1, 1) := by decide +kernel
theorem dX1_startsFor_68 : decode cX1_startsFor 68 = .ok (.if_icmp .ne 10, 3) := by decide +kernel
theorem dX1_startsFor_71 : decode cX1_startsFor 71 = .ok (.iconst 1, 1) := by decide +kernel
theorem dX1_startsFor_72 : decode cX1_startsFor 72 = .ok (.iload 4, 2) := by decide +kernel
theorem dX1_startsFor_74 : decode cX1_startsFor 74 = .ok (.ishl, 1) := by decide +kernel
theorem dX1_startsFor_75 : decode cX1_startsFor 75 = .ok (.goto 4, 3) := by decide +kernel
theorem dX1_startsFor_78 : decode cX1_startsFor 78 = .ok (.iconst 0, 1) := by decide +kernel
theorem dX1_startsFor_79 : decode cX1_startsFor 79 = .ok (.ior, 1) := by decide +kernel
theorem dX1_startsFor_80 : decode cX1_startsFor 80 = .ok (.istore_n 3, 1) := by decide +kernel
theorem dX1_startsFor_81 : decode cX1_startsFor 81 = .ok (.iinc 4 1, 3) := by decide +kernel
theorem dX1_startsFor_84 : decode cX1_startsFor 84 = .ok (.goto (-79), 3) := by decide +kernel
theorem dX1_startsFor_87 : decode cX1_startsFor 87 = .ok (.iload_n 3, 1) := by decide +kernel
theorem dX1_startsFor_88 : decode cX1_startsFor 88 = .ok (.ireturn, 1) := by decide +kernel
theorem dX1_placesFor_0 : decode cX1_placesFor 0 = .ok (.iconst 0, 1) := by decide +kernel
theorem dX1_placesFor_1 : decode cX1_placesFor 1 = .ok (.istore_n 3, 1) := by decide +kernel
theorem dX1_placesFor_2 : decode cX1_placesFor 2 = .ok (.iconst 0, 1) := by decide +kernel
theorem dX1_placesFor_3 : decode cX1_placesFor 3 = .ok (.istore 4, 2) := by decide +kernel
theorem dX1_placesFor_5 : decode cX1_placesFor 5 = .ok (.iload 4, 2) := by decide +kernel
theorem dX1_placesFor_7 : decode cX1_placesFor 7 = .ok (.aload_n 0, 1) := by decide +kernel
theorem dX1_placesFor_8 : decode cX1_placesFor 8 = .ok (.getfield 37, 3) := by decide +kernel
theorem dX1_placesFor_11 : decode cX1_placesFor 11 = .ok (.getfield 41, 3) := by decide +kernel
theorem dX1_placesFor_14 : decode cX1_placesFor 14 = .ok (.getfield 68, 3) := by decide +kernel
theorem dX1_placesFor_17 : decode cX1_placesFor 17 = .ok (.if_icmp .gt 57, 3) := by decide +kernel
theorem dX1_placesFor_20 : decode cX1_placesFor 20 = .ok (.aload_n 0, 1) := by decide +kernel
theorem dX1_placesFor_21 : decode cX1_placesFor 21 = .ok (.getfield 12, 3) := by decide +kernel
theorem dX1_placesFor_24 : decode cX1_placesFor 24 = .ok (.aload_n 0, 1) := by decide +kernel
theorem dX1_placesFor_25 : decode cX1_placesFor 25 = .ok (.getfield 37, 3) := by decide +kernel
theorem dX1_placesFor_28 : decode cX1_placesFor 28 = .ok (.getfield 41, 3) := by decide +kernel
theorem dX1_placesFor_31 : decode cX1_placesFor 31 = .ok (.invokevirtual 46, 3) := by decide +kernel
theorem dX1_placesFor_34 : decode cX1_placesFor 34 = .ok (.aload_n 0, 1) := by decide +kernel
theorem dX1_placesFor_35 : decode cX1_placesFor 35 = .ok (.getfield 12, 3) := by decide +kernel
theorem dX1_placesFor_38 : decode cX1_placesFor 38 = .ok (.iload 4, 2) := by decide +kernel
theorem dX1_placesFor_40 : decode cX1_placesFor 40 = .ok (.iload_n 1, 1) := by decide +kernel
theorem dX1_placesFor_41 : decode cX1_placesFor 41 = .ok (.invokevirtual 75, 3) := by decide +kernel
theorem dX1_placesFor_44 : decode cX1_placesFor 44 = .ok (.iload_n 3, 1) := by decide +kernel
theorem dX1_placesFor_45 : decode cX1_placesFor 45 = .ok (.aload_n 0, 1) := by decide +kernel
theorem dX1_placesFor_46 : decode cX1_placesFor 46 = .ok (.getfield 12, 3) := by decide +kernel
theorem dX1_placesFor_49 : decode cX1_placesFor 49 = .ok (.iload_n 2, 1) := by decide +kernel
theorem dX1_placesFor_50 : decode cX1_placesFor 50 = .ok (.invokevirtual 58, 3) := by decide +kernel
theorem dX1_placesFor_53 : decode cX1_placesFor 53 = .ok (.iload 4, 2) := by decide +kernel
theorem dX1_placesFor_55 : decode cX1_placesFor 55 = .ok (.if_icmp .ne 10, 3) := by decide +kernel
theorem dX1_placesFor_58 : decode cX1_placesFor 58 = .ok (.iconst 1, 1) := by decide +kernel
theorem dX1_placesFor_59 : decode cX1_placesFor 59 = .ok (.iload 4, 2) := by decide +kernel
theorem dX1_placesFor_61 : decode cX1_placesFor 61 = .ok (.ishl, 1) := by decide +kernel
theorem dX1_placesFor_62 : decode cX1_placesFor 62 = .ok (.goto 4, 3) := by decide +kernel
theorem dX1_placesFor_65 : decode cX1_placesFor 65 = .ok (.iconst 0, 1) := by decide +kernel
theorem dX1_placesFor_66 : decode cX1_placesFor 66 = .ok (.ior, 1) := by decide +kernel
theorem dX1_placesFor_67 : decode cX1_placesFor 67 = .ok (.istore_n 3, 1) := by decide +kernel
theorem dX1_placesFor_68 : decode cX1_placesFor 68 = .ok (.iinc 4 1, 3) := by decide +kernel
theorem dX1_placesFor_71 : decode cX1_placesFor 71 = .ok (.goto (-66), 3) := by decide +kernel
theorem dX1_placesFor_74 : decode cX1_placesFor 74 = .ok (.iload_n 3, 1) := by decide +kernel
theorem dX1_placesFor_75 : decode cX1_placesFor 75 = .ok (.ireturn, 1) := by decide +kernel
theorem dX1_bestFor_0 : decode cX1_bestFor 0 = .ok (.aload_n 0, 1) := by decide +kernel
theorem dX1_bestFor_1 : decode cX1_bestFor 1 = .ok (.getfield 12, 3) := by decide +kernel
theorem dX1_bestFor_4 : decode cX1_bestFor 4 = .ok (.aload_n 0, 1) := by decide +kernel
theorem dX1_bestFor_5 : decode cX1_bestFor 5 = .ok (.getfield 37, 3) := by decide +kernel
theorem dX1_bestFor_8 : decode cX1_bestFor 8 = .ok (.getfield 41, 3) := by decide +kernel
theorem dX1_bestFor_11 : decode cX1_bestFor 11 = .ok (.invokevirtual 46, 3) := by decide +kernel
theorem dX1_bestFor_14 : decode cX1_bestFor 14 = .ok (.aload_n 0, 1) := by decide +kernel
theorem dX1_bestFor_15 : decode cX1_bestFor 15 = .ok (.iload_n 1, 1) := by decide +kernel
theorem dX1_bestFor_16 : decode cX1_bestFor 16 = .ok (.iload_n 2, 1) := by decide +kernel
theorem dX1_bestFor_17 : decode cX1_bestFor 17 = .ok (.iconst 0, 1) := by decide +kernel
theorem dX1_bestFor_18 : decode cX1_bestFor 18 = .ok (.invokevirtual 79, 3) := by decide +kernel
theorem dX1_bestFor_21 : decode cX1_bestFor 21 = .ok (.ireturn, 1) := by decide +kernel
theorem dX1_verseFor_0 : decode cX1_verseFor 0 = .ok (.aload_n 0, 1) := by decide +kernel
theorem dX1_verseFor_1 : decode cX1_verseFor 1 = .ok (.getfield 12, 3) := by decide +kernel
theorem dX1_verseFor_4 : decode cX1_verseFor 4 = .ok (.aload_n 0, 1) := by decide +kernel
theorem dX1_verseFor_5 : decode cX1_verseFor 5 = .ok (.getfield 37, 3) := by decide +kernel
theorem dX1_verseFor_8 : decode cX1_verseFor 8 = .ok (.getfield 41, 3) := by decide +kernel
theorem dX1_verseFor_11 : decode cX1_verseFor 11 = .ok (.invokevirtual 46, 3) := by decide +kernel
theorem dX1_verseFor_14 : decode cX1_verseFor 14 = .ok (.aload_n 0, 1) := by decide +kernel
theorem dX1_verseFor_15 : decode cX1_verseFor 15 = .ok (.iload_n 1, 1) := by decide +kernel
theorem dX1_verseFor_16 : decode cX1_verseFor 16 = .ok (.iload_n 2, 1) := by decide +kernel
theorem dX1_verseFor_17 : decode cX1_verseFor 17 = .ok (.iconst 0, 1) := by decide +kernel
theorem dX1_verseFor_18 : decode cX1_verseFor 18 = .ok (.invokevirtual 79, 3) := by decide +kernel
theorem dX1_verseFor_21 : decode cX1_verseFor 21 = .ok (.pop, 1) := by decide +kernel
theorem dX1_verseFor_22 : decode cX1_verseFor 22 = .ok (.aload_n 0, 1) := by decide +kernel
theorem dX1_verseFor_23 : decode cX1_verseFor 23 = .ok (.getfield 83, 3) := by decide +kernel
theorem dX1_verseFor_26 : decode cX1_verseFor 26 = .ok (.ireturn, 1) := by decide +kernel
theorem dX1_worth_0 : decode cX1_worth 0 = .ok (.iload_n 3, 1) := by decide +kernel
theorem dX1_worth_1 : decode cX1_worth 1 = .ok (.bipush 7, 2) := by decide +kernel
theorem dX1_worth_3 : decode cX1_worth 3 = .ok (.if_icmp .ge 13, 3) := by decide +kernel
theorem dX1_worth_6 : decode cX1_worth 6 = .ok (.aload_n 0, 1) := by decide +kernel
theorem dX1_worth_7 : decode cX1_worth 7 = .ok (.getfield 12, 3) := by decide +kernel
theorem dX1_worth_10 : decode cX1_worth 10 = .ok (.invokevirtual 86, 3) := by decide +kernel
theorem dX1_worth_13 : decode cX1_worth 13 = .ok (.ifCond .ne 10, 3) := by decide +kernel
theorem dX1_worth_16 : decode cX1_worth 16 = .ok (.aload_n 0, 1) := by decide +kernel
theorem dX1_worth_17 : decode cX1_worth 17 = .ok (.iconst (-1), 1) := by decide +kernel
theorem dX1_worth_18 : decode cX1_worth 18 = .ok (.putfield 83, 3) := by decide +kernel
theorem dX1_worth_21 : decode cX1_worth 21 = .ok (.iconst 1, 1) := by decide +kernel
theorem dX1_worth_22 : decode cX1_worth 22 = .ok (.ireturn, 1) := by decide +kernel
theorem dX1_worth_23 : decode cX1_worth 23 = .ok (.aload_n 0, 1) := by decide +kernel
theorem dX1_worth_24 : decode cX1_worth 24 = .ok (.getfield 12, 3) := by decide +kernel
theorem dX1_worth_27 : decode cX1_worth 27 = .ok (.invokevirtual 90, 3) := by decide +kernel
theorem dX1_worth_30 : decode cX1_worth 30 = .ok (.istore 4, 2) := by decide +kernel
theorem dX1_worth_32 : decode cX1_worth 32 = .ok (.iconst (-1), 1) := by decide +kernel
theorem dX1_worth_33 : decode cX1_worth 33 = .ok (.istore 5, 2) := by decide +kernel
theorem dX1_worth_35 : decode cX1_worth 35 = .ok (.iconst (-1), 1) := by decide +kernel
theorem dX1_worth_36 : decode cX1_worth 36 = .ok (.istore 6, 2) := by decide +kernel
theorem dX1_worth_38 : decode cX1_worth 38 = .ok (.iconst 0, 1) := by decide +kernel
theorem dX1_worth_39 : decode cX1_worth 39 = .ok (.istore 7, 2) := by decide +kernel
theorem dX1_worth_41 : decode cX1_worth 41 = .ok (.iload 7, 2) := by decide +kernel
theorem dX1_worth_43 : decode cX1_worth 43 = .ok (.iconst 3, 1) := by decide +kernel
theorem dX1_worth_44 : decode cX1_worth 44 = .ok (.if_icmp .ge 107, 3) := by decide +kernel
theorem dX1_worth_47 : decode cX1_worth 47 = .ok (.aload_n 0, 1) := by decide +kernel
theorem dX1_worth_48 : decode cX1_worth 48 = .ok (.getfield 37, 3) := by decide +kernel
theorem dX1_worth_51 : decode cX1_worth 51 = .ok (.iload 7, 2) := by decide +kernel
theorem dX1_worth_53 : decode cX1_worth 53 = .ok (.invokevirtual 94, 3) := by decide +kernel
theorem dX1_worth_56 : decode cX1_worth 56 = .ok (.ifCond .eq 95, 3) := by decide +kernel
theorem dX1_worth_59 : decode cX1_worth 59 = .ok (.iload 5, 2) := by decide +kernel
theorem dX1_worth_61 : decode cX1_worth 61 = .ok (.iconst 2, 1) := by decide +kernel
theorem dX1_worth_62 : decode cX1_worth 62 = .ok (.if_icmp .ge 89, 3) := by decide +kernel
theorem dX1_worth_65 : decode cX1_worth 65 = .ok (.aload_n 0, 1) := by decide +kernel
theorem dX1_worth_66 : decode cX1_worth 66 = .ok (.getfield 12, 3) := by decide +kernel
theorem dX1_worth_69 : decode cX1_worth 69 = .ok (.aload_n 0, 1) := by decide +kernel
theorem dX1_worth_70 : decode cX1_worth 70 = .ok (.getfield 37, 3) := by decide +kernel
theorem dX1_worth_73 : decode cX1_worth 73 = .ok (.getfield 97, 3) := by decide +kernel
theorem dX1_worth_76 : decode cX1_worth 76 = .ok (.iload 7, 2) := by decide +kernel
theorem dX1_worth_78 : decode cX1_worth 78 = .ok (.iaload, 1) := by decide +kernel
theorem dX1_worth_79 : decode cX1_worth 79 = .ok (.invokevirtual 54, 3) := by decide +kernel
theorem dX1_worth_82 : decode cX1_worth 82 = .ok (.istore 8, 2) := by decide +kernel
theorem dX1_worth_84 : decode cX1_worth 84 = .ok (.iload 8, 2) := by decide +kernel
theorem dX1_worth_86 : decode cX1_worth 86 = .ok (.iload_n 1, 1) := by decide +kernel
theorem dX1_worth_87 : decode cX1_worth 87 = .ok (.if_icmp .ne 9, 3) := by decide +kernel
theorem dX1_worth_90 : decode cX1_worth 90 = .ok (.iconst 0, 1) := by decide +kernel
theorem dX1_worth_91 : decode cX1_worth 91 = .ok (.istore 9, 2) := by decide +kernel
theorem dX1_worth_93 : decode cX1_worth 93 = .ok (.goto 28, 3) := by decide +kernel
theorem dX1_worth_96 : decode cX1_worth 96 = .ok (.iload 8, 2) := by decide +kernel
theorem dX1_worth_98 : decode cX1_worth 98 = .ok (.iload_n 2, 1) := by decide +kernel
theorem dX1_worth_99 : decode cX1_worth 99 = .ok (.if_icmp .ne 9, 3) := by decide +kernel
theorem dX1_worth_102 : decode cX1_worth 102 = .ok (.iconst 2, 1) := by decide +kernel
theorem dX1_worth_103 : decode cX1_worth 103 = .ok (.istore 9, 2) := by decide +kernel
theorem dX1_worth_105 : decode cX1_worth 105 = .ok (.goto 16, 3) := by decide +kernel
theorem dX1_worth_108 : decode cX1_worth 108 = .ok (.iconst 2, 1) := by decide +kernel
theorem dX1_worth_109 : decode cX1_worth 109 = .ok (.aload_n 0, 1) := by decide +kernel
theorem dX1_worth_110 : decode cX1_worth 110 = .ok (.iload_n 2, 1) := by decide +kernel
theorem dX1_worth_111 : decode cX1_worth 111 = .ok (.iload_n 1, 1) := by decide +kernel
theorem dX1_worth_112 : decode cX1_worth 112 = .ok (.iload_n 3, 1) := by decide +kernel
theorem dX1_worth_113 : decode cX1_worth 113 = .ok (.iconst 1, 1) := by decide +kernel
theorem dX1_worth_114 : decode cX1_worth 114 = .ok (.iadd, 1) := by decide +kernel
theorem dX1_worth_115 : decode cX1_worth 115 = .ok (.invokevirtual 79, 3) := by decide +kernel
theorem dX1_worth_118 : decode cX1_worth 118 = .ok (.isub, 1) := by decide +kernel
theorem dX1_worth_119 : decode cX1_worth 119 = .ok (.istore 9, 2) := by decide +kernel
theorem dX1_worth_121 : decode cX1_worth 121 = .ok (.aload_n 0, 1) := by decide +kernel
theorem dX1_worth_122 : decode cX1_worth 122 = .ok (.getfield 12, 3) := by decide +kernel
theorem dX1_worth_125 : decode cX1_worth 125 = .ok (.iload 4, 2) := by decide +kernel
theorem dX1_worth_127 : decode cX1_worth 127 = .ok (.invokevirtual 100, 3) := by decide +kernel
theorem dX1_worth_130 : decode cX1_worth 130 = .ok (.iload 9, 2) := by decide +kernel
theorem dX1_worth_132 : decode cX1_worth 132 = .ok (.iload 5, 2) := by decide +kernel
theorem dX1_worth_134 : decode cX1_worth 134 = .ok (.if_icmp .le 11, 3) := by decide +kernel
theorem dX1_worth_137 : decode cX1_worth 137 = .ok (.iload 9, 2) := by decide +kernel
theorem dX1_worth_139 : decode cX1_worth 139 = .ok (.istore 5, 2) := by decide +kernel
theorem dX1_worth_141 : decode cX1_worth 141 = .ok (.iload 7, 2) := by decide +kernel
theorem dX1_worth_143 : decode cX1_worth 143 = .ok (.istore 6, 2) := by decide +kernel
theorem dX1_worth_145 : decode cX1_worth 145 = .ok (.iinc 7 1, 3) := by decide +kernel
theorem dX1_worth_148 : decode cX1_worth 148 = .ok (.goto (-107), 3) := by decide +kernel
theorem dX1_worth_151 : decode cX1_worth 151 = .ok (.aload_n 0, 1) := by decide +kernel
theorem dX1_worth_152 : decode cX1_worth 152 = .ok (.iload 6, 2) := by decide +kernel
theorem dX1_worth_154 : decode cX1_worth 154 = .ok (.putfield 83, 3) := by decide +kernel
theorem dX1_worth_157 : decode cX1_worth 157 = .ok (.iload 5, 2) := by decide +kernel
theorem dX1_worth_159 : decode cX1_worth 159 = .ok (.ireturn, 1) := by decide +kernel
theorem dX1_chanceOf_0 : decode cX1_chanceOf 0 = .ok (.aload_n 0, 1) := by decide +kernel
theorem dX1_chanceOf_1 : decode cX1_chanceOf 1 = .ok (.getfield 37, 3) := by decide +kernel
theorem dX1_chanceOf_4 : decode cX1_chanceOf 4 = .ok (.getfield 41, 3) := by decide +kernel
theorem dX1_chanceOf_7 : decode cX1_chanceOf 7 = .ok (.invokevirtual 61, 3) := by decide +kernel
theorem dX1_chanceOf_10 : decode cX1_chanceOf 10 = .ok (.lstore_n 3, 1) := by decide +kernel
theorem dX1_chanceOf_11 : decode cX1_chanceOf 11 = .ok (.lload_n 3, 1) := by decide +kernel
theorem dX1_chanceOf_12 : decode cX1_chanceOf 12 = .ok (.aload_n 0, 1) := by decide +kernel
theorem dX1_chanceOf_13 : decode cX1_chanceOf 13 = .ok (.getfield 31, 3) := by decide +kernel
theorem dX1_chanceOf_16 : decode cX1_chanceOf 16 = .ok (.lcmp, 1) := by decide +kernel
theorem dX1_chanceOf_17 : decode cX1_chanceOf 17 = .ok (.ifCond .eq 57, 3) := by decide +kernel
theorem dX1_chanceOf_20 : decode cX1_chanceOf 20 = .ok (.iconst 0, 1) := by decide +kernel
theorem dX1_chanceOf_21 : decode cX1_chanceOf 21 = .ok (.istore 5, 2) := by decide +kernel
theorem dX1_chanceOf_23 : decode cX1_chanceOf 23 = .ok (.iload 5, 2) := by decide +kernel
theorem dX1_chanceOf_25 : decode cX1_chanceOf 25 = .ok (.aload_n 0, 1) := by decide +kernel
theorem dX1_chanceOf_26 : decode cX1_chanceOf 26 = .ok (.getfield 28, 3) := by decide +kernel
theorem dX1_chanceOf_29 : decode cX1_chanceOf 29 = .ok (.arraylength, 1) := by decide +kernel
theorem dX1_chanceOf_30 : decode cX1_chanceOf 30 = .ok (.if_icmp .ge 17, 3) := by decide +kernel
theorem dX1_chanceOf_33 : decode cX1_chanceOf 33 = .ok (.aload_n 0, 1) := by decide +kernel
theorem dX1_chanceOf_34 : decode cX1_chanceOf 34 = .ok (.getfield 28, 3) := by decide +kernel
theorem dX1_chanceOf_37 : decode cX1_chanceOf 37 = .ok (.iload 5, 2) := by decide +kernel
theorem dX1_chanceOf_39 : decode cX1_chanceOf 39 = .ok (.iconst 0, 1) := by decide +kernel
theorem dX1_chanceOf_40 : decode cX1_chanceOf 40 = .ok (.iastore, 1) := by decide +kernel
theorem dX1_chanceOf_41 : decode cX1_chanceOf 41 = .ok (.iinc 5 1, 3) := by decide +kernel
theorem dX1_chanceOf_44 : decode cX1_chanceOf 44 = .ok (.goto (-21), 3) := by decide +kernel
theorem dX1_chanceOf_47 : decode cX1_chanceOf 47 = .ok (.aload_n 0, 1) := by decide +kernel
theorem dX1_chanceOf_48 : decode cX1_chanceOf 48 = .ok (.getfield 12, 3) := by decide +kernel
theorem dX1_chanceOf_51 : decode cX1_chanceOf 51 = .ok (.aload_n 0, 1) := by decide +kernel
theorem dX1_chanceOf_52 : decode cX1_chanceOf 52 = .ok (.getfield 37, 3) := by decide +kernel
theorem dX1_chanceOf_55 : decode cX1_chanceOf 55 = .ok (.getfield 41, 3) := by decide +kernel
theorem dX1_chanceOf_58 : decode cX1_chanceOf 58 = .ok (.invokevirtual 46, 3) := by decide +kernel
theorem dX1_chanceOf_61 : decode cX1_chanceOf 61 = .ok (.aload_n 0, 1) := by decide +kernel
theorem dX1_chanceOf_62 : decode cX1_chanceOf 62 = .ok (.sipush 2187, 3) := by decide +kernel
theorem dX1_chanceOf_65 : decode cX1_chanceOf 65 = .ok (.iconst 0, 1) := by decide +kernel
theorem dX1_chanceOf_66 : decode cX1_chanceOf 66 = .ok (.invokevirtual 104, 3) := by decide +kernel
theorem dX1_chanceOf_69 : decode cX1_chanceOf 69 = .ok (.aload_n 0, 1) := by decide +kernel
theorem dX1_chanceOf_70 : decode cX1_chanceOf 70 = .ok (.lload_n 3, 1) := by decide +kernel
theorem dX1_chanceOf_71 : decode cX1_chanceOf 71 = .ok (.putfield 31, 3) := by decide +kernel
theorem dX1_chanceOf_74 : decode cX1_chanceOf 74 = .ok (.iload_n 1, 1) := by decide +kernel
theorem dX1_chanceOf_75 : decode cX1_chanceOf 75 = .ok (.ifCond .lt 21, 3) := by decide +kernel
theorem dX1_chanceOf_78 : decode cX1_chanceOf 78 = .ok (.iload_n 1, 1) := by decide +kernel
theorem dX1_chanceOf_79 : decode cX1_chanceOf 79 = .ok (.aload_n 0, 1) := by decide +kernel
theorem dX1_chanceOf_80 : decode cX1_chanceOf 80 = .ok (.getfield 28, 3) := by decide +kernel
theorem dX1_chanceOf_83 : decode cX1_chanceOf 83 = .ok (.arraylength, 1) := by decide +kernel
theorem dX1_chanceOf_84 : decode cX1_chanceOf 84 = .ok (.if_icmp .ge 12, 3) := by decide +kernel
theorem dX1_chanceOf_87 : decode cX1_chanceOf 87 = .ok (.aload_n 0, 1) := by decide +kernel
theorem dX1_chanceOf_88 : decode cX1_chanceOf 88 = .ok (.getfield 28, 3) := by decide +kernel
theorem dX1_chanceOf_91 : decode cX1_chanceOf 91 = .ok (.iload_n 1, 1) := by decide +kernel
theorem dX1_chanceOf_92 : decode cX1_chanceOf 92 = .ok (.iaload, 1) := by decide +kernel
theorem dX1_chanceOf_93 : decode cX1_chanceOf 93 = .ok (.goto 4, 3) := by decide +kernel
theorem dX1_chanceOf_96 : decode cX1_chanceOf 96 = .ok (.iconst 0, 1) := by decide +kernel
theorem dX1_chanceOf_97 : decode cX1_chanceOf 97 = .ok (.istore 5, 2) := by decide +kernel
theorem dX1_chanceOf_99 : decode cX1_chanceOf 99 = .ok (.sipush 2187, 3) := by decide +kernel
theorem dX1_chanceOf_102 : decode cX1_chanceOf 102 = .ok (.istore 6, 2) := by decide +kernel
theorem dX1_chanceOf_104 : decode cX1_chanceOf 104 = .ok (.iconst 0, 1) := by decide +kernel
theorem dX1_chanceOf_105 : decode cX1_chanceOf 105 = .ok (.istore 7, 2) := by decide +kernel
theorem dX1_chanceOf_107 : decode cX1_chanceOf 107 = .ok (.iload 7, 2) := by decide +kernel
theorem dX1_chanceOf_109 : decode cX1_chanceOf 109 = .ok (.bipush 7, 2) := by decide +kernel
theorem dX1_chanceOf_111 : decode cX1_chanceOf 111 = .ok (.if_icmp .ge 28, 3) := by decide +kernel
theorem dX1_chanceOf_114 : decode cX1_chanceOf 114 = .ok (.iload 5, 2) := by decide +kernel
theorem dX1_chanceOf_116 : decode cX1_chanceOf 116 = .ok (.iconst 3, 1) := by decide +kernel
theorem dX1_chanceOf_117 : decode cX1_chanceOf 117 = .ok (.irem, 1) := by decide +kernel
theorem dX1_chanceOf_118 : decode cX1_chanceOf 118 = .ok (.ifCond .ne 21, 3) := by decide +kernel
theorem dX1_chanceOf_121 : decode cX1_chanceOf 121 = .ok (.iload 5, 2) := by decide +kernel
theorem dX1_chanceOf_123 : decode cX1_chanceOf 123 = .ok (.iconst 3, 1) := by decide +kernel
theorem dX1_chanceOf_124 : decode cX1_chanceOf 124 = .ok (.idiv, 1) := by decide +kernel
theorem dX1_chanceOf_125 : decode cX1_chanceOf 125 = .ok (.istore 5, 2) := by decide +kernel
theorem dX1_chanceOf_127 : decode cX1_chanceOf 127 = .ok (.iload 6, 2) := by decide +kernel
theorem dX1_chanceOf_129 : decode cX1_chanceOf 129 = .ok (.iconst 3, 1) := by decide +kernel
theorem dX1_chanceOf_130 : decode cX1_chanceOf 130 = .ok (.idiv, 1) := by decide +kernel
theorem dX1_chanceOf_131 : decode cX1_chanceOf 131 = .ok (.istore 6, 2) := by decide +kernel
theorem dX1_chanceOf_133 : decode cX1_chanceOf 133 = .ok (.iinc 7 1, 3) := by decide +kernel
theorem dX1_chanceOf_136 : decode cX1_chanceOf 136 = .ok (.goto (-29), 3) := by decide +kernel
theorem dX1_chanceOf_139 : decode cX1_chanceOf 139 = .ok (.iload_n 2, 1) := by decide +kernel
theorem dX1_chanceOf_140 : decode cX1_chanceOf 140 = .ok (.ifCond .eq 8, 3) := by decide +kernel
theorem dX1_chanceOf_143 : decode cX1_chanceOf 143 = .ok (.iload 5, 2) := by decide +kernel
theorem dX1_chanceOf_145 : decode cX1_chanceOf 145 = .ok (.goto 5, 3) := by decide +kernel
theorem dX1_chanceOf_148 : decode cX1_chanceOf 148 = .ok (.iload 6, 2) := by decide +kernel
theorem dX1_chanceOf_150 : decode cX1_chanceOf 150 = .ok (.ireturn, 1) := by decide +kernel
theorem dX1_shareOut_0 : decode cX1_shareOut 0 = .ok (.iload_n 2, 1) := by decide +kernel
theorem dX1_shareOut_1 : decode cX1_shareOut 1 = .ok (.bipush 7, 2) := by decide +kernel
theorem dX1_shareOut_3 : decode cX1_shareOut 3 = .ok (.if_icmp .ge 13, 3) := by decide +kernel
theorem dX1_shareOut_6 : decode cX1_shareOut 6 = .ok (.aload_n 0, 1) := by decide +kernel
theorem dX1_shareOut_7 : decode cX1_shareOut 7 = .ok (.getfield 12, 3) := by decide +kernel
theorem dX1_shareOut_10 : decode cX1_shareOut 10 = .ok (.invokevirtual 86, 3) := by decide +kernel
theorem dX1_shareOut_13 : decode cX1_shareOut 13 = .ok (.ifCond .ne 35, 3) := by decide +kernel
theorem dX1_shareOut_16 : decode cX1_shareOut 16 = .ok (.aload_n 0, 1) := by decide +kernel
theorem dX1_shareOut_17 : decode cX1_shareOut 17 = .ok (.getfield 12, 3) := by decide +kernel
theorem dX1_shareOut_20 : decode cX1_shareOut 20 = .ok (.invokevirtual 107, 3) := by decide +kernel
theorem dX1_shareOut_23 : decode cX1_shareOut 23 = .ok (.istore_n 3, 1) := by decide +kernel
theorem dX1_shareOut_24 : decode cX1_shareOut 24 = .ok (.iload_n 3, 1) := by decide +kernel
theorem dX1_shareOut_25 : decode cX1_shareOut 25 = .ok (.ifCond .lt 22, 3) := by decide +kernel
theorem dX1_shareOut_28 : decode cX1_shareOut 28 = .ok (.iload_n 3, 1) := by decide +kernel
theorem dX1_shareOut_29 : decode cX1_shareOut 29 = .ok (.aload_n 0, 1) := by decide +kernel
theorem dX1_shareOut_30 : decode cX1_shareOut 30 = .ok (.getfield 28, 3) := by decide +kernel
theorem dX1_shareOut_33 : decode cX1_shareOut 33 = .ok (.arraylength, 1) := by decide +kernel
theorem dX1_shareOut_34 : decode cX1_shareOut 34 = .ok (.if_icmp .ge 13, 3) := by decide +kernel
theorem dX1_shareOut_37 : decode cX1_shareOut 37 = .ok (.aload_n 0, 1) := by decide +kernel
theorem dX1_shareOut_38 : decode cX1_shareOut 38 = .ok (.getfield 28, 3) := by decide +kernel
theorem dX1_shareOut_41 : decode cX1_shareOut 41 = .ok (.iload_n 3, 1) := by decide +kernel
theorem dX1_shareOut_42 : decode cX1_shareOut 42 = .ok (.dup2, 1) := by decide +kernel
theorem dX1_shareOut_43 : decode cX1_shareOut 43 = .ok (.iaload, 1) := by decide +kernel
theorem dX1_shareOut_44 : decode cX1_shareOut 44 = .ok (.iload_n 1, 1) := by decide +kernel
theorem dX1_shareOut_45 : decode cX1_shareOut 45 = .ok (.iadd, 1) := by decide +kernel
theorem dX1_shareOut_46 : decode cX1_shareOut 46 = .ok (.iastore, 1) := by decide +kernel
theorem dX1_shareOut_47 : decode cX1_shareOut 47 = .ok (.return_, 1) := by decide +kernel
theorem dX1_shareOut_48 : decode cX1_shareOut 48 = .ok (.aload_n 0, 1) := by decide +kernel
theorem dX1_shareOut_49 : decode cX1_shareOut 49 = .ok (.getfield 12, 3) := by decide +kernel
theorem dX1_shareOut_52 : decode cX1_shareOut 52 = .ok (.invokevirtual 90, 3) := by decide +kernel
theorem dX1_shareOut_55 : decode cX1_shareOut 55 = .ok (.istore_n 3, 1) := by decide +kernel
theorem dX1_shareOut_56 : decode cX1_shareOut 56 = .ok (.iconst 1, 1) := by decide +kernel
theorem dX1_shareOut_57 : decode cX1_shareOut 57 = .ok (.istore 4, 2) := by decide +kernel
theorem dX1_shareOut_59 : decode cX1_shareOut 59 = .ok (.iload 4, 2) := by decide +kernel
theorem dX1_shareOut_61 : decode cX1_shareOut 61 = .ok (.iconst 3, 1) := by decide +kernel
theorem dX1_shareOut_62 : decode cX1_shareOut 62 = .ok (.if_icmp .gt 37, 3) := by decide +kernel
theorem dX1_shareOut_65 : decode cX1_shareOut 65 = .ok (.aload_n 0, 1) := by decide +kernel
theorem dX1_shareOut_66 : decode cX1_shareOut 66 = .ok (.getfield 12, 3) := by decide +kernel
theorem dX1_shareOut_69 : decode cX1_shareOut 69 = .ok (.iload 4, 2) := by decide +kernel
theorem dX1_shareOut_71 : decode cX1_shareOut 71 = .ok (.invokevirtual 54, 3) := by decide +kernel
theorem dX1_shareOut_74 : decode cX1_shareOut 74 = .ok (.pop, 1) := by decide +kernel
theorem dX1_shareOut_75 : decode cX1_shareOut 75 = .ok (.aload_n 0, 1) := by decide +kernel
theorem dX1_shareOut_76 : decode cX1_shareOut 76 = .ok (.iload_n 1, 1) := by decide +kernel
theorem dX1_shareOut_77 : decode cX1_shareOut 77 = .ok (.iconst 3, 1) := by decide +kernel
theorem dX1_shareOut_78 : decode cX1_shareOut 78 = .ok (.idiv, 1) := by decide +kernel
theorem dX1_shareOut_79 : decode cX1_shareOut 79 = .ok (.iload_n 2, 1) := by decide +kernel
theorem dX1_shareOut_80 : decode cX1_shareOut 80 = .ok (.iconst 1, 1) := by decide +kernel
theorem dX1_shareOut_81 : decode cX1_shareOut 81 = .ok (.iadd, 1) := by decide +kernel
theorem dX1_shareOut_82 : decode cX1_shareOut 82 = .ok (.invokevirtual 104, 3) := by decide +kernel
theorem dX1_shareOut_85 : decode cX1_shareOut 85 = .ok (.aload_n 0, 1) := by decide +kernel
theorem dX1_shareOut_86 : decode cX1_shareOut 86 = .ok (.getfield 12, 3) := by decide +kernel
theorem dX1_shareOut_89 : decode cX1_shareOut 89 = .ok (.iload_n 3, 1) := by decide +kernel
theorem dX1_shareOut_90 : decode cX1_shareOut 90 = .ok (.invokevirtual 100, 3) := by decide +kernel
theorem dX1_shareOut_93 : decode cX1_shareOut 93 = .ok (.iinc 4 1, 3) := by decide +kernel
theorem dX1_shareOut_96 : decode cX1_shareOut 96 = .ok (.goto (-37), 3) := by decide +kernel
theorem dX1_shareOut_99 : decode cX1_shareOut 99 = .ok (.return_, 1) := by decide +kernel
theorem dX1_lengthBits_0 : decode cX1_lengthBits 0 = .ok (.ldc 110, 2) := by decide +kernel
theorem dX1_lengthBits_2 : decode cX1_lengthBits 2 = .ok (.istore_n 1, 1) := by decide +kernel
theorem dX1_lengthBits_3 : decode cX1_lengthBits 3 = .ok (.iconst 0, 1) := by decide +kernel
theorem dX1_lengthBits_4 : decode cX1_lengthBits 4 = .ok (.istore_n 2, 1) := by decide +kernel
theorem dX1_lengthBits_5 : decode cX1_lengthBits 5 = .ok (.iload_n 2, 1) := by decide +kernel
theorem dX1_lengthBits_6 : decode cX1_lengthBits 6 = .ok (.aload_n 0, 1) := by decide +kernel
theorem dX1_lengthBits_7 : decode cX1_lengthBits 7 = .ok (.getfield 37, 3) := by decide +kernel
theorem dX1_lengthBits_10 : decode cX1_lengthBits 10 = .ok (.getfield 111, 3) := by decide +kernel
theorem dX1_lengthBits_13 : decode cX1_lengthBits 13 = .ok (.if_icmp .ge 65, 3) := by decide +kernel
theorem dX1_lengthBits_16 : decode cX1_lengthBits 16 = .ok (.iload_n 2, 1) := by decide +kernel
theorem dX1_lengthBits_17 : decode cX1_lengthBits 17 = .ok (.bipush 6, 2) := by decide +kernel
theorem dX1_lengthBits_19 : decode cX1_lengthBits 19 = .ok (.if_icmp .ge 59, 3) := by decide +kernel
theorem dX1_lengthBits_22 : decode cX1_lengthBits 22 = .ok (.iconst 1, 1) := by decide +kernel
theorem dX1_lengthBits_23 : decode cX1_lengthBits 23 = .ok (.istore_n 3, 1) := by decide +kernel
theorem dX1_lengthBits_24 : decode cX1_lengthBits 24 = .ok (.iload_n 3, 1) := by decide +kernel
theorem dX1_lengthBits_25 : decode cX1_lengthBits 25 = .ok (.bipush 24, 2) := by decide +kernel
theorem dX1_lengthBits_27 : decode cX1_lengthBits 27 = .ok (.if_icmp .gt 45, 3) := by decide +kernel
theorem dX1_lengthBits_30 : decode cX1_lengthBits 30 = .ok (.aload_n 0, 1) := by decide +kernel
theorem dX1_lengthBits_31 : decode cX1_lengthBits 31 = .ok (.aload_n 0, 1) := by decide +kernel
theorem dX1_lengthBits_32 : decode cX1_lengthBits 32 = .ok (.getfield 37, 3) := by decide +kernel
theorem dX1_lengthBits_35 : decode cX1_lengthBits 35 = .ok (.getfield 114, 3) := by decide +kernel
theorem dX1_lengthBits_38 : decode cX1_lengthBits 38 = .ok (.iload_n 2, 1) := by decide +kernel
theorem dX1_lengthBits_39 : decode cX1_lengthBits 39 = .ok (.iaload, 1) := by decide +kernel
theorem dX1_lengthBits_40 : decode cX1_lengthBits 40 = .ok (.iload_n 3, 1) := by decide +kernel
theorem dX1_lengthBits_41 : decode cX1_lengthBits 41 = .ok (.invokevirtual 117, 3) := by decide +kernel
theorem dX1_lengthBits_44 : decode cX1_lengthBits 44 = .ok (.aload_n 0, 1) := by decide +kernel
theorem dX1_lengthBits_45 : decode cX1_lengthBits 45 = .ok (.getfield 37, 3) := by decide +kernel
theorem dX1_lengthBits_48 : decode cX1_lengthBits 48 = .ok (.getfield 121, 3) := by decide +kernel
theorem dX1_lengthBits_51 : decode cX1_lengthBits 51 = .ok (.iload_n 2, 1) := by decide +kernel
theorem dX1_lengthBits_52 : decode cX1_lengthBits 52 = .ok (.iaload, 1) := by decide +kernel
theorem dX1_lengthBits_53 : decode cX1_lengthBits 53 = .ok (.if_icmp .eq 13, 3) := by decide +kernel
theorem dX1_lengthBits_56 : decode cX1_lengthBits 56 = .ok (.iload_n 1, 1) := by decide +kernel
theorem dX1_lengthBits_57 : decode cX1_lengthBits 57 = .ok (.iconst 1, 1) := by decide +kernel
theorem dX1_lengthBits_58 : decode cX1_lengthBits 58 = .ok (.iload_n 3, 1) := by decide +kernel
theorem dX1_lengthBits_59 : decode cX1_lengthBits 59 = .ok (.iconst 1, 1) := by decide +kernel
theorem dX1_lengthBits_60 : decode cX1_lengthBits 60 = .ok (.isub, 1) := by decide +kernel
theorem dX1_lengthBits_61 : decode cX1_lengthBits 61 = .ok (.ishl, 1) := by decide +kernel
theorem dX1_lengthBits_62 : decode cX1_lengthBits 62 = .ok (.iconst (-1), 1) := by decide +kernel
theorem dX1_lengthBits_63 : decode cX1_lengthBits 63 = .ok (.ixor, 1) := by decide +kernel
theorem dX1_lengthBits_64 : decode cX1_lengthBits 64 = .ok (.iand, 1) := by decide +kernel
theorem dX1_lengthBits_65 : decode cX1_lengthBits 65 = .ok (.istore_n 1, 1) := by decide +kernel
theorem dX1_lengthBits_66 : decode cX1_lengthBits 66 = .ok (.iinc 3 1, 3) := by decide +kernel
theorem dX1_lengthBits_69 : decode cX1_lengthBits 69 = .ok (.goto (-45), 3) := by decide +kernel
theorem dX1_lengthBits_72 : decode cX1_lengthBits 72 = .ok (.iinc 2 1, 3) := by decide +kernel
theorem dX1_lengthBits_75 : decode cX1_lengthBits 75 = .ok (.goto (-70), 3) := by decide +kernel
theorem dX1_lengthBits_78 : decode cX1_lengthBits 78 = .ok (.iload_n 1, 1) := by decide +kernel
theorem dX1_lengthBits_79 : decode cX1_lengthBits 79 = .ok (.ireturn, 1) := by decide +kernel
theorem dX1_tellingStart_0 : decode cX1_tellingStart 0 = .ok (.iload_n 1, 1) := by decide +kernel
theorem dX1_tellingStart_1 : decode cX1_tellingStart 1 = .ok (.ifCond .eq 16, 3) := by decide +kernel
theorem dX1_tellingStart_4 : decode cX1_tellingStart 4 = .ok (.aload_n 0, 1) := by decide +kernel
theorem dX1_tellingStart_5 : decode cX1_tellingStart 5 = .ok (.getfield 37, 3) := by decide +kernel
theorem dX1_tellingStart_8 : decode cX1_tellingStart 8 = .ok (.getfield 41, 3) := by decide +kernel
theorem dX1_tellingStart_11 : decode cX1_tellingStart 11 = .ok (.invokevirtual 86, 3) := by decide +kernel
theorem dX1_tellingStart_14 : decode cX1_tellingStart 14 = .ok (.ifCond .ne 5, 3) := by decide +kernel
theorem dX1_tellingStart_17 : decode cX1_tellingStart 17 = .ok (.iconst (-1), 1) := by decide +kernel
theorem dX1_tellingStart_18 : decode cX1_tellingStart 18 = .ok (.ireturn, 1) := by decide +kernel
theorem dX1_tellingStart_19 : decode cX1_tellingStart 19 = .ok (.iconst (-1), 1) := by decide +kernel
theorem dX1_tellingStart_20 : decode cX1_tellingStart 20 = .ok (.istore_n 2, 1) := by decide +kernel
theorem dX1_tellingStart_21 : decode cX1_tellingStart 21 = .ok (.bipush 25, 2) := by decide +kernel
theorem dX1_tellingStart_23 : decode cX1_tellingStart 23 = .ok (.istore_n 3, 1) := by decide +kernel
theorem dX1_tellingStart_24 : decode cX1_tellingStart 24 = .ok (.iconst 0, 1) := by decide +kernel
theorem dX1_tellingStart_25 : decode cX1_tellingStart 25 = .ok (.istore 4, 2) := by decide +kernel
theorem dX1_tellingStart_27 : decode cX1_tellingStart 27 = .ok (.iload 4, 2) := by decide +kernel
theorem dX1_tellingStart_29 : decode cX1_tellingStart 29 = .ok (.aload_n 0, 1) := by decide +kernel
theorem dX1_tellingStart_30 : decode cX1_tellingStart 30 = .ok (.getfield 37, 3) := by decide +kernel
theorem dX1_tellingStart_33 : decode cX1_tellingStart 33 = .ok (.getfield 41, 3) := by decide +kernel
theorem dX1_tellingStart_36 : decode cX1_tellingStart 36 = .ok (.getfield 68, 3) := by decide +kernel
theorem dX1_tellingStart_39 : decode cX1_tellingStart 39 = .ok (.if_icmp .ge 30, 3) := by decide +kernel
theorem dX1_tellingStart_42 : decode cX1_tellingStart 42 = .ok (.aload_n 0, 1) := by decide +kernel
theorem dX1_tellingStart_43 : decode cX1_tellingStart 43 = .ok (.iload 4, 2) := by decide +kernel
theorem dX1_tellingStart_45 : decode cX1_tellingStart 45 = .ok (.iload_n 1, 1) := by decide +kernel
theorem dX1_tellingStart_46 : decode cX1_tellingStart 46 = .ok (.invokevirtual 124, 3) := by decide +kernel
theorem dX1_tellingStart_49 : decode cX1_tellingStart 49 = .ok (.istore 5, 2) := by decide +kernel
theorem dX1_tellingStart_51 : decode cX1_tellingStart 51 = .ok (.iload 5, 2) := by decide +kernel
theorem dX1_tellingStart_53 : decode cX1_tellingStart 53 = .ok (.iload_n 3, 1) := by decide +kernel
theorem dX1_tellingStart_54 : decode cX1_tellingStart 54 = .ok (.if_icmp .ge 9, 3) := by decide +kernel
theorem dX1_tellingStart_57 : decode cX1_tellingStart 57 = .ok (.iload 5, 2) := by decide +kernel
theorem dX1_tellingStart_59 : decode cX1_tellingStart 59 = .ok (.istore_n 3, 1) := by decide +kernel
theorem dX1_tellingStart_60 : decode cX1_tellingStart 60 = .ok (.iload 4, 2) := by decide +kernel
theorem dX1_tellingStart_62 : decode cX1_tellingStart 62 = .ok (.istore_n 2, 1) := by decide +kernel
theorem dX1_tellingStart_63 : decode cX1_tellingStart 63 = .ok (.iinc 4 1, 3) := by decide +kernel
theorem dX1_tellingStart_66 : decode cX1_tellingStart 66 = .ok (.goto (-39), 3) := by decide +kernel
theorem dX1_tellingStart_69 : decode cX1_tellingStart 69 = .ok (.iload_n 2, 1) := by decide +kernel
theorem dX1_tellingStart_70 : decode cX1_tellingStart 70 = .ok (.ireturn, 1) := by decide +kernel
theorem dX1_mostLeft_0 : decode cX1_mostLeft 0 = .ok (.iconst 0, 1) := by decide +kernel
theorem dX1_mostLeft_1 : decode cX1_mostLeft 1 = .ok (.istore_n 3, 1) := by decide +kernel
theorem dX1_mostLeft_2 : decode cX1_mostLeft 2 = .ok (.iload_n 3, 1) := by decide +kernel
theorem dX1_mostLeft_3 : decode cX1_mostLeft 3 = .ok (.aload_n 0, 1) := by decide +kernel
theorem dX1_mostLeft_4 : decode cX1_mostLeft 4 = .ok (.getfield 34, 3) := by decide +kernel
theorem dX1_mostLeft_7 : decode cX1_mostLeft 7 = .ok (.arraylength, 1) := by decide +kernel
theorem dX1_mostLeft_8 : decode cX1_mostLeft 8 = .ok (.if_icmp .ge 16, 3) := by decide +kernel
theorem dX1_mostLeft_11 : decode cX1_mostLeft 11 = .ok (.aload_n 0, 1) := by decide +kernel
theorem dX1_mostLeft_12 : decode cX1_mostLeft 12 = .ok (.getfield 34, 3) := by decide +kernel
theorem dX1_mostLeft_15 : decode cX1_mostLeft 15 = .ok (.iload_n 3, 1) := by decide +kernel
theorem dX1_mostLeft_16 : decode cX1_mostLeft 16 = .ok (.iconst 0, 1) := by decide +kernel
theorem dX1_mostLeft_17 : decode cX1_mostLeft 17 = .ok (.iastore, 1) := by decide +kernel
theorem dX1_mostLeft_18 : decode cX1_mostLeft 18 = .ok (.iinc 3 1, 3) := by decide +kernel
theorem dX1_mostLeft_21 : decode cX1_mostLeft 21 = .ok (.goto (-19), 3) := by decide +kernel
theorem dX1_mostLeft_24 : decode cX1_mostLeft 24 = .ok (.iconst 0, 1) := by decide +kernel
theorem dX1_mostLeft_25 : decode cX1_mostLeft 25 = .ok (.istore_n 3, 1) := by decide +kernel
theorem dX1_mostLeft_26 : decode cX1_mostLeft 26 = .ok (.iconst 1, 1) := by decide +kernel
theorem dX1_mostLeft_27 : decode cX1_mostLeft 27 = .ok (.istore 4, 2) := by decide +kernel
theorem dX1_mostLeft_29 : decode cX1_mostLeft 29 = .ok (.iload 4, 2) := by decide +kernel
theorem dX1_mostLeft_31 : decode cX1_mostLeft 31 = .ok (.bipush 24, 2) := by decide +kernel
theorem dX1_mostLeft_33 : decode cX1_mostLeft 33 = .ok (.if_icmp .gt 67, 3) := by decide +kernel
theorem dX1_mostLeft_36 : decode cX1_mostLeft 36 = .ok (.iload_n 2, 1) := by decide +kernel
theorem dX1_mostLeft_37 : decode cX1_mostLeft 37 = .ok (.iload 4, 2) := by decide +kernel
theorem dX1_mostLeft_39 : decode cX1_mostLeft 39 = .ok (.iconst 1, 1) := by decide +kernel
theorem dX1_mostLeft_40 : decode cX1_mostLeft 40 = .ok (.isub, 1) := by decide +kernel
theorem dX1_mostLeft_41 : decode cX1_mostLeft 41 = .ok (.ishr, 1) := by decide +kernel
theorem dX1_mostLeft_42 : decode cX1_mostLeft 42 = .ok (.iconst 1, 1) := by decide +kernel
theorem dX1_mostLeft_43 : decode cX1_mostLeft 43 = .ok (.iand, 1) := by decide +kernel
theorem dX1_mostLeft_44 : decode cX1_mostLeft 44 = .ok (.ifCond .eq 50, 3) := by decide +kernel
theorem dX1_mostLeft_47 : decode cX1_mostLeft 47 = .ok (.aload_n 0, 1) := by decide +kernel
theorem dX1_mostLeft_48 : decode cX1_mostLeft 48 = .ok (.iload_n 1, 1) := by decide +kernel
theorem dX1_mostLeft_49 : decode cX1_mostLeft 49 = .ok (.iload 4, 2) := by decide +kernel
theorem dX1_mostLeft_51 : decode cX1_mostLeft 51 = .ok (.invokevirtual 117, 3) := by decide +kernel
theorem dX1_mostLeft_54 : decode cX1_mostLeft 54 = .ok (.istore 5, 2) := by decide +kernel
theorem dX1_mostLeft_56 : decode cX1_mostLeft 56 = .ok (.iload 5, 2) := by decide +kernel
theorem dX1_mostLeft_58 : decode cX1_mostLeft 58 = .ok (.ifCond .lt 36, 3) := by decide +kernel
theorem dX1_mostLeft_61 : decode cX1_mostLeft 61 = .ok (.iload 5, 2) := by decide +kernel
theorem dX1_mostLeft_63 : decode cX1_mostLeft 63 = .ok (.aload_n 0, 1) := by decide +kernel
theorem dX1_mostLeft_64 : decode cX1_mostLeft 64 = .ok (.getfield 34, 3) := by decide +kernel
theorem dX1_mostLeft_67 : decode cX1_mostLeft 67 = .ok (.arraylength, 1) := by decide +kernel
theorem dX1_mostLeft_68 : decode cX1_mostLeft 68 = .ok (.if_icmp .ge 26, 3) := by decide +kernel
theorem dX1_mostLeft_71 : decode cX1_mostLeft 71 = .ok (.aload_n 0, 1) := by decide +kernel
theorem dX1_mostLeft_72 : decode cX1_mostLeft 72 = .ok (.getfield 34, 3) := by decide +kernel
theorem dX1_mostLeft_75 : decode cX1_mostLeft 75 = .ok (.iload 5, 2) := by decide +kernel
theorem dX1_mostLeft_77 : decode cX1_mostLeft 77 = .ok (.dup2, 1) := by decide +kernel
theorem dX1_mostLeft_78 : decode cX1_mostLeft 78 = .ok (.iaload, 1) := by decide +kernel
theorem dX1_mostLeft_79 : decode cX1_mostLeft 79 = .ok (.iconst 1, 1) := by decide +kernel
theorem dX1_mostLeft_80 : decode cX1_mostLeft 80 = .ok (.iadd, 1) := by decide +kernel
theorem dX1_mostLeft_81 : decode cX1_mostLeft 81 = .ok (.iastore, 1) := by decide +kernel
theorem dX1_mostLeft_82 : decode cX1_mostLeft 82 = .ok (.iload_n 3, 1) := by decide +kernel
theorem dX1_mostLeft_83 : decode cX1_mostLeft 83 = .ok (.aload_n 0, 1) := by decide +kernel
theorem dX1_mostLeft_84 : decode cX1_mostLeft 84 = .ok (.getfield 34, 3) := by decide +kernel
theorem dX1_mostLeft_87 : decode cX1_mostLeft 87 = .ok (.iload 5, 2) := by decide +kernel
theorem dX1_mostLeft_89 : decode cX1_mostLeft 89 = .ok (.iaload, 1) := by decide +kernel
theorem dX1_mostLeft_90 : decode cX1_mostLeft 90 = .ok (.invokestatic 127, 3) := by decide +kernel
theorem dX1_mostLeft_93 : decode cX1_mostLeft 93 = .ok (.istore_n 3, 1) := by decide +kernel
theorem dX1_mostLeft_94 : decode cX1_mostLeft 94 = .ok (.iinc 4 1, 3) := by decide +kernel
theorem dX1_mostLeft_97 : decode cX1_mostLeft 97 = .ok (.goto (-68), 3) := by decide +kernel
theorem dX1_mostLeft_100 : decode cX1_mostLeft 100 = .ok (.iload_n 3, 1) := by decide +kernel
theorem dX1_mostLeft_101 : decode cX1_mostLeft 101 = .ok (.ireturn, 1) := by decide +kernel
theorem dX1_playRounds_0 : decode cX1_playRounds 0 = .ok (.aload_n 0, 1) := by decide +kernel
theorem dX1_playRounds_1 : decode cX1_playRounds 1 = .ok (.getfield 12, 3) := by decide +kernel
theorem dX1_playRounds_4 : decode cX1_playRounds 4 = .ok (.aload_n 0, 1) := by decide +kernel
theorem dX1_playRounds_5 : decode cX1_playRounds 5 = .ok (.getfield 37, 3) := by decide +kernel
theorem dX1_playRounds_8 : decode cX1_playRounds 8 = .ok (.getfield 41, 3) := by decide +kernel
theorem dX1_playRounds_11 : decode cX1_playRounds 11 = .ok (.invokevirtual 46, 3) := by decide +kernel
theorem dX1_playRounds_14 : decode cX1_playRounds 14 = .ok (.iload_n 2, 1) := by decide +kernel
theorem dX1_playRounds_15 : decode cX1_playRounds 15 = .ok (.istore 4, 2) := by decide +kernel
theorem dX1_playRounds_17 : decode cX1_playRounds 17 = .ok (.iconst 0, 1) := by decide +kernel
theorem dX1_playRounds_18 : decode cX1_playRounds 18 = .ok (.istore 5, 2) := by decide +kernel
theorem dX1_playRounds_20 : decode cX1_playRounds 20 = .ok (.iconst 0, 1) := by decide +kernel
theorem dX1_playRounds_21 : decode cX1_playRounds 21 = .ok (.istore 6, 2) := by decide +kernel
theorem dX1_playRounds_23 : decode cX1_playRounds 23 = .ok (.iload 6, 2) := by decide +kernel
theorem dX1_playRounds_25 : decode cX1_playRounds 25 = .ok (.iload_n 1, 1) := by decide +kernel
theorem dX1_playRounds_26 : decode cX1_playRounds 26 = .ok (.if_icmp .ge 64, 3) := by decide +kernel
theorem dX1_playRounds_29 : decode cX1_playRounds 29 = .ok (.aload_n 0, 1) := by decide +kernel
theorem dX1_playRounds_30 : decode cX1_playRounds 30 = .ok (.getfield 12, 3) := by decide +kernel
theorem dX1_playRounds_33 : decode cX1_playRounds 33 = .ok (.invokevirtual 86, 3) := by decide +kernel
theorem dX1_playRounds_36 : decode cX1_playRounds 36 = .ok (.ifCond .eq 38, 3) := by decide +kernel
theorem dX1_playRounds_39 : decode cX1_playRounds 39 = .ok (.ldc2_w 132, 3) := by decide +kernel
theorem dX1_playRounds_42 : decode cX1_playRounds 42 = .ok (.iload 4, 2) := by decide +kernel
theorem dX1_playRounds_44 : decode cX1_playRounds 44 = .ok (.i2l, 1) := by decide +kernel
theorem dX1_playRounds_45 : decode cX1_playRounds 45 = .ok (.lmul, 1) := by decide +kernel
theorem dX1_playRounds_46 : decode cX1_playRounds 46 = .ok (.ldc2_w 134, 3) := by decide +kernel
theorem dX1_playRounds_49 : decode cX1_playRounds 49 = .ok (.ladd, 1) := by decide +kernel
theorem dX1_playRounds_50 : decode cX1_playRounds 50 = .ok (.ldc2_w 136, 3) := by decide +kernel
theorem dX1_playRounds_53 : decode cX1_playRounds 53 = .ok (.lrem, 1) := by decide +kernel
theorem dX1_playRounds_54 : decode cX1_playRounds 54 = .ok (.l2i, 1) := by decide +kernel
theorem dX1_playRounds_55 : decode cX1_playRounds 55 = .ok (.istore 4, 2) := by decide +kernel
theorem dX1_playRounds_57 : decode cX1_playRounds 57 = .ok (.aload_n 0, 1) := by decide +kernel
theorem dX1_playRounds_58 : decode cX1_playRounds 58 = .ok (.getfield 12, 3) := by decide +kernel
theorem dX1_playRounds_61 : decode cX1_playRounds 61 = .ok (.aload_n 0, 1) := by decide +kernel
theorem dX1_playRounds_62 : decode cX1_playRounds 62 = .ok (.iload 4, 2) := by decide +kernel
theorem dX1_playRounds_64 : decode cX1_playRounds 64 = .ok (.invokevirtual 138, 3) := by decide +kernel
theorem dX1_playRounds_67 : decode cX1_playRounds 67 = .ok (.invokevirtual 54, 3) := by decide +kernel
theorem dX1_playRounds_70 : decode cX1_playRounds 70 = .ok (.pop, 1) := by decide +kernel
theorem dX1_playRounds_71 : decode cX1_playRounds 71 = .ok (.goto 13, 3) := by decide +kernel
theorem dX1_playRounds_74 : decode cX1_playRounds 74 = .ok (.aload_n 0, 1) := by decide +kernel
theorem dX1_playRounds_75 : decode cX1_playRounds 75 = .ok (.getfield 12, 3) := by decide +kernel
theorem dX1_playRounds_78 : decode cX1_playRounds 78 = .ok (.invokevirtual 141, 3) := by decide +kernel
theorem dX1_playRounds_81 : decode cX1_playRounds 81 = .ok (.iinc 5 1, 3) := by decide +kernel
theorem dX1_playRounds_84 : decode cX1_playRounds 84 = .ok (.iinc 6 1, 3) := by decide +kernel
theorem dX1_playRounds_87 : decode cX1_playRounds 87 = .ok (.goto (-64), 3) := by decide +kernel
theorem dX1_playRounds_90 : decode cX1_playRounds 90 = .ok (.iload_n 3, 1) := by decide +kernel
theorem dX1_playRounds_91 : decode cX1_playRounds 91 = .ok (.ifCond .ne 6, 3) := by decide +kernel
theorem dX1_playRounds_94 : decode cX1_playRounds 94 = .ok (.iload 5, 2) := by decide +kernel
theorem dX1_playRounds_96 : decode cX1_playRounds 96 = .ok (.ireturn, 1) := by decide +kernel
theorem dX1_playRounds_97 : decode cX1_playRounds 97 = .ok (.iload_n 3, 1) := by decide +kernel
theorem dX1_playRounds_98 : decode cX1_playRounds 98 = .ok (.iconst 1, 1) := by decide +kernel
theorem dX1_playRounds_99 : decode cX1_playRounds 99 = .ok (.if_icmp .ne 13, 3) := by decide +kernel
theorem dX1_playRounds_102 : decode cX1_playRounds 102 = .ok (.aload_n 0, 1) := by decide +kernel
theorem dX1_playRounds_103 : decode cX1_playRounds 103 = .ok (.getfield 12, 3) := by decide +kernel
theorem dX1_playRounds_106 : decode cX1_playRounds 106 = .ok (.getfield 50, 3) := by decide +kernel
theorem dX1_playRounds_109 : decode cX1_playRounds 109 = .ok (.goto 5, 3) := by decide +kernel
theorem dX1_playRounds_112 : decode cX1_playRounds 112 = .ok (.iload 4, 2) := by decide +kernel
theorem dX1_playRounds_114 : decode cX1_playRounds 114 = .ok (.ireturn, 1) := by decide +kernel
theorem dX1_beatsDrawn_0 : decode cX1_beatsDrawn 0 = .ok (.aload_n 0, 1) := by decide +kernel
theorem dX1_beatsDrawn_1 : decode cX1_beatsDrawn 1 = .ok (.getfield 37, 3) := by decide +kernel
theorem dX1_beatsDrawn_4 : decode cX1_beatsDrawn 4 = .ok (.getfield 144, 3) := by decide +kernel
theorem dX1_beatsDrawn_7 : decode cX1_beatsDrawn 7 = .ok (.ifCond .le 18, 3) := by decide +kernel
theorem dX1_beatsDrawn_10 : decode cX1_beatsDrawn 10 = .ok (.iload_n 1, 1) := by decide +kernel
theorem dX1_beatsDrawn_11 : decode cX1_beatsDrawn 11 = .ok (.ldc 147, 2) := by decide +kernel
theorem dX1_beatsDrawn_13 : decode cX1_beatsDrawn 13 = .ok (.idiv, 1) := by decide +kernel
theorem dX1_beatsDrawn_14 : decode cX1_beatsDrawn 14 = .ok (.aload_n 0, 1) := by decide +kernel
theorem dX1_beatsDrawn_15 : decode cX1_beatsDrawn 15 = .ok (.getfield 37, 3) := by decide +kernel
theorem dX1_beatsDrawn_18 : decode cX1_beatsDrawn 18 = .ok (.getfield 144, 3) := by decide +kernel
theorem dX1_beatsDrawn_21 : decode cX1_beatsDrawn 21 = .ok (.irem, 1) := by decide +kernel
theorem dX1_beatsDrawn_22 : decode cX1_beatsDrawn 22 = .ok (.goto 4, 3) := by decide +kernel
theorem dX1_beatsDrawn_25 : decode cX1_beatsDrawn 25 = .ok (.iconst 0, 1) := by decide +kernel
theorem dX1_beatsDrawn_26 : decode cX1_beatsDrawn 26 = .ok (.istore_n 2, 1) := by decide +kernel
theorem dX1_beatsDrawn_27 : decode cX1_beatsDrawn 27 = .ok (.aload_n 0, 1) := by decide +kernel
theorem dX1_beatsDrawn_28 : decode cX1_beatsDrawn 28 = .ok (.getfield 37, 3) := by decide +kernel
theorem dX1_beatsDrawn_31 : decode cX1_beatsDrawn 31 = .ok (.iload_n 2, 1) := by decide +kernel
theorem dX1_beatsDrawn_32 : decode cX1_beatsDrawn 32 = .ok (.invokevirtual 94, 3) := by decide +kernel
theorem dX1_beatsDrawn_35 : decode cX1_beatsDrawn 35 = .ok (.ifCond .eq 15, 3) := by decide +kernel
theorem dX1_beatsDrawn_38 : decode cX1_beatsDrawn 38 = .ok (.aload_n 0, 1) := by decide +kernel
theorem dX1_beatsDrawn_39 : decode cX1_beatsDrawn 39 = .ok (.getfield 37, 3) := by decide +kernel
theorem dX1_beatsDrawn_42 : decode cX1_beatsDrawn 42 = .ok (.getfield 97, 3) := by decide +kernel
theorem dX1_beatsDrawn_45 : decode cX1_beatsDrawn 45 = .ok (.iload_n 2, 1) := by decide +kernel
theorem dX1_beatsDrawn_46 : decode cX1_beatsDrawn 46 = .ok (.iaload, 1) := by decide +kernel
theorem dX1_beatsDrawn_47 : decode cX1_beatsDrawn 47 = .ok (.goto 4, 3) := by decide +kernel
theorem dX1_beatsDrawn_50 : decode cX1_beatsDrawn 50 = .ok (.iconst 1, 1) := by decide +kernel
theorem dX1_beatsDrawn_51 : decode cX1_beatsDrawn 51 = .ok (.ireturn, 1) := by decide +kernel
theorem dX2_init_0 : decode cX2_init 0 = .ok (.aload_n 0, 1) := by decide +kernel
theorem dX2_init_1 : decode cX2_init 1 = .ok (.invokespecial 3, 3) := by decide +kernel
theorem dX2_init_4 : decode cX2_init 4 = .ok (.aload_n 0, 1) := by decide +kernel
theorem dX2_init_5 : decode cX2_init 5 = .ok (.bipush 20, 2) := by decide +kernel
theorem dX2_init_7 : decode cX2_init 7 = .ok (.newarray .int, 2) := by decide +kernel
theorem dX2_init_9 : decode cX2_init 9 = .ok (.putfield 9, 3) := by decide +kernel
theorem dX2_init_12 : decode cX2_init 12 = .ok (.aload_n 0, 1) := by decide +kernel
theorem dX2_init_13 : decode cX2_init 13 = .ok (.iconst 3, 1) := by decide +kernel
theorem dX2_init_14 : decode cX2_init 14 = .ok (.newarray .int, 2) := by decide +kernel
theorem dX2_init_16 : decode cX2_init 16 = .ok (.putfield 15, 3) := by decide +kernel
theorem dX2_init_19 : decode cX2_init 19 = .ok (.aload_n 0, 1) := by decide +kernel
theorem dX2_init_20 : decode cX2_init 20 = .ok (.bipush 8, 2) := by decide +kernel
theorem dX2_init_22 : decode cX2_init 22 = .ok (.newarray .int, 2) := by decide +kernel
theorem dX2_init_24 : decode cX2_init 24 = .ok (.putfield 18, 3) := by decide +kernel
theorem dX2_init_27 : decode cX2_init 27 = .ok (.return_, 1) := by decide +kernel
theorem dX2_append_0 : decode cX2_append 0 = .ok (.aload_n 0, 1) := by decide +kernel
theorem dX2_append_1 : decode cX2_append 1 = .ok (.getfield 21, 3) := by decide +kernel
theorem dX2_append_4 : decode cX2_append 4 = .ok (.ifCond .lt 15, 3) := by decide +kernel
theorem dX2_append_7 : decode cX2_append 7 = .ok (.aload_n 0, 1) := by decide +kernel
theorem dX2_append_8 : decode cX2_append 8 = .ok (.getfield 21, 3) := by decide +kernel
theorem dX2_append_11 : decode cX2_append 11 = .ok (.aload_n 0, 1) := by decide +kernel
theorem dX2_append_12 : decode cX2_append 12 = .ok (.getfield 9, 3) := by decide +kernel
theorem dX2_append_15 : decode cX2_append 15 = .ok (.arraylength, 1) := by decide +kernel
theorem dX2_append_16 : decode cX2_append 16 = .ok (.if_icmp .lt 5, 3) := by decide +kernel
theorem dX2_append_19 : decode cX2_append 19 = .ok (.iconst 0, 1) := by decide +kernel
theorem dX2_append_20 : decode cX2_append 20 = .ok (.ireturn, 1) := by decide +kernel
theorem dX2_append_21 : decode cX2_append 21 = .ok (.aload_n 0, 1) := by decide +kernel
theorem dX2_append_22 : decode cX2_append 22 = .ok (.getfield 9, 3) := by decide +kernel
theorem dX2_append_25 : decode cX2_append 25 = .ok (.aload_n 0, 1) := by decide +kernel
theorem dX2_append_26 : decode cX2_append 26 = .ok (.getfield 21, 3) := by decide +kernel
theorem dX2_append_29 : decode cX2_append 29 = .ok (.iload_n 1, 1) := by decide +kernel
theorem dX2_append_30 : decode cX2_append 30 = .ok (.iastore, 1) := by decide +kernel
theorem dX2_append_31 : decode cX2_append 31 = .ok (.aload_n 0, 1) := by decide +kernel
theorem dX2_append_32 : decode cX2_append 32 = .ok (.dup, 1) := by decide +kernel
theorem dX2_append_33 : decode cX2_append 33 = .ok (.getfield 21, 3) := by decide +kernel
theorem dX2_append_36 : decode cX2_append 36 = .ok (.iconst 1, 1) := by decide +kernel
theorem dX2_append_37 : decode cX2_append 37 = .ok (.iadd, 1) := by decide +kernel
theorem dX2_append_38 : decode cX2_append 38 = .ok (.putfield 21, 3) := by decide +kernel
theorem dX2_append_41 : decode cX2_append 41 = .ok (.iconst 1, 1) := by decide +kernel
theorem dX2_append_42 : decode cX2_append 42 = .ok (.ireturn, 1) := by decide +kernel
theorem dX2_isRing_0 : decode cX2_isRing 0 = .ok (.aload_n 0, 1) := by decide +kernel
theorem dX2_isRing_1 : decode cX2_isRing 1 = .ok (.invokevirtual 25, 3) := by decide +kernel
theorem dX2_isRing_4 : decode cX2_isRing 4 = .ok (.aload_n 0, 1) := by decide +kernel
theorem dX2_isRing_5 : decode cX2_isRing 5 = .ok (.getfield 21, 3) := by decide +kernel
theorem dX2_isRing_8 : decode cX2_isRing 8 = .ok (.if_icmp .ne 15, 3) := by decide +kernel
theorem dX2_isRing_11 : decode cX2_isRing 11 = .ok (.aload_n 0, 1) := by decide +kernel
theorem dX2_isRing_12 : decode cX2_isRing 12 = .ok (.getfield 29, 3) := by decide +kernel
theorem dX2_isRing_15 : decode cX2_isRing 15 = .ok (.iconst 2, 1) := by decide +kernel
theorem dX2_isRing_16 : decode cX2_isRing 16 = .ok (.if_icmp .lt 7, 3) := by decide +kernel
theorem dX2_isRing_19 : decode cX2_isRing 19 = .ok (.iconst 1, 1) := by decide +kernel
theorem dX2_isRing_20 : decode cX2_isRing 20 = .ok (.goto 4, 3) := by decide +kernel
theorem dX2_isRing_23 : decode cX2_isRing 23 = .ok (.iconst 0, 1) := by decide +kernel
theorem dX2_isRing_24 : decode cX2_isRing 24 = .ok (.ireturn, 1) := by decide +kernel
theorem dX2_firstFault_0 : decode cX2_firstFault 0 = .ok (.aload_n 0, 1) := by decide +kernel
theorem dX2_firstFault_1 : decode cX2_firstFault 1 = .ok (.iconst 0, 1) := by decide +kernel
theorem dX2_firstFault_2 : decode cX2_firstFault 2 = .ok (.putfield 32, 3) := by decide +kernel
theorem dX2_firstFault_5 : decode cX2_firstFault 5 = .ok (.aload_n 0, 1) := by decide +kernel
theorem dX2_firstFault_6 : decode cX2_firstFault 6 = .ok (.iconst 0, 1) := by decide +kernel
theorem dX2_firstFault_7 : decode cX2_firstFault 7 = .ok (.putfield 35, 3) := by decide +kernel
theorem dX2_firstFault_10 : decode cX2_firstFault 10 = .ok (.aload_n 0, 1) := by decide +kernel
theorem dX2_firstFault_11 : decode cX2_firstFault 11 = .ok (.iconst 0, 1) := by decide +kernel
theorem dX2_firstFault_12 : decode cX2_firstFault 12 = .ok (.putfield 29, 3) := by decide +kernel
theorem dX2_firstFault_15 : decode cX2_firstFault 15 = .ok (.iconst 0, 1) := by decide +kernel
theorem dX2_firstFault_16 : decode cX2_firstFault 16 = .ok (.istore_n 1, 1) := by decide +kernel
theorem dX2_firstFault_17 : decode cX2_firstFault 17 = .ok (.iload_n 1, 1) := by decide +kernel
theorem dX2_firstFault_18 : decode cX2_firstFault 18 = .ok (.aload_n 0, 1) := by decide +kernel
theorem dX2_firstFault_19 : decode cX2_firstFault 19 = .ok (.getfield 21, 3) := by decide +kernel
theorem dX2_firstFault_22 : decode cX2_firstFault 22 = .ok (.if_icmp .ge 33, 3) := by decide +kernel
theorem dX2_firstFault_25 : decode cX2_firstFault 25 = .ok (.iload_n 1, 1) := by decide +kernel
theorem dX2_firstFault_26 : decode cX2_firstFault 26 = .ok (.aload_n 0, 1) := by decide +kernel
theorem dX2_firstFault_27 : decode cX2_firstFault 27 = .ok (.getfield 9, 3) := by decide +kernel
theorem dX2_firstFault_30 : decode cX2_firstFault 30 = .ok (.arraylength, 1) := by decide +kernel
theorem dX2_firstFault_31 : decode cX2_firstFault 31 = .ok (.if_icmp .ge 24, 3) := by decide +kernel
theorem dX2_firstFault_34 : decode cX2_firstFault 34 = .ok (.aload_n 0, 1) := by decide +kernel
theorem dX2_firstFault_35 : decode cX2_firstFault 35 = .ok (.aload_n 0, 1) := by decide +kernel
theorem dX2_firstFault_36 : decode cX2_firstFault 36 = .ok (.getfield 9, 3) := by decide +kernel
theorem dX2_firstFault_39 : decode cX2_firstFault 39 = .ok (.iload_n 1, 1) := by decide +kernel
theorem dX2_firstFault_40 : decode cX2_firstFault 40 = .ok (.iaload, 1) := by decide +kernel
theorem dX2_firstFault_41 : decode cX2_firstFault 41 = .ok (.invokevirtual 38, 3) := by decide +kernel
theorem dX2_firstFault_44 : decode cX2_firstFault 44 = .ok (.ifCond .ne 5, 3) := by decide +kernel
theorem dX2_firstFault_47 : decode cX2_firstFault 47 = .ok (.iload_n 1, 1) := by decide +kernel
theorem dX2_firstFault_48 : decode cX2_firstFault 48 = .ok (.ireturn, 1) := by decide +kernel
theorem dX2_firstFault_49 : decode cX2_firstFault 49 = .ok (.iinc 1 1, 3) := by decide +kernel
theorem dX2_firstFault_52 : decode cX2_firstFault 52 = .ok (.goto (-35), 3) := by decide +kernel
theorem dX2_firstFault_55 : decode cX2_firstFault 55 = .ok (.aload_n 0, 1) := by decide +kernel
theorem dX2_firstFault_56 : decode cX2_firstFault 56 = .ok (.getfield 21, 3) := by decide +kernel
theorem dX2_firstFault_59 : decode cX2_firstFault 59 = .ok (.ireturn, 1) := by decide +kernel
theorem dX2_reads_0 : decode cX2_reads 0 = .ok (.aload_n 0, 1) := by decide +kernel
theorem dX2_reads_1 : decode cX2_reads 1 = .ok (.getfield 32, 3) := by decide +kernel
theorem dX2_reads_4 : decode cX2_reads 4 = .ok (.tableswitch 46 0 2 #[28, 34, 40], 28) := by decide +kernel
theorem dX2_reads_32 : decode cX2_reads 32 = .ok (.aload_n 0, 1) := by decide +kernel
theorem dX2_reads_33 : decode cX2_reads 33 = .ok (.iload_n 1, 1) := by decide +kernel
theorem dX2_reads_34 : decode cX2_reads 34 = .ok (.invokevirtual 42, 3) := by decide +kernel
theorem dX2_reads_37 : decode cX2_reads 37 = .ok (.ireturn, 1) := by decide +kernel
theorem dX2_reads_38 : decode cX2_reads 38 = .ok (.aload_n 0, 1) := by decide +kernel
theorem dX2_reads_39 : decode cX2_reads 39 = .ok (.iload_n 1, 1) := by decide +kernel
theorem dX2_reads_40 : decode cX2_reads 40 = .ok (.invokevirtual 45, 3) := by decide +kernel
theorem dX2_reads_43 : decode cX2_reads 43 = .ok (.ireturn, 1) := by decide +kernel
theorem dX2_reads_44 : decode cX2_reads 44 = .ok (.aload_n 0, 1) := by decide +kernel
theorem dX2_reads_45 : decode cX2_reads 45 = .ok (.iload_n 1, 1) := by decide +kernel
theorem dX2_reads_46 : decode cX2_reads 46 = .ok (.invokevirtual 48, 3) := by decide +kernel
theorem dX2_reads_49 : decode cX2_reads 49 = .ok (.ireturn, 1) := by decide +kernel
theorem dX2_reads_50 : decode cX2_reads 50 = .ok (.aload_n 0, 1) := by decide +kernel
theorem dX2_reads_51 : decode cX2_reads 51 = .ok (.iload_n 1, 1) := by decide +kernel
theorem dX2_reads_52 : decode cX2_reads 52 = .ok (.invokevirtual 51, 3) := by decide +kernel
theorem dX2_reads_55 : decode cX2_reads 55 = .ok (.ireturn, 1) := by decide +kernel
theorem dX2_readsTens_0 : decode cX2_readsTens 0 = .ok (.iload_n 1, 1) := by decide +kernel
theorem dX2_readsTens_1 : decode cX2_readsTens 1 = .ok (.bipush 48, 2) := by decide +kernel
theorem dX2_readsTens_3 : decode cX2_readsTens 3 = .ok (.if_icmp .lt 9, 3) := by decide +kernel
theorem dX2_readsTens_6 : decode cX2_readsTens 6 = .ok (.iload_n 1, 1) := by decide +kernel
theorem dX2_readsTens_7 : decode cX2_readsTens 7 = .ok (.bipush 57, 2) := by decide +kernel
theorem dX2_readsTens_9 : decode cX2_readsTens 9 = .ok (.if_icmp .le 5, 3) := by decide +kernel
theorem dX2_readsTens_12 : decode cX2_readsTens 12 = .ok (.iconst 0, 1) := by decide +kernel
theorem dX2_readsTens_13 : decode cX2_readsTens 13 = .ok (.ireturn, 1) := by decide +kernel
theorem dX2_readsTens_14 : decode cX2_readsTens 14 = .ok (.aload_n 0, 1) := by decide +kernel
theorem dX2_readsTens_15 : decode cX2_readsTens 15 = .ok (.iload_n 1, 1) := by decide +kernel
theorem dX2_readsTens_16 : decode cX2_readsTens 16 = .ok (.bipush 48, 2) := by decide +kernel
theorem dX2_readsTens_18 : decode cX2_readsTens 18 = .ok (.isub, 1) := by decide +kernel
theorem dX2_readsTens_19 : decode cX2_readsTens 19 = .ok (.putfield 54, 3) := by decide +kernel
theorem dX2_readsTens_22 : decode cX2_readsTens 22 = .ok (.aload_n 0, 1) := by decide +kernel
theorem dX2_readsTens_23 : decode cX2_readsTens 23 = .ok (.iconst 1, 1) := by decide +kernel
theorem dX2_readsTens_24 : decode cX2_readsTens 24 = .ok (.putfield 32, 3) := by decide +kernel
theorem dX2_readsTens_27 : decode cX2_readsTens 27 = .ok (.iconst 1, 1) := by decide +kernel
theorem dX2_readsTens_28 : decode cX2_readsTens 28 = .ok (.ireturn, 1) := by decide +kernel
theorem dX2_readsOnes_0 : decode cX2_readsOnes 0 = .ok (.bipush 10, 2) := by decide +kernel
theorem dX2_readsOnes_2 : decode cX2_readsOnes 2 = .ok (.aload_n 0, 1) := by decide +kernel
theorem dX2_readsOnes_3 : decode cX2_readsOnes 3 = .ok (.getfield 54, 3) := by decide +kernel
theorem dX2_readsOnes_6 : decode cX2_readsOnes 6 = .ok (.imul, 1) := by decide +kernel
theorem dX2_readsOnes_7 : decode cX2_readsOnes 7 = .ok (.iload_n 1, 1) := by decide +kernel
theorem dX2_readsOnes_8 : decode cX2_readsOnes 8 = .ok (.iadd, 1) := by decide +kernel
theorem dX2_readsOnes_9 : decode cX2_readsOnes 9 = .ok (.bipush 48, 2) := by decide +kernel
theorem dX2_readsOnes_11 : decode cX2_readsOnes 11 = .ok (.isub, 1) := by decide +kernel
theorem dX2_readsOnes_12 : decode cX2_readsOnes 12 = .ok (.istore_n 2, 1) := by decide +kernel
theorem dX2_readsOnes_13 : decode cX2_readsOnes 13 = .ok (.iload_n 1, 1) := by decide +kernel
theorem dX2_readsOnes_14 : decode cX2_readsOnes 14 = .ok (.bipush 48, 2) := by decide +kernel
theorem dX2_readsOnes_16 : decode cX2_readsOnes 16 = .ok (.if_icmp .lt 26, 3) := by decide +kernel
theorem dX2_readsOnes_19 : decode cX2_readsOnes 19 = .ok (.iload_n 1, 1) := by decide +kernel
theorem dX2_readsOnes_20 : decode cX2_readsOnes 20 = .ok (.bipush 57, 2) := by decide +kernel
theorem dX2_readsOnes_22 : decode cX2_readsOnes 22 = .ok (.if_icmp .gt 20, 3) := by decide +kernel
theorem dX2_readsOnes_25 : decode cX2_readsOnes 25 = .ok (.iload_n 2, 1) := by decide +kernel
theorem dX2_readsOnes_26 : decode cX2_readsOnes 26 = .ok (.iconst 1, 1) := by decide +kernel
theorem dX2_readsOnes_27 : decode cX2_readsOnes 27 = .ok (.if_icmp .lt 15, 3) := by decide +kernel
theorem dX2_readsOnes_30 : decode cX2_readsOnes 30 = .ok (.aload_n 0, 1) := by decide +kernel
theorem dX2_readsOnes_31 : decode cX2_readsOnes 31 = .ok (.getfield 35, 3) := by decide +kernel
theorem dX2_readsOnes_34 : decode cX2_readsOnes 34 = .ok (.aload_n 0, 1) := by decide +kernel
theorem dX2_readsOnes_35 : decode cX2_readsOnes 35 = .ok (.getfield 15, 3) := by decide +kernel
theorem dX2_readsOnes_38 : decode cX2_readsOnes 38 = .ok (.arraylength, 1) := by decide +kernel
theorem dX2_readsOnes_39 : decode cX2_readsOnes 39 = .ok (.if_icmp .lt 5, 3) := by decide +kernel
theorem dX2_readsOnes_42 : decode cX2_readsOnes 42 = .ok (.iconst 0, 1) := by decide +kernel
theorem dX2_readsOnes_43 : decode cX2_readsOnes 43 = .ok (.ireturn, 1) := by decide +kernel
theorem dX2_readsOnes_44 : decode cX2_readsOnes 44 = .ok (.aload_n 0, 1) := by decide +kernel
theorem dX2_readsOnes_45 : decode cX2_readsOnes 45 = .ok (.getfield 15, 3) := by decide +kernel
theorem dX2_readsOnes_48 : decode cX2_readsOnes 48 = .ok (.aload_n 0, 1) := by decide +kernel
theorem dX2_readsOnes_49 : decode cX2_readsOnes 49 = .ok (.getfield 35, 3) := by decide +kernel
theorem dX2_readsOnes_52 : decode cX2_readsOnes 52 = .ok (.iload_n 2, 1) := by decide +kernel
theorem dX2_readsOnes_53 : decode cX2_readsOnes 53 = .ok (.iastore, 1) := by decide +kernel
theorem dX2_readsOnes_54 : decode cX2_readsOnes 54 = .ok (.aload_n 0, 1) := by decide +kernel
theorem dX2_readsOnes_55 : decode cX2_readsOnes 55 = .ok (.dup, 1) := by decide +kernel
theorem dX2_readsOnes_56 : decode cX2_readsOnes 56 = .ok (.getfield 35, 3) := by decide +kernel
theorem dX2_readsOnes_59 : decode cX2_readsOnes 59 = .ok (.iconst 1, 1) := by decide +kernel
theorem dX2_readsOnes_60 : decode cX2_readsOnes 60 = .ok (.iadd, 1) := by decide +kernel
theorem dX2_readsOnes_61 : decode cX2_readsOnes 61 = .ok (.putfield 35, 3) := by decide +kernel
theorem dX2_readsOnes_64 : decode cX2_readsOnes 64 = .ok (.aload_n 0, 1) := by decide +kernel
theorem dX2_readsOnes_65 : decode cX2_readsOnes 65 = .ok (.iconst 2, 1) := by decide +kernel
theorem dX2_readsOnes_66 : decode cX2_readsOnes 66 = .ok (.putfield 32, 3) := by decide +kernel
theorem dX2_readsOnes_69 : decode cX2_readsOnes 69 = .ok (.iconst 1, 1) := by decide +kernel
theorem dX2_readsOnes_70 : decode cX2_readsOnes 70 = .ok (.ireturn, 1) := by decide +kernel
theorem dX2_readsBetween_0 : decode cX2_readsBetween 0 = .ok (.iload_n 1, 1) := by decide +kernel
theorem dX2_readsBetween_1 : decode cX2_readsBetween 1 = .ok (.bipush 44, 2) := by decide +kernel
theorem dX2_readsBetween_3 : decode cX2_readsBetween 3 = .ok (.if_icmp .ne 18, 3) := by decide +kernel
theorem dX2_readsBetween_6 : decode cX2_readsBetween 6 = .ok (.aload_n 0, 1) := by decide +kernel
theorem dX2_readsBetween_7 : decode cX2_readsBetween 7 = .ok (.getfield 35, 3) := by decide +kernel
theorem dX2_readsBetween_10 : decode cX2_readsBetween 10 = .ok (.iconst 3, 1) := by decide +kernel
theorem dX2_readsBetween_11 : decode cX2_readsBetween 11 = .ok (.if_icmp .ge 10, 3) := by decide +kernel
theorem dX2_readsBetween_14 : decode cX2_readsBetween 14 = .ok (.aload_n 0, 1) := by decide +kernel
theorem dX2_readsBetween_15 : decode cX2_readsBetween 15 = .ok (.iconst 0, 1) := by decide +kernel
theorem dX2_readsBetween_16 : decode cX2_readsBetween 16 = .ok (.putfield 32, 3) := by decide +kernel
theorem dX2_readsBetween_19 : decode cX2_readsBetween 19 = .ok (.iconst 1, 1) := by decide +kernel
theorem dX2_readsBetween_20 : decode cX2_readsBetween 20 = .ok (.ireturn, 1) := by decide +kernel
theorem dX2_readsBetween_21 : decode cX2_readsBetween 21 = .ok (.iload_n 1, 1) := by decide +kernel
theorem dX2_readsBetween_22 : decode cX2_readsBetween 22 = .ok (.bipush 59, 2) := by decide +kernel
theorem dX2_readsBetween_24 : decode cX2_readsBetween 24 = .ok (.if_icmp .ne 10, 3) := by decide +kernel
theorem dX2_readsBetween_27 : decode cX2_readsBetween 27 = .ok (.aload_n 0, 1) := by decide +kernel
theorem dX2_readsBetween_28 : decode cX2_readsBetween 28 = .ok (.iconst 3, 1) := by decide +kernel
theorem dX2_readsBetween_29 : decode cX2_readsBetween 29 = .ok (.putfield 32, 3) := by decide +kernel
theorem dX2_readsBetween_32 : decode cX2_readsBetween 32 = .ok (.iconst 1, 1) := by decide +kernel
theorem dX2_readsBetween_33 : decode cX2_readsBetween 33 = .ok (.ireturn, 1) := by decide +kernel
theorem dX2_readsBetween_34 : decode cX2_readsBetween 34 = .ok (.iconst 0, 1) := by decide +kernel
theorem dX2_readsBetween_35 : decode cX2_readsBetween 35 = .ok (.ireturn, 1) := by decide +kernel
theorem dX2_readsChild_0 : decode cX2_readsChild 0 = .ok (.ldc 57, 2) := by decide +kernel
theorem dX2_readsChild_2 : decode cX2_readsChild 2 = .ok (.iload_n 1, 1) := by decide +kernel
theorem dX2_readsChild_3 : decode cX2_readsChild 3 = .ok (.i2c, 1) := by decide +kernel
theorem dX2_readsChild_4 : decode cX2_readsChild 4 = .ok (.invokevirtual 59, 3) := by decide +kernel
theorem dX2_readsChild_7 : decode cX2_readsChild 7 = .ok (.istore_n 2, 1) := by decide +kernel
theorem dX2_readsChild_8 : decode cX2_readsChild 8 = .ok (.iload_n 2, 1) := by decide +kernel
theorem dX2_readsChild_9 : decode cX2_readsChild 9 = .ok (.ifCond .lt 15, 3) := by decide +kernel
theorem dX2_readsChild_12 : decode cX2_readsChild 12 = .ok (.aload_n 0, 1) := by decide +kernel
theorem dX2_readsChild_13 : decode cX2_readsChild 13 = .ok (.getfield 29, 3) := by decide +kernel
theorem dX2_readsChild_16 : decode cX2_readsChild 16 = .ok (.aload_n 0, 1) := by decide +kernel
theorem dX2_readsChild_17 : decode cX2_readsChild 17 = .ok (.getfield 18, 3) := by decide +kernel
theorem dX2_readsChild_20 : decode cX2_readsChild 20 = .ok (.arraylength, 1) := by decide +kernel
theorem dX2_readsChild_21 : decode cX2_readsChild 21 = .ok (.if_icmp .lt 5, 3) := by decide +kernel
theorem dX2_readsChild_24 : decode cX2_readsChild 24 = .ok (.iconst 0, 1) := by decide +kernel
theorem dX2_readsChild_25 : decode cX2_readsChild 25 = .ok (.ireturn, 1) := by decide +kernel
theorem dX2_readsChild_26 : decode cX2_readsChild 26 = .ok (.aload_n 0, 1) := by decide +kernel
theorem dX2_readsChild_27 : decode cX2_readsChild 27 = .ok (.getfield 18, 3) := by decide +kernel
theorem dX2_readsChild_30 : decode cX2_readsChild 30 = .ok (.aload_n 0, 1) := by decide +kernel
theorem dX2_readsChild_31 : decode cX2_readsChild 31 = .ok (.getfield 29, 3) := by decide +kernel
theorem dX2_readsChild_34 : decode cX2_readsChild 34 = .ok (.iload_n 2, 1) := by decide +kernel
theorem dX2_readsChild_35 : decode cX2_readsChild 35 = .ok (.iastore, 1) := by decide +kernel
theorem dX2_readsChild_36 : decode cX2_readsChild 36 = .ok (.aload_n 0, 1) := by decide +kernel
theorem dX2_readsChild_37 : decode cX2_readsChild 37 = .ok (.dup, 1) := by decide +kernel
theorem dX2_readsChild_38 : decode cX2_readsChild 38 = .ok (.getfield 29, 3) := by decide +kernel
theorem dX2_readsChild_41 : decode cX2_readsChild 41 = .ok (.iconst 1, 1) := by decide +kernel
theorem dX2_readsChild_42 : decode cX2_readsChild 42 = .ok (.iadd, 1) := by decide +kernel
theorem dX2_readsChild_43 : decode cX2_readsChild 43 = .ok (.putfield 29, 3) := by decide +kernel
theorem dX2_readsChild_46 : decode cX2_readsChild 46 = .ok (.iconst 1, 1) := by decide +kernel
theorem dX2_readsChild_47 : decode cX2_readsChild 47 = .ok (.ireturn, 1) := by decide +kernel
theorem dX3_init_0 : decode cX3_init 0 = .ok (.aload_n 0, 1) := by decide +kernel
theorem dX3_init_1 : decode cX3_init 1 = .ok (.invokespecial 3, 3) := by decide +kernel
theorem dX3_init_4 : decode cX3_init 4 = .ok (.aload_n 0, 1) := by decide +kernel
theorem dX3_init_5 : decode cX3_init 5 = .ok (.new 9, 3) := by decide +kernel
theorem dX3_init_8 : decode cX3_init 8 = .ok (.dup, 1) := by decide +kernel
theorem dX3_init_9 : decode cX3_init 9 = .ok (.invokespecial 11, 3) := by decide +kernel
theorem dX3_init_12 : decode cX3_init 12 = .ok (.putfield 12, 3) := by decide +kernel
theorem dX3_init_15 : decode cX3_init 15 = .ok (.aload_n 0, 1) := by decide +kernel
theorem dX3_init_16 : decode cX3_init 16 = .ok (.iconst 3, 1) := by decide +kernel
theorem dX3_init_17 : decode cX3_init 17 = .ok (.newarray .int, 2) := by decide +kernel
theorem dX3_init_19 : decode cX3_init 19 = .ok (.putfield 18, 3) := by decide +kernel
theorem dX3_init_22 : decode cX3_init 22 = .ok (.aload_n 0, 1) := by decide +kernel
theorem dX3_init_23 : decode cX3_init 23 = .ok (.bipush 6, 2) := by decide +kernel
theorem dX3_init_25 : decode cX3_init 25 = .ok (.newarray .int, 2) := by decide +kernel
theorem dX3_init_27 : decode cX3_init 27 = .ok (.putfield 22, 3) := by decide +kernel
theorem dX3_init_30 : decode cX3_init 30 = .ok (.aload_n 0, 1) := by decide +kernel
theorem dX3_init_31 : decode cX3_init 31 = .ok (.bipush 6, 2) := by decide +kernel
theorem dX3_init_33 : decode cX3_init 33 = .ok (.newarray .int, 2) := by decide +kernel
theorem dX3_init_35 : decode cX3_init 35 = .ok (.putfield 25, 3) := by decide +kernel
theorem dX3_init_38 : decode cX3_init 38 = .ok (.return_, 1) := by decide +kernel
theorem dX3_hasRing_0 : decode cX3_hasRing 0 = .ok (.aload_n 0, 1) := by decide +kernel
theorem dX3_hasRing_1 : decode cX3_hasRing 1 = .ok (.getfield 12, 3) := by decide +kernel
theorem dX3_hasRing_4 : decode cX3_hasRing 4 = .ok (.getfield 28, 3) := by decide +kernel
theorem dX3_hasRing_7 : decode cX3_hasRing 7 = .ok (.ifCond .le 7, 3) := by decide +kernel
theorem dX3_hasRing_10 : decode cX3_hasRing 10 = .ok (.iconst 1, 1) := by decide +kernel
theorem dX3_hasRing_11 : decode cX3_hasRing 11 = .ok (.goto 4, 3) := by decide +kernel
theorem dX3_hasRing_14 : decode cX3_hasRing 14 = .ok (.iconst 0, 1) := by decide +kernel
theorem dX3_hasRing_15 : decode cX3_hasRing 15 = .ok (.ireturn, 1) := by decide +kernel
theorem dX3_hasChild_0 : decode cX3_hasChild 0 = .ok (.iload_n 1, 1) := by decide +kernel
theorem dX3_hasChild_1 : decode cX3_hasChild 1 = .ok (.ifCond .lt 18, 3) := by decide +kernel
theorem dX3_hasChild_4 : decode cX3_hasChild 4 = .ok (.iload_n 1, 1) := by decide +kernel
theorem dX3_hasChild_5 : decode cX3_hasChild 5 = .ok (.aload_n 0, 1) := by decide +kernel
theorem dX3_hasChild_6 : decode cX3_hasChild 6 = .ok (.getfield 12, 3) := by decide +kernel
theorem dX3_hasChild_9 : decode cX3_hasChild 9 = .ok (.getfield 28, 3) := by decide +kernel
theorem dX3_hasChild_12 : decode cX3_hasChild 12 = .ok (.if_icmp .ge 7, 3) := by decide +kernel
theorem dX3_hasChild_15 : decode cX3_hasChild 15 = .ok (.iconst 1, 1) := by decide +kernel
theorem dX3_hasChild_16 : decode cX3_hasChild 16 = .ok (.goto 4, 3) := by decide +kernel
theorem dX3_hasChild_19 : decode cX3_hasChild 19 = .ok (.iconst 0, 1) := by decide +kernel
theorem dX3_hasChild_20 : decode cX3_hasChild 20 = .ok (.ireturn, 1) := by decide +kernel
theorem dX3_hasVerse_0 : decode cX3_hasVerse 0 = .ok (.iload_n 1, 1) := by decide +kernel
theorem dX3_hasVerse_1 : decode cX3_hasVerse 1 = .ok (.ifCond .lt 24, 3) := by decide +kernel
theorem dX3_hasVerse_4 : decode cX3_hasVerse 4 = .ok (.iload_n 1, 1) := by decide +kernel
theorem dX3_hasVerse_5 : decode cX3_hasVerse 5 = .ok (.aload_n 0, 1) := by decide +kernel
theorem dX3_hasVerse_6 : decode cX3_hasVerse 6 = .ok (.getfield 32, 3) := by decide +kernel
theorem dX3_hasVerse_9 : decode cX3_hasVerse 9 = .ok (.if_icmp .ge 16, 3) := by decide +kernel
theorem dX3_hasVerse_12 : decode cX3_hasVerse 12 = .ok (.iload_n 1, 1) := by decide +kernel
theorem dX3_hasVerse_13 : decode cX3_hasVerse 13 = .ok (.aload_n 0, 1) := by decide +kernel
theorem dX3_hasVerse_14 : decode cX3_hasVerse 14 = .ok (.getfield 18, 3) := by decide +kernel
theorem dX3_hasVerse_17 : decode cX3_hasVerse 17 = .ok (.arraylength, 1) := by decide +kernel
theorem dX3_hasVerse_18 : decode cX3_hasVerse 18 = .ok (.if_icmp .ge 7, 3) := by decide +kernel
theorem dX3_hasVerse_21 : decode cX3_hasVerse 21 = .ok (.iconst 1, 1) := by decide +kernel
theorem dX3_hasVerse_22 : decode cX3_hasVerse 22 = .ok (.goto 4, 3) := by decide +kernel
theorem dX3_hasVerse_25 : decode cX3_hasVerse 25 = .ok (.iconst 0, 1) := by decide +kernel
theorem dX3_hasVerse_26 : decode cX3_hasVerse 26 = .ok (.ireturn, 1) := by decide +kernel
theorem dX3_keepSeen_0 : decode cX3_keepSeen 0 = .ok (.aload_n 0, 1) := by decide +kernel
theorem dX3_keepSeen_1 : decode cX3_keepSeen 1 = .ok (.getfield 35, 3) := by decide +kernel
theorem dX3_keepSeen_4 : decode cX3_keepSeen 4 = .ok (.ifCond .lt 12, 3) := by decide +kernel
theorem dX3_keepSeen_7 : decode cX3_keepSeen 7 = .ok (.aload_n 0, 1) := by decide +kernel
theorem dX3_keepSeen_8 : decode cX3_keepSeen 8 = .ok (.getfield 35, 3) := by decide +kernel
theorem dX3_keepSeen_11 : decode cX3_keepSeen 11 = .ok (.bipush 6, 2) := by decide +kernel
theorem dX3_keepSeen_13 : decode cX3_keepSeen 13 = .ok (.if_icmp .lt 5, 3) := by decide +kernel
theorem dX3_keepSeen_16 : decode cX3_keepSeen 16 = .ok (.iconst 0, 1) := by decide +kernel
theorem dX3_keepSeen_17 : decode cX3_keepSeen 17 = .ok (.ireturn, 1) := by decide +kernel
theorem dX3_keepSeen_18 : decode cX3_keepSeen 18 = .ok (.aload_n 0, 1) := by decide +kernel
theorem dX3_keepSeen_19 : decode cX3_keepSeen 19 = .ok (.getfield 22, 3) := by decide +kernel
theorem dX3_keepSeen_22 : decode cX3_keepSeen 22 = .ok (.aload_n 0, 1) := by decide +kernel
theorem dX3_keepSeen_23 : decode cX3_keepSeen 23 = .ok (.getfield 35, 3) := by decide +kernel
theorem dX3_keepSeen_26 : decode cX3_keepSeen 26 = .ok (.iload_n 1, 1) := by decide +kernel
theorem dX3_keepSeen_27 : decode cX3_keepSeen 27 = .ok (.iastore, 1) := by decide +kernel
theorem dX3_keepSeen_28 : decode cX3_keepSeen 28 = .ok (.aload_n 0, 1) := by decide +kernel
theorem dX3_keepSeen_29 : decode cX3_keepSeen 29 = .ok (.getfield 25, 3) := by decide +kernel
theorem dX3_keepSeen_32 : decode cX3_keepSeen 32 = .ok (.aload_n 0, 1) := by decide +kernel
theorem dX3_keepSeen_33 : decode cX3_keepSeen 33 = .ok (.getfield 35, 3) := by decide +kernel
theorem dX3_keepSeen_36 : decode cX3_keepSeen 36 = .ok (.iload_n 2, 1) := by decide +kernel
theorem dX3_keepSeen_37 : decode cX3_keepSeen 37 = .ok (.iastore, 1) := by decide +kernel
theorem dX3_keepSeen_38 : decode cX3_keepSeen 38 = .ok (.aload_n 0, 1) := by decide +kernel
theorem dX3_keepSeen_39 : decode cX3_keepSeen 39 = .ok (.dup, 1) := by decide +kernel
theorem dX3_keepSeen_40 : decode cX3_keepSeen 40 = .ok (.getfield 35, 3) := by decide +kernel
theorem dX3_keepSeen_43 : decode cX3_keepSeen 43 = .ok (.iconst 1, 1) := by decide +kernel
theorem dX3_keepSeen_44 : decode cX3_keepSeen 44 = .ok (.iadd, 1) := by decide +kernel
theorem dX3_keepSeen_45 : decode cX3_keepSeen 45 = .ok (.putfield 35, 3) := by decide +kernel
theorem dX3_keepSeen_48 : decode cX3_keepSeen 48 = .ok (.iconst 1, 1) := by decide +kernel
theorem dX3_keepSeen_49 : decode cX3_keepSeen 49 = .ok (.ireturn, 1) := by decide +kernel
theorem dX3_setUp_0 : decode cX3_setUp 0 = .ok (.aload_n 0, 1) := by decide +kernel
theorem dX3_setUp_1 : decode cX3_setUp 1 = .ok (.getfield 12, 3) := by decide +kernel
theorem dX3_setUp_4 : decode cX3_setUp 4 = .ok (.invokevirtual 38, 3) := by decide +kernel
theorem dX3_setUp_7 : decode cX3_setUp 7 = .ok (.iconst 0, 1) := by decide +kernel
theorem dX3_setUp_8 : decode cX3_setUp 8 = .ok (.istore_n 2, 1) := by decide +kernel
theorem dX3_setUp_9 : decode cX3_setUp 9 = .ok (.iload_n 2, 1) := by decide +kernel
theorem dX3_setUp_10 : decode cX3_setUp 10 = .ok (.aload_n 1, 1) := by decide +kernel
theorem dX3_setUp_11 : decode cX3_setUp 11 = .ok (.getfield 41, 3) := by decide +kernel
theorem dX3_setUp_14 : decode cX3_setUp 14 = .ok (.if_icmp .ge 31, 3) := by decide +kernel
theorem dX3_setUp_17 : decode cX3_setUp 17 = .ok (.iload_n 2, 1) := by decide +kernel
theorem dX3_setUp_18 : decode cX3_setUp 18 = .ok (.aload_n 1, 1) := by decide +kernel
theorem dX3_setUp_19 : decode cX3_setUp 19 = .ok (.getfield 46, 3) := by decide +kernel
theorem dX3_setUp_22 : decode cX3_setUp 22 = .ok (.arraylength, 1) := by decide +kernel
theorem dX3_setUp_23 : decode cX3_setUp 23 = .ok (.if_icmp .ge 22, 3) := by decide +kernel
theorem dX3_setUp_26 : decode cX3_setUp 26 = .ok (.aload_n 0, 1) := by decide +kernel
theorem dX3_setUp_27 : decode cX3_setUp 27 = .ok (.getfield 12, 3) := by decide +kernel
theorem dX3_setUp_30 : decode cX3_setUp 30 = .ok (.aload_n 1, 1) := by decide +kernel
theorem dX3_setUp_31 : decode cX3_setUp 31 = .ok (.getfield 46, 3) := by decide +kernel
theorem dX3_setUp_34 : decode cX3_setUp 34 = .ok (.iload_n 2, 1) := by decide +kernel
theorem dX3_setUp_35 : decode cX3_setUp 35 = .ok (.iaload, 1) := by decide +kernel
theorem dX3_setUp_36 : decode cX3_setUp 36 = .ok (.invokevirtual 49, 3) := by decide +kernel
theorem dX3_setUp_39 : decode cX3_setUp 39 = .ok (.iinc 2 1, 3) := by decide +kernel
theorem dX3_setUp_42 : decode cX3_setUp 42 = .ok (.goto (-33), 3) := by decide +kernel
theorem dX3_setUp_45 : decode cX3_setUp 45 = .ok (.aload_n 0, 1) := by decide +kernel
theorem dX3_setUp_46 : decode cX3_setUp 46 = .ok (.aload_n 1, 1) := by decide +kernel
theorem dX3_setUp_47 : decode cX3_setUp 47 = .ok (.getfield 53, 3) := by decide +kernel
theorem dX3_setUp_50 : decode cX3_setUp 50 = .ok (.putfield 32, 3) := by decide +kernel
theorem dX3_setUp_53 : decode cX3_setUp 53 = .ok (.aload_n 1, 1) := by decide +kernel
theorem dX3_setUp_54 : decode cX3_setUp 54 = .ok (.getfield 54, 3) := by decide +kernel
theorem dX3_setUp_57 : decode cX3_setUp 57 = .ok (.iconst 0, 1) := by decide +kernel
theorem dX3_setUp_58 : decode cX3_setUp 58 = .ok (.aload_n 0, 1) := by decide +kernel
theorem dX3_setUp_59 : decode cX3_setUp 59 = .ok (.getfield 18, 3) := by decide +kernel
theorem dX3_setUp_62 : decode cX3_setUp 62 = .ok (.iconst 0, 1) := by decide +kernel
theorem dX3_setUp_63 : decode cX3_setUp 63 = .ok (.iconst 3, 1) := by decide +kernel
theorem dX3_setUp_64 : decode cX3_setUp 64 = .ok (.invokestatic 55, 3) := by decide +kernel
theorem dX3_setUp_67 : decode cX3_setUp 67 = .ok (.aload_n 0, 1) := by decide +kernel
theorem dX3_setUp_68 : decode cX3_setUp 68 = .ok (.iconst 0, 1) := by decide +kernel
theorem dX3_setUp_69 : decode cX3_setUp 69 = .ok (.putfield 61, 3) := by decide +kernel
theorem dX3_setUp_72 : decode cX3_setUp 72 = .ok (.aload_n 0, 1) := by decide +kernel
theorem dX3_setUp_73 : decode cX3_setUp 73 = .ok (.iconst 0, 1) := by decide +kernel
theorem dX3_setUp_74 : decode cX3_setUp 74 = .ok (.putfield 35, 3) := by decide +kernel
theorem dX3_setUp_77 : decode cX3_setUp 77 = .ok (.return_, 1) := by decide +kernel
theorem dX3_takeAll_0 : decode cX3_takeAll 0 = .ok (.aload_n 0, 1) := by decide +kernel
theorem dX3_takeAll_1 : decode cX3_takeAll 1 = .ok (.getfield 12, 3) := by decide +kernel
theorem dX3_takeAll_4 : decode cX3_takeAll 4 = .ok (.aload_n 1, 1) := by decide +kernel
theorem dX3_takeAll_5 : decode cX3_takeAll 5 = .ok (.getfield 12, 3) := by decide +kernel
theorem dX3_takeAll_8 : decode cX3_takeAll 8 = .ok (.invokevirtual 64, 3) := by decide +kernel
theorem dX3_takeAll_11 : decode cX3_takeAll 11 = .ok (.aload_n 0, 1) := by decide +kernel
theorem dX3_takeAll_12 : decode cX3_takeAll 12 = .ok (.aload_n 1, 1) := by decide +kernel
theorem dX3_takeAll_13 : decode cX3_takeAll 13 = .ok (.getfield 32, 3) := by decide +kernel
theorem dX3_takeAll_16 : decode cX3_takeAll 16 = .ok (.putfield 32, 3) := by decide +kernel
theorem dX3_takeAll_19 : decode cX3_takeAll 19 = .ok (.aload_n 1, 1) := by decide +kernel
theorem dX3_takeAll_20 : decode cX3_takeAll 20 = .ok (.getfield 18, 3) := by decide +kernel
theorem dX3_takeAll_23 : decode cX3_takeAll 23 = .ok (.iconst 0, 1) := by decide +kernel
theorem dX3_takeAll_24 : decode cX3_takeAll 24 = .ok (.aload_n 0, 1) := by decide +kernel
theorem dX3_takeAll_25 : decode cX3_takeAll 25 = .ok (.getfield 18, 3) := by decide +kernel
theorem dX3_takeAll_28 : decode cX3_takeAll 28 = .ok (.iconst 0, 1) := by decide +kernel
theorem dX3_takeAll_29 : decode cX3_takeAll 29 = .ok (.iconst 3, 1) := by decide +kernel
theorem dX3_takeAll_30 : decode cX3_takeAll 30 = .ok (.invokestatic 55, 3) := by decide +kernel
theorem dX3_takeAll_33 : decode cX3_takeAll 33 = .ok (.aload_n 0, 1) := by decide +kernel
theorem dX3_takeAll_34 : decode cX3_takeAll 34 = .ok (.aload_n 1, 1) := by decide +kernel
theorem dX3_takeAll_35 : decode cX3_takeAll 35 = .ok (.getfield 61, 3) := by decide +kernel
theorem dX3_takeAll_38 : decode cX3_takeAll 38 = .ok (.putfield 61, 3) := by decide +kernel
theorem dX3_takeAll_41 : decode cX3_takeAll 41 = .ok (.aload_n 0, 1) := by decide +kernel
theorem dX3_takeAll_42 : decode cX3_takeAll 42 = .ok (.aload_n 1, 1) := by decide +kernel
theorem dX3_takeAll_43 : decode cX3_takeAll 43 = .ok (.getfield 35, 3) := by decide +kernel
theorem dX3_takeAll_46 : decode cX3_takeAll 46 = .ok (.putfield 35, 3) := by decide +kernel
theorem dX3_takeAll_49 : decode cX3_takeAll 49 = .ok (.aload_n 1, 1) := by decide +kernel
theorem dX3_takeAll_50 : decode cX3_takeAll 50 = .ok (.getfield 22, 3) := by decide +kernel
theorem dX3_takeAll_53 : decode cX3_takeAll 53 = .ok (.iconst 0, 1) := by decide +kernel
theorem dX3_takeAll_54 : decode cX3_takeAll 54 = .ok (.aload_n 0, 1) := by decide +kernel
theorem dX3_takeAll_55 : decode cX3_takeAll 55 = .ok (.getfield 22, 3) := by decide +kernel
theorem dX3_takeAll_58 : decode cX3_takeAll 58 = .ok (.iconst 0, 1) := by decide +kernel
theorem dX3_takeAll_59 : decode cX3_takeAll 59 = .ok (.bipush 6, 2) := by decide +kernel
theorem dX3_takeAll_61 : decode cX3_takeAll 61 = .ok (.invokestatic 55, 3) := by decide +kernel
theorem dX3_takeAll_64 : decode cX3_takeAll 64 = .ok (.aload_n 1, 1) := by decide +kernel
theorem dX3_takeAll_65 : decode cX3_takeAll 65 = .ok (.getfield 25, 3) := by decide +kernel
theorem dX3_takeAll_68 : decode cX3_takeAll 68 = .ok (.iconst 0, 1) := by decide +kernel
theorem dX3_takeAll_69 : decode cX3_takeAll 69 = .ok (.aload_n 0, 1) := by decide +kernel
theorem dX3_takeAll_70 : decode cX3_takeAll 70 = .ok (.getfield 25, 3) := by decide +kernel
theorem dX3_takeAll_73 : decode cX3_takeAll 73 = .ok (.iconst 0, 1) := by decide +kernel
theorem dX3_takeAll_74 : decode cX3_takeAll 74 = .ok (.bipush 6, 2) := by decide +kernel
theorem dX3_takeAll_76 : decode cX3_takeAll 76 = .ok (.invokestatic 55, 3) := by decide +kernel
theorem dX3_takeAll_79 : decode cX3_takeAll 79 = .ok (.return_, 1) := by decide +kernel
theorem dX4_init_0 : decode cX4_init 0 = .ok (.aload_n 0, 1) := by decide +kernel
theorem dX4_init_1 : decode cX4_init 1 = .ok (.invokespecial 3, 3) := by decide +kernel
theorem dX4_init_4 : decode cX4_init 4 = .ok (.new 9, 3) := by decide +kernel
theorem dX4_init_7 : decode cX4_init 7 = .ok (.dup, 1) := by decide +kernel
theorem dX4_init_8 : decode cX4_init 8 = .ok (.invokespecial 11, 3) := by decide +kernel
theorem dX4_init_11 : decode cX4_init 11 = .ok (.astore_n 1, 1) := by decide +kernel
theorem dX4_init_12 : decode cX4_init 12 = .ok (.aload_n 0, 1) := by decide +kernel
theorem dX4_init_13 : decode cX4_init 13 = .ok (.new 12, 3) := by decide +kernel
theorem dX4_init_16 : decode cX4_init 16 = .ok (.dup, 1) := by decide +kernel
theorem dX4_init_17 : decode cX4_init 17 = .ok (.invokespecial 14, 3) := by decide +kernel
theorem dX4_init_20 : decode cX4_init 20 = .ok (.putfield 15, 3) := by decide +kernel
theorem dX4_init_23 : decode cX4_init 23 = .ok (.aload_n 0, 1) := by decide +kernel
theorem dX4_init_24 : decode cX4_init 24 = .ok (.aload_n 1, 1) := by decide +kernel
theorem dX4_init_25 : decode cX4_init 25 = .ok (.putfield 19, 3) := by decide +kernel
theorem dX4_init_28 : decode cX4_init 28 = .ok (.aload_n 0, 1) := by decide +kernel
theorem dX4_init_29 : decode cX4_init 29 = .ok (.new 9, 3) := by decide +kernel
theorem dX4_init_32 : decode cX4_init 32 = .ok (.dup, 1) := by decide +kernel
theorem dX4_init_33 : decode cX4_init 33 = .ok (.invokespecial 11, 3) := by decide +kernel
theorem dX4_init_36 : decode cX4_init 36 = .ok (.putfield 23, 3) := by decide +kernel
theorem dX4_init_39 : decode cX4_init 39 = .ok (.aload_n 0, 1) := by decide +kernel
theorem dX4_init_40 : decode cX4_init 40 = .ok (.new 26, 3) := by decide +kernel
theorem dX4_init_43 : decode cX4_init 43 = .ok (.dup, 1) := by decide +kernel
theorem dX4_init_44 : decode cX4_init 44 = .ok (.aload_n 1, 1) := by decide +kernel
theorem dX4_init_45 : decode cX4_init 45 = .ok (.invokespecial 28, 3) := by decide +kernel
theorem dX4_init_48 : decode cX4_init 48 = .ok (.putfield 31, 3) := by decide +kernel
theorem dX4_init_51 : decode cX4_init 51 = .ok (.return_, 1) := by decide +kernel
theorem dX4_letter_0 : decode cX4_letter 0 = .ok (.iload_n 1, 1) := by decide +kernel
theorem dX4_letter_1 : decode cX4_letter 1 = .ok (.bipush 32, 2) := by decide +kernel
theorem dX4_letter_3 : decode cX4_letter 3 = .ok (.if_icmp .lt 9, 3) := by decide +kernel
theorem dX4_letter_6 : decode cX4_letter 6 = .ok (.iload_n 1, 1) := by decide +kernel
theorem dX4_letter_7 : decode cX4_letter 7 = .ok (.bipush 126, 2) := by decide +kernel
theorem dX4_letter_9 : decode cX4_letter 9 = .ok (.if_icmp .le 6, 3) := by decide +kernel
theorem dX4_letter_12 : decode cX4_letter 12 = .ok (.bipush (-102), 2) := by decide +kernel
theorem dX4_letter_14 : decode cX4_letter 14 = .ok (.ireturn, 1) := by decide +kernel
theorem dX4_letter_15 : decode cX4_letter 15 = .ok (.aload_n 0, 1) := by decide +kernel
theorem dX4_letter_16 : decode cX4_letter 16 = .ok (.getfield 15, 3) := by decide +kernel
theorem dX4_letter_19 : decode cX4_letter 19 = .ok (.iload_n 1, 1) := by decide +kernel
theorem dX4_letter_20 : decode cX4_letter 20 = .ok (.invokevirtual 35, 3) := by decide +kernel
theorem dX4_letter_23 : decode cX4_letter 23 = .ok (.ifCond .eq 13, 3) := by decide +kernel
theorem dX4_letter_26 : decode cX4_letter 26 = .ok (.aload_n 0, 1) := by decide +kernel
theorem dX4_letter_27 : decode cX4_letter 27 = .ok (.getfield 15, 3) := by decide +kernel
theorem dX4_letter_30 : decode cX4_letter 30 = .ok (.getfield 39, 3) := by decide +kernel
theorem dX4_letter_33 : decode cX4_letter 33 = .ok (.goto 5, 3) := by decide +kernel
theorem dX4_letter_36 : decode cX4_letter 36 = .ok (.bipush (-104), 2) := by decide +kernel
theorem dX4_letter_38 : decode cX4_letter 38 = .ok (.ireturn, 1) := by decide +kernel
theorem dX4_blank_0 : decode cX4_blank 0 = .ok (.aload_n 0, 1) := by decide +kernel
theorem dX4_blank_1 : decode cX4_blank 1 = .ok (.getfield 15, 3) := by decide +kernel
theorem dX4_blank_4 : decode cX4_blank 4 = .ok (.getfield 39, 3) := by decide +kernel
theorem dX4_blank_7 : decode cX4_blank 7 = .ok (.istore_n 1, 1) := by decide +kernel
theorem dX4_blank_8 : decode cX4_blank 8 = .ok (.aload_n 0, 1) := by decide +kernel
theorem dX4_blank_9 : decode cX4_blank 9 = .ok (.getfield 15, 3) := by decide +kernel
theorem dX4_blank_12 : decode cX4_blank 12 = .ok (.iconst 0, 1) := by decide +kernel
theorem dX4_blank_13 : decode cX4_blank 13 = .ok (.putfield 39, 3) := by decide +kernel
theorem dX4_blank_16 : decode cX4_blank 16 = .ok (.iload_n 1, 1) := by decide +kernel
theorem dX4_blank_17 : decode cX4_blank 17 = .ok (.ireturn, 1) := by decide +kernel
theorem dX4_fault_0 : decode cX4_fault 0 = .ok (.aload_n 0, 1) := by decide +kernel
theorem dX4_fault_1 : decode cX4_fault 1 = .ok (.getfield 15, 3) := by decide +kernel
theorem dX4_fault_4 : decode cX4_fault 4 = .ok (.invokevirtual 43, 3) := by decide +kernel
theorem dX4_fault_7 : decode cX4_fault 7 = .ok (.ireturn, 1) := by decide +kernel
theorem dX4_ring_0 : decode cX4_ring 0 = .ok (.aload_n 0, 1) := by decide +kernel
theorem dX4_ring_1 : decode cX4_ring 1 = .ok (.getfield 15, 3) := by decide +kernel
theorem dX4_ring_4 : decode cX4_ring 4 = .ok (.invokevirtual 47, 3) := by decide +kernel
theorem dX4_ring_7 : decode cX4_ring 7 = .ok (.ifCond .ne 6, 3) := by decide +kernel
theorem dX4_ring_10 : decode cX4_ring 10 = .ok (.bipush (-103), 2) := by decide +kernel
theorem dX4_ring_12 : decode cX4_ring 12 = .ok (.ireturn, 1) := by decide +kernel
theorem dX4_ring_13 : decode cX4_ring 13 = .ok (.aload_n 0, 1) := by decide +kernel
theorem dX4_ring_14 : decode cX4_ring 14 = .ok (.getfield 19, 3) := by decide +kernel
theorem dX4_ring_17 : decode cX4_ring 17 = .ok (.aload_n 0, 1) := by decide +kernel
theorem dX4_ring_18 : decode cX4_ring 18 = .ok (.getfield 15, 3) := by decide +kernel
theorem dX4_ring_21 : decode cX4_ring 21 = .ok (.invokevirtual 51, 3) := by decide +kernel
theorem dX4_ring_24 : decode cX4_ring 24 = .ok (.aload_n 0, 1) := by decide +kernel
theorem dX4_ring_25 : decode cX4_ring 25 = .ok (.getfield 15, 3) := by decide +kernel
theorem dX4_ring_28 : decode cX4_ring 28 = .ok (.iconst 0, 1) := by decide +kernel
theorem dX4_ring_29 : decode cX4_ring 29 = .ok (.putfield 39, 3) := by decide +kernel
theorem dX4_ring_32 : decode cX4_ring 32 = .ok (.aload_n 0, 1) := by decide +kernel
theorem dX4_ring_33 : decode cX4_ring 33 = .ok (.iconst 0, 1) := by decide +kernel
theorem dX4_ring_34 : decode cX4_ring 34 = .ok (.putfield 55, 3) := by decide +kernel
theorem dX4_ring_37 : decode cX4_ring 37 = .ok (.aload_n 0, 1) := by decide +kernel
theorem dX4_ring_38 : decode cX4_ring 38 = .ok (.dup, 1) := by decide +kernel
theorem dX4_ring_39 : decode cX4_ring 39 = .ok (.getfield 59, 3) := by decide +kernel
theorem dX4_ring_42 : decode cX4_ring 42 = .ok (.iconst 1, 1) := by decide +kernel
theorem dX4_ring_43 : decode cX4_ring 43 = .ok (.iadd, 1) := by decide +kernel
theorem dX4_ring_44 : decode cX4_ring 44 = .ok (.putfield 59, 3) := by decide +kernel
theorem dX4_ring_47 : decode cX4_ring 47 = .ok (.aload_n 0, 1) := by decide +kernel
theorem dX4_ring_48 : decode cX4_ring 48 = .ok (.getfield 19, 3) := by decide +kernel
theorem dX4_ring_51 : decode cX4_ring 51 = .ok (.getfield 62, 3) := by decide +kernel
theorem dX4_ring_54 : decode cX4_ring 54 = .ok (.getfield 66, 3) := by decide +kernel
theorem dX4_ring_57 : decode cX4_ring 57 = .ok (.ireturn, 1) := by decide +kernel
theorem dX4_child_0 : decode cX4_child 0 = .ok (.aload_n 0, 1) := by decide +kernel
theorem dX4_child_1 : decode cX4_child 1 = .ok (.getfield 19, 3) := by decide +kernel
theorem dX4_child_4 : decode cX4_child 4 = .ok (.iload_n 1, 1) := by decide +kernel
theorem dX4_child_5 : decode cX4_child 5 = .ok (.invokevirtual 69, 3) := by decide +kernel
theorem dX4_child_8 : decode cX4_child 8 = .ok (.ifCond .ne 6, 3) := by decide +kernel
theorem dX4_child_11 : decode cX4_child 11 = .ok (.bipush (-101), 2) := by decide +kernel
theorem dX4_child_13 : decode cX4_child 13 = .ok (.ireturn, 1) := by decide +kernel
theorem dX4_child_14 : decode cX4_child 14 = .ok (.aload_n 0, 1) := by decide +kernel
theorem dX4_child_15 : decode cX4_child 15 = .ok (.getfield 19, 3) := by decide +kernel
theorem dX4_child_18 : decode cX4_child 18 = .ok (.getfield 62, 3) := by decide +kernel
theorem dX4_child_21 : decode cX4_child 21 = .ok (.astore_n 3, 1) := by decide +kernel
theorem dX4_child_22 : decode cX4_child 22 = .ok (.iload_n 2, 1) := by decide +kernel
theorem dX4_child_23 : decode cX4_child 23 = .ok (.tableswitch 100 0 5 #[37, 43, 57, 71, 77, 86], 37) := by decide +kernel
theorem dX4_child_60 : decode cX4_child 60 = .ok (.aload_n 3, 1) := by decide +kernel
theorem dX4_child_61 : decode cX4_child 61 = .ok (.iload_n 1, 1) := by decide +kernel
theorem dX4_child_62 : decode cX4_child 62 = .ok (.invokevirtual 72, 3) := by decide +kernel
theorem dX4_child_65 : decode cX4_child 65 = .ok (.ireturn, 1) := by decide +kernel
theorem dX4_child_66 : decode cX4_child 66 = .ok (.aload_n 3, 1) := by decide +kernel
theorem dX4_child_67 : decode cX4_child 67 = .ok (.iload_n 1, 1) := by decide +kernel
theorem dX4_child_68 : decode cX4_child 68 = .ok (.invokevirtual 76, 3) := by decide +kernel
theorem dX4_child_71 : decode cX4_child 71 = .ok (.ifCond .eq 7, 3) := by decide +kernel
theorem dX4_child_74 : decode cX4_child 74 = .ok (.iconst 1, 1) := by decide +kernel
theorem dX4_child_75 : decode cX4_child 75 = .ok (.goto 4, 3) := by decide +kernel
theorem dX4_child_78 : decode cX4_child 78 = .ok (.iconst 0, 1) := by decide +kernel
theorem dX4_child_79 : decode cX4_child 79 = .ok (.ireturn, 1) := by decide +kernel
theorem dX4_child_80 : decode cX4_child 80 = .ok (.aload_n 3, 1) := by decide +kernel
theorem dX4_child_81 : decode cX4_child 81 = .ok (.iload_n 1, 1) := by decide +kernel
theorem dX4_child_82 : decode cX4_child 82 = .ok (.invokevirtual 79, 3) := by decide +kernel
theorem dX4_child_85 : decode cX4_child 85 = .ok (.ifCond .eq 7, 3) := by decide +kernel
theorem dX4_child_88 : decode cX4_child 88 = .ok (.iconst 1, 1) := by decide +kernel
theorem dX4_child_89 : decode cX4_child 89 = .ok (.goto 4, 3) := by decide +kernel
theorem dX4_child_92 : decode cX4_child 92 = .ok (.iconst 0, 1) := by decide +kernel
theorem dX4_child_93 : decode cX4_child 93 = .ok (.ireturn, 1) := by decide +kernel
theorem dX4_child_94 : decode cX4_child 94 = .ok (.aload_n 3, 1) := by decide +kernel
theorem dX4_child_95 : decode cX4_child 95 = .ok (.iload_n 1, 1) := by decide +kernel
theorem dX4_child_96 : decode cX4_child 96 = .ok (.invokevirtual 82, 3) := by decide +kernel
theorem dX4_child_99 : decode cX4_child 99 = .ok (.ireturn, 1) := by decide +kernel
theorem dX4_child_100 : decode cX4_child 100 = .ok (.aload_n 0, 1) := by decide +kernel
theorem dX4_child_101 : decode cX4_child 101 = .ok (.getfield 31, 3) := by decide +kernel
theorem dX4_child_104 : decode cX4_child 104 = .ok (.iload_n 1, 1) := by decide +kernel
theorem dX4_child_105 : decode cX4_child 105 = .ok (.invokevirtual 85, 3) := by decide +kernel
theorem dX4_child_108 : decode cX4_child 108 = .ok (.ireturn, 1) := by decide +kernel
theorem dX4_child_109 : decode cX4_child 109 = .ok (.aload_n 3, 1) := by decide +kernel
theorem dX4_child_110 : decode cX4_child 110 = .ok (.getfield 88, 3) := by decide +kernel
theorem dX4_child_113 : decode cX4_child 113 = .ok (.iload_n 1, 1) := by decide +kernel
theorem dX4_child_114 : decode cX4_child 114 = .ok (.if_icmp .ne 7, 3) := by decide +kernel
theorem dX4_child_117 : decode cX4_child 117 = .ok (.iconst 1, 1) := by decide +kernel
theorem dX4_child_118 : decode cX4_child 118 = .ok (.goto 4, 3) := by decide +kernel
theorem dX4_child_121 : decode cX4_child 121 = .ok (.iconst 0, 1) := by decide +kernel
theorem dX4_child_122 : decode cX4_child 122 = .ok (.ireturn, 1) := by decide +kernel
theorem dX4_child_123 : decode cX4_child 123 = .ok (.bipush (-102), 2) := by decide +kernel
theorem dX4_child_125 : decode cX4_child 125 = .ok (.ireturn, 1) := by decide +kernel
theorem dX4_as_0 : decode cX4_as 0 = .ok (.aload_n 0, 1) := by decide +kernel
theorem dX4_as_1 : decode cX4_as 1 = .ok (.getfield 19, 3) := by decide +kernel
theorem dX4_as_4 : decode cX4_as 4 = .ok (.iload_n 1, 1) := by decide +kernel
theorem dX4_as_5 : decode cX4_as 5 = .ok (.invokevirtual 69, 3) := by decide +kernel
theorem dX4_as_8 : decode cX4_as 8 = .ok (.ifCond .ne 6, 3) := by decide +kernel
theorem dX4_as_11 : decode cX4_as 11 = .ok (.bipush (-101), 2) := by decide +kernel
theorem dX4_as_13 : decode cX4_as 13 = .ok (.ireturn, 1) := by decide +kernel
theorem dX4_as_14 : decode cX4_as 14 = .ok (.iload_n 2, 1) := by decide +kernel
theorem dX4_as_15 : decode cX4_as 15 = .ok (.invokestatic 91, 3) := by decide +kernel
theorem dX4_as_18 : decode cX4_as 18 = .ok (.ifCond .ne 6, 3) := by decide +kernel
theorem dX4_as_21 : decode cX4_as 21 = .ok (.bipush (-102), 2) := by decide +kernel
theorem dX4_as_23 : decode cX4_as 23 = .ok (.ireturn, 1) := by decide +kernel
theorem dX4_as_24 : decode cX4_as 24 = .ok (.aload_n 0, 1) := by decide +kernel
theorem dX4_as_25 : decode cX4_as 25 = .ok (.getfield 19, 3) := by decide +kernel
theorem dX4_as_28 : decode cX4_as 28 = .ok (.getfield 62, 3) := by decide +kernel
theorem dX4_as_31 : decode cX4_as 31 = .ok (.iload_n 1, 1) := by decide +kernel
theorem dX4_as_32 : decode cX4_as 32 = .ok (.invokevirtual 72, 3) := by decide +kernel
theorem dX4_as_35 : decode cX4_as 35 = .ok (.istore_n 3, 1) := by decide +kernel
theorem dX4_as_36 : decode cX4_as 36 = .ok (.iload_n 2, 1) := by decide +kernel
theorem dX4_as_37 : decode cX4_as 37 = .ok (.ifCond .eq 18, 3) := by decide +kernel
theorem dX4_as_40 : decode cX4_as 40 = .ok (.iload_n 2, 1) := by decide +kernel
theorem dX4_as_41 : decode cX4_as 41 = .ok (.iload_n 3, 1) := by decide +kernel
theorem dX4_as_42 : decode cX4_as 42 = .ok (.if_icmp .eq 13, 3) := by decide +kernel
theorem dX4_as_45 : decode cX4_as 45 = .ok (.iload_n 2, 1) := by decide +kernel
theorem dX4_as_46 : decode cX4_as 46 = .ok (.iconst 3, 1) := by decide +kernel
theorem dX4_as_47 : decode cX4_as 47 = .ok (.if_icmp .ne 12, 3) := by decide +kernel
theorem dX4_as_50 : decode cX4_as 50 = .ok (.iload_n 3, 1) := by decide +kernel
theorem dX4_as_51 : decode cX4_as 51 = .ok (.iconst 4, 1) := by decide +kernel
theorem dX4_as_52 : decode cX4_as 52 = .ok (.if_icmp .ne 7, 3) := by decide +kernel
theorem dX4_as_55 : decode cX4_as 55 = .ok (.iconst 1, 1) := by decide +kernel
theorem dX4_as_56 : decode cX4_as 56 = .ok (.goto 4, 3) := by decide +kernel
theorem dX4_as_59 : decode cX4_as 59 = .ok (.iconst 0, 1) := by decide +kernel
theorem dX4_as_60 : decode cX4_as 60 = .ok (.istore 4, 2) := by decide +kernel
theorem dX4_as_62 : decode cX4_as 62 = .ok (.iload 4, 2) := by decide +kernel
theorem dX4_as_64 : decode cX4_as 64 = .ok (.ifCond .eq 7, 3) := by decide +kernel
theorem dX4_as_67 : decode cX4_as 67 = .ok (.iload_n 1, 1) := by decide +kernel
theorem dX4_as_68 : decode cX4_as 68 = .ok (.goto 4, 3) := by decide +kernel
theorem dX4_as_71 : decode cX4_as 71 = .ok (.iconst (-1), 1) := by decide +kernel
theorem dX4_as_72 : decode cX4_as 72 = .ok (.ireturn, 1) := by decide +kernel
theorem dX4_verse_0 : decode cX4_verse 0 = .ok (.aload_n 0, 1) := by decide +kernel
theorem dX4_verse_1 : decode cX4_verse 1 = .ok (.getfield 19, 3) := by decide +kernel
theorem dX4_verse_4 : decode cX4_verse 4 = .ok (.iload_n 1, 1) := by decide +kernel
theorem dX4_verse_5 : decode cX4_verse 5 = .ok (.invokevirtual 94, 3) := by decide +kernel
theorem dX4_verse_8 : decode cX4_verse 8 = .ok (.ifCond .ne 6, 3) := by decide +kernel
theorem dX4_verse_11 : decode cX4_verse 11 = .ok (.bipush (-101), 2) := by decide +kernel
theorem dX4_verse_13 : decode cX4_verse 13 = .ok (.ireturn, 1) := by decide +kernel
theorem dX4_verse_14 : decode cX4_verse 14 = .ok (.aload_n 0, 1) := by decide +kernel
theorem dX4_verse_15 : decode cX4_verse 15 = .ok (.getfield 19, 3) := by decide +kernel
theorem dX4_verse_18 : decode cX4_verse 18 = .ok (.getfield 97, 3) := by decide +kernel
theorem dX4_verse_21 : decode cX4_verse 21 = .ok (.iload_n 1, 1) := by decide +kernel
theorem dX4_verse_22 : decode cX4_verse 22 = .ok (.iaload, 1) := by decide +kernel
theorem dX4_verse_23 : decode cX4_verse 23 = .ok (.istore_n 3, 1) := by decide +kernel
theorem dX4_verse_24 : decode cX4_verse 24 = .ok (.iload_n 2, 1) := by decide +kernel
theorem dX4_verse_25 : decode cX4_verse 25 = .ok (.tableswitch 57 0 2 #[27, 29, 48], 27) := by decide +kernel
theorem dX4_verse_52 : decode cX4_verse 52 = .ok (.iload_n 3, 1) := by decide +kernel
theorem dX4_verse_53 : decode cX4_verse 53 = .ok (.ireturn, 1) := by decide +kernel
theorem dX4_verse_54 : decode cX4_verse 54 = .ok (.aload_n 0, 1) := by decide +kernel
theorem dX4_verse_55 : decode cX4_verse 55 = .ok (.getfield 31, 3) := by decide +kernel
theorem dX4_verse_58 : decode cX4_verse 58 = .ok (.aload_n 0, 1) := by decide +kernel
theorem dX4_verse_59 : decode cX4_verse 59 = .ok (.getfield 19, 3) := by decide +kernel
theorem dX4_verse_62 : decode cX4_verse 62 = .ok (.getfield 62, 3) := by decide +kernel
theorem dX4_verse_65 : decode cX4_verse 65 = .ok (.getfield 88, 3) := by decide +kernel
theorem dX4_verse_68 : decode cX4_verse 68 = .ok (.iload_n 3, 1) := by decide +kernel
theorem dX4_verse_69 : decode cX4_verse 69 = .ok (.invokevirtual 101, 3) := by decide +kernel
theorem dX4_verse_72 : decode cX4_verse 72 = .ok (.ireturn, 1) := by decide +kernel
theorem dX4_verse_73 : decode cX4_verse 73 = .ok (.aload_n 0, 1) := by decide +kernel
theorem dX4_verse_74 : decode cX4_verse 74 = .ok (.getfield 31, 3) := by decide +kernel
theorem dX4_verse_77 : decode cX4_verse 77 = .ok (.iload_n 3, 1) := by decide +kernel
theorem dX4_verse_78 : decode cX4_verse 78 = .ok (.invokevirtual 105, 3) := by decide +kernel
theorem dX4_verse_81 : decode cX4_verse 81 = .ok (.ireturn, 1) := by decide +kernel
theorem dX4_verse_82 : decode cX4_verse 82 = .ok (.bipush (-102), 2) := by decide +kernel
theorem dX4_verse_84 : decode cX4_verse 84 = .ok (.ireturn, 1) := by decide +kernel
theorem dX4_say_0 : decode cX4_say 0 = .ok (.aload_n 0, 1) := by decide +kernel
theorem dX4_say_1 : decode cX4_say 1 = .ok (.getfield 19, 3) := by decide +kernel
theorem dX4_say_4 : decode cX4_say 4 = .ok (.iload_n 1, 1) := by decide +kernel
theorem dX4_say_5 : decode cX4_say 5 = .ok (.invokevirtual 94, 3) := by decide +kernel
theorem dX4_say_8 : decode cX4_say 8 = .ok (.ifCond .ne 6, 3) := by decide +kernel
theorem dX4_say_11 : decode cX4_say 11 = .ok (.bipush (-101), 2) := by decide +kernel
theorem dX4_say_13 : decode cX4_say 13 = .ok (.ireturn, 1) := by decide +kernel
theorem dX4_say_14 : decode cX4_say 14 = .ok (.aload_n 0, 1) := by decide +kernel
theorem dX4_say_15 : decode cX4_say 15 = .ok (.getfield 19, 3) := by decide +kernel
theorem dX4_say_18 : decode cX4_say 18 = .ok (.getfield 62, 3) := by decide +kernel
theorem dX4_say_21 : decode cX4_say 21 = .ok (.invokevirtual 108, 3) := by decide +kernel
theorem dX4_say_24 : decode cX4_say 24 = .ok (.ifCond .ne 6, 3) := by decide +kernel
theorem dX4_say_27 : decode cX4_say 27 = .ok (.bipush (-103), 2) := by decide +kernel
theorem dX4_say_29 : decode cX4_say 29 = .ok (.ireturn, 1) := by decide +kernel
theorem dX4_say_30 : decode cX4_say 30 = .ok (.aload_n 0, 1) := by decide +kernel
theorem dX4_say_31 : decode cX4_say 31 = .ok (.getfield 19, 3) := by decide +kernel
theorem dX4_say_34 : decode cX4_say 34 = .ok (.getfield 111, 3) := by decide +kernel
theorem dX4_say_37 : decode cX4_say 37 = .ok (.sipush 999, 3) := by decide +kernel
theorem dX4_say_40 : decode cX4_say 40 = .ok (.if_icmp .lt 6, 3) := by decide +kernel
theorem dX4_say_43 : decode cX4_say 43 = .ok (.bipush (-104), 2) := by decide +kernel
theorem dX4_say_45 : decode cX4_say 45 = .ok (.ireturn, 1) := by decide +kernel
theorem dX4_say_46 : decode cX4_say 46 = .ok (.aload_n 0, 1) := by decide +kernel
theorem dX4_say_47 : decode cX4_say 47 = .ok (.getfield 19, 3) := by decide +kernel
theorem dX4_say_50 : decode cX4_say 50 = .ok (.dup, 1) := by decide +kernel
theorem dX4_say_51 : decode cX4_say 51 = .ok (.getfield 111, 3) := by decide +kernel
theorem dX4_say_54 : decode cX4_say 54 = .ok (.iconst 1, 1) := by decide +kernel
theorem dX4_say_55 : decode cX4_say 55 = .ok (.iadd, 1) := by decide +kernel
theorem dX4_say_56 : decode cX4_say 56 = .ok (.putfield 111, 3) := by decide +kernel
theorem dX4_say_59 : decode cX4_say 59 = .ok (.aload_n 0, 1) := by decide +kernel
theorem dX4_say_60 : decode cX4_say 60 = .ok (.getfield 19, 3) := by decide +kernel
theorem dX4_say_63 : decode cX4_say 63 = .ok (.getfield 62, 3) := by decide +kernel
theorem dX4_say_66 : decode cX4_say 66 = .ok (.aload_n 0, 1) := by decide +kernel
theorem dX4_say_67 : decode cX4_say 67 = .ok (.getfield 19, 3) := by decide +kernel
theorem dX4_say_70 : decode cX4_say 70 = .ok (.getfield 97, 3) := by decide +kernel
theorem dX4_say_73 : decode cX4_say 73 = .ok (.iload_n 1, 1) := by decide +kernel
theorem dX4_say_74 : decode cX4_say 74 = .ok (.iaload, 1) := by decide +kernel
theorem dX4_say_75 : decode cX4_say 75 = .ok (.invokevirtual 114, 3) := by decide +kernel
theorem dX4_say_78 : decode cX4_say 78 = .ok (.ireturn, 1) := by decide +kernel
theorem dX4_back_0 : decode cX4_back 0 = .ok (.aload_n 0, 1) := by decide +kernel
theorem dX4_back_1 : decode cX4_back 1 = .ok (.getfield 19, 3) := by decide +kernel
theorem dX4_back_4 : decode cX4_back 4 = .ok (.iload_n 1, 1) := by decide +kernel
theorem dX4_back_5 : decode cX4_back 5 = .ok (.invokevirtual 69, 3) := by decide +kernel
theorem dX4_back_8 : decode cX4_back 8 = .ok (.ifCond .ne 6, 3) := by decide +kernel
theorem dX4_back_11 : decode cX4_back 11 = .ok (.bipush (-101), 2) := by decide +kernel
theorem dX4_back_13 : decode cX4_back 13 = .ok (.ireturn, 1) := by decide +kernel
theorem dX4_back_14 : decode cX4_back 14 = .ok (.aload_n 0, 1) := by decide +kernel
theorem dX4_back_15 : decode cX4_back 15 = .ok (.getfield 19, 3) := by decide +kernel
theorem dX4_back_18 : decode cX4_back 18 = .ok (.getfield 62, 3) := by decide +kernel
theorem dX4_back_21 : decode cX4_back 21 = .ok (.iload_n 1, 1) := by decide +kernel
theorem dX4_back_22 : decode cX4_back 22 = .ok (.invokevirtual 76, 3) := by decide +kernel
theorem dX4_back_25 : decode cX4_back 25 = .ok (.ifCond .eq 6, 3) := by decide +kernel
theorem dX4_back_28 : decode cX4_back 28 = .ok (.bipush (-103), 2) := by decide +kernel
theorem dX4_back_30 : decode cX4_back 30 = .ok (.ireturn, 1) := by decide +kernel
theorem dX4_back_31 : decode cX4_back 31 = .ok (.aload_n 0, 1) := by decide +kernel
theorem dX4_back_32 : decode cX4_back 32 = .ok (.getfield 19, 3) := by decide +kernel
theorem dX4_back_35 : decode cX4_back 35 = .ok (.getfield 62, 3) := by decide +kernel
theorem dX4_back_38 : decode cX4_back 38 = .ok (.dup, 1) := by decide +kernel
theorem dX4_back_39 : decode cX4_back 39 = .ok (.getfield 117, 3) := by decide +kernel
theorem dX4_back_42 : decode cX4_back 42 = .ok (.iconst 1, 1) := by decide +kernel
theorem dX4_back_43 : decode cX4_back 43 = .ok (.iload_n 1, 1) := by decide +kernel
theorem dX4_back_44 : decode cX4_back 44 = .ok (.ishl, 1) := by decide +kernel
theorem dX4_back_45 : decode cX4_back 45 = .ok (.ior, 1) := by decide +kernel
theorem dX4_back_46 : decode cX4_back 46 = .ok (.putfield 117, 3) := by decide +kernel
theorem dX4_back_49 : decode cX4_back 49 = .ok (.aload_n 0, 1) := by decide +kernel
theorem dX4_back_50 : decode cX4_back 50 = .ok (.getfield 19, 3) := by decide +kernel
theorem dX4_back_53 : decode cX4_back 53 = .ok (.getfield 62, 3) := by decide +kernel
theorem dX4_back_56 : decode cX4_back 56 = .ok (.invokevirtual 120, 3) := by decide +kernel
theorem dX4_back_59 : decode cX4_back 59 = .ok (.ireturn, 1) := by decide +kernel
theorem dX4_first_0 : decode cX4_first 0 = .ok (.aload_n 0, 1) := by decide +kernel
theorem dX4_first_1 : decode cX4_first 1 = .ok (.getfield 19, 3) := by decide +kernel
theorem dX4_first_4 : decode cX4_first 4 = .ok (.iload_n 1, 1) := by decide +kernel
theorem dX4_first_5 : decode cX4_first 5 = .ok (.invokevirtual 69, 3) := by decide +kernel
theorem dX4_first_8 : decode cX4_first 8 = .ok (.ifCond .ne 6, 3) := by decide +kernel
theorem dX4_first_11 : decode cX4_first 11 = .ok (.bipush (-101), 2) := by decide +kernel
theorem dX4_first_13 : decode cX4_first 13 = .ok (.ireturn, 1) := by decide +kernel
theorem dX4_first_14 : decode cX4_first 14 = .ok (.aload_n 0, 1) := by decide +kernel
theorem dX4_first_15 : decode cX4_first 15 = .ok (.getfield 19, 3) := by decide +kernel
theorem dX4_first_18 : decode cX4_first 18 = .ok (.getfield 62, 3) := by decide +kernel
theorem dX4_first_21 : decode cX4_first 21 = .ok (.getfield 88, 3) := by decide +kernel
theorem dX4_first_24 : decode cX4_first 24 = .ok (.istore_n 2, 1) := by decide +kernel
theorem dX4_first_25 : decode cX4_first 25 = .ok (.aload_n 0, 1) := by decide +kernel
theorem dX4_first_26 : decode cX4_first 26 = .ok (.getfield 19, 3) := by decide +kernel
theorem dX4_first_29 : decode cX4_first 29 = .ok (.getfield 62, 3) := by decide +kernel
theorem dX4_first_32 : decode cX4_first 32 = .ok (.iload_n 1, 1) := by decide +kernel
theorem dX4_first_33 : decode cX4_first 33 = .ok (.putfield 88, 3) := by decide +kernel
theorem dX4_first_36 : decode cX4_first 36 = .ok (.iload_n 2, 1) := by decide +kernel
theorem dX4_first_37 : decode cX4_first 37 = .ok (.ireturn, 1) := by decide +kernel
theorem dX4_turn_0 : decode cX4_turn 0 = .ok (.aload_n 0, 1) := by decide +kernel
theorem dX4_turn_1 : decode cX4_turn 1 = .ok (.getfield 19, 3) := by decide +kernel
theorem dX4_turn_4 : decode cX4_turn 4 = .ok (.invokevirtual 123, 3) := by decide +kernel
theorem dX4_turn_7 : decode cX4_turn 7 = .ok (.ifCond .ne 6, 3) := by decide +kernel
theorem dX4_turn_10 : decode cX4_turn 10 = .ok (.bipush (-103), 2) := by decide +kernel
theorem dX4_turn_12 : decode cX4_turn 12 = .ok (.ireturn, 1) := by decide +kernel
theorem dX4_turn_13 : decode cX4_turn 13 = .ok (.aload_n 0, 1) := by decide +kernel
theorem dX4_turn_14 : decode cX4_turn 14 = .ok (.getfield 19, 3) := by decide +kernel
theorem dX4_turn_17 : decode cX4_turn 17 = .ok (.getfield 62, 3) := by decide +kernel
theorem dX4_turn_20 : decode cX4_turn 20 = .ok (.getfield 126, 3) := by decide +kernel
theorem dX4_turn_23 : decode cX4_turn 23 = .ok (.istore_n 1, 1) := by decide +kernel
theorem dX4_turn_24 : decode cX4_turn 24 = .ok (.aload_n 0, 1) := by decide +kernel
theorem dX4_turn_25 : decode cX4_turn 25 = .ok (.getfield 19, 3) := by decide +kernel
theorem dX4_turn_28 : decode cX4_turn 28 = .ok (.getfield 62, 3) := by decide +kernel
theorem dX4_turn_31 : decode cX4_turn 31 = .ok (.iload_n 1, 1) := by decide +kernel
theorem dX4_turn_32 : decode cX4_turn 32 = .ok (.ifCond .ne 7, 3) := by decide +kernel
theorem dX4_turn_35 : decode cX4_turn 35 = .ok (.iconst 1, 1) := by decide +kernel
theorem dX4_turn_36 : decode cX4_turn 36 = .ok (.goto 4, 3) := by decide +kernel
theorem dX4_turn_39 : decode cX4_turn 39 = .ok (.iconst 0, 1) := by decide +kernel
theorem dX4_turn_40 : decode cX4_turn 40 = .ok (.putfield 126, 3) := by decide +kernel
theorem dX4_turn_43 : decode cX4_turn 43 = .ok (.iload_n 1, 1) := by decide +kernel
theorem dX4_turn_44 : decode cX4_turn 44 = .ok (.ifCond .eq 7, 3) := by decide +kernel
theorem dX4_turn_47 : decode cX4_turn 47 = .ok (.iconst 1, 1) := by decide +kernel
theorem dX4_turn_48 : decode cX4_turn 48 = .ok (.goto 4, 3) := by decide +kernel
theorem dX4_turn_51 : decode cX4_turn 51 = .ok (.iconst 0, 1) := by decide +kernel
theorem dX4_turn_52 : decode cX4_turn 52 = .ok (.ireturn, 1) := by decide +kernel
theorem dX4_beats_0 : decode cX4_beats 0 = .ok (.aload_n 0, 1) := by decide +kernel
theorem dX4_beats_1 : decode cX4_beats 1 = .ok (.getfield 19, 3) := by decide +kernel
theorem dX4_beats_4 : decode cX4_beats 4 = .ok (.iload_n 1, 1) := by decide +kernel
theorem dX4_beats_5 : decode cX4_beats 5 = .ok (.invokevirtual 94, 3) := by decide +kernel
theorem dX4_beats_8 : decode cX4_beats 8 = .ok (.ifCond .ne 6, 3) := by decide +kernel
theorem dX4_beats_11 : decode cX4_beats 11 = .ok (.bipush (-101), 2) := by decide +kernel
theorem dX4_beats_13 : decode cX4_beats 13 = .ok (.ireturn, 1) := by decide +kernel
theorem dX4_beats_14 : decode cX4_beats 14 = .ok (.iload_n 2, 1) := by decide +kernel
theorem dX4_beats_15 : decode cX4_beats 15 = .ok (.invokestatic 129, 3) := by decide +kernel
theorem dX4_beats_18 : decode cX4_beats 18 = .ok (.ifCond .ne 6, 3) := by decide +kernel
theorem dX4_beats_21 : decode cX4_beats 21 = .ok (.bipush (-102), 2) := by decide +kernel
theorem dX4_beats_23 : decode cX4_beats 23 = .ok (.ireturn, 1) := by decide +kernel
theorem dX4_beats_24 : decode cX4_beats 24 = .ok (.aload_n 0, 1) := by decide +kernel
theorem dX4_beats_25 : decode cX4_beats 25 = .ok (.getfield 19, 3) := by decide +kernel
theorem dX4_beats_28 : decode cX4_beats 28 = .ok (.getfield 97, 3) := by decide +kernel
theorem dX4_beats_31 : decode cX4_beats 31 = .ok (.iload_n 1, 1) := by decide +kernel
theorem dX4_beats_32 : decode cX4_beats 32 = .ok (.iaload, 1) := by decide +kernel
theorem dX4_beats_33 : decode cX4_beats 33 = .ok (.istore_n 3, 1) := by decide +kernel
theorem dX4_beats_34 : decode cX4_beats 34 = .ok (.aload_n 0, 1) := by decide +kernel
theorem dX4_beats_35 : decode cX4_beats 35 = .ok (.getfield 19, 3) := by decide +kernel
theorem dX4_beats_38 : decode cX4_beats 38 = .ok (.getfield 97, 3) := by decide +kernel
theorem dX4_beats_41 : decode cX4_beats 41 = .ok (.iload_n 1, 1) := by decide +kernel
theorem dX4_beats_42 : decode cX4_beats 42 = .ok (.iload_n 2, 1) := by decide +kernel
theorem dX4_beats_43 : decode cX4_beats 43 = .ok (.iastore, 1) := by decide +kernel
theorem dX4_beats_44 : decode cX4_beats 44 = .ok (.iload_n 3, 1) := by decide +kernel
theorem dX4_beats_45 : decode cX4_beats 45 = .ok (.ireturn, 1) := by decide +kernel
theorem dX4_be_0 : decode cX4_be 0 = .ok (.aload_n 0, 1) := by decide +kernel
theorem dX4_be_1 : decode cX4_be 1 = .ok (.getfield 19, 3) := by decide +kernel
theorem dX4_be_4 : decode cX4_be 4 = .ok (.iload_n 1, 1) := by decide +kernel
theorem dX4_be_5 : decode cX4_be 5 = .ok (.invokevirtual 69, 3) := by decide +kernel
theorem dX4_be_8 : decode cX4_be 8 = .ok (.ifCond .ne 6, 3) := by decide +kernel
theorem dX4_be_11 : decode cX4_be 11 = .ok (.bipush (-101), 2) := by decide +kernel
theorem dX4_be_13 : decode cX4_be 13 = .ok (.ireturn, 1) := by decide +kernel
theorem dX4_be_14 : decode cX4_be 14 = .ok (.iload_n 2, 1) := by decide +kernel
theorem dX4_be_15 : decode cX4_be 15 = .ok (.invokestatic 91, 3) := by decide +kernel
theorem dX4_be_18 : decode cX4_be 18 = .ok (.ifCond .ne 6, 3) := by decide +kernel
theorem dX4_be_21 : decode cX4_be 21 = .ok (.bipush (-102), 2) := by decide +kernel
theorem dX4_be_23 : decode cX4_be 23 = .ok (.ireturn, 1) := by decide +kernel
theorem dX4_be_24 : decode cX4_be 24 = .ok (.aload_n 0, 1) := by decide +kernel
theorem dX4_be_25 : decode cX4_be 25 = .ok (.getfield 19, 3) := by decide +kernel
theorem dX4_be_28 : decode cX4_be 28 = .ok (.getfield 62, 3) := by decide +kernel
theorem dX4_be_31 : decode cX4_be 31 = .ok (.iload_n 1, 1) := by decide +kernel
theorem dX4_be_32 : decode cX4_be 32 = .ok (.invokevirtual 72, 3) := by decide +kernel
theorem dX4_be_35 : decode cX4_be 35 = .ok (.istore_n 3, 1) := by decide +kernel
theorem dX4_be_36 : decode cX4_be 36 = .ok (.aload_n 0, 1) := by decide +kernel
theorem dX4_be_37 : decode cX4_be 37 = .ok (.getfield 19, 3) := by decide +kernel
theorem dX4_be_40 : decode cX4_be 40 = .ok (.getfield 62, 3) := by decide +kernel
theorem dX4_be_43 : decode cX4_be 43 = .ok (.iload_n 1, 1) := by decide +kernel
theorem dX4_be_44 : decode cX4_be 44 = .ok (.iload_n 2, 1) := by decide +kernel
theorem dX4_be_45 : decode cX4_be 45 = .ok (.invokevirtual 132, 3) := by decide +kernel
theorem dX4_be_48 : decode cX4_be 48 = .ok (.iload_n 3, 1) := by decide +kernel
theorem dX4_be_49 : decode cX4_be 49 = .ok (.ireturn, 1) := by decide +kernel
theorem dX4_last_0 : decode cX4_last 0 = .ok (.iload_n 1, 1) := by decide +kernel
theorem dX4_last_1 : decode cX4_last 1 = .ok (.invokestatic 129, 3) := by decide +kernel
theorem dX4_last_4 : decode cX4_last 4 = .ok (.ifCond .ne 6, 3) := by decide +kernel
theorem dX4_last_7 : decode cX4_last 7 = .ok (.bipush (-102), 2) := by decide +kernel
theorem dX4_last_9 : decode cX4_last 9 = .ok (.ireturn, 1) := by decide +kernel
theorem dX4_last_10 : decode cX4_last 10 = .ok (.aload_n 0, 1) := by decide +kernel
theorem dX4_last_11 : decode cX4_last 11 = .ok (.getfield 19, 3) := by decide +kernel
theorem dX4_last_14 : decode cX4_last 14 = .ok (.invokevirtual 123, 3) := by decide +kernel
theorem dX4_last_17 : decode cX4_last 17 = .ok (.ifCond .eq 14, 3) := by decide +kernel
theorem dX4_last_20 : decode cX4_last 20 = .ok (.aload_n 0, 1) := by decide +kernel
theorem dX4_last_21 : decode cX4_last 21 = .ok (.getfield 31, 3) := by decide +kernel
theorem dX4_last_24 : decode cX4_last 24 = .ok (.iload_n 1, 1) := by decide +kernel
theorem dX4_last_25 : decode cX4_last 25 = .ok (.invokevirtual 105, 3) := by decide +kernel
theorem dX4_last_28 : decode cX4_last 28 = .ok (.goto 5, 3) := by decide +kernel
theorem dX4_last_31 : decode cX4_last 31 = .ok (.bipush (-103), 2) := by decide +kernel
theorem dX4_last_33 : decode cX4_last 33 = .ok (.ireturn, 1) := by decide +kernel
theorem dX4_begin_0 : decode cX4_begin 0 = .ok (.aload_n 0, 1) := by decide +kernel
theorem dX4_begin_1 : decode cX4_begin 1 = .ok (.getfield 19, 3) := by decide +kernel
theorem dX4_begin_4 : decode cX4_begin 4 = .ok (.iload_n 1, 1) := by decide +kernel
theorem dX4_begin_5 : decode cX4_begin 5 = .ok (.invokevirtual 69, 3) := by decide +kernel
theorem dX4_begin_8 : decode cX4_begin 8 = .ok (.ifCond .ne 6, 3) := by decide +kernel
theorem dX4_begin_11 : decode cX4_begin 11 = .ok (.bipush (-101), 2) := by decide +kernel
theorem dX4_begin_13 : decode cX4_begin 13 = .ok (.ireturn, 1) := by decide +kernel
theorem dX4_begin_14 : decode cX4_begin 14 = .ok (.iload_n 2, 1) := by decide +kernel
theorem dX4_begin_15 : decode cX4_begin 15 = .ok (.invokestatic 129, 3) := by decide +kernel
theorem dX4_begin_18 : decode cX4_begin 18 = .ok (.ifCond .eq 15, 3) := by decide +kernel
theorem dX4_begin_21 : decode cX4_begin 21 = .ok (.aload_n 0, 1) := by decide +kernel
theorem dX4_begin_22 : decode cX4_begin 22 = .ok (.getfield 31, 3) := by decide +kernel
theorem dX4_begin_25 : decode cX4_begin 25 = .ok (.iload_n 1, 1) := by decide +kernel
theorem dX4_begin_26 : decode cX4_begin 26 = .ok (.iload_n 2, 1) := by decide +kernel
theorem dX4_begin_27 : decode cX4_begin 27 = .ok (.invokevirtual 136, 3) := by decide +kernel
theorem dX4_begin_30 : decode cX4_begin 30 = .ok (.goto 5, 3) := by decide +kernel
theorem dX4_begin_33 : decode cX4_begin 33 = .ok (.bipush (-102), 2) := by decide +kernel
theorem dX4_begin_35 : decode cX4_begin 35 = .ok (.ireturn, 1) := by decide +kernel
theorem dX4_stand_0 : decode cX4_stand 0 = .ok (.iload_n 1, 1) := by decide +kernel
theorem dX4_stand_1 : decode cX4_stand 1 = .ok (.invokestatic 91, 3) := by decide +kernel
theorem dX4_stand_4 : decode cX4_stand 4 = .ok (.ifCond .eq 10, 3) := by decide +kernel
theorem dX4_stand_7 : decode cX4_stand 7 = .ok (.iload_n 2, 1) := by decide +kernel
theorem dX4_stand_8 : decode cX4_stand 8 = .ok (.invokestatic 129, 3) := by decide +kernel
theorem dX4_stand_11 : decode cX4_stand 11 = .ok (.ifCond .ne 6, 3) := by decide +kernel
theorem dX4_stand_14 : decode cX4_stand 14 = .ok (.bipush (-102), 2) := by decide +kernel
theorem dX4_stand_16 : decode cX4_stand 16 = .ok (.ireturn, 1) := by decide +kernel
theorem dX4_stand_17 : decode cX4_stand 17 = .ok (.aload_n 0, 1) := by decide +kernel
theorem dX4_stand_18 : decode cX4_stand 18 = .ok (.getfield 19, 3) := by decide +kernel
theorem dX4_stand_21 : decode cX4_stand 21 = .ok (.invokevirtual 123, 3) := by decide +kernel
theorem dX4_stand_24 : decode cX4_stand 24 = .ok (.ifCond .eq 15, 3) := by decide +kernel
theorem dX4_stand_27 : decode cX4_stand 27 = .ok (.aload_n 0, 1) := by decide +kernel
theorem dX4_stand_28 : decode cX4_stand 28 = .ok (.getfield 31, 3) := by decide +kernel
theorem dX4_stand_31 : decode cX4_stand 31 = .ok (.iload_n 1, 1) := by decide +kernel
theorem dX4_stand_32 : decode cX4_stand 32 = .ok (.iload_n 2, 1) := by decide +kernel
theorem dX4_stand_33 : decode cX4_stand 33 = .ok (.invokevirtual 139, 3) := by decide +kernel
theorem dX4_stand_36 : decode cX4_stand 36 = .ok (.goto 5, 3) := by decide +kernel
theorem dX4_stand_39 : decode cX4_stand 39 = .ok (.bipush (-103), 2) := by decide +kernel
theorem dX4_stand_41 : decode cX4_stand 41 = .ok (.ireturn, 1) := by decide +kernel
theorem dX4_game_0 : decode cX4_game 0 = .ok (.aload_n 0, 1) := by decide +kernel
theorem dX4_game_1 : decode cX4_game 1 = .ok (.getfield 19, 3) := by decide +kernel
theorem dX4_game_4 : decode cX4_game 4 = .ok (.iload_n 1, 1) := by decide +kernel
theorem dX4_game_5 : decode cX4_game 5 = .ok (.invokevirtual 69, 3) := by decide +kernel
theorem dX4_game_8 : decode cX4_game 8 = .ok (.ifCond .eq 19, 3) := by decide +kernel
theorem dX4_game_11 : decode cX4_game 11 = .ok (.aload_n 0, 1) := by decide +kernel
theorem dX4_game_12 : decode cX4_game 12 = .ok (.getfield 19, 3) := by decide +kernel
theorem dX4_game_15 : decode cX4_game 15 = .ok (.iload_n 2, 1) := by decide +kernel
theorem dX4_game_16 : decode cX4_game 16 = .ok (.invokevirtual 69, 3) := by decide +kernel
theorem dX4_game_19 : decode cX4_game 19 = .ok (.ifCond .eq 8, 3) := by decide +kernel
theorem dX4_game_22 : decode cX4_game 22 = .ok (.iload_n 1, 1) := by decide +kernel
theorem dX4_game_23 : decode cX4_game 23 = .ok (.iload_n 2, 1) := by decide +kernel
theorem dX4_game_24 : decode cX4_game 24 = .ok (.if_icmp .ne 6, 3) := by decide +kernel
theorem dX4_game_27 : decode cX4_game 27 = .ok (.bipush (-101), 2) := by decide +kernel
theorem dX4_game_29 : decode cX4_game 29 = .ok (.ireturn, 1) := by decide +kernel
theorem dX4_game_30 : decode cX4_game 30 = .ok (.iload_n 3, 1) := by decide +kernel
theorem dX4_game_31 : decode cX4_game 31 = .ok (.ifCond .lt 8, 3) := by decide +kernel
