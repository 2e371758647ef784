theorem dX0_init_0 : decode cX0_init 0 = .ok (.aload_n 0, 1) := by decide +kernel
theorem dX0_init_1 : decode cX0_init 1 = .ok (.invokespecial 3, 3) := by decide +kernel
theorem dX0_init_4 : decode cX0_init 4 = .ok (.aload_n 0, 1) := by decide +kernel
theorem dX0_init_5 : decode cX0_init 5 = .ok (.bipush 7, 2) := by decide +kernel
theorem dX0_init_7 : decode cX0_init 7 = .ok (.newarray .int, 2) := by decide +kernel
theorem dX0_init_9 : decode cX0_init 9 = .ok (.putfield 9, 3) := by decide +kernel
theorem dX0_init_12 : decode cX0_init 12 = .ok (.aload_n 0, 1) := by decide +kernel
theorem dX0_init_13 : decode cX0_init 13 = .ok (.bipush 7, 2) := by decide +kernel
theorem dX0_init_15 : decode cX0_init 15 = .ok (.newarray .int, 2) := by decide +kernel
theorem dX0_init_17 : decode cX0_init 17 = .ok (.putfield 15, 3) := by decide +kernel
theorem dX0_init_20 : decode cX0_init 20 = .ok (.aload_n 0, 1) := by decide +kernel
theorem dX0_init_21 : decode cX0_init 21 = .ok (.bipush 7, 2) := by decide +kernel
theorem dX0_init_23 : decode cX0_init 23 = .ok (.newarray .int, 2) := by decide +kernel
theorem dX0_init_25 : decode cX0_init 25 = .ok (.putfield 18, 3) := by decide +kernel
theorem dX0_init_28 : decode cX0_init 28 = .ok (.aload_n 0, 1) := by decide +kernel
theorem dX0_init_29 : decode cX0_init 29 = .ok (.bipush 6, 2) := by decide +kernel
theorem dX0_init_31 : decode cX0_init 31 = .ok (.newarray .int, 2) := by decide +kernel
theorem dX0_init_33 : decode cX0_init 33 = .ok (.putfield 21, 3) := by decide +kernel
theorem dX0_init_36 : decode cX0_init 36 = .ok (.return_, 1) := by decide +kernel
theorem dX0_clear_0 : decode cX0_clear 0 = .ok (.aload_n 0, 1) := by decide +kernel
theorem dX0_clear_1 : decode cX0_clear 1 = .ok (.iconst 0, 1) := by decide +kernel
theorem dX0_clear_2 : decode cX0_clear 2 = .ok (.putfield 24, 3) := by decide +kernel
theorem dX0_clear_5 : decode cX0_clear 5 = .ok (.aload_n 0, 1) := by decide +kernel
theorem dX0_clear_6 : decode cX0_clear 6 = .ok (.iconst 0, 1) := by decide +kernel
theorem dX0_clear_7 : decode cX0_clear 7 = .ok (.putfield 28, 3) := by decide +kernel
theorem dX0_clear_10 : decode cX0_clear 10 = .ok (.aload_n 0, 1) := by decide +kernel
theorem dX0_clear_11 : decode cX0_clear 11 = .ok (.iconst 0, 1) := by decide +kernel
theorem dX0_clear_12 : decode cX0_clear 12 = .ok (.putfield 31, 3) := by decide +kernel
theorem dX0_clear_15 : decode cX0_clear 15 = .ok (.aload_n 0, 1) := by decide +kernel
theorem dX0_clear_16 : decode cX0_clear 16 = .ok (.iconst 0, 1) := by decide +kernel
theorem dX0_clear_17 : decode cX0_clear 17 = .ok (.putfield 34, 3) := by decide +kernel
theorem dX0_clear_20 : decode cX0_clear 20 = .ok (.aload_n 0, 1) := by decide +kernel
theorem dX0_clear_21 : decode cX0_clear 21 = .ok (.ldc 37, 2) := by decide +kernel
theorem dX0_clear_23 : decode cX0_clear 23 = .ok (.putfield 38, 3) := by decide +kernel
theorem dX0_clear_26 : decode cX0_clear 26 = .ok (.return_, 1) := by decide +kernel
theorem dX0_become_0 : decode cX0_become 0 = .ok (.aload_n 0, 1) := by decide +kernel
theorem dX0_become_1 : decode cX0_become 1 = .ok (.aload_n 1, 1) := by decide +kernel
theorem dX0_become_2 : decode cX0_become 2 = .ok (.getfield 24, 3) := by decide +kernel
theorem dX0_become_5 : decode cX0_become 5 = .ok (.putfield 24, 3) := by decide +kernel
theorem dX0_become_8 : decode cX0_become 8 = .ok (.aload_n 0, 1) := by decide +kernel
theorem dX0_become_9 : decode cX0_become 9 = .ok (.aload_n 1, 1) := by decide +kernel
theorem dX0_become_10 : decode cX0_become 10 = .ok (.getfield 28, 3) := by decide +kernel
theorem dX0_become_13 : decode cX0_become 13 = .ok (.putfield 28, 3) := by decide +kernel
theorem dX0_become_16 : decode cX0_become 16 = .ok (.aload_n 0, 1) := by decide +kernel
theorem dX0_become_17 : decode cX0_become 17 = .ok (.aload_n 1, 1) := by decide +kernel
theorem dX0_become_18 : decode cX0_become 18 = .ok (.getfield 31, 3) := by decide +kernel
theorem dX0_become_21 : decode cX0_become 21 = .ok (.putfield 31, 3) := by decide +kernel
theorem dX0_become_24 : decode cX0_become 24 = .ok (.aload_n 0, 1) := by decide +kernel
theorem dX0_become_25 : decode cX0_become 25 = .ok (.aload_n 1, 1) := by decide +kernel
theorem dX0_become_26 : decode cX0_become 26 = .ok (.getfield 34, 3) := by decide +kernel
theorem dX0_become_29 : decode cX0_become 29 = .ok (.putfield 34, 3) := by decide +kernel
theorem dX0_become_32 : decode cX0_become 32 = .ok (.aload_n 0, 1) := by decide +kernel
theorem dX0_become_33 : decode cX0_become 33 = .ok (.aload_n 1, 1) := by decide +kernel
theorem dX0_become_34 : decode cX0_become 34 = .ok (.getfield 38, 3) := by decide +kernel
theorem dX0_become_37 : decode cX0_become 37 = .ok (.putfield 38, 3) := by decide +kernel
theorem dX0_become_40 : decode cX0_become 40 = .ok (.aload_n 1, 1) := by decide +kernel
theorem dX0_become_41 : decode cX0_become 41 = .ok (.getfield 9, 3) := by decide +kernel
theorem dX0_become_44 : decode cX0_become 44 = .ok (.iconst 0, 1) := by decide +kernel
theorem dX0_become_45 : decode cX0_become 45 = .ok (.aload_n 0, 1) := by decide +kernel
theorem dX0_become_46 : decode cX0_become 46 = .ok (.getfield 9, 3) := by decide +kernel
theorem dX0_become_49 : decode cX0_become 49 = .ok (.iconst 0, 1) := by decide +kernel
theorem dX0_become_50 : decode cX0_become 50 = .ok (.bipush 7, 2) := by decide +kernel
theorem dX0_become_52 : decode cX0_become 52 = .ok (.invokestatic 41, 3) := by decide +kernel
theorem dX0_become_55 : decode cX0_become 55 = .ok (.aload_n 1, 1) := by decide +kernel
theorem dX0_become_56 : decode cX0_become 56 = .ok (.getfield 15, 3) := by decide +kernel
theorem dX0_become_59 : decode cX0_become 59 = .ok (.iconst 0, 1) := by decide +kernel
theorem dX0_become_60 : decode cX0_become 60 = .ok (.aload_n 0, 1) := by decide +kernel
theorem dX0_become_61 : decode cX0_become 61 = .ok (.getfield 15, 3) := by decide +kernel
theorem dX0_become_64 : decode cX0_become 64 = .ok (.iconst 0, 1) := by decide +kernel
theorem dX0_become_65 : decode cX0_become 65 = .ok (.bipush 7, 2) := by decide +kernel
theorem dX0_become_67 : decode cX0_become 67 = .ok (.invokestatic 41, 3) := by decide +kernel
theorem dX0_become_70 : decode cX0_become 70 = .ok (.aload_n 1, 1) := by decide +kernel
theorem dX0_become_71 : decode cX0_become 71 = .ok (.getfield 18, 3) := by decide +kernel
theorem dX0_become_74 : decode cX0_become 74 = .ok (.iconst 0, 1) := by decide +kernel
theorem dX0_become_75 : decode cX0_become 75 = .ok (.aload_n 0, 1) := by decide +kernel
theorem dX0_become_76 : decode cX0_become 76 = .ok (.getfield 18, 3) := by decide +kernel
theorem dX0_become_79 : decode cX0_become 79 = .ok (.iconst 0, 1) := by decide +kernel
theorem dX0_become_80 : decode cX0_become 80 = .ok (.bipush 7, 2) := by decide +kernel
theorem dX0_become_82 : decode cX0_become 82 = .ok (.invokestatic 41, 3) := by decide +kernel
theorem dX0_become_85 : decode cX0_become 85 = .ok (.aload_n 1, 1) := by decide +kernel
theorem dX0_become_86 : decode cX0_become 86 = .ok (.getfield 21, 3) := by decide +kernel
theorem dX0_become_89 : decode cX0_become 89 = .ok (.iconst 0, 1) := by decide +kernel
theorem dX0_become_90 : decode cX0_become 90 = .ok (.aload_n 0, 1) := by decide +kernel
theorem dX0_become_91 : decode cX0_become 91 = .ok (.getfield 21, 3) := by decide +kernel
theorem dX0_become_94 : decode cX0_become 94 = .ok (.iconst 0, 1) := by decide +kernel
theorem dX0_become_95 : decode cX0_become 95 = .ok (.bipush 6, 2) := by decide +kernel
theorem dX0_become_97 : decode cX0_become 97 = .ok (.invokestatic 41, 3) := by decide +kernel
theorem dX0_become_100 : decode cX0_become 100 = .ok (.return_, 1) := by decide +kernel
theorem dX0_all_0 : decode cX0_all 0 = .ok (.iconst 1, 1) := by decide +kernel
theorem dX0_all_1 : decode cX0_all 1 = .ok (.aload_n 0, 1) := by decide +kernel
theorem dX0_all_2 : decode cX0_all 2 = .ok (.getfield 24, 3) := by decide +kernel
theorem dX0_all_5 : decode cX0_all 5 = .ok (.ishl, 1) := by decide +kernel
theorem dX0_all_6 : decode cX0_all 6 = .ok (.iconst 1, 1) := by decide +kernel
theorem dX0_all_7 : decode cX0_all 7 = .ok (.isub, 1) := by decide +kernel
theorem dX0_all_8 : decode cX0_all 8 = .ok (.ireturn, 1) := by decide +kernel
theorem dX0_left_0 : decode cX0_left 0 = .ok (.aload_n 0, 1) := by decide +kernel
theorem dX0_left_1 : decode cX0_left 1 = .ok (.invokevirtual 47, 3) := by decide +kernel
theorem dX0_left_4 : decode cX0_left 4 = .ok (.aload_n 0, 1) := by decide +kernel
theorem dX0_left_5 : decode cX0_left 5 = .ok (.getfield 31, 3) := by decide +kernel
theorem dX0_left_8 : decode cX0_left 8 = .ok (.iconst (-1), 1) := by decide +kernel
theorem dX0_left_9 : decode cX0_left 9 = .ok (.ixor, 1) := by decide +kernel
theorem dX0_left_10 : decode cX0_left 10 = .ok (.iand, 1) := by decide +kernel
theorem dX0_left_11 : decode cX0_left 11 = .ok (.ireturn, 1) := by decide +kernel
theorem dX0_sideOf_0 : decode cX0_sideOf 0 = .ok (.aload_n 0, 1) := by decide +kernel
theorem dX0_sideOf_1 : decode cX0_sideOf 1 = .ok (.getfield 31, 3) := by decide +kernel
theorem dX0_sideOf_4 : decode cX0_sideOf 4 = .ok (.iload_n 1, 1) := by decide +kernel
theorem dX0_sideOf_5 : decode cX0_sideOf 5 = .ok (.ishr, 1) := by decide +kernel
theorem dX0_sideOf_6 : decode cX0_sideOf 6 = .ok (.iconst 1, 1) := by decide +kernel
theorem dX0_sideOf_7 : decode cX0_sideOf 7 = .ok (.iand, 1) := by decide +kernel
theorem dX0_sideOf_8 : decode cX0_sideOf 8 = .ok (.ireturn, 1) := by decide +kernel
theorem dX0_isFixed_0 : decode cX0_isFixed 0 = .ok (.aload_n 0, 1) := by decide +kernel
theorem dX0_isFixed_1 : decode cX0_isFixed 1 = .ok (.getfield 34, 3) := by decide +kernel
theorem dX0_isFixed_4 : decode cX0_isFixed 4 = .ok (.iload_n 1, 1) := by decide +kernel
theorem dX0_isFixed_5 : decode cX0_isFixed 5 = .ok (.ishr, 1) := by decide +kernel
theorem dX0_isFixed_6 : decode cX0_isFixed 6 = .ok (.iconst 1, 1) := by decide +kernel
theorem dX0_isFixed_7 : decode cX0_isFixed 7 = .ok (.iand, 1) := by decide +kernel
theorem dX0_isFixed_8 : decode cX0_isFixed 8 = .ok (.iconst 1, 1) := by decide +kernel
theorem dX0_isFixed_9 : decode cX0_isFixed 9 = .ok (.if_icmp .ne 7, 3) := by decide +kernel
theorem dX0_isFixed_12 : decode cX0_isFixed 12 = .ok (.iconst 1, 1) := by decide +kernel
theorem dX0_isFixed_13 : decode cX0_isFixed 13 = .ok (.goto 4, 3) := by decide +kernel
theorem dX0_isFixed_16 : decode cX0_isFixed 16 = .ok (.iconst 0, 1) := by decide +kernel
theorem dX0_isFixed_17 : decode cX0_isFixed 17 = .ok (.ireturn, 1) := by decide +kernel
theorem dX0_flip_0 : decode cX0_flip 0 = .ok (.aload_n 0, 1) := by decide +kernel
theorem dX0_flip_1 : decode cX0_flip 1 = .ok (.dup, 1) := by decide +kernel
theorem dX0_flip_2 : decode cX0_flip 2 = .ok (.getfield 31, 3) := by decide +kernel
theorem dX0_flip_5 : decode cX0_flip 5 = .ok (.iconst 1, 1) := by decide +kernel
theorem dX0_flip_6 : decode cX0_flip 6 = .ok (.iload_n 1, 1) := by decide +kernel
theorem dX0_flip_7 : decode cX0_flip 7 = .ok (.ishl, 1) := by decide +kernel
theorem dX0_flip_8 : decode cX0_flip 8 = .ok (.ixor, 1) := by decide +kernel
theorem dX0_flip_9 : decode cX0_flip 9 = .ok (.putfield 31, 3) := by decide +kernel
theorem dX0_flip_12 : decode cX0_flip 12 = .ok (.return_, 1) := by decide +kernel
theorem dX0_set_0 : decode cX0_set 0 = .ok (.aload_n 0, 1) := by decide +kernel
theorem dX0_set_1 : decode cX0_set 1 = .ok (.getfield 9, 3) := by decide +kernel
theorem dX0_set_4 : decode cX0_set 4 = .ok (.iload_n 1, 1) := by decide +kernel
theorem dX0_set_5 : decode cX0_set 5 = .ok (.iload_n 2, 1) := by decide +kernel
theorem dX0_set_6 : decode cX0_set 6 = .ok (.iastore, 1) := by decide +kernel
theorem dX0_set_7 : decode cX0_set 7 = .ok (.aload_n 0, 1) := by decide +kernel
theorem dX0_set_8 : decode cX0_set 8 = .ok (.getfield 15, 3) := by decide +kernel
theorem dX0_set_11 : decode cX0_set 11 = .ok (.iload_n 1, 1) := by decide +kernel
theorem dX0_set_12 : decode cX0_set 12 = .ok (.iload_n 3, 1) := by decide +kernel
theorem dX0_set_13 : decode cX0_set 13 = .ok (.iastore, 1) := by decide +kernel
theorem dX0_set_14 : decode cX0_set 14 = .ok (.iload_n 2, 1) := by decide +kernel
theorem dX0_set_15 : decode cX0_set 15 = .ok (.lookupswitch 49 #[(1, 25), (2, 37)], 25) := by decide +kernel
theorem dX0_set_40 : decode cX0_set 40 = .ok (.aload_n 0, 1) := by decide +kernel
theorem dX0_set_41 : decode cX0_set 41 = .ok (.getfield 18, 3) := by decide +kernel
theorem dX0_set_44 : decode cX0_set 44 = .ok (.iload_n 1, 1) := by decide +kernel
theorem dX0_set_45 : decode cX0_set 45 = .ok (.iload_n 3, 1) := by decide +kernel
theorem dX0_set_46 : decode cX0_set 46 = .ok (.iconst 1, 1) := by decide +kernel
theorem dX0_set_47 : decode cX0_set 47 = .ok (.iadd, 1) := by decide +kernel
theorem dX0_set_48 : decode cX0_set 48 = .ok (.iastore, 1) := by decide +kernel
theorem dX0_set_49 : decode cX0_set 49 = .ok (.goto 22, 3) := by decide +kernel
theorem dX0_set_52 : decode cX0_set 52 = .ok (.aload_n 0, 1) := by decide +kernel
theorem dX0_set_53 : decode cX0_set 53 = .ok (.getfield 18, 3) := by decide +kernel
theorem dX0_set_56 : decode cX0_set 56 = .ok (.iload_n 1, 1) := by decide +kernel
theorem dX0_set_57 : decode cX0_set 57 = .ok (.iconst 2, 1) := by decide +kernel
theorem dX0_set_58 : decode cX0_set 58 = .ok (.iload_n 3, 1) := by decide +kernel
theorem dX0_set_59 : decode cX0_set 59 = .ok (.imul, 1) := by decide +kernel
theorem dX0_set_60 : decode cX0_set 60 = .ok (.iastore, 1) := by decide +kernel
theorem dX0_set_61 : decode cX0_set 61 = .ok (.goto 10, 3) := by decide +kernel
theorem dX0_set_64 : decode cX0_set 64 = .ok (.aload_n 0, 1) := by decide +kernel
theorem dX0_set_65 : decode cX0_set 65 = .ok (.getfield 18, 3) := by decide +kernel
theorem dX0_set_68 : decode cX0_set 68 = .ok (.iload_n 1, 1) := by decide +kernel
theorem dX0_set_69 : decode cX0_set 69 = .ok (.iload_n 3, 1) := by decide +kernel
theorem dX0_set_70 : decode cX0_set 70 = .ok (.iastore, 1) := by decide +kernel
theorem dX0_set_71 : decode cX0_set 71 = .ok (.return_, 1) := by decide +kernel
theorem dX0_weightOf_0 : decode cX0_weightOf 0 = .ok (.iconst 0, 1) := by decide +kernel
theorem dX0_weightOf_1 : decode cX0_weightOf 1 = .ok (.istore_n 2, 1) := by decide +kernel
theorem dX0_weightOf_2 : decode cX0_weightOf 2 = .ok (.iconst 0, 1) := by decide +kernel
theorem dX0_weightOf_3 : decode cX0_weightOf 3 = .ok (.istore_n 3, 1) := by decide +kernel
theorem dX0_weightOf_4 : decode cX0_weightOf 4 = .ok (.iload_n 3, 1) := by decide +kernel
theorem dX0_weightOf_5 : decode cX0_weightOf 5 = .ok (.aload_n 0, 1) := by decide +kernel
theorem dX0_weightOf_6 : decode cX0_weightOf 6 = .ok (.getfield 24, 3) := by decide +kernel
theorem dX0_weightOf_9 : decode cX0_weightOf 9 = .ok (.if_icmp .ge 27, 3) := by decide +kernel
theorem dX0_weightOf_12 : decode cX0_weightOf 12 = .ok (.iload_n 1, 1) := by decide +kernel
theorem dX0_weightOf_13 : decode cX0_weightOf 13 = .ok (.iload_n 3, 1) := by decide +kernel
theorem dX0_weightOf_14 : decode cX0_weightOf 14 = .ok (.ishr, 1) := by decide +kernel
theorem dX0_weightOf_15 : decode cX0_weightOf 15 = .ok (.iconst 1, 1) := by decide +kernel
theorem dX0_weightOf_16 : decode cX0_weightOf 16 = .ok (.iand, 1) := by decide +kernel
theorem dX0_weightOf_17 : decode cX0_weightOf 17 = .ok (.iconst 1, 1) := by decide +kernel
theorem dX0_weightOf_18 : decode cX0_weightOf 18 = .ok (.if_icmp .ne 12, 3) := by decide +kernel
theorem dX0_weightOf_21 : decode cX0_weightOf 21 = .ok (.iload_n 2, 1) := by decide +kernel
theorem dX0_weightOf_22 : decode cX0_weightOf 22 = .ok (.aload_n 0, 1) := by decide +kernel
theorem dX0_weightOf_23 : decode cX0_weightOf 23 = .ok (.getfield 18, 3) := by decide +kernel
theorem dX0_weightOf_26 : decode cX0_weightOf 26 = .ok (.iload_n 3, 1) := by decide +kernel
theorem dX0_weightOf_27 : decode cX0_weightOf 27 = .ok (.iaload, 1) := by decide +kernel
theorem dX0_weightOf_28 : decode cX0_weightOf 28 = .ok (.iadd, 1) := by decide +kernel
theorem dX0_weightOf_29 : decode cX0_weightOf 29 = .ok (.istore_n 2, 1) := by decide +kernel
theorem dX0_weightOf_30 : decode cX0_weightOf 30 = .ok (.iinc 3 1, 3) := by decide +kernel
theorem dX0_weightOf_33 : decode cX0_weightOf 33 = .ok (.goto (-29), 3) := by decide +kernel
theorem dX0_weightOf_36 : decode cX0_weightOf 36 = .ok (.iload_n 2, 1) := by decide +kernel
theorem dX0_weightOf_37 : decode cX0_weightOf 37 = .ok (.ireturn, 1) := by decide +kernel
theorem dX0_shareOf_0 : decode cX0_shareOf 0 = .ok (.aload_n 0, 1) := by decide +kernel
theorem dX0_shareOf_1 : decode cX0_shareOf 1 = .ok (.iload_n 1, 1) := by decide +kernel
theorem dX0_shareOf_2 : decode cX0_shareOf 2 = .ok (.invokevirtual 51, 3) := by decide +kernel
theorem dX0_shareOf_5 : decode cX0_shareOf 5 = .ok (.aload_n 0, 1) := by decide +kernel
theorem dX0_shareOf_6 : decode cX0_shareOf 6 = .ok (.aload_n 0, 1) := by decide +kernel
theorem dX0_shareOf_7 : decode cX0_shareOf 7 = .ok (.invokevirtual 47, 3) := by decide +kernel
theorem dX0_shareOf_10 : decode cX0_shareOf 10 = .ok (.invokevirtual 51, 3) := by decide +kernel
theorem dX0_shareOf_13 : decode cX0_shareOf 13 = .ok (.invokestatic 55, 3) := by decide +kernel
theorem dX0_shareOf_16 : decode cX0_shareOf 16 = .ok (.ireturn, 1) := by decide +kernel
theorem dX0_isWithin_0 : decode cX0_isWithin 0 = .ok (.aload_n 0, 1) := by decide +kernel
theorem dX0_isWithin_1 : decode cX0_isWithin 1 = .ok (.iload_n 1, 1) := by decide +kernel
theorem dX0_isWithin_2 : decode cX0_isWithin 2 = .ok (.invokevirtual 59, 3) := by decide +kernel
theorem dX0_isWithin_5 : decode cX0_isWithin 5 = .ok (.aload_n 0, 1) := by decide +kernel
theorem dX0_isWithin_6 : decode cX0_isWithin 6 = .ok (.getfield 38, 3) := by decide +kernel
theorem dX0_isWithin_9 : decode cX0_isWithin 9 = .ok (.if_icmp .gt 7, 3) := by decide +kernel
theorem dX0_isWithin_12 : decode cX0_isWithin 12 = .ok (.iconst 1, 1) := by decide +kernel
theorem dX0_isWithin_13 : decode cX0_isWithin 13 = .ok (.goto 4, 3) := by decide +kernel
theorem dX0_isWithin_16 : decode cX0_isWithin 16 = .ok (.iconst 0, 1) := by decide +kernel
theorem dX0_isWithin_17 : decode cX0_isWithin 17 = .ok (.ireturn, 1) := by decide +kernel
theorem dX0_netsOf_0 : decode cX0_netsOf 0 = .ok (.iconst 0, 1) := by decide +kernel
theorem dX0_netsOf_1 : decode cX0_netsOf 1 = .ok (.istore_n 2, 1) := by decide +kernel
theorem dX0_netsOf_2 : decode cX0_netsOf 2 = .ok (.iconst 0, 1) := by decide +kernel
theorem dX0_netsOf_3 : decode cX0_netsOf 3 = .ok (.istore_n 3, 1) := by decide +kernel
theorem dX0_netsOf_4 : decode cX0_netsOf 4 = .ok (.iload_n 3, 1) := by decide +kernel
theorem dX0_netsOf_5 : decode cX0_netsOf 5 = .ok (.aload_n 0, 1) := by decide +kernel
theorem dX0_netsOf_6 : decode cX0_netsOf 6 = .ok (.getfield 28, 3) := by decide +kernel
theorem dX0_netsOf_9 : decode cX0_netsOf 9 = .ok (.if_icmp .ge 29, 3) := by decide +kernel
theorem dX0_netsOf_12 : decode cX0_netsOf 12 = .ok (.aload_n 0, 1) := by decide +kernel
theorem dX0_netsOf_13 : decode cX0_netsOf 13 = .ok (.getfield 21, 3) := by decide +kernel
theorem dX0_netsOf_16 : decode cX0_netsOf 16 = .ok (.iload_n 3, 1) := by decide +kernel
theorem dX0_netsOf_17 : decode cX0_netsOf 17 = .ok (.iaload, 1) := by decide +kernel
theorem dX0_netsOf_18 : decode cX0_netsOf 18 = .ok (.iload_n 1, 1) := by decide +kernel
theorem dX0_netsOf_19 : decode cX0_netsOf 19 = .ok (.ishr, 1) := by decide +kernel
theorem dX0_netsOf_20 : decode cX0_netsOf 20 = .ok (.iconst 1, 1) := by decide +kernel
theorem dX0_netsOf_21 : decode cX0_netsOf 21 = .ok (.iand, 1) := by decide +kernel
theorem dX0_netsOf_22 : decode cX0_netsOf 22 = .ok (.iconst 1, 1) := by decide +kernel
theorem dX0_netsOf_23 : decode cX0_netsOf 23 = .ok (.if_icmp .ne 9, 3) := by decide +kernel
theorem dX0_netsOf_26 : decode cX0_netsOf 26 = .ok (.iload_n 2, 1) := by decide +kernel
theorem dX0_netsOf_27 : decode cX0_netsOf 27 = .ok (.iconst 1, 1) := by decide +kernel
theorem dX0_netsOf_28 : decode cX0_netsOf 28 = .ok (.iload_n 3, 1) := by decide +kernel
theorem dX0_netsOf_29 : decode cX0_netsOf 29 = .ok (.ishl, 1) := by decide +kernel
theorem dX0_netsOf_30 : decode cX0_netsOf 30 = .ok (.ior, 1) := by decide +kernel
theorem dX0_netsOf_31 : decode cX0_netsOf 31 = .ok (.istore_n 2, 1) := by decide +kernel
theorem dX0_netsOf_32 : decode cX0_netsOf 32 = .ok (.iinc 3 1, 3) := by decide +kernel
theorem dX0_netsOf_35 : decode cX0_netsOf 35 = .ok (.goto (-31), 3) := by decide +kernel
theorem dX0_netsOf_38 : decode cX0_netsOf 38 = .ok (.iload_n 2, 1) := by decide +kernel
theorem dX0_netsOf_39 : decode cX0_netsOf 39 = .ok (.ireturn, 1) := by decide +kernel
theorem dX0_cutsBy_0 : decode cX0_cutsBy 0 = .ok (.iconst 0, 1) := by decide +kernel
theorem dX0_cutsBy_1 : decode cX0_cutsBy 1 = .ok (.istore_n 2, 1) := by decide +kernel
theorem dX0_cutsBy_2 : decode cX0_cutsBy 2 = .ok (.iconst 0, 1) := by decide +kernel
theorem dX0_cutsBy_3 : decode cX0_cutsBy 3 = .ok (.istore_n 3, 1) := by decide +kernel
theorem dX0_cutsBy_4 : decode cX0_cutsBy 4 = .ok (.iload_n 3, 1) := by decide +kernel
theorem dX0_cutsBy_5 : decode cX0_cutsBy 5 = .ok (.aload_n 0, 1) := by decide +kernel
theorem dX0_cutsBy_6 : decode cX0_cutsBy 6 = .ok (.getfield 28, 3) := by decide +kernel
theorem dX0_cutsBy_9 : decode cX0_cutsBy 9 = .ok (.if_icmp .ge 25, 3) := by decide +kernel
theorem dX0_cutsBy_12 : decode cX0_cutsBy 12 = .ok (.aload_n 0, 1) := by decide +kernel
theorem dX0_cutsBy_13 : decode cX0_cutsBy 13 = .ok (.getfield 21, 3) := by decide +kernel
theorem dX0_cutsBy_16 : decode cX0_cutsBy 16 = .ok (.iload_n 3, 1) := by decide +kernel
theorem dX0_cutsBy_17 : decode cX0_cutsBy 17 = .ok (.iaload, 1) := by decide +kernel
theorem dX0_cutsBy_18 : decode cX0_cutsBy 18 = .ok (.iload_n 1, 1) := by decide +kernel
theorem dX0_cutsBy_19 : decode cX0_cutsBy 19 = .ok (.invokestatic 62, 3) := by decide +kernel
theorem dX0_cutsBy_22 : decode cX0_cutsBy 22 = .ok (.ifCond .eq 6, 3) := by decide +kernel
theorem dX0_cutsBy_25 : decode cX0_cutsBy 25 = .ok (.iinc 2 1, 3) := by decide +kernel
theorem dX0_cutsBy_28 : decode cX0_cutsBy 28 = .ok (.iinc 3 1, 3) := by decide +kernel
theorem dX0_cutsBy_31 : decode cX0_cutsBy 31 = .ok (.goto (-27), 3) := by decide +kernel
theorem dX0_cutsBy_34 : decode cX0_cutsBy 34 = .ok (.iload_n 2, 1) := by decide +kernel
theorem dX0_cutsBy_35 : decode cX0_cutsBy 35 = .ok (.ireturn, 1) := by decide +kernel
theorem dX0_cuts_0 : decode cX0_cuts 0 = .ok (.aload_n 0, 1) := by decide +kernel
theorem dX0_cuts_1 : decode cX0_cuts 1 = .ok (.aload_n 0, 1) := by decide +kernel
theorem dX0_cuts_2 : decode cX0_cuts 2 = .ok (.getfield 31, 3) := by decide +kernel
theorem dX0_cuts_5 : decode cX0_cuts 5 = .ok (.invokevirtual 66, 3) := by decide +kernel
theorem dX0_cuts_8 : decode cX0_cuts 8 = .ok (.ireturn, 1) := by decide +kernel
theorem dX0_gain_0 : decode cX0_gain 0 = .ok (.aload_n 0, 1) := by decide +kernel
theorem dX0_gain_1 : decode cX0_gain 1 = .ok (.aload_n 0, 1) := by decide +kernel
theorem dX0_gain_2 : decode cX0_gain 2 = .ok (.getfield 31, 3) := by decide +kernel
theorem dX0_gain_5 : decode cX0_gain 5 = .ok (.invokevirtual 66, 3) := by decide +kernel
theorem dX0_gain_8 : decode cX0_gain 8 = .ok (.aload_n 0, 1) := by decide +kernel
theorem dX0_gain_9 : decode cX0_gain 9 = .ok (.aload_n 0, 1) := by decide +kernel
theorem dX0_gain_10 : decode cX0_gain 10 = .ok (.getfield 31, 3) := by decide +kernel
theorem dX0_gain_13 : decode cX0_gain 13 = .ok (.iconst 1, 1) := by decide +kernel
theorem dX0_gain_14 : decode cX0_gain 14 = .ok (.iload_n 1, 1) := by decide +kernel
theorem dX0_gain_15 : decode cX0_gain 15 = .ok (.ishl, 1) := by decide +kernel
theorem dX0_gain_16 : decode cX0_gain 16 = .ok (.ixor, 1) := by decide +kernel
theorem dX0_gain_17 : decode cX0_gain 17 = .ok (.invokevirtual 66, 3) := by decide +kernel
theorem dX0_gain_20 : decode cX0_gain 20 = .ok (.isub, 1) := by decide +kernel
theorem dX0_gain_21 : decode cX0_gain 21 = .ok (.ireturn, 1) := by decide +kernel
theorem dX0_keepsFixed_0 : decode cX0_keepsFixed 0 = .ok (.iload_n 1, 1) := by decide +kernel
theorem dX0_keepsFixed_1 : decode cX0_keepsFixed 1 = .ok (.aload_n 0, 1) := by decide +kernel
theorem dX0_keepsFixed_2 : decode cX0_keepsFixed 2 = .ok (.getfield 34, 3) := by decide +kernel
theorem dX0_keepsFixed_5 : decode cX0_keepsFixed 5 = .ok (.iand, 1) := by decide +kernel
theorem dX0_keepsFixed_6 : decode cX0_keepsFixed 6 = .ok (.aload_n 0, 1) := by decide +kernel
theorem dX0_keepsFixed_7 : decode cX0_keepsFixed 7 = .ok (.getfield 31, 3) := by decide +kernel
theorem dX0_keepsFixed_10 : decode cX0_keepsFixed 10 = .ok (.aload_n 0, 1) := by decide +kernel
theorem dX0_keepsFixed_11 : decode cX0_keepsFixed 11 = .ok (.getfield 34, 3) := by decide +kernel
theorem dX0_keepsFixed_14 : decode cX0_keepsFixed 14 = .ok (.iand, 1) := by decide +kernel
theorem dX0_keepsFixed_15 : decode cX0_keepsFixed 15 = .ok (.if_icmp .ne 7, 3) := by decide +kernel
theorem dX0_keepsFixed_18 : decode cX0_keepsFixed 18 = .ok (.iconst 1, 1) := by decide +kernel
theorem dX0_keepsFixed_19 : decode cX0_keepsFixed 19 = .ok (.goto 4, 3) := by decide +kernel
theorem dX0_keepsFixed_22 : decode cX0_keepsFixed 22 = .ok (.iconst 0, 1) := by decide +kernel
theorem dX0_keepsFixed_23 : decode cX0_keepsFixed 23 = .ok (.ireturn, 1) := by decide +kernel
theorem dX0_isWithinAfterMove_0 : decode cX0_isWithinAfterMove 0 = .ok (.aload_n 0, 1) := by decide +kernel
theorem dX0_isWithinAfterMove_1 : decode cX0_isWithinAfterMove 1 = .ok (.iload_n 1, 1) := by decide +kernel
theorem dX0_isWithinAfterMove_2 : decode cX0_isWithinAfterMove 2 = .ok (.invokevirtual 69, 3) := by decide +kernel
theorem dX0_isWithinAfterMove_5 : decode cX0_isWithinAfterMove 5 = .ok (.ifCond .ne 10, 3) := by decide +kernel
theorem dX0_isWithinAfterMove_8 : decode cX0_isWithinAfterMove 8 = .ok (.aload_n 0, 1) := by decide +kernel
theorem dX0_isWithinAfterMove_9 : decode cX0_isWithinAfterMove 9 = .ok (.getfield 31, 3) := by decide +kernel
theorem dX0_isWithinAfterMove_12 : decode cX0_isWithinAfterMove 12 = .ok (.goto 7, 3) := by decide +kernel
theorem dX0_isWithinAfterMove_15 : decode cX0_isWithinAfterMove 15 = .ok (.aload_n 0, 1) := by decide +kernel
theorem dX0_isWithinAfterMove_16 : decode cX0_isWithinAfterMove 16 = .ok (.invokevirtual 72, 3) := by decide +kernel
theorem dX0_isWithinAfterMove_19 : decode cX0_isWithinAfterMove 19 = .ok (.istore_n 2, 1) := by decide +kernel
theorem dX0_isWithinAfterMove_20 : decode cX0_isWithinAfterMove 20 = .ok (.aload_n 0, 1) := by decide +kernel
theorem dX0_isWithinAfterMove_21 : decode cX0_isWithinAfterMove 21 = .ok (.iload_n 2, 1) := by decide +kernel
theorem dX0_isWithinAfterMove_22 : decode cX0_isWithinAfterMove 22 = .ok (.iconst 1, 1) := by decide +kernel
theorem dX0_isWithinAfterMove_23 : decode cX0_isWithinAfterMove 23 = .ok (.iload_n 1, 1) := by decide +kernel
theorem dX0_isWithinAfterMove_24 : decode cX0_isWithinAfterMove 24 = .ok (.ishl, 1) := by decide +kernel
theorem dX0_isWithinAfterMove_25 : decode cX0_isWithinAfterMove 25 = .ok (.ior, 1) := by decide +kernel
theorem dX0_isWithinAfterMove_26 : decode cX0_isWithinAfterMove 26 = .ok (.invokevirtual 59, 3) := by decide +kernel
theorem dX0_isWithinAfterMove_29 : decode cX0_isWithinAfterMove 29 = .ok (.aload_n 0, 1) := by decide +kernel
theorem dX0_isWithinAfterMove_30 : decode cX0_isWithinAfterMove 30 = .ok (.getfield 38, 3) := by decide +kernel
theorem dX0_isWithinAfterMove_33 : decode cX0_isWithinAfterMove 33 = .ok (.if_icmp .gt 7, 3) := by decide +kernel
theorem dX0_isWithinAfterMove_36 : decode cX0_isWithinAfterMove 36 = .ok (.iconst 1, 1) := by decide +kernel
theorem dX0_isWithinAfterMove_37 : decode cX0_isWithinAfterMove 37 = .ok (.goto 4, 3) := by decide +kernel
theorem dX0_isWithinAfterMove_40 : decode cX0_isWithinAfterMove 40 = .ok (.iconst 0, 1) := by decide +kernel
theorem dX0_isWithinAfterMove_41 : decode cX0_isWithinAfterMove 41 = .ok (.ireturn, 1) := by decide +kernel
theorem dX0_leastCut_0 : decode cX0_leastCut 0 = .ok (.bipush (-9), 2) := by decide +kernel
theorem dX0_leastCut_2 : decode cX0_leastCut 2 = .ok (.istore_n 1, 1) := by decide +kernel
theorem dX0_leastCut_3 : decode cX0_leastCut 3 = .ok (.bipush 7, 2) := by decide +kernel
theorem dX0_leastCut_5 : decode cX0_leastCut 5 = .ok (.istore_n 2, 1) := by decide +kernel
theorem dX0_leastCut_6 : decode cX0_leastCut 6 = .ok (.iconst 0, 1) := by decide +kernel
theorem dX0_leastCut_7 : decode cX0_leastCut 7 = .ok (.istore_n 3, 1) := by decide +kernel
theorem dX0_leastCut_8 : decode cX0_leastCut 8 = .ok (.iload_n 3, 1) := by decide +kernel
theorem dX0_leastCut_9 : decode cX0_leastCut 9 = .ok (.aload_n 0, 1) := by decide +kernel
theorem dX0_leastCut_10 : decode cX0_leastCut 10 = .ok (.invokevirtual 47, 3) := by decide +kernel
theorem dX0_leastCut_13 : decode cX0_leastCut 13 = .ok (.if_icmp .gt 57, 3) := by decide +kernel
theorem dX0_leastCut_16 : decode cX0_leastCut 16 = .ok (.aload_n 0, 1) := by decide +kernel
theorem dX0_leastCut_17 : decode cX0_leastCut 17 = .ok (.iload_n 3, 1) := by decide +kernel
theorem dX0_leastCut_18 : decode cX0_leastCut 18 = .ok (.invokevirtual 75, 3) := by decide +kernel
theorem dX0_leastCut_21 : decode cX0_leastCut 21 = .ok (.ifCond .eq 43, 3) := by decide +kernel
theorem dX0_leastCut_24 : decode cX0_leastCut 24 = .ok (.aload_n 0, 1) := by decide +kernel
theorem dX0_leastCut_25 : decode cX0_leastCut 25 = .ok (.iload_n 3, 1) := by decide +kernel
theorem dX0_leastCut_26 : decode cX0_leastCut 26 = .ok (.invokevirtual 66, 3) := by decide +kernel
theorem dX0_leastCut_29 : decode cX0_leastCut 29 = .ok (.iload_n 2, 1) := by decide +kernel
theorem dX0_leastCut_30 : decode cX0_leastCut 30 = .ok (.if_icmp .ge 34, 3) := by decide +kernel
theorem dX0_leastCut_33 : decode cX0_leastCut 33 = .ok (.aload_n 0, 1) := by decide +kernel
theorem dX0_leastCut_34 : decode cX0_leastCut 34 = .ok (.iload_n 3, 1) := by decide +kernel
theorem dX0_leastCut_35 : decode cX0_leastCut 35 = .ok (.invokevirtual 79, 3) := by decide +kernel
theorem dX0_leastCut_38 : decode cX0_leastCut 38 = .ok (.ifCond .eq 26, 3) := by decide +kernel
theorem dX0_leastCut_41 : decode cX0_leastCut 41 = .ok (.aload_n 0, 1) := by decide +kernel
theorem dX0_leastCut_42 : decode cX0_leastCut 42 = .ok (.aload_n 0, 1) := by decide +kernel
theorem dX0_leastCut_43 : decode cX0_leastCut 43 = .ok (.invokevirtual 47, 3) := by decide +kernel
theorem dX0_leastCut_46 : decode cX0_leastCut 46 = .ok (.iload_n 3, 1) := by decide +kernel
theorem dX0_leastCut_47 : decode cX0_leastCut 47 = .ok (.iconst (-1), 1) := by decide +kernel
theorem dX0_leastCut_48 : decode cX0_leastCut 48 = .ok (.ixor, 1) := by decide +kernel
theorem dX0_leastCut_49 : decode cX0_leastCut 49 = .ok (.iand, 1) := by decide +kernel
theorem dX0_leastCut_50 : decode cX0_leastCut 50 = .ok (.invokevirtual 79, 3) := by decide +kernel
theorem dX0_leastCut_53 : decode cX0_leastCut 53 = .ok (.ifCond .eq 11, 3) := by decide +kernel
theorem dX0_leastCut_56 : decode cX0_leastCut 56 = .ok (.iload_n 3, 1) := by decide +kernel
theorem dX0_leastCut_57 : decode cX0_leastCut 57 = .ok (.istore_n 1, 1) := by decide +kernel
theorem dX0_leastCut_58 : decode cX0_leastCut 58 = .ok (.aload_n 0, 1) := by decide +kernel
theorem dX0_leastCut_59 : decode cX0_leastCut 59 = .ok (.iload_n 3, 1) := by decide +kernel
theorem dX0_leastCut_60 : decode cX0_leastCut 60 = .ok (.invokevirtual 66, 3) := by decide +kernel
theorem dX0_leastCut_63 : decode cX0_leastCut 63 = .ok (.istore_n 2, 1) := by decide +kernel
theorem dX0_leastCut_64 : decode cX0_leastCut 64 = .ok (.iinc 3 1, 3) := by decide +kernel
theorem dX0_leastCut_67 : decode cX0_leastCut 67 = .ok (.goto (-59), 3) := by decide +kernel
theorem dX0_leastCut_70 : decode cX0_leastCut 70 = .ok (.iload_n 1, 1) := by decide +kernel
theorem dX0_leastCut_71 : decode cX0_leastCut 71 = .ok (.ireturn, 1) := by decide +kernel
theorem dX1_init_0 : decode cX1_init 0 = .ok (.aload_n 0, 1) := by decide +kernel
theorem dX1_init_1 : decode cX1_init 1 = .ok (.invokespecial 3, 3) := by decide +kernel
theorem dX1_init_4 : decode cX1_init 4 = .ok (.aload_n 0, 1) := by decide +kernel
theorem dX1_init_5 : decode cX1_init 5 = .ok (.bipush 7, 2) := by decide +kernel
theorem dX1_init_7 : decode cX1_init 7 = .ok (.newarray .int, 2) := by decide +kernel
theorem dX1_init_9 : decode cX1_init 9 = .ok (.putfield 9, 3) := by decide +kernel
theorem dX1_init_12 : decode cX1_init 12 = .ok (.return_, 1) := by decide +kernel
theorem dX1_run_0 : decode cX1_run 0 = .ok (.aload_n 0, 1) := by decide +kernel
theorem dX1_run_1 : decode cX1_run 1 = .ok (.iconst 0, 1) := by decide +kernel
theorem dX1_run_2 : decode cX1_run 2 = .ok (.putfield 15, 3) := by decide +kernel
theorem dX1_run_5 : decode cX1_run 5 = .ok (.aload_n 0, 1) := by decide +kernel
theorem dX1_run_6 : decode cX1_run 6 = .ok (.iconst 0, 1) := by decide +kernel
theorem dX1_run_7 : decode cX1_run 7 = .ok (.putfield 19, 3) := by decide +kernel
theorem dX1_run_10 : decode cX1_run 10 = .ok (.aload_n 1, 1) := by decide +kernel
theorem dX1_run_11 : decode cX1_run 11 = .ok (.getfield 22, 3) := by decide +kernel
theorem dX1_run_14 : decode cX1_run 14 = .ok (.istore_n 3, 1) := by decide +kernel
theorem dX1_run_15 : decode cX1_run 15 = .ok (.aload_n 1, 1) := by decide +kernel
theorem dX1_run_16 : decode cX1_run 16 = .ok (.invokevirtual 27, 3) := by decide +kernel
theorem dX1_run_19 : decode cX1_run 19 = .ok (.istore 4, 2) := by decide +kernel
theorem dX1_run_21 : decode cX1_run 21 = .ok (.aload_n 1, 1) := by decide +kernel
theorem dX1_run_22 : decode cX1_run 22 = .ok (.getfield 31, 3) := by decide +kernel
theorem dX1_run_25 : decode cX1_run 25 = .ok (.istore 5, 2) := by decide +kernel
theorem dX1_run_27 : decode cX1_run 27 = .ok (.iconst 0, 1) := by decide +kernel
theorem dX1_run_28 : decode cX1_run 28 = .ok (.istore 6, 2) := by decide +kernel
theorem dX1_run_30 : decode cX1_run 30 = .ok (.iload 6, 2) := by decide +kernel
theorem dX1_run_32 : decode cX1_run 32 = .ok (.aload_n 1, 1) := by decide +kernel
theorem dX1_run_33 : decode cX1_run 33 = .ok (.getfield 34, 3) := by decide +kernel
theorem dX1_run_36 : decode cX1_run 36 = .ok (.if_icmp .ge 90, 3) := by decide +kernel
theorem dX1_run_39 : decode cX1_run 39 = .ok (.aload_n 1, 1) := by decide +kernel
theorem dX1_run_40 : decode cX1_run 40 = .ok (.iload_n 2, 1) := by decide +kernel
theorem dX1_run_41 : decode cX1_run 41 = .ok (.iload_n 3, 1) := by decide +kernel
theorem dX1_run_42 : decode cX1_run 42 = .ok (.invokestatic 37, 3) := by decide +kernel
theorem dX1_run_45 : decode cX1_run 45 = .ok (.istore 7, 2) := by decide +kernel
theorem dX1_run_47 : decode cX1_run 47 = .ok (.iload 7, 2) := by decide +kernel
theorem dX1_run_49 : decode cX1_run 49 = .ok (.bipush (-9), 2) := by decide +kernel
theorem dX1_run_51 : decode cX1_run 51 = .ok (.if_icmp .ne 6, 3) := by decide +kernel
theorem dX1_run_54 : decode cX1_run 54 = .ok (.goto 72, 3) := by decide +kernel
theorem dX1_run_57 : decode cX1_run 57 = .ok (.aload_n 1, 1) := by decide +kernel
theorem dX1_run_58 : decode cX1_run 58 = .ok (.iload 7, 2) := by decide +kernel
theorem dX1_run_60 : decode cX1_run 60 = .ok (.invokevirtual 41, 3) := by decide +kernel
theorem dX1_run_63 : decode cX1_run 63 = .ok (.iload_n 3, 1) := by decide +kernel
theorem dX1_run_64 : decode cX1_run 64 = .ok (.iconst 1, 1) := by decide +kernel
theorem dX1_run_65 : decode cX1_run 65 = .ok (.iload 7, 2) := by decide +kernel
theorem dX1_run_67 : decode cX1_run 67 = .ok (.ishl, 1) := by decide +kernel
theorem dX1_run_68 : decode cX1_run 68 = .ok (.ior, 1) := by decide +kernel
theorem dX1_run_69 : decode cX1_run 69 = .ok (.istore_n 3, 1) := by decide +kernel
theorem dX1_run_70 : decode cX1_run 70 = .ok (.aload_n 0, 1) := by decide +kernel
theorem dX1_run_71 : decode cX1_run 71 = .ok (.getfield 9, 3) := by decide +kernel
theorem dX1_run_74 : decode cX1_run 74 = .ok (.aload_n 0, 1) := by decide +kernel
theorem dX1_run_75 : decode cX1_run 75 = .ok (.getfield 15, 3) := by decide +kernel
theorem dX1_run_78 : decode cX1_run 78 = .ok (.iload 7, 2) := by decide +kernel
theorem dX1_run_80 : decode cX1_run 80 = .ok (.iastore, 1) := by decide +kernel
theorem dX1_run_81 : decode cX1_run 81 = .ok (.aload_n 0, 1) := by decide +kernel
theorem dX1_run_82 : decode cX1_run 82 = .ok (.dup, 1) := by decide +kernel
theorem dX1_run_83 : decode cX1_run 83 = .ok (.getfield 15, 3) := by decide +kernel
theorem dX1_run_86 : decode cX1_run 86 = .ok (.iconst 1, 1) := by decide +kernel
theorem dX1_run_87 : decode cX1_run 87 = .ok (.iadd, 1) := by decide +kernel
theorem dX1_run_88 : decode cX1_run 88 = .ok (.putfield 15, 3) := by decide +kernel
theorem dX1_run_91 : decode cX1_run 91 = .ok (.aload_n 1, 1) := by decide +kernel
theorem dX1_run_92 : decode cX1_run 92 = .ok (.invokevirtual 27, 3) := by decide +kernel
theorem dX1_run_95 : decode cX1_run 95 = .ok (.iload 4, 2) := by decide +kernel
theorem dX1_run_97 : decode cX1_run 97 = .ok (.if_icmp .ge 23, 3) := by decide +kernel
theorem dX1_run_100 : decode cX1_run 100 = .ok (.aload_n 1, 1) := by decide +kernel
theorem dX1_run_101 : decode cX1_run 101 = .ok (.invokevirtual 27, 3) := by decide +kernel
theorem dX1_run_104 : decode cX1_run 104 = .ok (.istore 4, 2) := by decide +kernel
theorem dX1_run_106 : decode cX1_run 106 = .ok (.aload_n 1, 1) := by decide +kernel
theorem dX1_run_107 : decode cX1_run 107 = .ok (.getfield 31, 3) := by decide +kernel
theorem dX1_run_110 : decode cX1_run 110 = .ok (.istore 5, 2) := by decide +kernel
theorem dX1_run_112 : decode cX1_run 112 = .ok (.aload_n 0, 1) := by decide +kernel
theorem dX1_run_113 : decode cX1_run 113 = .ok (.aload_n 0, 1) := by decide +kernel
theorem dX1_run_114 : decode cX1_run 114 = .ok (.getfield 15, 3) := by decide +kernel
theorem dX1_run_117 : decode cX1_run 117 = .ok (.putfield 19, 3) := by decide +kernel
theorem dX1_run_120 : decode cX1_run 120 = .ok (.iinc 6 1, 3) := by decide +kernel
theorem dX1_run_123 : decode cX1_run 123 = .ok (.goto (-93), 3) := by decide +kernel
theorem dX1_run_126 : decode cX1_run 126 = .ok (.aload_n 1, 1) := by decide +kernel
theorem dX1_run_127 : decode cX1_run 127 = .ok (.iload 5, 2) := by decide +kernel
theorem dX1_run_129 : decode cX1_run 129 = .ok (.putfield 31, 3) := by decide +kernel
theorem dX1_run_132 : decode cX1_run 132 = .ok (.return_, 1) := by decide +kernel
theorem dX1_movedAt_0 : decode cX1_movedAt 0 = .ok (.iload_n 1, 1) := by decide +kernel
theorem dX1_movedAt_1 : decode cX1_movedAt 1 = .ok (.ifCond .lt 20, 3) := by decide +kernel
theorem dX1_movedAt_4 : decode cX1_movedAt 4 = .ok (.iload_n 1, 1) := by decide +kernel
theorem dX1_movedAt_5 : decode cX1_movedAt 5 = .ok (.aload_n 0, 1) := by decide +kernel
theorem dX1_movedAt_6 : decode cX1_movedAt 6 = .ok (.getfield 15, 3) := by decide +kernel
theorem dX1_movedAt_9 : decode cX1_movedAt 9 = .ok (.if_icmp .ge 12, 3) := by decide +kernel
theorem dX1_movedAt_12 : decode cX1_movedAt 12 = .ok (.aload_n 0, 1) := by decide +kernel
theorem dX1_movedAt_13 : decode cX1_movedAt 13 = .ok (.getfield 9, 3) := by decide +kernel
theorem dX1_movedAt_16 : decode cX1_movedAt 16 = .ok (.iload_n 1, 1) := by decide +kernel
theorem dX1_movedAt_17 : decode cX1_movedAt 17 = .ok (.iaload, 1) := by decide +kernel
theorem dX1_movedAt_18 : decode cX1_movedAt 18 = .ok (.goto 5, 3) := by decide +kernel
theorem dX1_movedAt_21 : decode cX1_movedAt 21 = .ok (.bipush (-9), 2) := by decide +kernel
theorem dX1_movedAt_23 : decode cX1_movedAt 23 = .ok (.ireturn, 1) := by decide +kernel
theorem dX1_bestCell_0 : decode cX1_bestCell 0 = .ok (.bipush (-9), 2) := by decide +kernel
theorem dX1_bestCell_2 : decode cX1_bestCell 2 = .ok (.istore_n 3, 1) := by decide +kernel
theorem dX1_bestCell_3 : decode cX1_bestCell 3 = .ok (.iconst 0, 1) := by decide +kernel
theorem dX1_bestCell_4 : decode cX1_bestCell 4 = .ok (.istore 4, 2) := by decide +kernel
theorem dX1_bestCell_6 : decode cX1_bestCell 6 = .ok (.iconst 0, 1) := by decide +kernel
theorem dX1_bestCell_7 : decode cX1_bestCell 7 = .ok (.istore 5, 2) := by decide +kernel
theorem dX1_bestCell_9 : decode cX1_bestCell 9 = .ok (.iload 5, 2) := by decide +kernel
theorem dX1_bestCell_11 : decode cX1_bestCell 11 = .ok (.aload_n 0, 1) := by decide +kernel
theorem dX1_bestCell_12 : decode cX1_bestCell 12 = .ok (.getfield 34, 3) := by decide +kernel
theorem dX1_bestCell_15 : decode cX1_bestCell 15 = .ok (.if_icmp .ge 76, 3) := by decide +kernel
theorem dX1_bestCell_18 : decode cX1_bestCell 18 = .ok (.iload_n 2, 1) := by decide +kernel
theorem dX1_bestCell_19 : decode cX1_bestCell 19 = .ok (.iload 5, 2) := by decide +kernel
theorem dX1_bestCell_21 : decode cX1_bestCell 21 = .ok (.ishr, 1) := by decide +kernel
theorem dX1_bestCell_22 : decode cX1_bestCell 22 = .ok (.iconst 1, 1) := by decide +kernel
theorem dX1_bestCell_23 : decode cX1_bestCell 23 = .ok (.iand, 1) := by decide +kernel
theorem dX1_bestCell_24 : decode cX1_bestCell 24 = .ok (.iconst 1, 1) := by decide +kernel
theorem dX1_bestCell_25 : decode cX1_bestCell 25 = .ok (.if_icmp .eq 60, 3) := by decide +kernel
theorem dX1_bestCell_28 : decode cX1_bestCell 28 = .ok (.aload_n 0, 1) := by decide +kernel
theorem dX1_bestCell_29 : decode cX1_bestCell 29 = .ok (.iload 5, 2) := by decide +kernel
theorem dX1_bestCell_31 : decode cX1_bestCell 31 = .ok (.invokevirtual 45, 3) := by decide +kernel
theorem dX1_bestCell_34 : decode cX1_bestCell 34 = .ok (.ifCond .ne 6, 3) := by decide +kernel
theorem dX1_bestCell_37 : decode cX1_bestCell 37 = .ok (.goto 48, 3) := by decide +kernel
theorem dX1_bestCell_40 : decode cX1_bestCell 40 = .ok (.aload_n 0, 1) := by decide +kernel
theorem dX1_bestCell_41 : decode cX1_bestCell 41 = .ok (.iload 5, 2) := by decide +kernel
theorem dX1_bestCell_43 : decode cX1_bestCell 43 = .ok (.invokevirtual 49, 3) := by decide +kernel
theorem dX1_bestCell_46 : decode cX1_bestCell 46 = .ok (.istore 6, 2) := by decide +kernel
theorem dX1_bestCell_48 : decode cX1_bestCell 48 = .ok (.iload_n 3, 1) := by decide +kernel
theorem dX1_bestCell_49 : decode cX1_bestCell 49 = .ok (.bipush (-9), 2) := by decide +kernel
theorem dX1_bestCell_51 : decode cX1_bestCell 51 = .ok (.if_icmp .eq 27, 3) := by decide +kernel
theorem dX1_bestCell_54 : decode cX1_bestCell 54 = .ok (.iload_n 1, 1) := by decide +kernel
theorem dX1_bestCell_55 : decode cX1_bestCell 55 = .ok (.iload 6, 2) := by decide +kernel
theorem dX1_bestCell_57 : decode cX1_bestCell 57 = .ok (.aload_n 0, 1) := by decide +kernel
theorem dX1_bestCell_58 : decode cX1_bestCell 58 = .ok (.getfield 53, 3) := by decide +kernel
theorem dX1_bestCell_61 : decode cX1_bestCell 61 = .ok (.iload 5, 2) := by decide +kernel
theorem dX1_bestCell_63 : decode cX1_bestCell 63 = .ok (.iaload, 1) := by decide +kernel
theorem dX1_bestCell_64 : decode cX1_bestCell 64 = .ok (.iload 4, 2) := by decide +kernel
theorem dX1_bestCell_66 : decode cX1_bestCell 66 = .ok (.aload_n 0, 1) := by decide +kernel
theorem dX1_bestCell_67 : decode cX1_bestCell 67 = .ok (.getfield 53, 3) := by decide +kernel
theorem dX1_bestCell_70 : decode cX1_bestCell 70 = .ok (.iload_n 3, 1) := by decide +kernel
theorem dX1_bestCell_71 : decode cX1_bestCell 71 = .ok (.iaload, 1) := by decide +kernel
theorem dX1_bestCell_72 : decode cX1_bestCell 72 = .ok (.invokestatic 56, 3) := by decide +kernel
theorem dX1_bestCell_75 : decode cX1_bestCell 75 = .ok (.ifCond .eq 10, 3) := by decide +kernel
theorem dX1_bestCell_78 : decode cX1_bestCell 78 = .ok (.iload 5, 2) := by decide +kernel
theorem dX1_bestCell_80 : decode cX1_bestCell 80 = .ok (.istore_n 3, 1) := by decide +kernel
theorem dX1_bestCell_81 : decode cX1_bestCell 81 = .ok (.iload 6, 2) := by decide +kernel
theorem dX1_bestCell_83 : decode cX1_bestCell 83 = .ok (.istore 4, 2) := by decide +kernel
theorem dX1_bestCell_85 : decode cX1_bestCell 85 = .ok (.iinc 5 1, 3) := by decide +kernel
theorem dX1_bestCell_88 : decode cX1_bestCell 88 = .ok (.goto (-79), 3) := by decide +kernel
theorem dX1_bestCell_91 : decode cX1_bestCell 91 = .ok (.iload_n 3, 1) := by decide +kernel
theorem dX1_bestCell_92 : decode cX1_bestCell 92 = .ok (.ireturn, 1) := by decide +kernel
theorem dX1_isBetter_0 : decode cX1_isBetter 0 = .ok (.iload_n 0, 1) := by decide +kernel
theorem dX1_isBetter_1 : decode cX1_isBetter 1 = .ok (.iconst 2, 1) := by decide +kernel
theorem dX1_isBetter_2 : decode cX1_isBetter 2 = .ok (.if_icmp .ne 19, 3) := by decide +kernel
theorem dX1_isBetter_5 : decode cX1_isBetter 5 = .ok (.iload_n 1, 1) := by decide +kernel
theorem dX1_isBetter_6 : decode cX1_isBetter 6 = .ok (.iload 4, 2) := by decide +kernel
theorem dX1_isBetter_8 : decode cX1_isBetter 8 = .ok (.imul, 1) := by decide +kernel
theorem dX1_isBetter_9 : decode cX1_isBetter 9 = .ok (.iload_n 3, 1) := by decide +kernel
theorem dX1_isBetter_10 : decode cX1_isBetter 10 = .ok (.iload_n 2, 1) := by decide +kernel
theorem dX1_isBetter_11 : decode cX1_isBetter 11 = .ok (.imul, 1) := by decide +kernel
theorem dX1_isBetter_12 : decode cX1_isBetter 12 = .ok (.if_icmp .le 7, 3) := by decide +kernel
theorem dX1_isBetter_15 : decode cX1_isBetter 15 = .ok (.iconst 1, 1) := by decide +kernel
theorem dX1_isBetter_16 : decode cX1_isBetter 16 = .ok (.goto 4, 3) := by decide +kernel
theorem dX1_isBetter_19 : decode cX1_isBetter 19 = .ok (.iconst 0, 1) := by decide +kernel
theorem dX1_isBetter_20 : decode cX1_isBetter 20 = .ok (.ireturn, 1) := by decide +kernel
theorem dX1_isBetter_21 : decode cX1_isBetter 21 = .ok (.iload_n 1, 1) := by decide +kernel
theorem dX1_isBetter_22 : decode cX1_isBetter 22 = .ok (.iload_n 3, 1) := by decide +kernel
theorem dX1_isBetter_23 : decode cX1_isBetter 23 = .ok (.if_icmp .eq 14, 3) := by decide +kernel
theorem dX1_isBetter_26 : decode cX1_isBetter 26 = .ok (.iload_n 1, 1) := by decide +kernel
theorem dX1_isBetter_27 : decode cX1_isBetter 27 = .ok (.iload_n 3, 1) := by decide +kernel
theorem dX1_isBetter_28 : decode cX1_isBetter 28 = .ok (.if_icmp .le 7, 3) := by decide +kernel
theorem dX1_isBetter_31 : decode cX1_isBetter 31 = .ok (.iconst 1, 1) := by decide +kernel
theorem dX1_isBetter_32 : decode cX1_isBetter 32 = .ok (.goto 4, 3) := by decide +kernel
theorem dX1_isBetter_35 : decode cX1_isBetter 35 = .ok (.iconst 0, 1) := by decide +kernel
theorem dX1_isBetter_36 : decode cX1_isBetter 36 = .ok (.ireturn, 1) := by decide +kernel
theorem dX1_isBetter_37 : decode cX1_isBetter 37 = .ok (.iload_n 0, 1) := by decide +kernel
theorem dX1_isBetter_38 : decode cX1_isBetter 38 = .ok (.iconst 1, 1) := by decide +kernel
theorem dX1_isBetter_39 : decode cX1_isBetter 39 = .ok (.if_icmp .ne 13, 3) := by decide +kernel
theorem dX1_isBetter_42 : decode cX1_isBetter 42 = .ok (.iload_n 2, 1) := by decide +kernel
theorem dX1_isBetter_43 : decode cX1_isBetter 43 = .ok (.iload 4, 2) := by decide +kernel
theorem dX1_isBetter_45 : decode cX1_isBetter 45 = .ok (.if_icmp .le 7, 3) := by decide +kernel
theorem dX1_isBetter_48 : decode cX1_isBetter 48 = .ok (.iconst 1, 1) := by decide +kernel
theorem dX1_isBetter_49 : decode cX1_isBetter 49 = .ok (.goto 4, 3) := by decide +kernel
theorem dX1_isBetter_52 : decode cX1_isBetter 52 = .ok (.iconst 0, 1) := by decide +kernel
theorem dX1_isBetter_53 : decode cX1_isBetter 53 = .ok (.ireturn, 1) := by decide +kernel
theorem dX2_init_0 : decode cX2_init 0 = .ok (.aload_n 0, 1) := by decide +kernel
theorem dX2_init_1 : decode cX2_init 1 = .ok (.invokespecial 3, 3) := by decide +kernel
theorem dX2_init_4 : decode cX2_init 4 = .ok (.aload_n 0, 1) := by decide +kernel
theorem dX2_init_5 : decode cX2_init 5 = .ok (.bipush 9, 2) := by decide +kernel
theorem dX2_init_7 : decode cX2_init 7 = .ok (.newarray .int, 2) := by decide +kernel
theorem dX2_init_9 : decode cX2_init 9 = .ok (.putfield 9, 3) := by decide +kernel
theorem dX2_init_12 : decode cX2_init 12 = .ok (.return_, 1) := by decide +kernel
theorem dX2_renew_0 : decode cX2_renew 0 = .ok (.aload_n 0, 1) := by decide +kernel
theorem dX2_renew_1 : decode cX2_renew 1 = .ok (.iconst 1, 1) := by decide +kernel
theorem dX2_renew_2 : decode cX2_renew 2 = .ok (.putfield 15, 3) := by decide +kernel
theorem dX2_renew_5 : decode cX2_renew 5 = .ok (.aload_n 0, 1) := by decide +kernel
theorem dX2_renew_6 : decode cX2_renew 6 = .ok (.iload_n 1, 1) := by decide +kernel
theorem dX2_renew_7 : decode cX2_renew 7 = .ok (.putfield 19, 3) := by decide +kernel
theorem dX2_renew_10 : decode cX2_renew 10 = .ok (.aload_n 0, 1) := by decide +kernel
theorem dX2_renew_11 : decode cX2_renew 11 = .ok (.iload_n 2, 1) := by decide +kernel
theorem dX2_renew_12 : decode cX2_renew 12 = .ok (.putfield 23, 3) := by decide +kernel
theorem dX2_renew_15 : decode cX2_renew 15 = .ok (.aload_n 0, 1) := by decide +kernel
theorem dX2_renew_16 : decode cX2_renew 16 = .ok (.getfield 9, 3) := by decide +kernel
theorem dX2_renew_19 : decode cX2_renew 19 = .ok (.bipush (-9), 2) := by decide +kernel
theorem dX2_renew_21 : decode cX2_renew 21 = .ok (.invokestatic 26, 3) := by decide +kernel
theorem dX2_renew_24 : decode cX2_renew 24 = .ok (.return_, 1) := by decide +kernel
theorem dX2_faultAt_0 : decode cX2_faultAt 0 = .ok (.aload_n 0, 1) := by decide +kernel
theorem dX2_faultAt_1 : decode cX2_faultAt 1 = .ok (.getfield 15, 3) := by decide +kernel
theorem dX2_faultAt_4 : decode cX2_faultAt 4 = .ok (.ifCond .ne 5, 3) := by decide +kernel
theorem dX2_faultAt_7 : decode cX2_faultAt 7 = .ok (.iconst 1, 1) := by decide +kernel
theorem dX2_faultAt_8 : decode cX2_faultAt 8 = .ok (.ireturn, 1) := by decide +kernel
theorem dX2_faultAt_9 : decode cX2_faultAt 9 = .ok (.iload_n 1, 1) := by decide +kernel
theorem dX2_faultAt_10 : decode cX2_faultAt 10 = .ok (.ifCond .lt 15, 3) := by decide +kernel
theorem dX2_faultAt_13 : decode cX2_faultAt 13 = .ok (.iload_n 1, 1) := by decide +kernel
theorem dX2_faultAt_14 : decode cX2_faultAt 14 = .ok (.aload_n 0, 1) := by decide +kernel
theorem dX2_faultAt_15 : decode cX2_faultAt 15 = .ok (.getfield 23, 3) := by decide +kernel
theorem dX2_faultAt_18 : decode cX2_faultAt 18 = .ok (.if_icmp .ge 7, 3) := by decide +kernel
theorem dX2_faultAt_21 : decode cX2_faultAt 21 = .ok (.iconst 0, 1) := by decide +kernel
theorem dX2_faultAt_22 : decode cX2_faultAt 22 = .ok (.goto 4, 3) := by decide +kernel
theorem dX2_faultAt_25 : decode cX2_faultAt 25 = .ok (.iconst 3, 1) := by decide +kernel
theorem dX2_faultAt_26 : decode cX2_faultAt 26 = .ok (.ireturn, 1) := by decide +kernel
theorem dX3_init_0 : decode cX3_init 0 = .ok (.aload_n 0, 1) := by decide +kernel
theorem dX3_init_1 : decode cX3_init 1 = .ok (.invokespecial 3, 3) := by decide +kernel
theorem dX3_init_4 : decode cX3_init 4 = .ok (.aload_n 0, 1) := by decide +kernel
theorem dX3_init_5 : decode cX3_init 5 = .ok (.bipush 8, 2) := by decide +kernel
theorem dX3_init_7 : decode cX3_init 7 = .ok (.newarray .int, 2) := by decide +kernel
theorem dX3_init_9 : decode cX3_init 9 = .ok (.putfield 9, 3) := by decide +kernel
theorem dX3_init_12 : decode cX3_init 12 = .ok (.aload_n 0, 1) := by decide +kernel
theorem dX3_init_13 : decode cX3_init 13 = .ok (.bipush 8, 2) := by decide +kernel
theorem dX3_init_15 : decode cX3_init 15 = .ok (.newarray .int, 2) := by decide +kernel
theorem dX3_init_17 : decode cX3_init 17 = .ok (.putfield 15, 3) := by decide +kernel
theorem dX3_init_20 : decode cX3_init 20 = .ok (.return_, 1) := by decide +kernel
theorem dX3_add_0 : decode cX3_add 0 = .ok (.aload_n 0, 1) := by decide +kernel
theorem dX3_add_1 : decode cX3_add 1 = .ok (.getfield 18, 3) := by decide +kernel
theorem dX3_add_4 : decode cX3_add 4 = .ok (.istore_n 3, 1) := by decide +kernel
theorem dX3_add_5 : decode cX3_add 5 = .ok (.aload_n 0, 1) := by decide +kernel
theorem dX3_add_6 : decode cX3_add 6 = .ok (.getfield 9, 3) := by decide +kernel
theorem dX3_add_9 : decode cX3_add 9 = .ok (.iload_n 3, 1) := by decide +kernel
theorem dX3_add_10 : decode cX3_add 10 = .ok (.iload_n 1, 1) := by decide +kernel
theorem dX3_add_11 : decode cX3_add 11 = .ok (.iastore, 1) := by decide +kernel
theorem dX3_add_12 : decode cX3_add 12 = .ok (.aload_n 0, 1) := by decide +kernel
theorem dX3_add_13 : decode cX3_add 13 = .ok (.getfield 15, 3) := by decide +kernel
theorem dX3_add_16 : decode cX3_add 16 = .ok (.iload_n 3, 1) := by decide +kernel
theorem dX3_add_17 : decode cX3_add 17 = .ok (.iload_n 2, 1) := by decide +kernel
theorem dX3_add_18 : decode cX3_add 18 = .ok (.iastore, 1) := by decide +kernel
theorem dX3_add_19 : decode cX3_add 19 = .ok (.aload_n 0, 1) := by decide +kernel
theorem dX3_add_20 : decode cX3_add 20 = .ok (.dup, 1) := by decide +kernel
theorem dX3_add_21 : decode cX3_add 21 = .ok (.getfield 18, 3) := by decide +kernel
theorem dX3_add_24 : decode cX3_add 24 = .ok (.iconst 1, 1) := by decide +kernel
theorem dX3_add_25 : decode cX3_add 25 = .ok (.iadd, 1) := by decide +kernel
theorem dX3_add_26 : decode cX3_add 26 = .ok (.putfield 18, 3) := by decide +kernel
theorem dX3_add_29 : decode cX3_add 29 = .ok (.iload_n 3, 1) := by decide +kernel
theorem dX3_add_30 : decode cX3_add 30 = .ok (.ireturn, 1) := by decide +kernel
theorem dX3_areSoBy_0 : decode cX3_areSoBy 0 = .ok (.iconst 0, 1) := by decide +kernel
theorem dX3_areSoBy_1 : decode cX3_areSoBy 1 = .ok (.istore_n 2, 1) := by decide +kernel
theorem dX3_areSoBy_2 : decode cX3_areSoBy 2 = .ok (.iload_n 2, 1) := by decide +kernel
theorem dX3_areSoBy_3 : decode cX3_areSoBy 3 = .ok (.aload_n 0, 1) := by decide +kernel
theorem dX3_areSoBy_4 : decode cX3_areSoBy 4 = .ok (.getfield 18, 3) := by decide +kernel
theorem dX3_areSoBy_7 : decode cX3_areSoBy 7 = .ok (.if_icmp .ge 32, 3) := by decide +kernel
theorem dX3_areSoBy_10 : decode cX3_areSoBy 10 = .ok (.aload_n 1, 1) := by decide +kernel
theorem dX3_areSoBy_11 : decode cX3_areSoBy 11 = .ok (.iconst 1, 1) := by decide +kernel
theorem dX3_areSoBy_12 : decode cX3_areSoBy 12 = .ok (.aload_n 0, 1) := by decide +kernel
theorem dX3_areSoBy_13 : decode cX3_areSoBy 13 = .ok (.getfield 9, 3) := by decide +kernel
theorem dX3_areSoBy_16 : decode cX3_areSoBy 16 = .ok (.iload_n 2, 1) := by decide +kernel
theorem dX3_areSoBy_17 : decode cX3_areSoBy 17 = .ok (.iaload, 1) := by decide +kernel
theorem dX3_areSoBy_18 : decode cX3_areSoBy 18 = .ok (.ishl, 1) := by decide +kernel
theorem dX3_areSoBy_19 : decode cX3_areSoBy 19 = .ok (.invokevirtual 22, 3) := by decide +kernel
theorem dX3_areSoBy_22 : decode cX3_areSoBy 22 = .ok (.aload_n 0, 1) := by decide +kernel
theorem dX3_areSoBy_23 : decode cX3_areSoBy 23 = .ok (.getfield 15, 3) := by decide +kernel
theorem dX3_areSoBy_26 : decode cX3_areSoBy 26 = .ok (.iload_n 2, 1) := by decide +kernel
theorem dX3_areSoBy_27 : decode cX3_areSoBy 27 = .ok (.iaload, 1) := by decide +kernel
theorem dX3_areSoBy_28 : decode cX3_areSoBy 28 = .ok (.if_icmp .eq 5, 3) := by decide +kernel
theorem dX3_areSoBy_31 : decode cX3_areSoBy 31 = .ok (.iconst 0, 1) := by decide +kernel
theorem dX3_areSoBy_32 : decode cX3_areSoBy 32 = .ok (.ireturn, 1) := by decide +kernel
theorem dX3_areSoBy_33 : decode cX3_areSoBy 33 = .ok (.iinc 2 1, 3) := by decide +kernel
theorem dX3_areSoBy_36 : decode cX3_areSoBy 36 = .ok (.goto (-34), 3) := by decide +kernel
theorem dX3_areSoBy_39 : decode cX3_areSoBy 39 = .ok (.iconst 1, 1) := by decide +kernel
theorem dX3_areSoBy_40 : decode cX3_areSoBy 40 = .ok (.ireturn, 1) := by decide +kernel
theorem dX4_init_0 : decode cX4_init 0 = .ok (.aload_n 0, 1) := by decide +kernel
theorem dX4_init_1 : decode cX4_init 1 = .ok (.invokespecial 3, 3) := by decide +kernel
theorem dX4_init_4 : decode cX4_init 4 = .ok (.aload_n 0, 1) := by decide +kernel
theorem dX4_init_5 : decode cX4_init 5 = .ok (.iconst (-1), 1) := by decide +kernel
theorem dX4_init_6 : decode cX4_init 6 = .ok (.putfield 9, 3) := by decide +kernel
theorem dX4_init_9 : decode cX4_init 9 = .ok (.aload_n 0, 1) := by decide +kernel
theorem dX4_init_10 : decode cX4_init 10 = .ok (.bipush 60, 2) := by decide +kernel
theorem dX4_init_12 : decode cX4_init 12 = .ok (.newarray .int, 2) := by decide +kernel
theorem dX4_init_14 : decode cX4_init 14 = .ok (.putfield 15, 3) := by decide +kernel
theorem dX4_init_17 : decode cX4_init 17 = .ok (.return_, 1) := by decide +kernel
theorem dX4_renew_0 : decode cX4_renew 0 = .ok (.aload_n 0, 1) := by decide +kernel
theorem dX4_renew_1 : decode cX4_renew 1 = .ok (.iload_n 1, 1) := by decide +kernel
theorem dX4_renew_2 : decode cX4_renew 2 = .ok (.putfield 9, 3) := by decide +kernel
theorem dX4_renew_5 : decode cX4_renew 5 = .ok (.aload_n 0, 1) := by decide +kernel
theorem dX4_renew_6 : decode cX4_renew 6 = .ok (.iload_n 2, 1) := by decide +kernel
theorem dX4_renew_7 : decode cX4_renew 7 = .ok (.putfield 19, 3) := by decide +kernel
theorem dX4_renew_10 : decode cX4_renew 10 = .ok (.aload_n 0, 1) := by decide +kernel
theorem dX4_renew_11 : decode cX4_renew 11 = .ok (.getfield 15, 3) := by decide +kernel
theorem dX4_renew_14 : decode cX4_renew 14 = .ok (.iconst 0, 1) := by decide +kernel
theorem dX4_renew_15 : decode cX4_renew 15 = .ok (.invokestatic 22, 3) := by decide +kernel
theorem dX4_renew_18 : decode cX4_renew 18 = .ok (.return_, 1) := by decide +kernel
theorem dX4_faultAs_0 : decode cX4_faultAs 0 = .ok (.aload_n 0, 1) := by decide +kernel
theorem dX4_faultAs_1 : decode cX4_faultAs 1 = .ok (.getfield 9, 3) := by decide +kernel
theorem dX4_faultAs_4 : decode cX4_faultAs 4 = .ok (.iconst (-1), 1) := by decide +kernel
theorem dX4_faultAs_5 : decode cX4_faultAs 5 = .ok (.if_icmp .ne 5, 3) := by decide +kernel
theorem dX4_faultAs_8 : decode cX4_faultAs 8 = .ok (.iconst 1, 1) := by decide +kernel
theorem dX4_faultAs_9 : decode cX4_faultAs 9 = .ok (.ireturn, 1) := by decide +kernel
theorem dX4_faultAs_10 : decode cX4_faultAs 10 = .ok (.aload_n 0, 1) := by decide +kernel
theorem dX4_faultAs_11 : decode cX4_faultAs 11 = .ok (.getfield 9, 3) := by decide +kernel
theorem dX4_faultAs_14 : decode cX4_faultAs 14 = .ok (.iload_n 1, 1) := by decide +kernel
theorem dX4_faultAs_15 : decode cX4_faultAs 15 = .ok (.if_icmp .ne 7, 3) := by decide +kernel
theorem dX4_faultAs_18 : decode cX4_faultAs 18 = .ok (.iconst 0, 1) := by decide +kernel
theorem dX4_faultAs_19 : decode cX4_faultAs 19 = .ok (.goto 4, 3) := by decide +kernel
theorem dX4_faultAs_22 : decode cX4_faultAs 22 = .ok (.iconst 2, 1) := by decide +kernel
theorem dX4_faultAs_23 : decode cX4_faultAs 23 = .ok (.ireturn, 1) := by decide +kernel
theorem dX4_has_0 : decode cX4_has 0 = .ok (.iload_n 1, 1) := by decide +kernel
theorem dX4_has_1 : decode cX4_has 1 = .ok (.ifCond .lt 29, 3) := by decide +kernel
theorem dX4_has_4 : decode cX4_has 4 = .ok (.iload_n 1, 1) := by decide +kernel
theorem dX4_has_5 : decode cX4_has 5 = .ok (.aload_n 0, 1) := by decide +kernel
theorem dX4_has_6 : decode cX4_has 6 = .ok (.getfield 19, 3) := by decide +kernel
theorem dX4_has_9 : decode cX4_has 9 = .ok (.if_icmp .gt 21, 3) := by decide +kernel
theorem dX4_has_12 : decode cX4_has 12 = .ok (.iload_n 2, 1) := by decide +kernel
theorem dX4_has_13 : decode cX4_has 13 = .ok (.ifCond .lt 17, 3) := by decide +kernel
theorem dX4_has_16 : decode cX4_has 16 = .ok (.iload_n 2, 1) := by decide +kernel
theorem dX4_has_17 : decode cX4_has 17 = .ok (.aload_n 0, 1) := by decide +kernel
theorem dX4_has_18 : decode cX4_has 18 = .ok (.getfield 19, 3) := by decide +kernel
theorem dX4_has_21 : decode cX4_has 21 = .ok (.iload_n 1, 1) := by decide +kernel
theorem dX4_has_22 : decode cX4_has 22 = .ok (.isub, 1) := by decide +kernel
theorem dX4_has_23 : decode cX4_has 23 = .ok (.if_icmp .gt 7, 3) := by decide +kernel
theorem dX4_has_26 : decode cX4_has 26 = .ok (.iconst 1, 1) := by decide +kernel
theorem dX4_has_27 : decode cX4_has 27 = .ok (.goto 4, 3) := by decide +kernel
theorem dX4_has_30 : decode cX4_has 30 = .ok (.iconst 0, 1) := by decide +kernel
theorem dX4_has_31 : decode cX4_has 31 = .ok (.ireturn, 1) := by decide +kernel
theorem dX5_init_0 : decode cX5_init 0 = .ok (.aload_n 0, 1) := by decide +kernel
theorem dX5_init_1 : decode cX5_init 1 = .ok (.invokespecial 3, 3) := by decide +kernel
theorem dX5_init_4 : decode cX5_init 4 = .ok (.aload_n 0, 1) := by decide +kernel
theorem dX5_init_5 : decode cX5_init 5 = .ok (.bipush 60, 2) := by decide +kernel
theorem dX5_init_7 : decode cX5_init 7 = .ok (.newarray .int, 2) := by decide +kernel
theorem dX5_init_9 : decode cX5_init 9 = .ok (.putfield 9, 3) := by decide +kernel
theorem dX5_init_12 : decode cX5_init 12 = .ok (.return_, 1) := by decide +kernel
theorem dX5_isRead_0 : decode cX5_isRead 0 = .ok (.aload_n 1, 1) := by decide +kernel
theorem dX5_isRead_1 : decode cX5_isRead 1 = .ok (.getfield 15, 3) := by decide +kernel
theorem dX5_isRead_4 : decode cX5_isRead 4 = .ok (.iload_n 2, 1) := by decide +kernel
theorem dX5_isRead_5 : decode cX5_isRead 5 = .ok (.aload_n 0, 1) := by decide +kernel
theorem dX5_isRead_6 : decode cX5_isRead 6 = .ok (.getfield 9, 3) := by decide +kernel
theorem dX5_isRead_9 : decode cX5_isRead 9 = .ok (.iconst 0, 1) := by decide +kernel
theorem dX5_isRead_10 : decode cX5_isRead 10 = .ok (.iload_n 3, 1) := by decide +kernel
theorem dX5_isRead_11 : decode cX5_isRead 11 = .ok (.invokestatic 20, 3) := by decide +kernel
theorem dX5_isRead_14 : decode cX5_isRead 14 = .ok (.aload_n 0, 1) := by decide +kernel
theorem dX5_isRead_15 : decode cX5_isRead 15 = .ok (.iload_n 3, 1) := by decide +kernel
theorem dX5_isRead_16 : decode cX5_isRead 16 = .ok (.putfield 26, 3) := by decide +kernel
theorem dX5_isRead_19 : decode cX5_isRead 19 = .ok (.aload_n 0, 1) := by decide +kernel
theorem dX5_isRead_20 : decode cX5_isRead 20 = .ok (.iconst 0, 1) := by decide +kernel
theorem dX5_isRead_21 : decode cX5_isRead 21 = .ok (.putfield 30, 3) := by decide +kernel
theorem dX5_isRead_24 : decode cX5_isRead 24 = .ok (.aload 4, 2) := by decide +kernel
theorem dX5_isRead_26 : decode cX5_isRead 26 = .ok (.invokevirtual 33, 3) := by decide +kernel
theorem dX5_isRead_29 : decode cX5_isRead 29 = .ok (.aload_n 0, 1) := by decide +kernel
theorem dX5_isRead_30 : decode cX5_isRead 30 = .ok (.bipush 104, 2) := by decide +kernel
theorem dX5_isRead_32 : decode cX5_isRead 32 = .ok (.invokevirtual 38, 3) := by decide +kernel
theorem dX5_isRead_35 : decode cX5_isRead 35 = .ok (.ifCond .eq 21, 3) := by decide +kernel
theorem dX5_isRead_38 : decode cX5_isRead 38 = .ok (.aload_n 0, 1) := by decide +kernel
theorem dX5_isRead_39 : decode cX5_isRead 39 = .ok (.bipush 59, 2) := by decide +kernel
theorem dX5_isRead_41 : decode cX5_isRead 41 = .ok (.invokevirtual 38, 3) := by decide +kernel
theorem dX5_isRead_44 : decode cX5_isRead 44 = .ok (.ifCond .eq 12, 3) := by decide +kernel
theorem dX5_isRead_47 : decode cX5_isRead 47 = .ok (.aload_n 0, 1) := by decide +kernel
theorem dX5_isRead_48 : decode cX5_isRead 48 = .ok (.aload 4, 2) := by decide +kernel
theorem dX5_isRead_50 : decode cX5_isRead 50 = .ok (.invokevirtual 42, 3) := by decide +kernel
theorem dX5_isRead_53 : decode cX5_isRead 53 = .ok (.ifCond .ne 5, 3) := by decide +kernel
theorem dX5_isRead_56 : decode cX5_isRead 56 = .ok (.iconst 0, 1) := by decide +kernel
theorem dX5_isRead_57 : decode cX5_isRead 57 = .ok (.ireturn, 1) := by decide +kernel
theorem dX5_isRead_58 : decode cX5_isRead 58 = .ok (.iconst 1, 1) := by decide +kernel
theorem dX5_isRead_59 : decode cX5_isRead 59 = .ok (.istore 5, 2) := by decide +kernel
theorem dX5_isRead_61 : decode cX5_isRead 61 = .ok (.iload 5, 2) := by decide +kernel
theorem dX5_isRead_63 : decode cX5_isRead 63 = .ok (.bipush 7, 2) := by decide +kernel
theorem dX5_isRead_65 : decode cX5_isRead 65 = .ok (.if_icmp .ge 29, 3) := by decide +kernel
theorem dX5_isRead_68 : decode cX5_isRead 68 = .ok (.aload_n 0, 1) := by decide +kernel
theorem dX5_isRead_69 : decode cX5_isRead 69 = .ok (.bipush 59, 2) := by decide +kernel
theorem dX5_isRead_71 : decode cX5_isRead 71 = .ok (.invokevirtual 38, 3) := by decide +kernel
theorem dX5_isRead_74 : decode cX5_isRead 74 = .ok (.ifCond .eq 20, 3) := by decide +kernel
theorem dX5_isRead_77 : decode cX5_isRead 77 = .ok (.aload_n 0, 1) := by decide +kernel
theorem dX5_isRead_78 : decode cX5_isRead 78 = .ok (.aload 4, 2) := by decide +kernel
theorem dX5_isRead_80 : decode cX5_isRead 80 = .ok (.invokevirtual 42, 3) := by decide +kernel
theorem dX5_isRead_83 : decode cX5_isRead 83 = .ok (.ifCond .ne 5, 3) := by decide +kernel
theorem dX5_isRead_86 : decode cX5_isRead 86 = .ok (.iconst 0, 1) := by decide +kernel
theorem dX5_isRead_87 : decode cX5_isRead 87 = .ok (.ireturn, 1) := by decide +kernel
theorem dX5_isRead_88 : decode cX5_isRead 88 = .ok (.iinc 5 1, 3) := by decide +kernel
theorem dX5_isRead_91 : decode cX5_isRead 91 = .ok (.goto (-30), 3) := by decide +kernel
theorem dX5_isRead_94 : decode cX5_isRead 94 = .ok (.iconst 0, 1) := by decide +kernel
theorem dX5_isRead_95 : decode cX5_isRead 95 = .ok (.istore 5, 2) := by decide +kernel
theorem dX5_isRead_97 : decode cX5_isRead 97 = .ok (.iload 5, 2) := by decide +kernel
theorem dX5_isRead_99 : decode cX5_isRead 99 = .ok (.bipush 6, 2) := by decide +kernel
theorem dX5_isRead_101 : decode cX5_isRead 101 = .ok (.if_icmp .ge 29, 3) := by decide +kernel
theorem dX5_isRead_104 : decode cX5_isRead 104 = .ok (.aload_n 0, 1) := by decide +kernel
theorem dX5_isRead_105 : decode cX5_isRead 105 = .ok (.bipush 44, 2) := by decide +kernel
theorem dX5_isRead_107 : decode cX5_isRead 107 = .ok (.invokevirtual 38, 3) := by decide +kernel
theorem dX5_isRead_110 : decode cX5_isRead 110 = .ok (.ifCond .eq 20, 3) := by decide +kernel
theorem dX5_isRead_113 : decode cX5_isRead 113 = .ok (.aload_n 0, 1) := by decide +kernel
theorem dX5_isRead_114 : decode cX5_isRead 114 = .ok (.aload 4, 2) := by decide +kernel
theorem dX5_isRead_116 : decode cX5_isRead 116 = .ok (.invokevirtual 46, 3) := by decide +kernel
theorem dX5_isRead_119 : decode cX5_isRead 119 = .ok (.ifCond .ne 5, 3) := by decide +kernel
theorem dX5_isRead_122 : decode cX5_isRead 122 = .ok (.iconst 0, 1) := by decide +kernel
theorem dX5_isRead_123 : decode cX5_isRead 123 = .ok (.ireturn, 1) := by decide +kernel
theorem dX5_isRead_124 : decode cX5_isRead 124 = .ok (.iinc 5 1, 3) := by decide +kernel
theorem dX5_isRead_127 : decode cX5_isRead 127 = .ok (.goto (-30), 3) := by decide +kernel
theorem dX5_isRead_130 : decode cX5_isRead 130 = .ok (.aload_n 0, 1) := by decide +kernel
theorem dX5_isRead_131 : decode cX5_isRead 131 = .ok (.getfield 30, 3) := by decide +kernel
theorem dX5_isRead_134 : decode cX5_isRead 134 = .ok (.aload_n 0, 1) := by decide +kernel
theorem dX5_isRead_135 : decode cX5_isRead 135 = .ok (.getfield 26, 3) := by decide +kernel
theorem dX5_isRead_138 : decode cX5_isRead 138 = .ok (.if_icmp .ne 7, 3) := by decide +kernel
theorem dX5_isRead_141 : decode cX5_isRead 141 = .ok (.iconst 1, 1) := by decide +kernel
theorem dX5_isRead_142 : decode cX5_isRead 142 = .ok (.goto 4, 3) := by decide +kernel
theorem dX5_isRead_145 : decode cX5_isRead 145 = .ok (.iconst 0, 1) := by decide +kernel
theorem dX5_isRead_146 : decode cX5_isRead 146 = .ok (.ireturn, 1) := by decide +kernel
theorem dX5_isNext_0 : decode cX5_isNext 0 = .ok (.aload_n 0, 1) := by decide +kernel
theorem dX5_isNext_1 : decode cX5_isNext 1 = .ok (.getfield 30, 3) := by decide +kernel
theorem dX5_isNext_4 : decode cX5_isNext 4 = .ok (.aload_n 0, 1) := by decide +kernel
theorem dX5_isNext_5 : decode cX5_isNext 5 = .ok (.getfield 26, 3) := by decide +kernel
theorem dX5_isNext_8 : decode cX5_isNext 8 = .ok (.if_icmp .ge 20, 3) := by decide +kernel
theorem dX5_isNext_11 : decode cX5_isNext 11 = .ok (.aload_n 0, 1) := by decide +kernel
theorem dX5_isNext_12 : decode cX5_isNext 12 = .ok (.getfield 9, 3) := by decide +kernel
theorem dX5_isNext_15 : decode cX5_isNext 15 = .ok (.aload_n 0, 1) := by decide +kernel
theorem dX5_isNext_16 : decode cX5_isNext 16 = .ok (.getfield 30, 3) := by decide +kernel
theorem dX5_isNext_19 : decode cX5_isNext 19 = .ok (.iaload, 1) := by decide +kernel
theorem dX5_isNext_20 : decode cX5_isNext 20 = .ok (.iload_n 1, 1) := by decide +kernel
theorem dX5_isNext_21 : decode cX5_isNext 21 = .ok (.if_icmp .ne 7, 3) := by decide +kernel
theorem dX5_isNext_24 : decode cX5_isNext 24 = .ok (.iconst 1, 1) := by decide +kernel
theorem dX5_isNext_25 : decode cX5_isNext 25 = .ok (.goto 4, 3) := by decide +kernel
theorem dX5_isNext_28 : decode cX5_isNext 28 = .ok (.iconst 0, 1) := by decide +kernel
theorem dX5_isNext_29 : decode cX5_isNext 29 = .ok (.ireturn, 1) := by decide +kernel
theorem dX5_takes_0 : decode cX5_takes 0 = .ok (.aload_n 0, 1) := by decide +kernel
theorem dX5_takes_1 : decode cX5_takes 1 = .ok (.iload_n 1, 1) := by decide +kernel
theorem dX5_takes_2 : decode cX5_takes 2 = .ok (.invokevirtual 49, 3) := by decide +kernel
theorem dX5_takes_5 : decode cX5_takes 5 = .ok (.ifCond .ne 5, 3) := by decide +kernel
theorem dX5_takes_8 : decode cX5_takes 8 = .ok (.iconst 0, 1) := by decide +kernel
theorem dX5_takes_9 : decode cX5_takes 9 = .ok (.ireturn, 1) := by decide +kernel
theorem dX5_takes_10 : decode cX5_takes 10 = .ok (.aload_n 0, 1) := by decide +kernel
theorem dX5_takes_11 : decode cX5_takes 11 = .ok (.dup, 1) := by decide +kernel
theorem dX5_takes_12 : decode cX5_takes 12 = .ok (.getfield 30, 3) := by decide +kernel
theorem dX5_takes_15 : decode cX5_takes 15 = .ok (.iconst 1, 1) := by decide +kernel
theorem dX5_takes_16 : decode cX5_takes 16 = .ok (.iadd, 1) := by decide +kernel
theorem dX5_takes_17 : decode cX5_takes 17 = .ok (.putfield 30, 3) := by decide +kernel
theorem dX5_takes_20 : decode cX5_takes 20 = .ok (.iconst 1, 1) := by decide +kernel
theorem dX5_takes_21 : decode cX5_takes 21 = .ok (.ireturn, 1) := by decide +kernel
theorem dX5_readsCell_0 : decode cX5_readsCell 0 = .ok (.aload_n 1, 1) := by decide +kernel
theorem dX5_readsCell_1 : decode cX5_readsCell 1 = .ok (.getfield 52, 3) := by decide +kernel
theorem dX5_readsCell_4 : decode cX5_readsCell 4 = .ok (.istore_n 2, 1) := by decide +kernel
theorem dX5_readsCell_5 : decode cX5_readsCell 5 = .ok (.aload_n 0, 1) := by decide +kernel
theorem dX5_readsCell_6 : decode cX5_readsCell 6 = .ok (.bipush 112, 2) := by decide +kernel
theorem dX5_readsCell_8 : decode cX5_readsCell 8 = .ok (.invokevirtual 38, 3) := by decide +kernel
theorem dX5_readsCell_11 : decode cX5_readsCell 11 = .ok (.ifCond .eq 7, 3) := by decide +kernel
theorem dX5_readsCell_14 : decode cX5_readsCell 14 = .ok (.iconst 0, 1) := by decide +kernel
theorem dX5_readsCell_15 : decode cX5_readsCell 15 = .ok (.goto 31, 3) := by decide +kernel
theorem dX5_readsCell_18 : decode cX5_readsCell 18 = .ok (.aload_n 0, 1) := by decide +kernel
theorem dX5_readsCell_19 : decode cX5_readsCell 19 = .ok (.bipush 98, 2) := by decide +kernel
theorem dX5_readsCell_21 : decode cX5_readsCell 21 = .ok (.invokevirtual 38, 3) := by decide +kernel
theorem dX5_readsCell_24 : decode cX5_readsCell 24 = .ok (.ifCond .eq 7, 3) := by decide +kernel
theorem dX5_readsCell_27 : decode cX5_readsCell 27 = .ok (.iconst 1, 1) := by decide +kernel
theorem dX5_readsCell_28 : decode cX5_readsCell 28 = .ok (.goto 18, 3) := by decide +kernel
theorem dX5_readsCell_31 : decode cX5_readsCell 31 = .ok (.aload_n 0, 1) := by decide +kernel
theorem dX5_readsCell_32 : decode cX5_readsCell 32 = .ok (.bipush 100, 2) := by decide +kernel
theorem dX5_readsCell_34 : decode cX5_readsCell 34 = .ok (.invokevirtual 38, 3) := by decide +kernel
theorem dX5_readsCell_37 : decode cX5_readsCell 37 = .ok (.ifCond .eq 7, 3) := by decide +kernel
theorem dX5_readsCell_40 : decode cX5_readsCell 40 = .ok (.iconst 2, 1) := by decide +kernel
theorem dX5_readsCell_41 : decode cX5_readsCell 41 = .ok (.goto 5, 3) := by decide +kernel
theorem dX5_readsCell_44 : decode cX5_readsCell 44 = .ok (.bipush (-9), 2) := by decide +kernel
theorem dX5_readsCell_46 : decode cX5_readsCell 46 = .ok (.istore_n 3, 1) := by decide +kernel
theorem dX5_readsCell_47 : decode cX5_readsCell 47 = .ok (.iload_n 3, 1) := by decide +kernel
theorem dX5_readsCell_48 : decode cX5_readsCell 48 = .ok (.bipush (-9), 2) := by decide +kernel
theorem dX5_readsCell_50 : decode cX5_readsCell 50 = .ok (.if_icmp .ne 5, 3) := by decide +kernel
theorem dX5_readsCell_53 : decode cX5_readsCell 53 = .ok (.iconst 0, 1) := by decide +kernel
theorem dX5_readsCell_54 : decode cX5_readsCell 54 = .ok (.ireturn, 1) := by decide +kernel
theorem dX5_readsCell_55 : decode cX5_readsCell 55 = .ok (.aload_n 0, 1) := by decide +kernel
theorem dX5_readsCell_56 : decode cX5_readsCell 56 = .ok (.iconst 1, 1) := by decide +kernel
theorem dX5_readsCell_57 : decode cX5_readsCell 57 = .ok (.bipush 9, 2) := by decide +kernel
theorem dX5_readsCell_59 : decode cX5_readsCell 59 = .ok (.invokevirtual 55, 3) := by decide +kernel
theorem dX5_readsCell_62 : decode cX5_readsCell 62 = .ok (.istore 4, 2) := by decide +kernel
theorem dX5_readsCell_64 : decode cX5_readsCell 64 = .ok (.iload 4, 2) := by decide +kernel
theorem dX5_readsCell_66 : decode cX5_readsCell 66 = .ok (.bipush (-9), 2) := by decide +kernel
theorem dX5_readsCell_68 : decode cX5_readsCell 68 = .ok (.if_icmp .eq 12, 3) := by decide +kernel
theorem dX5_readsCell_71 : decode cX5_readsCell 71 = .ok (.aload_n 0, 1) := by decide +kernel
theorem dX5_readsCell_72 : decode cX5_readsCell 72 = .ok (.aload_n 1, 1) := by decide +kernel
theorem dX5_readsCell_73 : decode cX5_readsCell 73 = .ok (.iload_n 2, 1) := by decide +kernel
theorem dX5_readsCell_74 : decode cX5_readsCell 74 = .ok (.invokevirtual 59, 3) := by decide +kernel
theorem dX5_readsCell_77 : decode cX5_readsCell 77 = .ok (.ifCond .ne 5, 3) := by decide +kernel
theorem dX5_readsCell_80 : decode cX5_readsCell 80 = .ok (.iconst 0, 1) := by decide +kernel
theorem dX5_readsCell_81 : decode cX5_readsCell 81 = .ok (.ireturn, 1) := by decide +kernel
theorem dX5_readsCell_82 : decode cX5_readsCell 82 = .ok (.aload_n 1, 1) := by decide +kernel
theorem dX5_readsCell_83 : decode cX5_readsCell 83 = .ok (.iload_n 2, 1) := by decide +kernel
theorem dX5_readsCell_84 : decode cX5_readsCell 84 = .ok (.iload_n 3, 1) := by decide +kernel
theorem dX5_readsCell_85 : decode cX5_readsCell 85 = .ok (.iload 4, 2) := by decide +kernel
theorem dX5_readsCell_87 : decode cX5_readsCell 87 = .ok (.invokevirtual 63, 3) := by decide +kernel
theorem dX5_readsCell_90 : decode cX5_readsCell 90 = .ok (.aload_n 1, 1) := by decide +kernel
theorem dX5_readsCell_91 : decode cX5_readsCell 91 = .ok (.iload_n 2, 1) := by decide +kernel
theorem dX5_readsCell_92 : decode cX5_readsCell 92 = .ok (.iconst 1, 1) := by decide +kernel
theorem dX5_readsCell_93 : decode cX5_readsCell 93 = .ok (.iadd, 1) := by decide +kernel
theorem dX5_readsCell_94 : decode cX5_readsCell 94 = .ok (.putfield 52, 3) := by decide +kernel
theorem dX5_readsCell_97 : decode cX5_readsCell 97 = .ok (.iconst 1, 1) := by decide +kernel
theorem dX5_readsCell_98 : decode cX5_readsCell 98 = .ok (.ireturn, 1) := by decide +kernel
theorem dX5_readsSide_0 : decode cX5_readsSide 0 = .ok (.aload_n 0, 1) := by decide +kernel
theorem dX5_readsSide_1 : decode cX5_readsSide 1 = .ok (.bipush 114, 2) := by decide +kernel
theorem dX5_readsSide_3 : decode cX5_readsSide 3 = .ok (.invokevirtual 49, 3) := by decide +kernel
theorem dX5_readsSide_6 : decode cX5_readsSide 6 = .ok (.ifCond .ne 12, 3) := by decide +kernel
theorem dX5_readsSide_9 : decode cX5_readsSide 9 = .ok (.aload_n 0, 1) := by decide +kernel
theorem dX5_readsSide_10 : decode cX5_readsSide 10 = .ok (.bipush 82, 2) := by decide +kernel
theorem dX5_readsSide_12 : decode cX5_readsSide 12 = .ok (.invokevirtual 49, 3) := by decide +kernel
theorem dX5_readsSide_15 : decode cX5_readsSide 15 = .ok (.ifCond .eq 7, 3) := by decide +kernel
theorem dX5_readsSide_18 : decode cX5_readsSide 18 = .ok (.iconst 1, 1) := by decide +kernel
theorem dX5_readsSide_19 : decode cX5_readsSide 19 = .ok (.goto 4, 3) := by decide +kernel
theorem dX5_readsSide_22 : decode cX5_readsSide 22 = .ok (.iconst 0, 1) := by decide +kernel
theorem dX5_readsSide_23 : decode cX5_readsSide 23 = .ok (.istore_n 3, 1) := by decide +kernel
theorem dX5_readsSide_24 : decode cX5_readsSide 24 = .ok (.aload_n 0, 1) := by decide +kernel
theorem dX5_readsSide_25 : decode cX5_readsSide 25 = .ok (.bipush 76, 2) := by decide +kernel
theorem dX5_readsSide_27 : decode cX5_readsSide 27 = .ok (.invokevirtual 49, 3) := by decide +kernel
theorem dX5_readsSide_30 : decode cX5_readsSide 30 = .ok (.ifCond .ne 12, 3) := by decide +kernel
theorem dX5_readsSide_33 : decode cX5_readsSide 33 = .ok (.aload_n 0, 1) := by decide +kernel
theorem dX5_readsSide_34 : decode cX5_readsSide 34 = .ok (.bipush 82, 2) := by decide +kernel
theorem dX5_readsSide_36 : decode cX5_readsSide 36 = .ok (.invokevirtual 49, 3) := by decide +kernel
theorem dX5_readsSide_39 : decode cX5_readsSide 39 = .ok (.ifCond .eq 7, 3) := by decide +kernel
theorem dX5_readsSide_42 : decode cX5_readsSide 42 = .ok (.iconst 1, 1) := by decide +kernel
theorem dX5_readsSide_43 : decode cX5_readsSide 43 = .ok (.goto 4, 3) := by decide +kernel
theorem dX5_readsSide_46 : decode cX5_readsSide 46 = .ok (.iconst 0, 1) := by decide +kernel
theorem dX5_readsSide_47 : decode cX5_readsSide 47 = .ok (.istore 4, 2) := by decide +kernel
theorem dX5_readsSide_49 : decode cX5_readsSide 49 = .ok (.iload_n 3, 1) := by decide +kernel
theorem dX5_readsSide_50 : decode cX5_readsSide 50 = .ok (.ifCond .ne 19, 3) := by decide +kernel
theorem dX5_readsSide_53 : decode cX5_readsSide 53 = .ok (.iload 4, 2) := by decide +kernel
theorem dX5_readsSide_55 : decode cX5_readsSide 55 = .ok (.ifCond .ne 14, 3) := by decide +kernel
theorem dX5_readsSide_58 : decode cX5_readsSide 58 = .ok (.aload_n 0, 1) := by decide +kernel
theorem dX5_readsSide_59 : decode cX5_readsSide 59 = .ok (.bipush 108, 2) := by decide +kernel
theorem dX5_readsSide_61 : decode cX5_readsSide 61 = .ok (.invokevirtual 49, 3) := by decide +kernel
theorem dX5_readsSide_64 : decode cX5_readsSide 64 = .ok (.ifCond .ne 5, 3) := by decide +kernel
theorem dX5_readsSide_67 : decode cX5_readsSide 67 = .ok (.iconst 0, 1) := by decide +kernel
theorem dX5_readsSide_68 : decode cX5_readsSide 68 = .ok (.ireturn, 1) := by decide +kernel
theorem dX5_readsSide_69 : decode cX5_readsSide 69 = .ok (.aload_n 0, 1) := by decide +kernel
theorem dX5_readsSide_70 : decode cX5_readsSide 70 = .ok (.dup, 1) := by decide +kernel
theorem dX5_readsSide_71 : decode cX5_readsSide 71 = .ok (.getfield 30, 3) := by decide +kernel
theorem dX5_readsSide_74 : decode cX5_readsSide 74 = .ok (.iconst 1, 1) := by decide +kernel
theorem dX5_readsSide_75 : decode cX5_readsSide 75 = .ok (.iadd, 1) := by decide +kernel
theorem dX5_readsSide_76 : decode cX5_readsSide 76 = .ok (.putfield 30, 3) := by decide +kernel
theorem dX5_readsSide_79 : decode cX5_readsSide 79 = .ok (.aload_n 1, 1) := by decide +kernel
theorem dX5_readsSide_80 : decode cX5_readsSide 80 = .ok (.dup, 1) := by decide +kernel
theorem dX5_readsSide_81 : decode cX5_readsSide 81 = .ok (.getfield 67, 3) := by decide +kernel
theorem dX5_readsSide_84 : decode cX5_readsSide 84 = .ok (.iload_n 3, 1) := by decide +kernel
theorem dX5_readsSide_85 : decode cX5_readsSide 85 = .ok (.ifCond .eq 9, 3) := by decide +kernel
theorem dX5_readsSide_88 : decode cX5_readsSide 88 = .ok (.iconst 1, 1) := by decide +kernel
theorem dX5_readsSide_89 : decode cX5_readsSide 89 = .ok (.iload_n 2, 1) := by decide +kernel
theorem dX5_readsSide_90 : decode cX5_readsSide 90 = .ok (.ishl, 1) := by decide +kernel
theorem dX5_readsSide_91 : decode cX5_readsSide 91 = .ok (.goto 4, 3) := by decide +kernel
theorem dX5_readsSide_94 : decode cX5_readsSide 94 = .ok (.iconst 0, 1) := by decide +kernel
theorem dX5_readsSide_95 : decode cX5_readsSide 95 = .ok (.ior, 1) := by decide +kernel
theorem dX5_readsSide_96 : decode cX5_readsSide 96 = .ok (.putfield 67, 3) := by decide +kernel
theorem dX5_readsSide_99 : decode cX5_readsSide 99 = .ok (.aload_n 1, 1) := by decide +kernel
theorem dX5_readsSide_100 : decode cX5_readsSide 100 = .ok (.dup, 1) := by decide +kernel
theorem dX5_readsSide_101 : decode cX5_readsSide 101 = .ok (.getfield 70, 3) := by decide +kernel
theorem dX5_readsSide_104 : decode cX5_readsSide 104 = .ok (.iload 4, 2) := by decide +kernel
theorem dX5_readsSide_106 : decode cX5_readsSide 106 = .ok (.ifCond .eq 9, 3) := by decide +kernel
theorem dX5_readsSide_109 : decode cX5_readsSide 109 = .ok (.iconst 1, 1) := by decide +kernel
theorem dX5_readsSide_110 : decode cX5_readsSide 110 = .ok (.iload_n 2, 1) := by decide +kernel
theorem dX5_readsSide_111 : decode cX5_readsSide 111 = .ok (.ishl, 1) := by decide +kernel
theorem dX5_readsSide_112 : decode cX5_readsSide 112 = .ok (.goto 4, 3) := by decide +kernel
theorem dX5_readsSide_115 : decode cX5_readsSide 115 = .ok (.iconst 0, 1) := by decide +kernel
theorem dX5_readsSide_116 : decode cX5_readsSide 116 = .ok (.ior, 1) := by decide +kernel
theorem dX5_readsSide_117 : decode cX5_readsSide 117 = .ok (.putfield 70, 3) := by decide +kernel
theorem dX5_readsSide_120 : decode cX5_readsSide 120 = .ok (.iconst 1, 1) := by decide +kernel
theorem dX5_readsSide_121 : decode cX5_readsSide 121 = .ok (.ireturn, 1) := by decide +kernel
theorem dX5_readsNet_0 : decode cX5_readsNet 0 = .ok (.iconst 0, 1) := by decide +kernel
theorem dX5_readsNet_1 : decode cX5_readsNet 1 = .ok (.istore_n 2, 1) := by decide +kernel
theorem dX5_readsNet_2 : decode cX5_readsNet 2 = .ok (.iconst 0, 1) := by decide +kernel
theorem dX5_readsNet_3 : decode cX5_readsNet 3 = .ok (.istore_n 3, 1) := by decide +kernel
theorem dX5_readsNet_4 : decode cX5_readsNet 4 = .ok (.iload_n 3, 1) := by decide +kernel
theorem dX5_readsNet_5 : decode cX5_readsNet 5 = .ok (.iconst 4, 1) := by decide +kernel
theorem dX5_readsNet_6 : decode cX5_readsNet 6 = .ok (.if_icmp .ge 62, 3) := by decide +kernel
theorem dX5_readsNet_9 : decode cX5_readsNet 9 = .ok (.aload_n 0, 1) := by decide +kernel
theorem dX5_readsNet_10 : decode cX5_readsNet 10 = .ok (.iconst 0, 1) := by decide +kernel
theorem dX5_readsNet_11 : decode cX5_readsNet 11 = .ok (.aload_n 1, 1) := by decide +kernel
theorem dX5_readsNet_12 : decode cX5_readsNet 12 = .ok (.getfield 52, 3) := by decide +kernel
theorem dX5_readsNet_15 : decode cX5_readsNet 15 = .ok (.iconst 1, 1) := by decide +kernel
theorem dX5_readsNet_16 : decode cX5_readsNet 16 = .ok (.isub, 1) := by decide +kernel
theorem dX5_readsNet_17 : decode cX5_readsNet 17 = .ok (.invokevirtual 55, 3) := by decide +kernel
theorem dX5_readsNet_20 : decode cX5_readsNet 20 = .ok (.istore 4, 2) := by decide +kernel
theorem dX5_readsNet_22 : decode cX5_readsNet 22 = .ok (.iload 4, 2) := by decide +kernel
theorem dX5_readsNet_24 : decode cX5_readsNet 24 = .ok (.bipush (-9), 2) := by decide +kernel
theorem dX5_readsNet_26 : decode cX5_readsNet 26 = .ok (.if_icmp .ne 6, 3) := by decide +kernel
theorem dX5_readsNet_29 : decode cX5_readsNet 29 = .ok (.goto 39, 3) := by decide +kernel
theorem dX5_readsNet_32 : decode cX5_readsNet 32 = .ok (.iload_n 2, 1) := by decide +kernel
theorem dX5_readsNet_33 : decode cX5_readsNet 33 = .ok (.iload 4, 2) := by decide +kernel
theorem dX5_readsNet_35 : decode cX5_readsNet 35 = .ok (.ishr, 1) := by decide +kernel
theorem dX5_readsNet_36 : decode cX5_readsNet 36 = .ok (.iconst 1, 1) := by decide +kernel
theorem dX5_readsNet_37 : decode cX5_readsNet 37 = .ok (.iand, 1) := by decide +kernel
theorem dX5_readsNet_38 : decode cX5_readsNet 38 = .ok (.iconst 1, 1) := by decide +kernel
theorem dX5_readsNet_39 : decode cX5_readsNet 39 = .ok (.if_icmp .ne 16, 3) := by decide +kernel
theorem dX5_readsNet_42 : decode cX5_readsNet 42 = .ok (.aload_n 0, 1) := by decide +kernel
theorem dX5_readsNet_43 : decode cX5_readsNet 43 = .ok (.dup, 1) := by decide +kernel
theorem dX5_readsNet_44 : decode cX5_readsNet 44 = .ok (.getfield 30, 3) := by decide +kernel
theorem dX5_readsNet_47 : decode cX5_readsNet 47 = .ok (.iconst 1, 1) := by decide +kernel
theorem dX5_readsNet_48 : decode cX5_readsNet 48 = .ok (.isub, 1) := by decide +kernel
theorem dX5_readsNet_49 : decode cX5_readsNet 49 = .ok (.putfield 30, 3) := by decide +kernel
theorem dX5_readsNet_52 : decode cX5_readsNet 52 = .ok (.goto 16, 3) := by decide +kernel
theorem dX5_readsNet_55 : decode cX5_readsNet 55 = .ok (.iload_n 2, 1) := by decide +kernel
theorem dX5_readsNet_56 : decode cX5_readsNet 56 = .ok (.iconst 1, 1) := by decide +kernel
theorem dX5_readsNet_57 : decode cX5_readsNet 57 = .ok (.iload 4, 2) := by decide +kernel
theorem dX5_readsNet_59 : decode cX5_readsNet 59 = .ok (.ishl, 1) := by decide +kernel
theorem dX5_readsNet_60 : decode cX5_readsNet 60 = .ok (.ior, 1) := by decide +kernel
theorem dX5_readsNet_61 : decode cX5_readsNet 61 = .ok (.istore_n 2, 1) := by decide +kernel
theorem dX5_readsNet_62 : decode cX5_readsNet 62 = .ok (.iinc 3 1, 3) := by decide +kernel
theorem dX5_readsNet_65 : decode cX5_readsNet 65 = .ok (.goto (-61), 3) := by decide +kernel
theorem dX5_readsNet_68 : decode cX5_readsNet 68 = .ok (.iload_n 2, 1) := by decide +kernel
theorem dX5_readsNet_69 : decode cX5_readsNet 69 = .ok (.invokestatic 73, 3) := by decide +kernel
theorem dX5_readsNet_72 : decode cX5_readsNet 72 = .ok (.iconst 2, 1) := by decide +kernel
theorem dX5_readsNet_73 : decode cX5_readsNet 73 = .ok (.if_icmp .ge 5, 3) := by decide +kernel
theorem dX5_readsNet_76 : decode cX5_readsNet 76 = .ok (.iconst 0, 1) := by decide +kernel
theorem dX5_readsNet_77 : decode cX5_readsNet 77 = .ok (.ireturn, 1) := by decide +kernel
theorem dX5_readsNet_78 : decode cX5_readsNet 78 = .ok (.aload_n 1, 1) := by decide +kernel
theorem dX5_readsNet_79 : decode cX5_readsNet 79 = .ok (.getfield 79, 3) := by decide +kernel
theorem dX5_readsNet_82 : decode cX5_readsNet 82 = .ok (.aload_n 1, 1) := by decide +kernel
theorem dX5_readsNet_83 : decode cX5_readsNet 83 = .ok (.getfield 82, 3) := by decide +kernel
theorem dX5_readsNet_86 : decode cX5_readsNet 86 = .ok (.iload_n 2, 1) := by decide +kernel
theorem dX5_readsNet_87 : decode cX5_readsNet 87 = .ok (.iastore, 1) := by decide +kernel
theorem dX5_readsNet_88 : decode cX5_readsNet 88 = .ok (.aload_n 1, 1) := by decide +kernel
theorem dX5_readsNet_89 : decode cX5_readsNet 89 = .ok (.dup, 1) := by decide +kernel
theorem dX5_readsNet_90 : decode cX5_readsNet 90 = .ok (.getfield 82, 3) := by decide +kernel
theorem dX5_readsNet_93 : decode cX5_readsNet 93 = .ok (.iconst 1, 1) := by decide +kernel
theorem dX5_readsNet_94 : decode cX5_readsNet 94 = .ok (.iadd, 1) := by decide +kernel
theorem dX5_readsNet_95 : decode cX5_readsNet 95 = .ok (.putfield 82, 3) := by decide +kernel
theorem dX5_readsNet_98 : decode cX5_readsNet 98 = .ok (.iconst 1, 1) := by decide +kernel
theorem dX5_readsNet_99 : decode cX5_readsNet 99 = .ok (.ireturn, 1) := by decide +kernel
theorem dX5_digit_0 : decode cX5_digit 0 = .ok (.aload_n 0, 1) := by decide +kernel
theorem dX5_digit_1 : decode cX5_digit 1 = .ok (.getfield 30, 3) := by decide +kernel
theorem dX5_digit_4 : decode cX5_digit 4 = .ok (.aload_n 0, 1) := by decide +kernel
theorem dX5_digit_5 : decode cX5_digit 5 = .ok (.getfield 26, 3) := by decide +kernel
theorem dX5_digit_8 : decode cX5_digit 8 = .ok (.if_icmp .lt 6, 3) := by decide +kernel
theorem dX5_digit_11 : decode cX5_digit 11 = .ok (.bipush (-9), 2) := by decide +kernel
theorem dX5_digit_13 : decode cX5_digit 13 = .ok (.ireturn, 1) := by decide +kernel
theorem dX5_digit_14 : decode cX5_digit 14 = .ok (.aload_n 0, 1) := by decide +kernel
theorem dX5_digit_15 : decode cX5_digit 15 = .ok (.getfield 9, 3) := by decide +kernel
theorem dX5_digit_18 : decode cX5_digit 18 = .ok (.aload_n 0, 1) := by decide +kernel
theorem dX5_digit_19 : decode cX5_digit 19 = .ok (.getfield 30, 3) := by decide +kernel
theorem dX5_digit_22 : decode cX5_digit 22 = .ok (.iaload, 1) := by decide +kernel
theorem dX5_digit_23 : decode cX5_digit 23 = .ok (.istore_n 3, 1) := by decide +kernel
theorem dX5_digit_24 : decode cX5_digit 24 = .ok (.iload_n 3, 1) := by decide +kernel
theorem dX5_digit_25 : decode cX5_digit 25 = .ok (.bipush 48, 2) := by decide +kernel
theorem dX5_digit_27 : decode cX5_digit 27 = .ok (.iload_n 1, 1) := by decide +kernel
theorem dX5_digit_28 : decode cX5_digit 28 = .ok (.iadd, 1) := by decide +kernel
theorem dX5_digit_29 : decode cX5_digit 29 = .ok (.if_icmp .lt 11, 3) := by decide +kernel
theorem dX5_digit_32 : decode cX5_digit 32 = .ok (.iload_n 3, 1) := by decide +kernel
theorem dX5_digit_33 : decode cX5_digit 33 = .ok (.bipush 48, 2) := by decide +kernel
theorem dX5_digit_35 : decode cX5_digit 35 = .ok (.iload_n 2, 1) := by decide +kernel
theorem dX5_digit_36 : decode cX5_digit 36 = .ok (.iadd, 1) := by decide +kernel
theorem dX5_digit_37 : decode cX5_digit 37 = .ok (.if_icmp .le 6, 3) := by decide +kernel
theorem dX5_digit_40 : decode cX5_digit 40 = .ok (.bipush (-9), 2) := by decide +kernel
theorem dX5_digit_42 : decode cX5_digit 42 = .ok (.ireturn, 1) := by decide +kernel
theorem dX5_digit_43 : decode cX5_digit 43 = .ok (.aload_n 0, 1) := by decide +kernel
theorem dX5_digit_44 : decode cX5_digit 44 = .ok (.dup, 1) := by decide +kernel
theorem dX5_digit_45 : decode cX5_digit 45 = .ok (.getfield 30, 3) := by decide +kernel
theorem dX5_digit_48 : decode cX5_digit 48 = .ok (.iconst 1, 1) := by decide +kernel
theorem dX5_digit_49 : decode cX5_digit 49 = .ok (.iadd, 1) := by decide +kernel
theorem dX5_digit_50 : decode cX5_digit 50 = .ok (.putfield 30, 3) := by decide +kernel
theorem dX5_digit_53 : decode cX5_digit 53 = .ok (.iload_n 3, 1) := by decide +kernel
theorem dX5_digit_54 : decode cX5_digit 54 = .ok (.bipush 48, 2) := by decide +kernel
theorem dX5_digit_56 : decode cX5_digit 56 = .ok (.isub, 1) := by decide +kernel
theorem dX5_digit_57 : decode cX5_digit 57 = .ok (.ireturn, 1) := by decide +kernel
theorem dX6_init_0 : decode cX6_init 0 = .ok (.aload_n 0, 1) := by decide +kernel
theorem dX6_init_1 : decode cX6_init 1 = .ok (.invokespecial 3, 3) := by decide +kernel
theorem dX6_init_4 : decode cX6_init 4 = .ok (.aload_n 0, 1) := by decide +kernel
theorem dX6_init_5 : decode cX6_init 5 = .ok (.iconst 4, 1) := by decide +kernel
theorem dX6_init_6 : decode cX6_init 6 = .ok (.anewarray 11, 3) := by decide +kernel
theorem dX6_init_9 : decode cX6_init 9 = .ok (.putfield 13, 3) := by decide +kernel
theorem dX6_init_12 : decode cX6_init 12 = .ok (.aload_n 0, 1) := by decide +kernel
theorem dX6_init_13 : decode cX6_init 13 = .ok (.new 17, 3) := by decide +kernel
theorem dX6_init_16 : decode cX6_init 16 = .ok (.dup, 1) := by decide +kernel
theorem dX6_init_17 : decode cX6_init 17 = .ok (.invokespecial 19, 3) := by decide +kernel
theorem dX6_init_20 : decode cX6_init 20 = .ok (.putfield 20, 3) := by decide +kernel
theorem dX6_init_23 : decode cX6_init 23 = .ok (.aload_n 0, 1) := by decide +kernel
theorem dX6_init_24 : decode cX6_init 24 = .ok (.new 17, 3) := by decide +kernel
theorem dX6_init_27 : decode cX6_init 27 = .ok (.dup, 1) := by decide +kernel
theorem dX6_init_28 : decode cX6_init 28 = .ok (.invokespecial 19, 3) := by decide +kernel
theorem dX6_init_31 : decode cX6_init 31 = .ok (.putfield 24, 3) := by decide +kernel
theorem dX6_init_34 : decode cX6_init 34 = .ok (.aload_n 0, 1) := by decide +kernel
theorem dX6_init_35 : decode cX6_init 35 = .ok (.new 27, 3) := by decide +kernel
theorem dX6_init_38 : decode cX6_init 38 = .ok (.dup, 1) := by decide +kernel
theorem dX6_init_39 : decode cX6_init 39 = .ok (.invokespecial 29, 3) := by decide +kernel
theorem dX6_init_42 : decode cX6_init 42 = .ok (.putfield 30, 3) := by decide +kernel
theorem dX6_init_45 : decode cX6_init 45 = .ok (.aload_n 0, 1) := by decide +kernel
theorem dX6_init_46 : decode cX6_init 46 = .ok (.new 34, 3) := by decide +kernel
theorem dX6_init_49 : decode cX6_init 49 = .ok (.dup, 1) := by decide +kernel
theorem dX6_init_50 : decode cX6_init 50 = .ok (.invokespecial 36, 3) := by decide +kernel
theorem dX6_init_53 : decode cX6_init 53 = .ok (.putfield 37, 3) := by decide +kernel
theorem dX6_init_56 : decode cX6_init 56 = .ok (.aload_n 0, 1) := by decide +kernel
theorem dX6_init_57 : decode cX6_init 57 = .ok (.new 41, 3) := by decide +kernel
theorem dX6_init_60 : decode cX6_init 60 = .ok (.dup, 1) := by decide +kernel
theorem dX6_init_61 : decode cX6_init 61 = .ok (.invokespecial 43, 3) := by decide +kernel
theorem dX6_init_64 : decode cX6_init 64 = .ok (.putfield 44, 3) := by decide +kernel
theorem dX6_init_67 : decode cX6_init 67 = .ok (.aload_n 0, 1) := by decide +kernel
theorem dX6_init_68 : decode cX6_init 68 = .ok (.new 48, 3) := by decide +kernel
theorem dX6_init_71 : decode cX6_init 71 = .ok (.dup, 1) := by decide +kernel
theorem dX6_init_72 : decode cX6_init 72 = .ok (.invokespecial 50, 3) := by decide +kernel
theorem dX6_init_75 : decode cX6_init 75 = .ok (.putfield 51, 3) := by decide +kernel
theorem dX6_init_78 : decode cX6_init 78 = .ok (.iconst 0, 1) := by decide +kernel
theorem dX6_init_79 : decode cX6_init 79 = .ok (.istore_n 1, 1) := by decide +kernel
theorem dX6_init_80 : decode cX6_init 80 = .ok (.iload_n 1, 1) := by decide +kernel
theorem dX6_init_81 : decode cX6_init 81 = .ok (.iconst 4, 1) := by decide +kernel
theorem dX6_init_82 : decode cX6_init 82 = .ok (.if_icmp .ge 22, 3) := by decide +kernel
theorem dX6_init_85 : decode cX6_init 85 = .ok (.aload_n 0, 1) := by decide +kernel
theorem dX6_init_86 : decode cX6_init 86 = .ok (.getfield 13, 3) := by decide +kernel
theorem dX6_init_89 : decode cX6_init 89 = .ok (.iload_n 1, 1) := by decide +kernel
theorem dX6_init_90 : decode cX6_init 90 = .ok (.new 11, 3) := by decide +kernel
theorem dX6_init_93 : decode cX6_init 93 = .ok (.dup, 1) := by decide +kernel
theorem dX6_init_94 : decode cX6_init 94 = .ok (.invokespecial 55, 3) := by decide +kernel
theorem dX6_init_97 : decode cX6_init 97 = .ok (.aastore, 1) := by decide +kernel
theorem dX6_init_98 : decode cX6_init 98 = .ok (.iinc 1 1, 3) := by decide +kernel
theorem dX6_init_101 : decode cX6_init 101 = .ok (.goto (-21), 3) := by decide +kernel
theorem dX6_init_104 : decode cX6_init 104 = .ok (.return_, 1) := by decide +kernel
theorem dX6_circuit_0 : decode cX6_circuit 0 = .ok (.iload_n 1, 1) := by decide +kernel
theorem dX6_circuit_1 : decode cX6_circuit 1 = .ok (.invokestatic 56, 3) := by decide +kernel
theorem dX6_circuit_4 : decode cX6_circuit 4 = .ok (.ifCond .ne 9, 3) := by decide +kernel
theorem dX6_circuit_7 : decode cX6_circuit 7 = .ok (.aload_n 0, 1) := by decide +kernel
theorem dX6_circuit_8 : decode cX6_circuit 8 = .ok (.iconst (-1), 1) := by decide +kernel
theorem dX6_circuit_9 : decode cX6_circuit 9 = .ok (.invokevirtual 60, 3) := by decide +kernel
theorem dX6_circuit_12 : decode cX6_circuit 12 = .ok (.ireturn, 1) := by decide +kernel
theorem dX6_circuit_13 : decode cX6_circuit 13 = .ok (.iload_n 2, 1) := by decide +kernel
theorem dX6_circuit_14 : decode cX6_circuit 14 = .ok (.invokestatic 64, 3) := by decide +kernel
theorem dX6_circuit_17 : decode cX6_circuit 17 = .ok (.ifCond .ne 10, 3) := by decide +kernel
theorem dX6_circuit_20 : decode cX6_circuit 20 = .ok (.aload_n 0, 1) := by decide +kernel
theorem dX6_circuit_21 : decode cX6_circuit 21 = .ok (.bipush (-2), 2) := by decide +kernel
theorem dX6_circuit_23 : decode cX6_circuit 23 = .ok (.invokevirtual 60, 3) := by decide +kernel
theorem dX6_circuit_26 : decode cX6_circuit 26 = .ok (.ireturn, 1) := by decide +kernel
theorem dX6_circuit_27 : decode cX6_circuit 27 = .ok (.aload_n 0, 1) := by decide +kernel
theorem dX6_circuit_28 : decode cX6_circuit 28 = .ok (.getfield 13, 3) := by decide +kernel
theorem dX6_circuit_31 : decode cX6_circuit 31 = .ok (.iload_n 1, 1) := by decide +kernel
theorem dX6_circuit_32 : decode cX6_circuit 32 = .ok (.aaload, 1) := by decide +kernel
theorem dX6_circuit_33 : decode cX6_circuit 33 = .ok (.astore 5, 2) := by decide +kernel
theorem dX6_circuit_35 : decode cX6_circuit 35 = .ok (.aload 5, 2) := by decide +kernel
theorem dX6_circuit_37 : decode cX6_circuit 37 = .ok (.iload_n 2, 1) := by decide +kernel
theorem dX6_circuit_38 : decode cX6_circuit 38 = .ok (.invokevirtual 67, 3) := by decide +kernel
theorem dX6_circuit_41 : decode cX6_circuit 41 = .ok (.istore 6, 2) := by decide +kernel
theorem dX6_circuit_43 : decode cX6_circuit 43 = .ok (.iload 6, 2) := by decide +kernel
theorem dX6_circuit_45 : decode cX6_circuit 45 = .ok (.ifCond .ne 11, 3) := by decide +kernel
theorem dX6_circuit_48 : decode cX6_circuit 48 = .ok (.iload 4, 2) := by decide +kernel
theorem dX6_circuit_50 : decode cX6_circuit 50 = .ok (.ifCond .ge 6, 3) := by decide +kernel
theorem dX6_circuit_53 : decode cX6_circuit 53 = .ok (.iconst 4, 1) := by decide +kernel
theorem dX6_circuit_54 : decode cX6_circuit 54 = .ok (.istore 6, 2) := by decide +kernel
theorem dX6_circuit_56 : decode cX6_circuit 56 = .ok (.iload 6, 2) := by decide +kernel
theorem dX6_circuit_58 : decode cX6_circuit 58 = .ok (.ifCond .ne 17, 3) := by decide +kernel
theorem dX6_circuit_61 : decode cX6_circuit 61 = .ok (.aload 5, 2) := by decide +kernel
theorem dX6_circuit_63 : decode cX6_circuit 63 = .ok (.iload_n 3, 1) := by decide +kernel
theorem dX6_circuit_64 : decode cX6_circuit 64 = .ok (.iload 4, 2) := by decide +kernel
theorem dX6_circuit_66 : decode cX6_circuit 66 = .ok (.invokevirtual 70, 3) := by decide +kernel
theorem dX6_circuit_69 : decode cX6_circuit 69 = .ok (.ifCond .ne 6, 3) := by decide +kernel
theorem dX6_circuit_72 : decode cX6_circuit 72 = .ok (.iconst 3, 1) := by decide +kernel
theorem dX6_circuit_73 : decode cX6_circuit 73 = .ok (.istore 6, 2) := by decide +kernel
theorem dX6_circuit_75 : decode cX6_circuit 75 = .ok (.iload 6, 2) := by decide +kernel
theorem dX6_circuit_77 : decode cX6_circuit 77 = .ok (.ifCond .eq 10, 3) := by decide +kernel
theorem dX6_circuit_80 : decode cX6_circuit 80 = .ok (.aload_n 0, 1) := by decide +kernel
theorem dX6_circuit_81 : decode cX6_circuit 81 = .ok (.iload 6, 2) := by decide +kernel
theorem dX6_circuit_83 : decode cX6_circuit 83 = .ok (.invokevirtual 74, 3) := by decide +kernel
theorem dX6_circuit_86 : decode cX6_circuit 86 = .ok (.ireturn, 1) := by decide +kernel
theorem dX6_circuit_87 : decode cX6_circuit 87 = .ok (.aload_n 0, 1) := by decide +kernel
theorem dX6_circuit_88 : decode cX6_circuit 88 = .ok (.iconst 0, 1) := by decide +kernel
theorem dX6_circuit_89 : decode cX6_circuit 89 = .ok (.putfield 77, 3) := by decide +kernel
theorem dX6_circuit_92 : decode cX6_circuit 92 = .ok (.aload_n 0, 1) := by decide +kernel
theorem dX6_circuit_93 : decode cX6_circuit 93 = .ok (.getfield 30, 3) := by decide +kernel
theorem dX6_circuit_96 : decode cX6_circuit 96 = .ok (.aload 5, 2) := by decide +kernel
theorem dX6_circuit_98 : decode cX6_circuit 98 = .ok (.iload_n 3, 1) := by decide +kernel
theorem dX6_circuit_99 : decode cX6_circuit 99 = .ok (.iload 4, 2) := by decide +kernel
theorem dX6_circuit_101 : decode cX6_circuit 101 = .ok (.aload_n 0, 1) := by decide +kernel
theorem dX6_circuit_102 : decode cX6_circuit 102 = .ok (.getfield 24, 3) := by decide +kernel
theorem dX6_circuit_105 : decode cX6_circuit 105 = .ok (.invokevirtual 81, 3) := by decide +kernel
theorem dX6_circuit_108 : decode cX6_circuit 108 = .ok (.ifCond .ne 14, 3) := by decide +kernel
theorem dX6_circuit_111 : decode cX6_circuit 111 = .ok (.bipush (-100), 2) := by decide +kernel
theorem dX6_circuit_113 : decode cX6_circuit 113 = .ok (.aload_n 0, 1) := by decide +kernel
theorem dX6_circuit_114 : decode cX6_circuit 114 = .ok (.getfield 30, 3) := by decide +kernel
theorem dX6_circuit_117 : decode cX6_circuit 117 = .ok (.getfield 85, 3) := by decide +kernel
theorem dX6_circuit_120 : decode cX6_circuit 120 = .ok (.isub, 1) := by decide +kernel
theorem dX6_circuit_121 : decode cX6_circuit 121 = .ok (.ireturn, 1) := by decide +kernel
theorem dX6_circuit_122 : decode cX6_circuit 122 = .ok (.aload_n 0, 1) := by decide +kernel
theorem dX6_circuit_123 : decode cX6_circuit 123 = .ok (.getfield 20, 3) := by decide +kernel
theorem dX6_circuit_126 : decode cX6_circuit 126 = .ok (.aload_n 0, 1) := by decide +kernel
theorem dX6_circuit_127 : decode cX6_circuit 127 = .ok (.getfield 24, 3) := by decide +kernel
theorem dX6_circuit_130 : decode cX6_circuit 130 = .ok (.invokevirtual 88, 3) := by decide +kernel
theorem dX6_circuit_133 : decode cX6_circuit 133 = .ok (.aload_n 0, 1) := by decide +kernel
theorem dX6_circuit_134 : decode cX6_circuit 134 = .ok (.getfield 44, 3) := by decide +kernel
theorem dX6_circuit_137 : decode cX6_circuit 137 = .ok (.iconst 0, 1) := by decide +kernel
theorem dX6_circuit_138 : decode cX6_circuit 138 = .ok (.putfield 92, 3) := by decide +kernel
theorem dX6_circuit_141 : decode cX6_circuit 141 = .ok (.aload_n 0, 1) := by decide +kernel
theorem dX6_circuit_142 : decode cX6_circuit 142 = .ok (.getfield 51, 3) := by decide +kernel
theorem dX6_circuit_145 : decode cX6_circuit 145 = .ok (.iconst 0, 1) := by decide +kernel
theorem dX6_circuit_146 : decode cX6_circuit 146 = .ok (.putfield 96, 3) := by decide +kernel
theorem dX6_circuit_149 : decode cX6_circuit 149 = .ok (.aload_n 0, 1) := by decide +kernel
theorem dX6_circuit_150 : decode cX6_circuit 150 = .ok (.getfield 20, 3) := by decide +kernel
theorem dX6_circuit_153 : decode cX6_circuit 153 = .ok (.getfield 99, 3) := by decide +kernel
theorem dX6_circuit_156 : decode cX6_circuit 156 = .ok (.ireturn, 1) := by decide +kernel
theorem dX6_ofCell_0 : decode cX6_ofCell 0 = .ok (.aload_n 0, 1) := by decide +kernel
theorem dX6_ofCell_1 : decode cX6_ofCell 1 = .ok (.iload_n 1, 1) := by decide +kernel
theorem dX6_ofCell_2 : decode cX6_ofCell 2 = .ok (.invokevirtual 102, 3) := by decide +kernel
theorem dX6_ofCell_5 : decode cX6_ofCell 5 = .ok (.ifCond .ne 5, 3) := by decide +kernel
theorem dX6_ofCell_8 : decode cX6_ofCell 8 = .ok (.iconst (-1), 1) := by decide +kernel
theorem dX6_ofCell_9 : decode cX6_ofCell 9 = .ok (.ireturn, 1) := by decide +kernel
theorem dX6_ofCell_10 : decode cX6_ofCell 10 = .ok (.iload_n 2, 1) := by decide +kernel
theorem dX6_ofCell_11 : decode cX6_ofCell 11 = .ok (.tableswitch 133 0 7 #[45, 55, 65, 75, 84, 101, 110, 122], 45) := by decide +kernel
theorem dX6_ofCell_56 : decode cX6_ofCell 56 = .ok (.aload_n 0, 1) := by decide +kernel
theorem dX6_ofCell_57 : decode cX6_ofCell 57 = .ok (.getfield 20, 3) := by decide +kernel
theorem dX6_ofCell_60 : decode cX6_ofCell 60 = .ok (.getfield 105, 3) := by decide +kernel
theorem dX6_ofCell_63 : decode cX6_ofCell 63 = .ok (.iload_n 1, 1) := by decide +kernel
theorem dX6_ofCell_64 : decode cX6_ofCell 64 = .ok (.iaload, 1) := by decide +kernel
theorem dX6_ofCell_65 : decode cX6_ofCell 65 = .ok (.ireturn, 1) := by decide +kernel
theorem dX6_ofCell_66 : decode cX6_ofCell 66 = .ok (.aload_n 0, 1) := by decide +kernel
theorem dX6_ofCell_67 : decode cX6_ofCell 67 = .ok (.getfield 20, 3) := by decide +kernel
theorem dX6_ofCell_70 : decode cX6_ofCell 70 = .ok (.getfield 109, 3) := by decide +kernel
theorem dX6_ofCell_73 : decode cX6_ofCell 73 = .ok (.iload_n 1, 1) := by decide +kernel
theorem dX6_ofCell_74 : decode cX6_ofCell 74 = .ok (.iaload, 1) := by decide +kernel
theorem dX6_ofCell_75 : decode cX6_ofCell 75 = .ok (.ireturn, 1) := by decide +kernel
theorem dX6_ofCell_76 : decode cX6_ofCell 76 = .ok (.aload_n 0, 1) := by decide +kernel
theorem dX6_ofCell_77 : decode cX6_ofCell 77 = .ok (.getfield 20, 3) := by decide +kernel
theorem dX6_ofCell_80 : decode cX6_ofCell 80 = .ok (.getfield 112, 3) := by decide +kernel
theorem dX6_ofCell_83 : decode cX6_ofCell 83 = .ok (.iload_n 1, 1) := by decide +kernel
theorem dX6_ofCell_84 : decode cX6_ofCell 84 = .ok (.iaload, 1) := by decide +kernel
theorem dX6_ofCell_85 : decode cX6_ofCell 85 = .ok (.ireturn, 1) := by decide +kernel
theorem dX6_ofCell_86 : decode cX6_ofCell 86 = .ok (.aload_n 0, 1) := by decide +kernel
theorem dX6_ofCell_87 : decode cX6_ofCell 87 = .ok (.getfield 20, 3) := by decide +kernel
theorem dX6_ofCell_90 : decode cX6_ofCell 90 = .ok (.iload_n 1, 1) := by decide +kernel
theorem dX6_ofCell_91 : decode cX6_ofCell 91 = .ok (.invokevirtual 115, 3) := by decide +kernel
theorem dX6_ofCell_94 : decode cX6_ofCell 94 = .ok (.ireturn, 1) := by decide +kernel
theorem dX6_ofCell_95 : decode cX6_ofCell 95 = .ok (.aload_n 0, 1) := by decide +kernel
theorem dX6_ofCell_96 : decode cX6_ofCell 96 = .ok (.getfield 20, 3) := by decide +kernel
theorem dX6_ofCell_99 : decode cX6_ofCell 99 = .ok (.iload_n 1, 1) := by decide +kernel
theorem dX6_ofCell_100 : decode cX6_ofCell 100 = .ok (.invokevirtual 118, 3) := by decide +kernel
theorem dX6_ofCell_103 : decode cX6_ofCell 103 = .ok (.ifCond .eq 7, 3) := by decide +kernel
theorem dX6_ofCell_106 : decode cX6_ofCell 106 = .ok (.iconst 1, 1) := by decide +kernel
theorem dX6_ofCell_107 : decode cX6_ofCell 107 = .ok (.goto 4, 3) := by decide +kernel
theorem dX6_ofCell_110 : decode cX6_ofCell 110 = .ok (.iconst 0, 1) := by decide +kernel
theorem dX6_ofCell_111 : decode cX6_ofCell 111 = .ok (.ireturn, 1) := by decide +kernel
theorem dX6_ofCell_112 : decode cX6_ofCell 112 = .ok (.aload_n 0, 1) := by decide +kernel
theorem dX6_ofCell_113 : decode cX6_ofCell 113 = .ok (.getfield 20, 3) := by decide +kernel
theorem dX6_ofCell_116 : decode cX6_ofCell 116 = .ok (.iload_n 1, 1) := by decide +kernel
theorem dX6_ofCell_117 : decode cX6_ofCell 117 = .ok (.invokevirtual 121, 3) := by decide +kernel
theorem dX6_ofCell_120 : decode cX6_ofCell 120 = .ok (.ireturn, 1) := by decide +kernel
theorem dX6_ofCell_121 : decode cX6_ofCell 121 = .ok (.aload_n 0, 1) := by decide +kernel
theorem dX6_ofCell_122 : decode cX6_ofCell 122 = .ok (.getfield 20, 3) := by decide +kernel
theorem dX6_ofCell_125 : decode cX6_ofCell 125 = .ok (.iload_n 1, 1) := by decide +kernel
theorem dX6_ofCell_126 : decode cX6_ofCell 126 = .ok (.invokevirtual 124, 3) := by decide +kernel
theorem dX6_ofCell_129 : decode cX6_ofCell 129 = .ok (.bipush 10, 2) := by decide +kernel
theorem dX6_ofCell_131 : decode cX6_ofCell 131 = .ok (.iadd, 1) := by decide +kernel
theorem dX6_ofCell_132 : decode cX6_ofCell 132 = .ok (.ireturn, 1) := by decide +kernel
theorem dX6_ofCell_133 : decode cX6_ofCell 133 = .ok (.aload_n 0, 1) := by decide +kernel
theorem dX6_ofCell_134 : decode cX6_ofCell 134 = .ok (.getfield 20, 3) := by decide +kernel
theorem dX6_ofCell_137 : decode cX6_ofCell 137 = .ok (.iconst 1, 1) := by decide +kernel
theorem dX6_ofCell_138 : decode cX6_ofCell 138 = .ok (.iload_n 1, 1) := by decide +kernel
theorem dX6_ofCell_139 : decode cX6_ofCell 139 = .ok (.ishl, 1) := by decide +kernel
theorem dX6_ofCell_140 : decode cX6_ofCell 140 = .ok (.invokevirtual 127, 3) := by decide +kernel
theorem dX6_ofCell_143 : decode cX6_ofCell 143 = .ok (.ireturn, 1) := by decide +kernel
theorem dX6_ofCell_144 : decode cX6_ofCell 144 = .ok (.bipush (-2), 2) := by decide +kernel
theorem dX6_ofCell_146 : decode cX6_ofCell 146 = .ok (.ireturn, 1) := by decide +kernel
theorem dX6_ofNet_0 : decode cX6_ofNet 0 = .ok (.iload_n 1, 1) := by decide +kernel
theorem dX6_ofNet_1 : decode cX6_ofNet 1 = .ok (.ifCond .lt 14, 3) := by decide +kernel
theorem dX6_ofNet_4 : decode cX6_ofNet 4 = .ok (.iload_n 1, 1) := by decide +kernel
theorem dX6_ofNet_5 : decode cX6_ofNet 5 = .ok (.aload_n 0, 1) := by decide +kernel
theorem dX6_ofNet_6 : decode cX6_ofNet 6 = .ok (.getfield 20, 3) := by decide +kernel
theorem dX6_ofNet_9 : decode cX6_ofNet 9 = .ok (.getfield 130, 3) := by decide +kernel
theorem dX6_ofNet_12 : decode cX6_ofNet 12 = .ok (.if_icmp .lt 5, 3) := by decide +kernel
theorem dX6_ofNet_15 : decode cX6_ofNet 15 = .ok (.iconst (-1), 1) := by decide +kernel
theorem dX6_ofNet_16 : decode cX6_ofNet 16 = .ok (.ireturn, 1) := by decide +kernel
theorem dX6_ofNet_17 : decode cX6_ofNet 17 = .ok (.iload_n 2, 1) := by decide +kernel
theorem dX6_ofNet_18 : decode cX6_ofNet 18 = .ok (.tableswitch 82 0 2 #[26, 36, 54], 26) := by decide +kernel
theorem dX6_ofNet_44 : decode cX6_ofNet 44 = .ok (.aload_n 0, 1) := by decide +kernel
theorem dX6_ofNet_45 : decode cX6_ofNet 45 = .ok (.getfield 20, 3) := by decide +kernel
theorem dX6_ofNet_48 : decode cX6_ofNet 48 = .ok (.getfield 133, 3) := by decide +kernel
theorem dX6_ofNet_51 : decode cX6_ofNet 51 = .ok (.iload_n 1, 1) := by decide +kernel
theorem dX6_ofNet_52 : decode cX6_ofNet 52 = .ok (.iaload, 1) := by decide +kernel
theorem dX6_ofNet_53 : decode cX6_ofNet 53 = .ok (.ireturn, 1) := by decide +kernel
theorem dX6_ofNet_54 : decode cX6_ofNet 54 = .ok (.aload_n 0, 1) := by decide +kernel
theorem dX6_ofNet_55 : decode cX6_ofNet 55 = .ok (.getfield 20, 3) := by decide +kernel
theorem dX6_ofNet_58 : decode cX6_ofNet 58 = .ok (.getfield 133, 3) := by decide +kernel
theorem dX6_ofNet_61 : decode cX6_ofNet 61 = .ok (.iload_n 1, 1) := by decide +kernel
theorem dX6_ofNet_62 : decode cX6_ofNet 62 = .ok (.iaload, 1) := by decide +kernel
theorem dX6_ofNet_63 : decode cX6_ofNet 63 = .ok (.aload_n 0, 1) := by decide +kernel
theorem dX6_ofNet_64 : decode cX6_ofNet 64 = .ok (.getfield 20, 3) := by decide +kernel
theorem dX6_ofNet_67 : decode cX6_ofNet 67 = .ok (.getfield 136, 3) := by decide +kernel
theorem dX6_ofNet_70 : decode cX6_ofNet 70 = .ok (.iand, 1) := by decide +kernel
theorem dX6_ofNet_71 : decode cX6_ofNet 71 = .ok (.ireturn, 1) := by decide +kernel
theorem dX6_ofNet_72 : decode cX6_ofNet 72 = .ok (.aload_n 0, 1) := by decide +kernel
theorem dX6_ofNet_73 : decode cX6_ofNet 73 = .ok (.getfield 20, 3) := by decide +kernel
theorem dX6_ofNet_76 : decode cX6_ofNet 76 = .ok (.getfield 133, 3) := by decide +kernel
theorem dX6_ofNet_79 : decode cX6_ofNet 79 = .ok (.iload_n 1, 1) := by decide +kernel
theorem dX6_ofNet_80 : decode cX6_ofNet 80 = .ok (.iaload, 1) := by decide +kernel
theorem dX6_ofNet_81 : decode cX6_ofNet 81 = .ok (.aload_n 0, 1) := by decide +kernel
theorem dX6_ofNet_82 : decode cX6_ofNet 82 = .ok (.getfield 20, 3) := by decide +kernel
theorem dX6_ofNet_85 : decode cX6_ofNet 85 = .ok (.getfield 136, 3) := by decide +kernel
theorem dX6_ofNet_88 : decode cX6_ofNet 88 = .ok (.invokestatic 139, 3) := by decide +kernel
theorem dX6_ofNet_91 : decode cX6_ofNet 91 = .ok (.ifCond .eq 7, 3) := by decide +kernel
theorem dX6_ofNet_94 : decode cX6_ofNet 94 = .ok (.iconst 1, 1) := by decide +kernel
theorem dX6_ofNet_95 : decode cX6_ofNet 95 = .ok (.goto 4, 3) := by decide +kernel
theorem dX6_ofNet_98 : decode cX6_ofNet 98 = .ok (.iconst 0, 1) := by decide +kernel
theorem dX6_ofNet_99 : decode cX6_ofNet 99 = .ok (.ireturn, 1) := by decide +kernel
theorem dX6_ofNet_100 : decode cX6_ofNet 100 = .ok (.bipush (-2), 2) := by decide +kernel
theorem dX6_ofNet_102 : decode cX6_ofNet 102 = .ok (.ireturn, 1) := by decide +kernel
theorem dX6_ofSide_0 : decode cX6_ofSide 0 = .ok (.aload_n 0, 1) := by decide +kernel
theorem dX6_ofSide_1 : decode cX6_ofSide 1 = .ok (.invokevirtual 142, 3) := by decide +kernel
theorem dX6_ofSide_4 : decode cX6_ofSide 4 = .ok (.ifCond .eq 6, 3) := by decide +kernel
theorem dX6_ofSide_7 : decode cX6_ofSide 7 = .ok (.bipush (-3), 2) := by decide +kernel
theorem dX6_ofSide_9 : decode cX6_ofSide 9 = .ok (.ireturn, 1) := by decide +kernel
theorem dX6_ofSide_10 : decode cX6_ofSide 10 = .ok (.iload_n 1, 1) := by decide +kernel
theorem dX6_ofSide_11 : decode cX6_ofSide 11 = .ok (.ifCond .lt 8, 3) := by decide +kernel
theorem dX6_ofSide_14 : decode cX6_ofSide 14 = .ok (.iload_n 1, 1) := by decide +kernel
theorem dX6_ofSide_15 : decode cX6_ofSide 15 = .ok (.iconst 1, 1) := by decide +kernel
theorem dX6_ofSide_16 : decode cX6_ofSide 16 = .ok (.if_icmp .le 6, 3) := by decide +kernel
theorem dX6_ofSide_19 : decode cX6_ofSide 19 = .ok (.bipush (-2), 2) := by decide +kernel
theorem dX6_ofSide_21 : decode cX6_ofSide 21 = .ok (.ireturn, 1) := by decide +kernel
theorem dX6_ofSide_22 : decode cX6_ofSide 22 = .ok (.iload_n 1, 1) := by decide +kernel
theorem dX6_ofSide_23 : decode cX6_ofSide 23 = .ok (.ifCond .ne 13, 3) := by decide +kernel
theorem dX6_ofSide_26 : decode cX6_ofSide 26 = .ok (.aload_n 0, 1) := by decide +kernel
theorem dX6_ofSide_27 : decode cX6_ofSide 27 = .ok (.getfield 20, 3) := by decide +kernel
theorem dX6_ofSide_30 : decode cX6_ofSide 30 = .ok (.invokevirtual 146, 3) := by decide +kernel
theorem dX6_ofSide_33 : decode cX6_ofSide 33 = .ok (.goto 10, 3) := by decide +kernel
theorem dX6_ofSide_36 : decode cX6_ofSide 36 = .ok (.aload_n 0, 1) := by decide +kernel
theorem dX6_ofSide_37 : decode cX6_ofSide 37 = .ok (.getfield 20, 3) := by decide +kernel
theorem dX6_ofSide_40 : decode cX6_ofSide 40 = .ok (.getfield 136, 3) := by decide +kernel
theorem dX6_ofSide_43 : decode cX6_ofSide 43 = .ok (.istore_n 3, 1) := by decide +kernel
theorem dX6_ofSide_44 : decode cX6_ofSide 44 = .ok (.iload_n 2, 1) := by decide +kernel
theorem dX6_ofSide_45 : decode cX6_ofSide 45 = .ok (.tableswitch 68 0 3 #[31, 33, 42, 51], 31) := by decide +kernel
theorem dX6_ofSide_76 : decode cX6_ofSide 76 = .ok (.iload_n 3, 1) := by decide +kernel
theorem dX6_ofSide_77 : decode cX6_ofSide 77 = .ok (.ireturn, 1) := by decide +kernel
theorem dX6_ofSide_78 : decode cX6_ofSide 78 = .ok (.aload_n 0, 1) := by decide +kernel
theorem dX6_ofSide_79 : decode cX6_ofSide 79 = .ok (.getfield 20, 3) := by decide +kernel
theorem dX6_ofSide_82 : decode cX6_ofSide 82 = .ok (.iload_n 3, 1) := by decide +kernel
theorem dX6_ofSide_83 : decode cX6_ofSide 83 = .ok (.invokevirtual 150, 3) := by decide +kernel
theorem dX6_ofSide_86 : decode cX6_ofSide 86 = .ok (.ireturn, 1) := by decide +kernel
theorem dX6_ofSide_87 : decode cX6_ofSide 87 = .ok (.aload_n 0, 1) := by decide +kernel
theorem dX6_ofSide_88 : decode cX6_ofSide 88 = .ok (.getfield 20, 3) := by decide +kernel
theorem dX6_ofSide_91 : decode cX6_ofSide 91 = .ok (.iload_n 3, 1) := by decide +kernel
theorem dX6_ofSide_92 : decode cX6_ofSide 92 = .ok (.invokevirtual 127, 3) := by decide +kernel
theorem dX6_ofSide_95 : decode cX6_ofSide 95 = .ok (.ireturn, 1) := by decide +kernel
theorem dX6_ofSide_96 : decode cX6_ofSide 96 = .ok (.aload_n 0, 1) := by decide +kernel
theorem dX6_ofSide_97 : decode cX6_ofSide 97 = .ok (.getfield 20, 3) := by decide +kernel
theorem dX6_ofSide_100 : decode cX6_ofSide 100 = .ok (.iload_n 3, 1) := by decide +kernel
theorem dX6_ofSide_101 : decode cX6_ofSide 101 = .ok (.invokevirtual 153, 3) := by decide +kernel
theorem dX6_ofSide_104 : decode cX6_ofSide 104 = .ok (.ifCond .eq 7, 3) := by decide +kernel
theorem dX6_ofSide_107 : decode cX6_ofSide 107 = .ok (.iconst 1, 1) := by decide +kernel
theorem dX6_ofSide_108 : decode cX6_ofSide 108 = .ok (.goto 4, 3) := by decide +kernel
theorem dX6_ofSide_111 : decode cX6_ofSide 111 = .ok (.iconst 0, 1) := by decide +kernel
theorem dX6_ofSide_112 : decode cX6_ofSide 112 = .ok (.ireturn, 1) := by decide +kernel
theorem dX6_ofSide_113 : decode cX6_ofSide 113 = .ok (.bipush (-2), 2) := by decide +kernel
theorem dX6_ofSide_115 : decode cX6_ofSide 115 = .ok (.ireturn, 1) := by decide +kernel
theorem dX6_bulk_0 : decode cX6_bulk 0 = .ok (.aload_n 0, 1) := by decide +kernel
theorem dX6_bulk_1 : decode cX6_bulk 1 = .ok (.iload_n 1, 1) := by decide +kernel
theorem dX6_bulk_2 : decode cX6_bulk 2 = .ok (.invokevirtual 102, 3) := by decide +kernel
theorem dX6_bulk_5 : decode cX6_bulk 5 = .ok (.ifCond .ne 5, 3) := by decide +kernel
theorem dX6_bulk_8 : decode cX6_bulk 8 = .ok (.iconst (-1), 1) := by decide +kernel
theorem dX6_bulk_9 : decode cX6_bulk 9 = .ok (.ireturn, 1) := by decide +kernel
theorem dX6_bulk_10 : decode cX6_bulk 10 = .ok (.iload_n 2, 1) := by decide +kernel
theorem dX6_bulk_11 : decode cX6_bulk 11 = .ok (.invokestatic 156, 3) := by decide +kernel
theorem dX6_bulk_14 : decode cX6_bulk 14 = .ok (.ifCond .ne 6, 3) := by decide +kernel
theorem dX6_bulk_17 : decode cX6_bulk 17 = .ok (.bipush (-2), 2) := by decide +kernel
theorem dX6_bulk_19 : decode cX6_bulk 19 = .ok (.ireturn, 1) := by decide +kernel
theorem dX6_bulk_20 : decode cX6_bulk 20 = .ok (.aload_n 0, 1) := by decide +kernel
theorem dX6_bulk_21 : decode cX6_bulk 21 = .ok (.getfield 20, 3) := by decide +kernel
theorem dX6_bulk_24 : decode cX6_bulk 24 = .ok (.getfield 109, 3) := by decide +kernel
theorem dX6_bulk_27 : decode cX6_bulk 27 = .ok (.iload_n 1, 1) := by decide +kernel
theorem dX6_bulk_28 : decode cX6_bulk 28 = .ok (.iaload, 1) := by decide +kernel
theorem dX6_bulk_29 : decode cX6_bulk 29 = .ok (.istore_n 3, 1) := by decide +kernel
theorem dX6_bulk_30 : decode cX6_bulk 30 = .ok (.aload_n 0, 1) := by decide +kernel
theorem dX6_bulk_31 : decode cX6_bulk 31 = .ok (.getfield 20, 3) := by decide +kernel
theorem dX6_bulk_34 : decode cX6_bulk 34 = .ok (.iload_n 1, 1) := by decide +kernel
theorem dX6_bulk_35 : decode cX6_bulk 35 = .ok (.aload_n 0, 1) := by decide +kernel
theorem dX6_bulk_36 : decode cX6_bulk 36 = .ok (.getfield 20, 3) := by decide +kernel
theorem dX6_bulk_39 : decode cX6_bulk 39 = .ok (.getfield 105, 3) := by decide +kernel
theorem dX6_bulk_42 : decode cX6_bulk 42 = .ok (.iload_n 1, 1) := by decide +kernel
theorem dX6_bulk_43 : decode cX6_bulk 43 = .ok (.iaload, 1) := by decide +kernel
theorem dX6_bulk_44 : decode cX6_bulk 44 = .ok (.iload_n 2, 1) := by decide +kernel
theorem dX6_bulk_45 : decode cX6_bulk 45 = .ok (.invokevirtual 159, 3) := by decide +kernel
theorem dX6_bulk_48 : decode cX6_bulk 48 = .ok (.iload_n 3, 1) := by decide +kernel
theorem dX6_bulk_49 : decode cX6_bulk 49 = .ok (.ireturn, 1) := by decide +kernel
theorem dX6_bound_0 : decode cX6_bound 0 = .ok (.aload_n 0, 1) := by decide +kernel
theorem dX6_bound_1 : decode cX6_bound 1 = .ok (.invokevirtual 142, 3) := by decide +kernel
theorem dX6_bound_4 : decode cX6_bound 4 = .ok (.ifCond .eq 6, 3) := by decide +kernel
theorem dX6_bound_7 : decode cX6_bound 7 = .ok (.bipush (-3), 2) := by decide +kernel
theorem dX6_bound_9 : decode cX6_bound 9 = .ok (.ireturn, 1) := by decide +kernel
theorem dX6_bound_10 : decode cX6_bound 10 = .ok (.iload_n 1, 1) := by decide +kernel
theorem dX6_bound_11 : decode cX6_bound 11 = .ok (.ldc 163, 2) := by decide +kernel
theorem dX6_bound_13 : decode cX6_bound 13 = .ok (.if_icmp .lt 9, 3) := by decide +kernel
theorem dX6_bound_16 : decode cX6_bound 16 = .ok (.iload_n 1, 1) := by decide +kernel
theorem dX6_bound_17 : decode cX6_bound 17 = .ok (.ldc 164, 2) := by decide +kernel
theorem dX6_bound_19 : decode cX6_bound 19 = .ok (.if_icmp .le 6, 3) := by decide +kernel
theorem dX6_bound_22 : decode cX6_bound 22 = .ok (.bipush (-2), 2) := by decide +kernel
theorem dX6_bound_24 : decode cX6_bound 24 = .ok (.ireturn, 1) := by decide +kernel
theorem dX6_bound_25 : decode cX6_bound 25 = .ok (.aload_n 0, 1) := by decide +kernel
theorem dX6_bound_26 : decode cX6_bound 26 = .ok (.getfield 20, 3) := by decide +kernel
theorem dX6_bound_29 : decode cX6_bound 29 = .ok (.getfield 165, 3) := by decide +kernel
theorem dX6_bound_32 : decode cX6_bound 32 = .ok (.istore_n 2, 1) := by decide +kernel
theorem dX6_bound_33 : decode cX6_bound 33 = .ok (.aload_n 0, 1) := by decide +kernel
theorem dX6_bound_34 : decode cX6_bound 34 = .ok (.getfield 20, 3) := by decide +kernel
theorem dX6_bound_37 : decode cX6_bound 37 = .ok (.iload_n 1, 1) := by decide +kernel
theorem dX6_bound_38 : decode cX6_bound 38 = .ok (.putfield 165, 3) := by decide +kernel
theorem dX6_bound_41 : decode cX6_bound 41 = .ok (.iload_n 2, 1) := by decide +kernel
theorem dX6_bound_42 : decode cX6_bound 42 = .ok (.ireturn, 1) := by decide +kernel
theorem dX6_move_0 : decode cX6_move 0 = .ok (.aload_n 0, 1) := by decide +kernel
theorem dX6_move_1 : decode cX6_move 1 = .ok (.iload_n 1, 1) := by decide +kernel
theorem dX6_move_2 : decode cX6_move 2 = .ok (.invokevirtual 102, 3) := by decide +kernel
theorem dX6_move_5 : decode cX6_move 5 = .ok (.ifCond .ne 5, 3) := by decide +kernel
theorem dX6_move_8 : decode cX6_move 8 = .ok (.iconst (-1), 1) := by decide +kernel
theorem dX6_move_9 : decode cX6_move 9 = .ok (.ireturn, 1) := by decide +kernel
theorem dX6_move_10 : decode cX6_move 10 = .ok (.aload_n 0, 1) := by decide +kernel
theorem dX6_move_11 : decode cX6_move 11 = .ok (.getfield 20, 3) := by decide +kernel
theorem dX6_move_14 : decode cX6_move 14 = .ok (.iload_n 1, 1) := by decide +kernel
theorem dX6_move_15 : decode cX6_move 15 = .ok (.invokevirtual 118, 3) := by decide +kernel
theorem dX6_move_18 : decode cX6_move 18 = .ok (.ifCond .eq 6, 3) := by decide +kernel
theorem dX6_move_21 : decode cX6_move 21 = .ok (.bipush (-3), 2) := by decide +kernel
theorem dX6_move_23 : decode cX6_move 23 = .ok (.ireturn, 1) := by decide +kernel
theorem dX6_move_24 : decode cX6_move 24 = .ok (.aload_n 0, 1) := by decide +kernel
theorem dX6_move_25 : decode cX6_move 25 = .ok (.getfield 20, 3) := by decide +kernel
theorem dX6_move_28 : decode cX6_move 28 = .ok (.iload_n 1, 1) := by decide +kernel
theorem dX6_move_29 : decode cX6_move 29 = .ok (.invokevirtual 168, 3) := by decide +kernel
theorem dX6_move_32 : decode cX6_move 32 = .ok (.aload_n 0, 1) := by decide +kernel
theorem dX6_move_33 : decode cX6_move 33 = .ok (.getfield 20, 3) := by decide +kernel
theorem dX6_move_36 : decode cX6_move 36 = .ok (.invokevirtual 172, 3) := by decide +kernel
theorem dX6_move_39 : decode cX6_move 39 = .ok (.ireturn, 1) := by decide +kernel
theorem dX6_pass_0 : decode cX6_pass 0 = .ok (.aload_n 0, 1) := by decide +kernel
theorem dX6_pass_1 : decode cX6_pass 1 = .ok (.invokevirtual 142, 3) := by decide +kernel
theorem dX6_pass_4 : decode cX6_pass 4 = .ok (.ifCond .eq 6, 3) := by decide +kernel
theorem dX6_pass_7 : decode cX6_pass 7 = .ok (.bipush (-3), 2) := by decide +kernel
theorem dX6_pass_9 : decode cX6_pass 9 = .ok (.ireturn, 1) := by decide +kernel
theorem dX6_pass_10 : decode cX6_pass 10 = .ok (.iload_n 1, 1) := by decide +kernel
theorem dX6_pass_11 : decode cX6_pass 11 = .ok (.invokestatic 175, 3) := by decide +kernel
theorem dX6_pass_14 : decode cX6_pass 14 = .ok (.ifCond .ne 6, 3) := by decide +kernel
theorem dX6_pass_17 : decode cX6_pass 17 = .ok (.bipush (-2), 2) := by decide +kernel
theorem dX6_pass_19 : decode cX6_pass 19 = .ok (.ireturn, 1) := by decide +kernel
theorem dX6_pass_20 : decode cX6_pass 20 = .ok (.aload_n 0, 1) := by decide +kernel
theorem dX6_pass_21 : decode cX6_pass 21 = .ok (.getfield 37, 3) := by decide +kernel
theorem dX6_pass_24 : decode cX6_pass 24 = .ok (.aload_n 0, 1) := by decide +kernel
theorem dX6_pass_25 : decode cX6_pass 25 = .ok (.getfield 20, 3) := by decide +kernel
theorem dX6_pass_28 : decode cX6_pass 28 = .ok (.iload_n 1, 1) := by decide +kernel
theorem dX6_pass_29 : decode cX6_pass 29 = .ok (.invokevirtual 178, 3) := by decide +kernel
theorem dX6_pass_32 : decode cX6_pass 32 = .ok (.aload_n 0, 1) := by decide +kernel
theorem dX6_pass_33 : decode cX6_pass 33 = .ok (.getfield 37, 3) := by decide +kernel
theorem dX6_pass_36 : decode cX6_pass 36 = .ok (.getfield 182, 3) := by decide +kernel
theorem dX6_pass_39 : decode cX6_pass 39 = .ok (.ireturn, 1) := by decide +kernel
theorem dX6_tries_0 : decode cX6_tries 0 = .ok (.aload_n 0, 1) := by decide +kernel
theorem dX6_tries_1 : decode cX6_tries 1 = .ok (.invokevirtual 142, 3) := by decide +kernel
theorem dX6_tries_4 : decode cX6_tries 4 = .ok (.ifCond .eq 6, 3) := by decide +kernel
theorem dX6_tries_7 : decode cX6_tries 7 = .ok (.bipush (-3), 2) := by decide +kernel
theorem dX6_tries_9 : decode cX6_tries 9 = .ok (.ireturn, 1) := by decide +kernel
theorem dX6_tries_10 : decode cX6_tries 10 = .ok (.iload_n 1, 1) := by decide +kernel
theorem dX6_tries_11 : decode cX6_tries 11 = .ok (.invokestatic 175, 3) := by decide +kernel
theorem dX6_tries_14 : decode cX6_tries 14 = .ok (.ifCond .eq 11, 3) := by decide +kernel
theorem dX6_tries_17 : decode cX6_tries 17 = .ok (.iload_n 2, 1) := by decide +kernel
theorem dX6_tries_18 : decode cX6_tries 18 = .ok (.iconst 2, 1) := by decide +kernel
theorem dX6_tries_19 : decode cX6_tries 19 = .ok (.invokestatic 185, 3) := by decide +kernel
theorem dX6_tries_22 : decode cX6_tries 22 = .ok (.ifCond .ne 6, 3) := by decide +kernel
theorem dX6_tries_25 : decode cX6_tries 25 = .ok (.bipush (-2), 2) := by decide +kernel
theorem dX6_tries_27 : decode cX6_tries 27 = .ok (.ireturn, 1) := by decide +kernel
theorem dX6_tries_28 : decode cX6_tries 28 = .ok (.aload_n 0, 1) := by decide +kernel
theorem dX6_tries_29 : decode cX6_tries 29 = .ok (.getfield 24, 3) := by decide +kernel
theorem dX6_tries_32 : decode cX6_tries 32 = .ok (.aload_n 0, 1) := by decide +kernel
theorem dX6_tries_33 : decode cX6_tries 33 = .ok (.getfield 20, 3) := by decide +kernel
theorem dX6_tries_36 : decode cX6_tries 36 = .ok (.invokevirtual 88, 3) := by decide +kernel
theorem dX6_tries_39 : decode cX6_tries 39 = .ok (.aload_n 0, 1) := by decide +kernel
theorem dX6_tries_40 : decode cX6_tries 40 = .ok (.getfield 37, 3) := by decide +kernel
theorem dX6_tries_43 : decode cX6_tries 43 = .ok (.aload_n 0, 1) := by decide +kernel
theorem dX6_tries_44 : decode cX6_tries 44 = .ok (.getfield 24, 3) := by decide +kernel
theorem dX6_tries_47 : decode cX6_tries 47 = .ok (.iload_n 1, 1) := by decide +kernel
theorem dX6_tries_48 : decode cX6_tries 48 = .ok (.invokevirtual 178, 3) := by decide +kernel
theorem dX6_tries_51 : decode cX6_tries 51 = .ok (.iload_n 2, 1) := by decide +kernel
theorem dX6_tries_52 : decode cX6_tries 52 = .ok (.tableswitch 52 0 2 #[28, 36, 44], 28) := by decide +kernel
theorem dX6_tries_80 : decode cX6_tries 80 = .ok (.aload_n 0, 1) := by decide +kernel
theorem dX6_tries_81 : decode cX6_tries 81 = .ok (.getfield 37, 3) := by decide +kernel
theorem dX6_tries_84 : decode cX6_tries 84 = .ok (.getfield 188, 3) := by decide +kernel
theorem dX6_tries_87 : decode cX6_tries 87 = .ok (.ireturn, 1) := by decide +kernel
theorem dX6_tries_88 : decode cX6_tries 88 = .ok (.aload_n 0, 1) := by decide +kernel
theorem dX6_tries_89 : decode cX6_tries 89 = .ok (.getfield 37, 3) := by decide +kernel
theorem dX6_tries_92 : decode cX6_tries 92 = .ok (.getfield 182, 3) := by decide +kernel
theorem dX6_tries_95 : decode cX6_tries 95 = .ok (.ireturn, 1) := by decide +kernel
theorem dX6_tries_96 : decode cX6_tries 96 = .ok (.aload_n 0, 1) := by decide +kernel
theorem dX6_tries_97 : decode cX6_tries 97 = .ok (.getfield 24, 3) := by decide +kernel
theorem dX6_tries_100 : decode cX6_tries 100 = .ok (.invokevirtual 172, 3) := by decide +kernel
theorem dX6_tries_103 : decode cX6_tries 103 = .ok (.ireturn, 1) := by decide +kernel
theorem dX6_tries_104 : decode cX6_tries 104 = .ok (.aload_n 0, 1) := by decide +kernel
theorem dX6_tries_105 : decode cX6_tries 105 = .ok (.getfield 37, 3) := by decide +kernel
theorem dX6_tries_108 : decode cX6_tries 108 = .ok (.iload_n 2, 1) := by decide +kernel
theorem dX6_tries_109 : decode cX6_tries 109 = .ok (.bipush 10, 2) := by decide +kernel
theorem dX6_tries_111 : decode cX6_tries 111 = .ok (.isub, 1) := by decide +kernel
theorem dX6_tries_112 : decode cX6_tries 112 = .ok (.invokevirtual 191, 3) := by decide +kernel
theorem dX6_tries_115 : decode cX6_tries 115 = .ok (.ireturn, 1) := by decide +kernel
theorem dX6_settle_0 : decode cX6_settle 0 = .ok (.aload_n 0, 1) := by decide +kernel
theorem dX6_settle_1 : decode cX6_settle 1 = .ok (.invokevirtual 142, 3) := by decide +kernel
theorem dX6_settle_4 : decode cX6_settle 4 = .ok (.ifCond .eq 6, 3) := by decide +kernel
theorem dX6_settle_7 : decode cX6_settle 7 = .ok (.bipush (-3), 2) := by decide +kernel
theorem dX6_settle_9 : decode cX6_settle 9 = .ok (.ireturn, 1) := by decide +kernel
theorem dX6_settle_10 : decode cX6_settle 10 = .ok (.iload_n 1, 1) := by decide +kernel
theorem dX6_settle_11 : decode cX6_settle 11 = .ok (.invokestatic 175, 3) := by decide +kernel
theorem dX6_settle_14 : decode cX6_settle 14 = .ok (.ifCond .ne 6, 3) := by decide +kernel
theorem dX6_settle_17 : decode cX6_settle 17 = .ok (.bipush (-2), 2) := by decide +kernel
theorem dX6_settle_19 : decode cX6_settle 19 = .ok (.ireturn, 1) := by decide +kernel
theorem dX6_settle_20 : decode cX6_settle 20 = .ok (.iconst 0, 1) := by decide +kernel
theorem dX6_settle_21 : decode cX6_settle 21 = .ok (.istore_n 2, 1) := by decide +kernel
theorem dX6_settle_22 : decode cX6_settle 22 = .ok (.iconst 0, 1) := by decide +kernel
theorem dX6_settle_23 : decode cX6_settle 23 = .ok (.istore_n 3, 1) := by decide +kernel
theorem dX6_settle_24 : decode cX6_settle 24 = .ok (.iload_n 3, 1) := by decide +kernel
theorem dX6_settle_25 : decode cX6_settle 25 = .ok (.ifCond .ne 54, 3) := by decide +kernel
theorem dX6_settle_28 : decode cX6_settle 28 = .ok (.iload_n 2, 1) := by decide +kernel
theorem dX6_settle_29 : decode cX6_settle 29 = .ok (.bipush 6, 2) := by decide +kernel
theorem dX6_settle_31 : decode cX6_settle 31 = .ok (.if_icmp .gt 48, 3) := by decide +kernel
theorem dX6_settle_34 : decode cX6_settle 34 = .ok (.aload_n 0, 1) := by decide +kernel
theorem dX6_settle_35 : decode cX6_settle 35 = .ok (.getfield 20, 3) := by decide +kernel
theorem dX6_settle_38 : decode cX6_settle 38 = .ok (.invokevirtual 172, 3) := by decide +kernel
theorem dX6_settle_41 : decode cX6_settle 41 = .ok (.istore 4, 2) := by decide +kernel
theorem dX6_settle_43 : decode cX6_settle 43 = .ok (.aload_n 0, 1) := by decide +kernel
theorem dX6_settle_44 : decode cX6_settle 44 = .ok (.getfield 37, 3) := by decide +kernel
theorem dX6_settle_47 : decode cX6_settle 47 = .ok (.aload_n 0, 1) := by decide +kernel
theorem dX6_settle_48 : decode cX6_settle 48 = .ok (.getfield 20, 3) := by decide +kernel
theorem dX6_settle_51 : decode cX6_settle 51 = .ok (.iload_n 1, 1) := by decide +kernel
theorem dX6_settle_52 : decode cX6_settle 52 = .ok (.invokevirtual 178, 3) := by decide +kernel
theorem dX6_settle_55 : decode cX6_settle 55 = .ok (.iinc 2 1, 3) := by decide +kernel
theorem dX6_settle_58 : decode cX6_settle 58 = .ok (.aload_n 0, 1) := by decide +kernel
theorem dX6_settle_59 : decode cX6_settle 59 = .ok (.getfield 20, 3) := by decide +kernel
theorem dX6_settle_62 : decode cX6_settle 62 = .ok (.invokevirtual 172, 3) := by decide +kernel
theorem dX6_settle_65 : decode cX6_settle 65 = .ok (.iload 4, 2) := by decide +kernel
theorem dX6_settle_67 : decode cX6_settle 67 = .ok (.if_icmp .ne 7, 3) := by decide +kernel
theorem dX6_settle_70 : decode cX6_settle 70 = .ok (.iconst 1, 1) := by decide +kernel
theorem dX6_settle_71 : decode cX6_settle 71 = .ok (.goto 4, 3) := by decide +kernel
theorem dX6_settle_74 : decode cX6_settle 74 = .ok (.iconst 0, 1) := by decide +kernel
theorem dX6_settle_75 : decode cX6_settle 75 = .ok (.istore_n 3, 1) := by decide +kernel
theorem dX6_settle_76 : decode cX6_settle 76 = .ok (.goto (-52), 3) := by decide +kernel
theorem dX6_settle_79 : decode cX6_settle 79 = .ok (.iload_n 2, 1) := by decide +kernel
theorem dX6_settle_80 : decode cX6_settle 80 = .ok (.ireturn, 1) := by decide +kernel
theorem dX6_day_0 : decode cX6_day 0 = .ok (.iload_n 1, 1) := by decide +kernel
theorem dX6_day_1 : decode cX6_day 1 = .ok (.invokestatic 56, 3) := by decide +kernel
theorem dX6_day_4 : decode cX6_day 4 = .ok (.ifCond .ne 9, 3) := by decide +kernel
theorem dX6_day_7 : decode cX6_day 7 = .ok (.aload_n 0, 1) := by decide +kernel
theorem dX6_day_8 : decode cX6_day 8 = .ok (.iconst (-1), 1) := by decide +kernel
theorem dX6_day_9 : decode cX6_day 9 = .ok (.invokevirtual 60, 3) := by decide +kernel
theorem dX6_day_12 : decode cX6_day 12 = .ok (.ireturn, 1) := by decide +kernel
theorem dX6_day_13 : decode cX6_day 13 = .ok (.iload_n 2, 1) := by decide +kernel
theorem dX6_day_14 : decode cX6_day 14 = .ok (.invokestatic 64, 3) := by decide +kernel
theorem dX6_day_17 : decode cX6_day 17 = .ok (.ifCond .eq 24, 3) := by decide +kernel
theorem dX6_day_20 : decode cX6_day 20 = .ok (.iload 4, 2) := by decide +kernel
theorem dX6_day_22 : decode cX6_day 22 = .ok (.ifCond .lt 19, 3) := by decide +kernel
theorem dX6_day_25 : decode cX6_day 25 = .ok (.iload 4, 2) := by decide +kernel
theorem dX6_day_27 : decode cX6_day 27 = .ok (.bipush 20, 2) := by decide +kernel
theorem dX6_day_29 : decode cX6_day 29 = .ok (.if_icmp .gt 12, 3) := by decide +kernel
theorem dX6_day_32 : decode cX6_day 32 = .ok (.iload 5, 2) := by decide +kernel
theorem dX6_day_34 : decode cX6_day 34 = .ok (.iconst 4, 1) := by decide +kernel
theorem dX6_day_35 : decode cX6_day 35 = .ok (.invokestatic 185, 3) := by decide +kernel
theorem dX6_day_38 : decode cX6_day 38 = .ok (.ifCond .ne 10, 3) := by decide +kernel
theorem dX6_day_41 : decode cX6_day 41 = .ok (.aload_n 0, 1) := by decide +kernel
theorem dX6_day_42 : decode cX6_day 42 = .ok (.bipush (-2), 2) := by decide +kernel
theorem dX6_day_44 : decode cX6_day 44 = .ok (.invokevirtual 60, 3) := by decide +kernel
theorem dX6_day_47 : decode cX6_day 47 = .ok (.ireturn, 1) := by decide +kernel
theorem dX6_day_48 : decode cX6_day 48 = .ok (.aload_n 0, 1) := by decide +kernel
theorem dX6_day_49 : decode cX6_day 49 = .ok (.getfield 13, 3) := by decide +kernel
theorem dX6_day_52 : decode cX6_day 52 = .ok (.iload_n 1, 1) := by decide +kernel
theorem dX6_day_53 : decode cX6_day 53 = .ok (.aaload, 1) := by decide +kernel
theorem dX6_day_54 : decode cX6_day 54 = .ok (.astore 6, 2) := by decide +kernel
theorem dX6_day_56 : decode cX6_day 56 = .ok (.aload 6, 2) := by decide +kernel
theorem dX6_day_58 : decode cX6_day 58 = .ok (.iload_n 2, 1) := by decide +kernel
theorem dX6_day_59 : decode cX6_day 59 = .ok (.invokevirtual 67, 3) := by decide +kernel
theorem dX6_day_62 : decode cX6_day 62 = .ok (.istore 7, 2) := by decide +kernel
theorem dX6_day_64 : decode cX6_day 64 = .ok (.iload 7, 2) := by decide +kernel
theorem dX6_day_66 : decode cX6_day 66 = .ok (.ifCond .ne 19, 3) := by decide +kernel
theorem dX6_day_69 : decode cX6_day 69 = .ok (.aload 6, 2) := by decide +kernel
theorem dX6_day_71 : decode cX6_day 71 = .ok (.iload_n 3, 1) := by decide +kernel
theorem dX6_day_72 : decode cX6_day 72 = .ok (.iconst 2, 1) := by decide +kernel
theorem dX6_day_73 : decode cX6_day 73 = .ok (.iload 4, 2) := by decide +kernel
theorem dX6_day_75 : decode cX6_day 75 = .ok (.imul, 1) := by decide +kernel
theorem dX6_day_76 : decode cX6_day 76 = .ok (.invokevirtual 70, 3) := by decide +kernel
theorem dX6_day_79 : decode cX6_day 79 = .ok (.ifCond .ne 6, 3) := by decide +kernel
theorem dX6_day_82 : decode cX6_day 82 = .ok (.iconst 3, 1) := by decide +kernel
theorem dX6_day_83 : decode cX6_day 83 = .ok (.istore 7, 2) := by decide +kernel
theorem dX6_day_85 : decode cX6_day 85 = .ok (.iload 7, 2) := by decide +kernel
theorem dX6_day_87 : decode cX6_day 87 = .ok (.ifCond .eq 10, 3) := by decide +kernel
theorem dX6_day_90 : decode cX6_day 90 = .ok (.aload_n 0, 1) := by decide +kernel
theorem dX6_day_91 : decode cX6_day 91 = .ok (.iload 7, 2) := by decide +kernel
theorem dX6_day_93 : decode cX6_day 93 = .ok (.invokevirtual 74, 3) := by decide +kernel
theorem dX6_day_96 : decode cX6_day 96 = .ok (.ireturn, 1) := by decide +kernel
theorem dX6_day_97 : decode cX6_day 97 = .ok (.aload_n 0, 1) := by decide +kernel
theorem dX6_day_98 : decode cX6_day 98 = .ok (.invokevirtual 142, 3) := by decide +kernel
theorem dX6_day_101 : decode cX6_day 101 = .ok (.ifCond .eq 10, 3) := by decide +kernel
theorem dX6_day_104 : decode cX6_day 104 = .ok (.aload_n 0, 1) := by decide +kernel
theorem dX6_day_105 : decode cX6_day 105 = .ok (.bipush (-3), 2) := by decide +kernel
theorem dX6_day_107 : decode cX6_day 107 = .ok (.invokevirtual 60, 3) := by decide +kernel
theorem dX6_day_110 : decode cX6_day 110 = .ok (.ireturn, 1) := by decide +kernel
theorem dX6_day_111 : decode cX6_day 111 = .ok (.aload 6, 2) := by decide +kernel
theorem dX6_day_113 : decode cX6_day 113 = .ok (.iload_n 3, 1) := by decide +kernel
theorem dX6_day_114 : decode cX6_day 114 = .ok (.iload 4, 2) := by decide +kernel
theorem dX6_day_116 : decode cX6_day 116 = .ok (.invokestatic 194, 3) := by decide +kernel
theorem dX6_day_119 : decode cX6_day 119 = .ok (.ifCond .ne 10, 3) := by decide +kernel
theorem dX6_day_122 : decode cX6_day 122 = .ok (.aload_n 0, 1) := by decide +kernel
theorem dX6_day_123 : decode cX6_day 123 = .ok (.bipush (-2), 2) := by decide +kernel
theorem dX6_day_125 : decode cX6_day 125 = .ok (.invokevirtual 60, 3) := by decide +kernel
theorem dX6_day_128 : decode cX6_day 128 = .ok (.ireturn, 1) := by decide +kernel
theorem dX6_day_129 : decode cX6_day 129 = .ok (.aload_n 0, 1) := by decide +kernel
theorem dX6_day_130 : decode cX6_day 130 = .ok (.iconst 0, 1) := by decide +kernel
theorem dX6_day_131 : decode cX6_day 131 = .ok (.putfield 77, 3) := by decide +kernel
theorem dX6_day_134 : decode cX6_day 134 = .ok (.aload_n 0, 1) := by decide +kernel
theorem dX6_day_135 : decode cX6_day 135 = .ok (.aload 6, 2) := by decide +kernel
theorem dX6_day_137 : decode cX6_day 137 = .ok (.iload_n 3, 1) := by decide +kernel
theorem dX6_day_138 : decode cX6_day 138 = .ok (.iload 4, 2) := by decide +kernel
theorem dX6_day_140 : decode cX6_day 140 = .ok (.invokevirtual 198, 3) := by decide +kernel
theorem dX6_day_143 : decode cX6_day 143 = .ok (.istore 8, 2) := by decide +kernel
theorem dX6_day_145 : decode cX6_day 145 = .ok (.iload 5, 2) := by decide +kernel
theorem dX6_day_147 : decode cX6_day 147 = .ok (.iconst 1, 1) := by decide +kernel
theorem dX6_day_148 : decode cX6_day 148 = .ok (.if_icmp .ne 6, 3) := by decide +kernel
theorem dX6_day_151 : decode cX6_day 151 = .ok (.iload 8, 2) := by decide +kernel
theorem dX6_day_153 : decode cX6_day 153 = .ok (.ireturn, 1) := by decide +kernel
theorem dX6_day_154 : decode cX6_day 154 = .ok (.iload 8, 2) := by decide +kernel
theorem dX6_day_156 : decode cX6_day 156 = .ok (.bipush (-9), 2) := by decide +kernel
theorem dX6_day_158 : decode cX6_day 158 = .ok (.if_icmp .ne 12, 3) := by decide +kernel
theorem dX6_day_161 : decode cX6_day 161 = .ok (.aload_n 0, 1) := by decide +kernel
theorem dX6_day_162 : decode cX6_day 162 = .ok (.iload 5, 2) := by decide +kernel
theorem dX6_day_164 : decode cX6_day 164 = .ok (.invokevirtual 202, 3) := by decide +kernel
theorem dX6_day_167 : decode cX6_day 167 = .ok (.goto 8, 3) := by decide +kernel
theorem dX6_day_170 : decode cX6_day 170 = .ok (.bipush (-100), 2) := by decide +kernel
theorem dX6_day_172 : decode cX6_day 172 = .ok (.iload 8, 2) := by decide +kernel
theorem dX6_day_174 : decode cX6_day 174 = .ok (.isub, 1) := by decide +kernel
theorem dX6_day_175 : decode cX6_day 175 = .ok (.ireturn, 1) := by decide +kernel
theorem dX6_least_0 : decode cX6_least 0 = .ok (.aload_n 0, 1) := by decide +kernel
theorem dX6_least_1 : decode cX6_least 1 = .ok (.invokevirtual 142, 3) := by decide +kernel
theorem dX6_least_4 : decode cX6_least 4 = .ok (.ifCond .eq 6, 3) := by decide +kernel
theorem dX6_least_7 : decode cX6_least 7 = .ok (.bipush (-3), 2) := by decide +kernel
theorem dX6_least_9 : decode cX6_least 9 = .ok (.ireturn, 1) := by decide +kernel
theorem dX6_least_10 : decode cX6_least 10 = .ok (.iload_n 1, 1) := by decide +kernel
theorem dX6_least_11 : decode cX6_least 11 = .ok (.ifCond .lt 8, 3) := by decide +kernel
theorem dX6_least_14 : decode cX6_least 14 = .ok (.iload_n 1, 1) := by decide +kernel
theorem dX6_least_15 : decode cX6_least 15 = .ok (.iconst 1, 1) := by decide +kernel
theorem dX6_least_16 : decode cX6_least 16 = .ok (.if_icmp .le 6, 3) := by decide +kernel
theorem dX6_least_19 : decode cX6_least 19 = .ok (.bipush (-2), 2) := by decide +kernel
theorem dX6_least_21 : decode cX6_least 21 = .ok (.ireturn, 1) := by decide +kernel
theorem dX6_least_22 : decode cX6_least 22 = .ok (.aload_n 0, 1) := by decide +kernel
theorem dX6_least_23 : decode cX6_least 23 = .ok (.getfield 20, 3) := by decide +kernel
theorem dX6_least_26 : decode cX6_least 26 = .ok (.invokevirtual 205, 3) := by decide +kernel
theorem dX6_least_29 : decode cX6_least 29 = .ok (.istore_n 2, 1) := by decide +kernel
theorem dX6_least_30 : decode cX6_least 30 = .ok (.iload_n 2, 1) := by decide +kernel
theorem dX6_least_31 : decode cX6_least 31 = .ok (.bipush (-9), 2) := by decide +kernel
theorem dX6_least_33 : decode cX6_least 33 = .ok (.if_icmp .eq 8, 3) := by decide +kernel
theorem dX6_least_36 : decode cX6_least 36 = .ok (.iload_n 1, 1) := by decide +kernel
theorem dX6_least_37 : decode cX6_least 37 = .ok (.iconst 1, 1) := by decide +kernel
theorem dX6_least_38 : decode cX6_least 38 = .ok (.if_icmp .ne 5, 3) := by decide +kernel
theorem dX6_least_41 : decode cX6_least 41 = .ok (.iload_n 2, 1) := by decide +kernel
theorem dX6_least_42 : decode cX6_least 42 = .ok (.ireturn, 1) := by decide +kernel
theorem dX6_least_43 : decode cX6_least 43 = .ok (.aload_n 0, 1) := by decide +kernel
theorem dX6_least_44 : decode cX6_least 44 = .ok (.getfield 20, 3) := by decide +kernel
theorem dX6_least_47 : decode cX6_least 47 = .ok (.iload_n 2, 1) := by decide +kernel
theorem dX6_least_48 : decode cX6_least 48 = .ok (.invokevirtual 208, 3) := by decide +kernel
theorem dX6_least_51 : decode cX6_least 51 = .ok (.ireturn, 1) := by decide +kernel
theorem dX6_apart_0 : decode cX6_apart 0 = .ok (.aload_n 0, 1) := by decide +kernel
theorem dX6_apart_1 : decode cX6_apart 1 = .ok (.iload_n 1, 1) := by decide +kernel
theorem dX6_apart_2 : decode cX6_apart 2 = .ok (.invokevirtual 102, 3) := by decide +kernel
theorem dX6_apart_5 : decode cX6_apart 5 = .ok (.ifCond .eq 16, 3) := by decide +kernel
theorem dX6_apart_8 : decode cX6_apart 8 = .ok (.aload_n 0, 1) := by decide +kernel
theorem dX6_apart_9 : decode cX6_apart 9 = .ok (.iload_n 2, 1) := by decide +kernel
theorem dX6_apart_10 : decode cX6_apart 10 = .ok (.invokevirtual 102, 3) := by decide +kernel
theorem dX6_apart_13 : decode cX6_apart 13 = .ok (.ifCond .eq 8, 3) := by decide +kernel
theorem dX6_apart_16 : decode cX6_apart 16 = .ok (.iload_n 1, 1) := by decide +kernel
theorem dX6_apart_17 : decode cX6_apart 17 = .ok (.iload_n 2, 1) := by decide +kernel
theorem dX6_apart_18 : decode cX6_apart 18 = .ok (.if_icmp .ne 5, 3) := by decide +kernel
theorem dX6_apart_21 : decode cX6_apart 21 = .ok (.iconst (-1), 1) := by decide +kernel
theorem dX6_apart_22 : decode cX6_apart 22 = .ok (.ireturn, 1) := by decide +kernel
theorem dX6_apart_23 : decode cX6_apart 23 = .ok (.bipush 6, 2) := by decide +kernel
theorem dX6_apart_25 : decode cX6_apart 25 = .ok (.istore_n 3, 1) := by decide +kernel
theorem dX6_apart_26 : decode cX6_apart 26 = .ok (.iconst 0, 1) := by decide +kernel
theorem dX6_apart_27 : decode cX6_apart 27 = .ok (.istore 4, 2) := by decide +kernel
theorem dX6_apart_29 : decode cX6_apart 29 = .ok (.iload 4, 2) := by decide +kernel
theorem dX6_apart_31 : decode cX6_apart 31 = .ok (.aload_n 0, 1) := by decide +kernel
theorem dX6_apart_32 : decode cX6_apart 32 = .ok (.getfield 20, 3) := by decide +kernel
theorem dX6_apart_35 : decode cX6_apart 35 = .ok (.invokevirtual 211, 3) := by decide +kernel
theorem dX6_apart_38 : decode cX6_apart 38 = .ok (.if_icmp .gt 42, 3) := by decide +kernel
theorem dX6_apart_41 : decode cX6_apart 41 = .ok (.iload 4, 2) := by decide +kernel
theorem dX6_apart_43 : decode cX6_apart 43 = .ok (.iload_n 1, 1) := by decide +kernel
theorem dX6_apart_44 : decode cX6_apart 44 = .ok (.ishr, 1) := by decide +kernel
