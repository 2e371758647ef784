theorem dX6_apart_45 : decode cX6_apart 45 = .ok (.iconst 1, 1) := by decide +kernel
theorem dX6_apart_46 : decode cX6_apart 46 = .ok (.iand, 1) := by decide +kernel
theorem dX6_apart_47 : decode cX6_apart 47 = .ok (.ifCond .ne 27, 3) := by decide +kernel
theorem dX6_apart_50 : decode cX6_apart 50 = .ok (.iload 4, 2) := by decide +kernel
theorem dX6_apart_52 : decode cX6_apart 52 = .ok (.iload_n 2, 1) := by decide +kernel
theorem dX6_apart_53 : decode cX6_apart 53 = .ok (.ishr, 1) := by decide +kernel
theorem dX6_apart_54 : decode cX6_apart 54 = .ok (.iconst 1, 1) := by decide +kernel
theorem dX6_apart_55 : decode cX6_apart 55 = .ok (.iand, 1) := by decide +kernel
theorem dX6_apart_56 : decode cX6_apart 56 = .ok (.iconst 1, 1) := by decide +kernel
theorem dX6_apart_57 : decode cX6_apart 57 = .ok (.if_icmp .ne 17, 3) := by decide +kernel
theorem dX6_apart_60 : decode cX6_apart 60 = .ok (.iload_n 3, 1) := by decide +kernel
theorem dX6_apart_61 : decode cX6_apart 61 = .ok (.aload_n 0, 1) := by decide +kernel
theorem dX6_apart_62 : decode cX6_apart 62 = .ok (.getfield 20, 3) := by decide +kernel
theorem dX6_apart_65 : decode cX6_apart 65 = .ok (.iload 4, 2) := by decide +kernel
theorem dX6_apart_67 : decode cX6_apart 67 = .ok (.invokevirtual 208, 3) := by decide +kernel
theorem dX6_apart_70 : decode cX6_apart 70 = .ok (.invokestatic 214, 3) := by decide +kernel
theorem dX6_apart_73 : decode cX6_apart 73 = .ok (.istore_n 3, 1) := by decide +kernel
theorem dX6_apart_74 : decode cX6_apart 74 = .ok (.iinc 4 1, 3) := by decide +kernel
theorem dX6_apart_77 : decode cX6_apart 77 = .ok (.goto (-48), 3) := by decide +kernel
theorem dX6_apart_80 : decode cX6_apart 80 = .ok (.iload_n 3, 1) := by decide +kernel
theorem dX6_apart_81 : decode cX6_apart 81 = .ok (.ireturn, 1) := by decide +kernel
theorem dX6_closest_0 : decode cX6_closest 0 = .ok (.aload_n 0, 1) := by decide +kernel
theorem dX6_closest_1 : decode cX6_closest 1 = .ok (.getfield 20, 3) := by decide +kernel
theorem dX6_closest_4 : decode cX6_closest 4 = .ok (.getfield 99, 3) := by decide +kernel
theorem dX6_closest_7 : decode cX6_closest 7 = .ok (.iconst 2, 1) := by decide +kernel
theorem dX6_closest_8 : decode cX6_closest 8 = .ok (.if_icmp .ge 6, 3) := by decide +kernel
theorem dX6_closest_11 : decode cX6_closest 11 = .ok (.bipush (-3), 2) := by decide +kernel
theorem dX6_closest_13 : decode cX6_closest 13 = .ok (.ireturn, 1) := by decide +kernel
theorem dX6_closest_14 : decode cX6_closest 14 = .ok (.iload_n 1, 1) := by decide +kernel
theorem dX6_closest_15 : decode cX6_closest 15 = .ok (.ifCond .lt 8, 3) := by decide +kernel
theorem dX6_closest_18 : decode cX6_closest 18 = .ok (.iload_n 1, 1) := by decide +kernel
theorem dX6_closest_19 : decode cX6_closest 19 = .ok (.iconst 2, 1) := by decide +kernel
theorem dX6_closest_20 : decode cX6_closest 20 = .ok (.if_icmp .le 6, 3) := by decide +kernel
theorem dX6_closest_23 : decode cX6_closest 23 = .ok (.bipush (-2), 2) := by decide +kernel
theorem dX6_closest_25 : decode cX6_closest 25 = .ok (.ireturn, 1) := by decide +kernel
theorem dX6_closest_26 : decode cX6_closest 26 = .ok (.iconst (-1), 1) := by decide +kernel
theorem dX6_closest_27 : decode cX6_closest 27 = .ok (.istore_n 2, 1) := by decide +kernel
theorem dX6_closest_28 : decode cX6_closest 28 = .ok (.iconst 0, 1) := by decide +kernel
theorem dX6_closest_29 : decode cX6_closest 29 = .ok (.istore_n 3, 1) := by decide +kernel
theorem dX6_closest_30 : decode cX6_closest 30 = .ok (.iconst 0, 1) := by decide +kernel
theorem dX6_closest_31 : decode cX6_closest 31 = .ok (.istore 4, 2) := by decide +kernel
theorem dX6_closest_33 : decode cX6_closest 33 = .ok (.iconst 0, 1) := by decide +kernel
theorem dX6_closest_34 : decode cX6_closest 34 = .ok (.istore 5, 2) := by decide +kernel
theorem dX6_closest_36 : decode cX6_closest 36 = .ok (.iload 5, 2) := by decide +kernel
theorem dX6_closest_38 : decode cX6_closest 38 = .ok (.aload_n 0, 1) := by decide +kernel
theorem dX6_closest_39 : decode cX6_closest 39 = .ok (.getfield 20, 3) := by decide +kernel
theorem dX6_closest_42 : decode cX6_closest 42 = .ok (.getfield 99, 3) := by decide +kernel
theorem dX6_closest_45 : decode cX6_closest 45 = .ok (.if_icmp .ge 73, 3) := by decide +kernel
theorem dX6_closest_48 : decode cX6_closest 48 = .ok (.iload 5, 2) := by decide +kernel
theorem dX6_closest_50 : decode cX6_closest 50 = .ok (.iconst 1, 1) := by decide +kernel
theorem dX6_closest_51 : decode cX6_closest 51 = .ok (.iadd, 1) := by decide +kernel
theorem dX6_closest_52 : decode cX6_closest 52 = .ok (.istore 6, 2) := by decide +kernel
theorem dX6_closest_54 : decode cX6_closest 54 = .ok (.iload 6, 2) := by decide +kernel
theorem dX6_closest_56 : decode cX6_closest 56 = .ok (.aload_n 0, 1) := by decide +kernel
theorem dX6_closest_57 : decode cX6_closest 57 = .ok (.getfield 20, 3) := by decide +kernel
theorem dX6_closest_60 : decode cX6_closest 60 = .ok (.getfield 99, 3) := by decide +kernel
theorem dX6_closest_63 : decode cX6_closest 63 = .ok (.if_icmp .ge 49, 3) := by decide +kernel
theorem dX6_closest_66 : decode cX6_closest 66 = .ok (.aload_n 0, 1) := by decide +kernel
theorem dX6_closest_67 : decode cX6_closest 67 = .ok (.getfield 20, 3) := by decide +kernel
theorem dX6_closest_70 : decode cX6_closest 70 = .ok (.iload 5, 2) := by decide +kernel
theorem dX6_closest_72 : decode cX6_closest 72 = .ok (.invokevirtual 121, 3) := by decide +kernel
theorem dX6_closest_75 : decode cX6_closest 75 = .ok (.aload_n 0, 1) := by decide +kernel
theorem dX6_closest_76 : decode cX6_closest 76 = .ok (.getfield 20, 3) := by decide +kernel
theorem dX6_closest_79 : decode cX6_closest 79 = .ok (.iload 6, 2) := by decide +kernel
theorem dX6_closest_81 : decode cX6_closest 81 = .ok (.invokevirtual 121, 3) := by decide +kernel
theorem dX6_closest_84 : decode cX6_closest 84 = .ok (.iand, 1) := by decide +kernel
theorem dX6_closest_85 : decode cX6_closest 85 = .ok (.invokestatic 220, 3) := by decide +kernel
theorem dX6_closest_88 : decode cX6_closest 88 = .ok (.istore 7, 2) := by decide +kernel
theorem dX6_closest_90 : decode cX6_closest 90 = .ok (.iload 7, 2) := by decide +kernel
theorem dX6_closest_92 : decode cX6_closest 92 = .ok (.iload_n 2, 1) := by decide +kernel
theorem dX6_closest_93 : decode cX6_closest 93 = .ok (.if_icmp .le 13, 3) := by decide +kernel
theorem dX6_closest_96 : decode cX6_closest 96 = .ok (.iload 7, 2) := by decide +kernel
theorem dX6_closest_98 : decode cX6_closest 98 = .ok (.istore_n 2, 1) := by decide +kernel
theorem dX6_closest_99 : decode cX6_closest 99 = .ok (.iload 5, 2) := by decide +kernel
theorem dX6_closest_101 : decode cX6_closest 101 = .ok (.istore_n 3, 1) := by decide +kernel
theorem dX6_closest_102 : decode cX6_closest 102 = .ok (.iload 6, 2) := by decide +kernel
theorem dX6_closest_104 : decode cX6_closest 104 = .ok (.istore 4, 2) := by decide +kernel
theorem dX6_closest_106 : decode cX6_closest 106 = .ok (.iinc 6 1, 3) := by decide +kernel
theorem dX6_closest_109 : decode cX6_closest 109 = .ok (.goto (-55), 3) := by decide +kernel
theorem dX6_closest_112 : decode cX6_closest 112 = .ok (.iinc 5 1, 3) := by decide +kernel
theorem dX6_closest_115 : decode cX6_closest 115 = .ok (.goto (-79), 3) := by decide +kernel
theorem dX6_closest_118 : decode cX6_closest 118 = .ok (.iload_n 1, 1) := by decide +kernel
theorem dX6_closest_119 : decode cX6_closest 119 = .ok (.ifCond .ne 5, 3) := by decide +kernel
theorem dX6_closest_122 : decode cX6_closest 122 = .ok (.iload_n 2, 1) := by decide +kernel
theorem dX6_closest_123 : decode cX6_closest 123 = .ok (.ireturn, 1) := by decide +kernel
theorem dX6_closest_124 : decode cX6_closest 124 = .ok (.iload_n 1, 1) := by decide +kernel
theorem dX6_closest_125 : decode cX6_closest 125 = .ok (.iconst 1, 1) := by decide +kernel
theorem dX6_closest_126 : decode cX6_closest 126 = .ok (.if_icmp .ne 7, 3) := by decide +kernel
theorem dX6_closest_129 : decode cX6_closest 129 = .ok (.iload_n 3, 1) := by decide +kernel
theorem dX6_closest_130 : decode cX6_closest 130 = .ok (.goto 5, 3) := by decide +kernel
theorem dX6_closest_133 : decode cX6_closest 133 = .ok (.iload 4, 2) := by decide +kernel
theorem dX6_closest_135 : decode cX6_closest 135 = .ok (.ireturn, 1) := by decide +kernel
theorem dX6_rack_0 : decode cX6_rack 0 = .ok (.aload_n 0, 1) := by decide +kernel
theorem dX6_rack_1 : decode cX6_rack 1 = .ok (.invokevirtual 142, 3) := by decide +kernel
theorem dX6_rack_4 : decode cX6_rack 4 = .ok (.ifCond .eq 10, 3) := by decide +kernel
theorem dX6_rack_7 : decode cX6_rack 7 = .ok (.aload_n 0, 1) := by decide +kernel
theorem dX6_rack_8 : decode cX6_rack 8 = .ok (.bipush (-3), 2) := by decide +kernel
theorem dX6_rack_10 : decode cX6_rack 10 = .ok (.invokevirtual 60, 3) := by decide +kernel
theorem dX6_rack_13 : decode cX6_rack 13 = .ok (.ireturn, 1) := by decide +kernel
theorem dX6_rack_14 : decode cX6_rack 14 = .ok (.iload_n 1, 1) := by decide +kernel
theorem dX6_rack_15 : decode cX6_rack 15 = .ok (.invokestatic 225, 3) := by decide +kernel
theorem dX6_rack_18 : decode cX6_rack 18 = .ok (.ifCond .eq 9, 3) := by decide +kernel
theorem dX6_rack_21 : decode cX6_rack 21 = .ok (.iload_n 2, 1) := by decide +kernel
theorem dX6_rack_22 : decode cX6_rack 22 = .ok (.bipush 9, 2) := by decide +kernel
theorem dX6_rack_24 : decode cX6_rack 24 = .ok (.if_icmp .le 10, 3) := by decide +kernel
theorem dX6_rack_27 : decode cX6_rack 27 = .ok (.aload_n 0, 1) := by decide +kernel
theorem dX6_rack_28 : decode cX6_rack 28 = .ok (.bipush (-2), 2) := by decide +kernel
theorem dX6_rack_30 : decode cX6_rack 30 = .ok (.invokevirtual 60, 3) := by decide +kernel
theorem dX6_rack_33 : decode cX6_rack 33 = .ok (.ireturn, 1) := by decide +kernel
theorem dX6_rack_34 : decode cX6_rack 34 = .ok (.iload_n 2, 1) := by decide +kernel
theorem dX6_rack_35 : decode cX6_rack 35 = .ok (.ifCond .ge 9, 3) := by decide +kernel
theorem dX6_rack_38 : decode cX6_rack 38 = .ok (.aload_n 0, 1) := by decide +kernel
theorem dX6_rack_39 : decode cX6_rack 39 = .ok (.iconst 4, 1) := by decide +kernel
theorem dX6_rack_40 : decode cX6_rack 40 = .ok (.invokevirtual 74, 3) := by decide +kernel
theorem dX6_rack_43 : decode cX6_rack 43 = .ok (.ireturn, 1) := by decide +kernel
theorem dX6_rack_44 : decode cX6_rack 44 = .ok (.aload_n 0, 1) := by decide +kernel
theorem dX6_rack_45 : decode cX6_rack 45 = .ok (.iconst 0, 1) := by decide +kernel
theorem dX6_rack_46 : decode cX6_rack 46 = .ok (.putfield 77, 3) := by decide +kernel
theorem dX6_rack_49 : decode cX6_rack 49 = .ok (.aload_n 0, 1) := by decide +kernel
theorem dX6_rack_50 : decode cX6_rack 50 = .ok (.getfield 44, 3) := by decide +kernel
theorem dX6_rack_53 : decode cX6_rack 53 = .ok (.iload_n 1, 1) := by decide +kernel
theorem dX6_rack_54 : decode cX6_rack 54 = .ok (.iload_n 2, 1) := by decide +kernel
theorem dX6_rack_55 : decode cX6_rack 55 = .ok (.invokevirtual 228, 3) := by decide +kernel
theorem dX6_rack_58 : decode cX6_rack 58 = .ok (.iload_n 2, 1) := by decide +kernel
theorem dX6_rack_59 : decode cX6_rack 59 = .ok (.ireturn, 1) := by decide +kernel
theorem dX6_stow_0 : decode cX6_stow 0 = .ok (.aload_n 0, 1) := by decide +kernel
theorem dX6_stow_1 : decode cX6_stow 1 = .ok (.iload_n 2, 1) := by decide +kernel
theorem dX6_stow_2 : decode cX6_stow 2 = .ok (.invokevirtual 102, 3) := by decide +kernel
theorem dX6_stow_5 : decode cX6_stow 5 = .ok (.ifCond .ne 9, 3) := by decide +kernel
theorem dX6_stow_8 : decode cX6_stow 8 = .ok (.aload_n 0, 1) := by decide +kernel
theorem dX6_stow_9 : decode cX6_stow 9 = .ok (.iconst (-1), 1) := by decide +kernel
theorem dX6_stow_10 : decode cX6_stow 10 = .ok (.invokevirtual 60, 3) := by decide +kernel
theorem dX6_stow_13 : decode cX6_stow 13 = .ok (.ireturn, 1) := by decide +kernel
theorem dX6_stow_14 : decode cX6_stow 14 = .ok (.aload_n 0, 1) := by decide +kernel
theorem dX6_stow_15 : decode cX6_stow 15 = .ok (.getfield 44, 3) := by decide +kernel
theorem dX6_stow_18 : decode cX6_stow 18 = .ok (.iload_n 1, 1) := by decide +kernel
theorem dX6_stow_19 : decode cX6_stow 19 = .ok (.invokevirtual 232, 3) := by decide +kernel
theorem dX6_stow_22 : decode cX6_stow 22 = .ok (.istore_n 3, 1) := by decide +kernel
theorem dX6_stow_23 : decode cX6_stow 23 = .ok (.iload_n 3, 1) := by decide +kernel
theorem dX6_stow_24 : decode cX6_stow 24 = .ok (.ifCond .ne 20, 3) := by decide +kernel
theorem dX6_stow_27 : decode cX6_stow 27 = .ok (.aload_n 0, 1) := by decide +kernel
theorem dX6_stow_28 : decode cX6_stow 28 = .ok (.iload_n 2, 1) := by decide +kernel
theorem dX6_stow_29 : decode cX6_stow 29 = .ok (.aload_n 0, 1) := by decide +kernel
theorem dX6_stow_30 : decode cX6_stow 30 = .ok (.getfield 44, 3) := by decide +kernel
theorem dX6_stow_33 : decode cX6_stow 33 = .ok (.getfield 235, 3) := by decide +kernel
theorem dX6_stow_36 : decode cX6_stow 36 = .ok (.invokevirtual 237, 3) := by decide +kernel
theorem dX6_stow_39 : decode cX6_stow 39 = .ok (.ifCond .ne 5, 3) := by decide +kernel
theorem dX6_stow_42 : decode cX6_stow 42 = .ok (.iconst 5, 1) := by decide +kernel
theorem dX6_stow_43 : decode cX6_stow 43 = .ok (.istore_n 3, 1) := by decide +kernel
theorem dX6_stow_44 : decode cX6_stow 44 = .ok (.iload_n 3, 1) := by decide +kernel
theorem dX6_stow_45 : decode cX6_stow 45 = .ok (.ifCond .eq 9, 3) := by decide +kernel
theorem dX6_stow_48 : decode cX6_stow 48 = .ok (.aload_n 0, 1) := by decide +kernel
theorem dX6_stow_49 : decode cX6_stow 49 = .ok (.iload_n 3, 1) := by decide +kernel
theorem dX6_stow_50 : decode cX6_stow 50 = .ok (.invokevirtual 74, 3) := by decide +kernel
theorem dX6_stow_53 : decode cX6_stow 53 = .ok (.ireturn, 1) := by decide +kernel
theorem dX6_stow_54 : decode cX6_stow 54 = .ok (.aload_n 0, 1) := by decide +kernel
theorem dX6_stow_55 : decode cX6_stow 55 = .ok (.iconst 0, 1) := by decide +kernel
theorem dX6_stow_56 : decode cX6_stow 56 = .ok (.putfield 77, 3) := by decide +kernel
theorem dX6_stow_59 : decode cX6_stow 59 = .ok (.aload_n 0, 1) := by decide +kernel
theorem dX6_stow_60 : decode cX6_stow 60 = .ok (.getfield 44, 3) := by decide +kernel
theorem dX6_stow_63 : decode cX6_stow 63 = .ok (.getfield 240, 3) := by decide +kernel
theorem dX6_stow_66 : decode cX6_stow 66 = .ok (.iload_n 1, 1) := by decide +kernel
theorem dX6_stow_67 : decode cX6_stow 67 = .ok (.iload_n 2, 1) := by decide +kernel
theorem dX6_stow_68 : decode cX6_stow 68 = .ok (.iastore, 1) := by decide +kernel
theorem dX6_stow_69 : decode cX6_stow 69 = .ok (.iconst 1, 1) := by decide +kernel
theorem dX6_stow_70 : decode cX6_stow 70 = .ok (.ireturn, 1) := by decide +kernel
theorem dX6_stowed_0 : decode cX6_stowed 0 = .ok (.aload_n 0, 1) := by decide +kernel
theorem dX6_stowed_1 : decode cX6_stowed 1 = .ok (.getfield 44, 3) := by decide +kernel
theorem dX6_stowed_4 : decode cX6_stowed 4 = .ok (.iload_n 1, 1) := by decide +kernel
theorem dX6_stowed_5 : decode cX6_stowed 5 = .ok (.invokevirtual 232, 3) := by decide +kernel
theorem dX6_stowed_8 : decode cX6_stowed 8 = .ok (.istore_n 2, 1) := by decide +kernel
theorem dX6_stowed_9 : decode cX6_stowed 9 = .ok (.iload_n 2, 1) := by decide +kernel
theorem dX6_stowed_10 : decode cX6_stowed 10 = .ok (.ifCond .eq 9, 3) := by decide +kernel
theorem dX6_stowed_13 : decode cX6_stowed 13 = .ok (.aload_n 0, 1) := by decide +kernel
theorem dX6_stowed_14 : decode cX6_stowed 14 = .ok (.iload_n 2, 1) := by decide +kernel
theorem dX6_stowed_15 : decode cX6_stowed 15 = .ok (.invokevirtual 74, 3) := by decide +kernel
theorem dX6_stowed_18 : decode cX6_stowed 18 = .ok (.ireturn, 1) := by decide +kernel
theorem dX6_stowed_19 : decode cX6_stowed 19 = .ok (.aload_n 0, 1) := by decide +kernel
theorem dX6_stowed_20 : decode cX6_stowed 20 = .ok (.iconst 0, 1) := by decide +kernel
theorem dX6_stowed_21 : decode cX6_stowed 21 = .ok (.putfield 77, 3) := by decide +kernel
theorem dX6_stowed_24 : decode cX6_stowed 24 = .ok (.aload_n 0, 1) := by decide +kernel
theorem dX6_stowed_25 : decode cX6_stowed 25 = .ok (.getfield 44, 3) := by decide +kernel
theorem dX6_stowed_28 : decode cX6_stowed 28 = .ok (.getfield 240, 3) := by decide +kernel
theorem dX6_stowed_31 : decode cX6_stowed 31 = .ok (.iload_n 1, 1) := by decide +kernel
theorem dX6_stowed_32 : decode cX6_stowed 32 = .ok (.iaload, 1) := by decide +kernel
theorem dX6_stowed_33 : decode cX6_stowed 33 = .ok (.ireturn, 1) := by decide +kernel
theorem dX6_reading_0 : decode cX6_reading 0 = .ok (.aload_n 0, 1) := by decide +kernel
theorem dX6_reading_1 : decode cX6_reading 1 = .ok (.iload_n 1, 1) := by decide +kernel
theorem dX6_reading_2 : decode cX6_reading 2 = .ok (.invokevirtual 102, 3) := by decide +kernel
theorem dX6_reading_5 : decode cX6_reading 5 = .ok (.ifCond .ne 5, 3) := by decide +kernel
theorem dX6_reading_8 : decode cX6_reading 8 = .ok (.iconst (-1), 1) := by decide +kernel
theorem dX6_reading_9 : decode cX6_reading 9 = .ok (.ireturn, 1) := by decide +kernel
theorem dX6_reading_10 : decode cX6_reading 10 = .ok (.iload_n 2, 1) := by decide +kernel
theorem dX6_reading_11 : decode cX6_reading 11 = .ok (.ifCond .lt 9, 3) := by decide +kernel
theorem dX6_reading_14 : decode cX6_reading 14 = .ok (.iload_n 2, 1) := by decide +kernel
theorem dX6_reading_15 : decode cX6_reading 15 = .ok (.ldc 164, 2) := by decide +kernel
theorem dX6_reading_17 : decode cX6_reading 17 = .ok (.if_icmp .le 6, 3) := by decide +kernel
theorem dX6_reading_20 : decode cX6_reading 20 = .ok (.bipush (-2), 2) := by decide +kernel
theorem dX6_reading_22 : decode cX6_reading 22 = .ok (.ireturn, 1) := by decide +kernel
theorem dX6_reading_23 : decode cX6_reading 23 = .ok (.aload_n 0, 1) := by decide +kernel
theorem dX6_reading_24 : decode cX6_reading 24 = .ok (.getfield 51, 3) := by decide +kernel
theorem dX6_reading_27 : decode cX6_reading 27 = .ok (.getfield 96, 3) := by decide +kernel
theorem dX6_reading_30 : decode cX6_reading 30 = .ok (.bipush 8, 2) := by decide +kernel
theorem dX6_reading_32 : decode cX6_reading 32 = .ok (.if_icmp .lt 6, 3) := by decide +kernel
theorem dX6_reading_35 : decode cX6_reading 35 = .ok (.bipush (-4), 2) := by decide +kernel
theorem dX6_reading_37 : decode cX6_reading 37 = .ok (.ireturn, 1) := by decide +kernel
theorem dX6_reading_38 : decode cX6_reading 38 = .ok (.aload_n 0, 1) := by decide +kernel
theorem dX6_reading_39 : decode cX6_reading 39 = .ok (.getfield 51, 3) := by decide +kernel
theorem dX6_reading_42 : decode cX6_reading 42 = .ok (.iload_n 1, 1) := by decide +kernel
theorem dX6_reading_43 : decode cX6_reading 43 = .ok (.iload_n 2, 1) := by decide +kernel
theorem dX6_reading_44 : decode cX6_reading 44 = .ok (.invokevirtual 243, 3) := by decide +kernel
theorem dX6_reading_47 : decode cX6_reading 47 = .ok (.ireturn, 1) := by decide +kernel
theorem dX6_back_0 : decode cX6_back 0 = .ok (.iload_n 1, 1) := by decide +kernel
theorem dX6_back_1 : decode cX6_back 1 = .ok (.ifCond .lt 14, 3) := by decide +kernel
theorem dX6_back_4 : decode cX6_back 4 = .ok (.iload_n 1, 1) := by decide +kernel
theorem dX6_back_5 : decode cX6_back 5 = .ok (.aload_n 0, 1) := by decide +kernel
theorem dX6_back_6 : decode cX6_back 6 = .ok (.getfield 51, 3) := by decide +kernel
theorem dX6_back_9 : decode cX6_back 9 = .ok (.getfield 96, 3) := by decide +kernel
theorem dX6_back_12 : decode cX6_back 12 = .ok (.if_icmp .le 6, 3) := by decide +kernel
theorem dX6_back_15 : decode cX6_back 15 = .ok (.bipush (-2), 2) := by decide +kernel
theorem dX6_back_17 : decode cX6_back 17 = .ok (.ireturn, 1) := by decide +kernel
theorem dX6_back_18 : decode cX6_back 18 = .ok (.aload_n 0, 1) := by decide +kernel
theorem dX6_back_19 : decode cX6_back 19 = .ok (.getfield 51, 3) := by decide +kernel
theorem dX6_back_22 : decode cX6_back 22 = .ok (.dup, 1) := by decide +kernel
theorem dX6_back_23 : decode cX6_back 23 = .ok (.getfield 96, 3) := by decide +kernel
theorem dX6_back_26 : decode cX6_back 26 = .ok (.iload_n 1, 1) := by decide +kernel
theorem dX6_back_27 : decode cX6_back 27 = .ok (.isub, 1) := by decide +kernel
theorem dX6_back_28 : decode cX6_back 28 = .ok (.putfield 96, 3) := by decide +kernel
theorem dX6_back_31 : decode cX6_back 31 = .ok (.aload_n 0, 1) := by decide +kernel
theorem dX6_back_32 : decode cX6_back 32 = .ok (.getfield 51, 3) := by decide +kernel
theorem dX6_back_35 : decode cX6_back 35 = .ok (.getfield 96, 3) := by decide +kernel
theorem dX6_back_38 : decode cX6_back 38 = .ok (.ireturn, 1) := by decide +kernel
theorem dX6_kinds_0 : decode cX6_kinds 0 = .ok (.aload_n 0, 1) := by decide +kernel
theorem dX6_kinds_1 : decode cX6_kinds 1 = .ok (.iload_n 1, 1) := by decide +kernel
theorem dX6_kinds_2 : decode cX6_kinds 2 = .ok (.invokevirtual 102, 3) := by decide +kernel
theorem dX6_kinds_5 : decode cX6_kinds 5 = .ok (.ifCond .ne 5, 3) := by decide +kernel
theorem dX6_kinds_8 : decode cX6_kinds 8 = .ok (.iconst (-1), 1) := by decide +kernel
theorem dX6_kinds_9 : decode cX6_kinds 9 = .ok (.ireturn, 1) := by decide +kernel
theorem dX6_kinds_10 : decode cX6_kinds 10 = .ok (.aload_n 0, 1) := by decide +kernel
theorem dX6_kinds_11 : decode cX6_kinds 11 = .ok (.getfield 24, 3) := by decide +kernel
theorem dX6_kinds_14 : decode cX6_kinds 14 = .ok (.aload_n 0, 1) := by decide +kernel
theorem dX6_kinds_15 : decode cX6_kinds 15 = .ok (.getfield 20, 3) := by decide +kernel
theorem dX6_kinds_18 : decode cX6_kinds 18 = .ok (.invokevirtual 88, 3) := by decide +kernel
theorem dX6_kinds_21 : decode cX6_kinds 21 = .ok (.iconst 0, 1) := by decide +kernel
theorem dX6_kinds_22 : decode cX6_kinds 22 = .ok (.istore_n 2, 1) := by decide +kernel
theorem dX6_kinds_23 : decode cX6_kinds 23 = .ok (.iconst 0, 1) := by decide +kernel
theorem dX6_kinds_24 : decode cX6_kinds 24 = .ok (.istore_n 3, 1) := by decide +kernel
theorem dX6_kinds_25 : decode cX6_kinds 25 = .ok (.iload_n 3, 1) := by decide +kernel
theorem dX6_kinds_26 : decode cX6_kinds 26 = .ok (.iconst 2, 1) := by decide +kernel
theorem dX6_kinds_27 : decode cX6_kinds 27 = .ok (.if_icmp .gt 47, 3) := by decide +kernel
theorem dX6_kinds_30 : decode cX6_kinds 30 = .ok (.aload_n 0, 1) := by decide +kernel
theorem dX6_kinds_31 : decode cX6_kinds 31 = .ok (.getfield 24, 3) := by decide +kernel
theorem dX6_kinds_34 : decode cX6_kinds 34 = .ok (.iload_n 1, 1) := by decide +kernel
theorem dX6_kinds_35 : decode cX6_kinds 35 = .ok (.iload_n 3, 1) := by decide +kernel
theorem dX6_kinds_36 : decode cX6_kinds 36 = .ok (.aload_n 0, 1) := by decide +kernel
theorem dX6_kinds_37 : decode cX6_kinds 37 = .ok (.getfield 20, 3) := by decide +kernel
theorem dX6_kinds_40 : decode cX6_kinds 40 = .ok (.getfield 109, 3) := by decide +kernel
theorem dX6_kinds_43 : decode cX6_kinds 43 = .ok (.iload_n 1, 1) := by decide +kernel
theorem dX6_kinds_44 : decode cX6_kinds 44 = .ok (.iaload, 1) := by decide +kernel
theorem dX6_kinds_45 : decode cX6_kinds 45 = .ok (.invokevirtual 159, 3) := by decide +kernel
theorem dX6_kinds_48 : decode cX6_kinds 48 = .ok (.aload_n 0, 1) := by decide +kernel
theorem dX6_kinds_49 : decode cX6_kinds 49 = .ok (.getfield 51, 3) := by decide +kernel
theorem dX6_kinds_52 : decode cX6_kinds 52 = .ok (.aload_n 0, 1) := by decide +kernel
theorem dX6_kinds_53 : decode cX6_kinds 53 = .ok (.getfield 24, 3) := by decide +kernel
theorem dX6_kinds_56 : decode cX6_kinds 56 = .ok (.invokevirtual 246, 3) := by decide +kernel
theorem dX6_kinds_59 : decode cX6_kinds 59 = .ok (.ifCond .eq 9, 3) := by decide +kernel
theorem dX6_kinds_62 : decode cX6_kinds 62 = .ok (.iload_n 2, 1) := by decide +kernel
theorem dX6_kinds_63 : decode cX6_kinds 63 = .ok (.iconst 1, 1) := by decide +kernel
theorem dX6_kinds_64 : decode cX6_kinds 64 = .ok (.iload_n 3, 1) := by decide +kernel
theorem dX6_kinds_65 : decode cX6_kinds 65 = .ok (.ishl, 1) := by decide +kernel
theorem dX6_kinds_66 : decode cX6_kinds 66 = .ok (.ior, 1) := by decide +kernel
theorem dX6_kinds_67 : decode cX6_kinds 67 = .ok (.istore_n 2, 1) := by decide +kernel
theorem dX6_kinds_68 : decode cX6_kinds 68 = .ok (.iinc 3 1, 3) := by decide +kernel
theorem dX6_kinds_71 : decode cX6_kinds 71 = .ok (.goto (-46), 3) := by decide +kernel
theorem dX6_kinds_74 : decode cX6_kinds 74 = .ok (.iload_n 2, 1) := by decide +kernel
theorem dX6_kinds_75 : decode cX6_kinds 75 = .ok (.ireturn, 1) := by decide +kernel
theorem dX6_bulks_0 : decode cX6_bulks 0 = .ok (.aload_n 0, 1) := by decide +kernel
theorem dX6_bulks_1 : decode cX6_bulks 1 = .ok (.iload_n 1, 1) := by decide +kernel
theorem dX6_bulks_2 : decode cX6_bulks 2 = .ok (.invokevirtual 102, 3) := by decide +kernel
theorem dX6_bulks_5 : decode cX6_bulks 5 = .ok (.ifCond .ne 5, 3) := by decide +kernel
theorem dX6_bulks_8 : decode cX6_bulks 8 = .ok (.iconst (-1), 1) := by decide +kernel
theorem dX6_bulks_9 : decode cX6_bulks 9 = .ok (.ireturn, 1) := by decide +kernel
theorem dX6_bulks_10 : decode cX6_bulks 10 = .ok (.aload_n 0, 1) := by decide +kernel
theorem dX6_bulks_11 : decode cX6_bulks 11 = .ok (.getfield 24, 3) := by decide +kernel
theorem dX6_bulks_14 : decode cX6_bulks 14 = .ok (.aload_n 0, 1) := by decide +kernel
theorem dX6_bulks_15 : decode cX6_bulks 15 = .ok (.getfield 20, 3) := by decide +kernel
theorem dX6_bulks_18 : decode cX6_bulks 18 = .ok (.invokevirtual 88, 3) := by decide +kernel
theorem dX6_bulks_21 : decode cX6_bulks 21 = .ok (.iconst 0, 1) := by decide +kernel
theorem dX6_bulks_22 : decode cX6_bulks 22 = .ok (.istore_n 2, 1) := by decide +kernel
theorem dX6_bulks_23 : decode cX6_bulks 23 = .ok (.iconst 1, 1) := by decide +kernel
theorem dX6_bulks_24 : decode cX6_bulks 24 = .ok (.istore_n 3, 1) := by decide +kernel
theorem dX6_bulks_25 : decode cX6_bulks 25 = .ok (.iload_n 3, 1) := by decide +kernel
theorem dX6_bulks_26 : decode cX6_bulks 26 = .ok (.bipush 9, 2) := by decide +kernel
theorem dX6_bulks_28 : decode cX6_bulks 28 = .ok (.if_icmp .gt 47, 3) := by decide +kernel
theorem dX6_bulks_31 : decode cX6_bulks 31 = .ok (.aload_n 0, 1) := by decide +kernel
theorem dX6_bulks_32 : decode cX6_bulks 32 = .ok (.getfield 24, 3) := by decide +kernel
theorem dX6_bulks_35 : decode cX6_bulks 35 = .ok (.iload_n 1, 1) := by decide +kernel
theorem dX6_bulks_36 : decode cX6_bulks 36 = .ok (.aload_n 0, 1) := by decide +kernel
theorem dX6_bulks_37 : decode cX6_bulks 37 = .ok (.getfield 20, 3) := by decide +kernel
theorem dX6_bulks_40 : decode cX6_bulks 40 = .ok (.getfield 105, 3) := by decide +kernel
theorem dX6_bulks_43 : decode cX6_bulks 43 = .ok (.iload_n 1, 1) := by decide +kernel
theorem dX6_bulks_44 : decode cX6_bulks 44 = .ok (.iaload, 1) := by decide +kernel
theorem dX6_bulks_45 : decode cX6_bulks 45 = .ok (.iload_n 3, 1) := by decide +kernel
theorem dX6_bulks_46 : decode cX6_bulks 46 = .ok (.invokevirtual 159, 3) := by decide +kernel
theorem dX6_bulks_49 : decode cX6_bulks 49 = .ok (.aload_n 0, 1) := by decide +kernel
theorem dX6_bulks_50 : decode cX6_bulks 50 = .ok (.getfield 51, 3) := by decide +kernel
theorem dX6_bulks_53 : decode cX6_bulks 53 = .ok (.aload_n 0, 1) := by decide +kernel
theorem dX6_bulks_54 : decode cX6_bulks 54 = .ok (.getfield 24, 3) := by decide +kernel
theorem dX6_bulks_57 : decode cX6_bulks 57 = .ok (.invokevirtual 246, 3) := by decide +kernel
theorem dX6_bulks_60 : decode cX6_bulks 60 = .ok (.ifCond .eq 9, 3) := by decide +kernel
theorem dX6_bulks_63 : decode cX6_bulks 63 = .ok (.iload_n 2, 1) := by decide +kernel
theorem dX6_bulks_64 : decode cX6_bulks 64 = .ok (.iconst 1, 1) := by decide +kernel
theorem dX6_bulks_65 : decode cX6_bulks 65 = .ok (.iload_n 3, 1) := by decide +kernel
theorem dX6_bulks_66 : decode cX6_bulks 66 = .ok (.ishl, 1) := by decide +kernel
theorem dX6_bulks_67 : decode cX6_bulks 67 = .ok (.ior, 1) := by decide +kernel
theorem dX6_bulks_68 : decode cX6_bulks 68 = .ok (.istore_n 2, 1) := by decide +kernel
theorem dX6_bulks_69 : decode cX6_bulks 69 = .ok (.iinc 3 1, 3) := by decide +kernel
theorem dX6_bulks_72 : decode cX6_bulks 72 = .ok (.goto (-47), 3) := by decide +kernel
theorem dX6_bulks_75 : decode cX6_bulks 75 = .ok (.iload_n 2, 1) := by decide +kernel
theorem dX6_bulks_76 : decode cX6_bulks 76 = .ok (.ireturn, 1) := by decide +kernel
theorem dX6_odds_0 : decode cX6_odds 0 = .ok (.aload_n 0, 1) := by decide +kernel
theorem dX6_odds_1 : decode cX6_odds 1 = .ok (.invokevirtual 142, 3) := by decide +kernel
theorem dX6_odds_4 : decode cX6_odds 4 = .ok (.ifCond .ne 22, 3) := by decide +kernel
theorem dX6_odds_7 : decode cX6_odds 7 = .ok (.iload_n 1, 1) := by decide +kernel
theorem dX6_odds_8 : decode cX6_odds 8 = .ok (.ifCond .lt 18, 3) := by decide +kernel
theorem dX6_odds_11 : decode cX6_odds 11 = .ok (.iload_n 1, 1) := by decide +kernel
theorem dX6_odds_12 : decode cX6_odds 12 = .ok (.bipush 6, 2) := by decide +kernel
theorem dX6_odds_14 : decode cX6_odds 14 = .ok (.if_icmp .gt 12, 3) := by decide +kernel
theorem dX6_odds_17 : decode cX6_odds 17 = .ok (.iload_n 2, 1) := by decide +kernel
theorem dX6_odds_18 : decode cX6_odds 18 = .ok (.ifCond .lt 8, 3) := by decide +kernel
theorem dX6_odds_21 : decode cX6_odds 21 = .ok (.iload_n 2, 1) := by decide +kernel
theorem dX6_odds_22 : decode cX6_odds 22 = .ok (.iconst 1, 1) := by decide +kernel
theorem dX6_odds_23 : decode cX6_odds 23 = .ok (.if_icmp .le 7, 3) := by decide +kernel
theorem dX6_odds_26 : decode cX6_odds 26 = .ok (.ldc2_w 250, 3) := by decide +kernel
theorem dX6_odds_29 : decode cX6_odds 29 = .ok (.lreturn, 1) := by decide +kernel
theorem dX6_odds_30 : decode cX6_odds 30 = .ok (.iconst 0, 1) := by decide +kernel
theorem dX6_odds_31 : decode cX6_odds 31 = .ok (.istore_n 3, 1) := by decide +kernel
theorem dX6_odds_32 : decode cX6_odds 32 = .ok (.iconst 0, 1) := by decide +kernel
theorem dX6_odds_33 : decode cX6_odds 33 = .ok (.istore 4, 2) := by decide +kernel
theorem dX6_odds_35 : decode cX6_odds 35 = .ok (.iconst 0, 1) := by decide +kernel
theorem dX6_odds_36 : decode cX6_odds 36 = .ok (.istore 5, 2) := by decide +kernel
theorem dX6_odds_38 : decode cX6_odds 38 = .ok (.iload 5, 2) := by decide +kernel
theorem dX6_odds_40 : decode cX6_odds 40 = .ok (.aload_n 0, 1) := by decide +kernel
theorem dX6_odds_41 : decode cX6_odds 41 = .ok (.getfield 20, 3) := by decide +kernel
theorem dX6_odds_44 : decode cX6_odds 44 = .ok (.invokevirtual 211, 3) := by decide +kernel
theorem dX6_odds_47 : decode cX6_odds 47 = .ok (.if_icmp .gt 40, 3) := by decide +kernel
theorem dX6_odds_50 : decode cX6_odds 50 = .ok (.aload_n 0, 1) := by decide +kernel
theorem dX6_odds_51 : decode cX6_odds 51 = .ok (.getfield 20, 3) := by decide +kernel
theorem dX6_odds_54 : decode cX6_odds 54 = .ok (.iload 5, 2) := by decide +kernel
theorem dX6_odds_56 : decode cX6_odds 56 = .ok (.invokevirtual 252, 3) := by decide +kernel
theorem dX6_odds_59 : decode cX6_odds 59 = .ok (.ifCond .eq 22, 3) := by decide +kernel
theorem dX6_odds_62 : decode cX6_odds 62 = .ok (.iinc 4 1, 3) := by decide +kernel
theorem dX6_odds_65 : decode cX6_odds 65 = .ok (.aload_n 0, 1) := by decide +kernel
theorem dX6_odds_66 : decode cX6_odds 66 = .ok (.getfield 20, 3) := by decide +kernel
theorem dX6_odds_69 : decode cX6_odds 69 = .ok (.iload 5, 2) := by decide +kernel
theorem dX6_odds_71 : decode cX6_odds 71 = .ok (.invokevirtual 208, 3) := by decide +kernel
theorem dX6_odds_74 : decode cX6_odds 74 = .ok (.iload_n 1, 1) := by decide +kernel
theorem dX6_odds_75 : decode cX6_odds 75 = .ok (.if_icmp .gt 6, 3) := by decide +kernel
theorem dX6_odds_78 : decode cX6_odds 78 = .ok (.iinc 3 1, 3) := by decide +kernel
theorem dX6_odds_81 : decode cX6_odds 81 = .ok (.iinc 5 1, 3) := by decide +kernel
theorem dX6_odds_84 : decode cX6_odds 84 = .ok (.goto (-46), 3) := by decide +kernel
theorem dX6_odds_87 : decode cX6_odds 87 = .ok (.iconst 0, 1) := by decide +kernel
theorem dX6_odds_88 : decode cX6_odds 88 = .ok (.istore 5, 2) := by decide +kernel
theorem dX6_odds_90 : decode cX6_odds 90 = .ok (.iload 5, 2) := by decide +kernel
theorem dX6_odds_92 : decode cX6_odds 92 = .ok (.bipush 7, 2) := by decide +kernel
theorem dX6_odds_94 : decode cX6_odds 94 = .ok (.if_icmp .ge 31, 3) := by decide +kernel
theorem dX6_odds_97 : decode cX6_odds 97 = .ok (.iload 4, 2) := by decide +kernel
theorem dX6_odds_99 : decode cX6_odds 99 = .ok (.iconst 1, 1) := by decide +kernel
theorem dX6_odds_100 : decode cX6_odds 100 = .ok (.if_icmp .le 25, 3) := by decide +kernel
theorem dX6_odds_103 : decode cX6_odds 103 = .ok (.iload_n 3, 1) := by decide +kernel
theorem dX6_odds_104 : decode cX6_odds 104 = .ok (.iconst 2, 1) := by decide +kernel
theorem dX6_odds_105 : decode cX6_odds 105 = .ok (.irem, 1) := by decide +kernel
theorem dX6_odds_106 : decode cX6_odds 106 = .ok (.ifCond .ne 19, 3) := by decide +kernel
theorem dX6_odds_109 : decode cX6_odds 109 = .ok (.iload_n 3, 1) := by decide +kernel
theorem dX6_odds_110 : decode cX6_odds 110 = .ok (.iconst 2, 1) := by decide +kernel
theorem dX6_odds_111 : decode cX6_odds 111 = .ok (.idiv, 1) := by decide +kernel
theorem dX6_odds_112 : decode cX6_odds 112 = .ok (.istore_n 3, 1) := by decide +kernel
theorem dX6_odds_113 : decode cX6_odds 113 = .ok (.iload 4, 2) := by decide +kernel
theorem dX6_odds_115 : decode cX6_odds 115 = .ok (.iconst 2, 1) := by decide +kernel
theorem dX6_odds_116 : decode cX6_odds 116 = .ok (.idiv, 1) := by decide +kernel
theorem dX6_odds_117 : decode cX6_odds 117 = .ok (.istore 4, 2) := by decide +kernel
theorem dX6_odds_119 : decode cX6_odds 119 = .ok (.iinc 5 1, 3) := by decide +kernel
theorem dX6_odds_122 : decode cX6_odds 122 = .ok (.goto (-32), 3) := by decide +kernel
theorem dX6_odds_125 : decode cX6_odds 125 = .ok (.iload_n 2, 1) := by decide +kernel
theorem dX6_odds_126 : decode cX6_odds 126 = .ok (.ifCond .ne 8, 3) := by decide +kernel
theorem dX6_odds_129 : decode cX6_odds 129 = .ok (.iload_n 3, 1) := by decide +kernel
theorem dX6_odds_130 : decode cX6_odds 130 = .ok (.i2l, 1) := by decide +kernel
theorem dX6_odds_131 : decode cX6_odds 131 = .ok (.goto 6, 3) := by decide +kernel
theorem dX6_odds_134 : decode cX6_odds 134 = .ok (.iload 4, 2) := by decide +kernel
theorem dX6_odds_136 : decode cX6_odds 136 = .ok (.i2l, 1) := by decide +kernel
theorem dX6_odds_137 : decode cX6_odds 137 = .ok (.lreturn, 1) := by decide +kernel
theorem dX6_sheet_0 : decode cX6_sheet 0 = .ok (.iload_n 1, 1) := by decide +kernel
theorem dX6_sheet_1 : decode cX6_sheet 1 = .ok (.invokestatic 56, 3) := by decide +kernel
theorem dX6_sheet_4 : decode cX6_sheet 4 = .ok (.ifCond .ne 9, 3) := by decide +kernel
theorem dX6_sheet_7 : decode cX6_sheet 7 = .ok (.aload_n 0, 1) := by decide +kernel
theorem dX6_sheet_8 : decode cX6_sheet 8 = .ok (.iconst (-1), 1) := by decide +kernel
theorem dX6_sheet_9 : decode cX6_sheet 9 = .ok (.invokevirtual 60, 3) := by decide +kernel
theorem dX6_sheet_12 : decode cX6_sheet 12 = .ok (.ireturn, 1) := by decide +kernel
theorem dX6_sheet_13 : decode cX6_sheet 13 = .ok (.iload_n 2, 1) := by decide +kernel
theorem dX6_sheet_14 : decode cX6_sheet 14 = .ok (.invokestatic 64, 3) := by decide +kernel
theorem dX6_sheet_17 : decode cX6_sheet 17 = .ok (.ifCond .eq 9, 3) := by decide +kernel
theorem dX6_sheet_20 : decode cX6_sheet 20 = .ok (.iload_n 3, 1) := by decide +kernel
theorem dX6_sheet_21 : decode cX6_sheet 21 = .ok (.bipush 60, 2) := by decide +kernel
theorem dX6_sheet_23 : decode cX6_sheet 23 = .ok (.if_icmp .le 10, 3) := by decide +kernel
theorem dX6_sheet_26 : decode cX6_sheet 26 = .ok (.aload_n 0, 1) := by decide +kernel
theorem dX6_sheet_27 : decode cX6_sheet 27 = .ok (.bipush (-2), 2) := by decide +kernel
theorem dX6_sheet_29 : decode cX6_sheet 29 = .ok (.invokevirtual 60, 3) := by decide +kernel
theorem dX6_sheet_32 : decode cX6_sheet 32 = .ok (.ireturn, 1) := by decide +kernel
theorem dX6_sheet_33 : decode cX6_sheet 33 = .ok (.iload_n 3, 1) := by decide +kernel
theorem dX6_sheet_34 : decode cX6_sheet 34 = .ok (.ifCond .ge 9, 3) := by decide +kernel
theorem dX6_sheet_37 : decode cX6_sheet 37 = .ok (.aload_n 0, 1) := by decide +kernel
theorem dX6_sheet_38 : decode cX6_sheet 38 = .ok (.iconst 4, 1) := by decide +kernel
theorem dX6_sheet_39 : decode cX6_sheet 39 = .ok (.invokevirtual 74, 3) := by decide +kernel
theorem dX6_sheet_42 : decode cX6_sheet 42 = .ok (.ireturn, 1) := by decide +kernel
theorem dX6_sheet_43 : decode cX6_sheet 43 = .ok (.aload_n 0, 1) := by decide +kernel
theorem dX6_sheet_44 : decode cX6_sheet 44 = .ok (.iconst 0, 1) := by decide +kernel
theorem dX6_sheet_45 : decode cX6_sheet 45 = .ok (.putfield 77, 3) := by decide +kernel
theorem dX6_sheet_48 : decode cX6_sheet 48 = .ok (.aload_n 0, 1) := by decide +kernel
theorem dX6_sheet_49 : decode cX6_sheet 49 = .ok (.getfield 13, 3) := by decide +kernel
theorem dX6_sheet_52 : decode cX6_sheet 52 = .ok (.iload_n 1, 1) := by decide +kernel
theorem dX6_sheet_53 : decode cX6_sheet 53 = .ok (.aaload, 1) := by decide +kernel
theorem dX6_sheet_54 : decode cX6_sheet 54 = .ok (.iload_n 2, 1) := by decide +kernel
theorem dX6_sheet_55 : decode cX6_sheet 55 = .ok (.iload_n 3, 1) := by decide +kernel
theorem dX6_sheet_56 : decode cX6_sheet 56 = .ok (.invokevirtual 255, 3) := by decide +kernel
theorem dX6_sheet_59 : decode cX6_sheet 59 = .ok (.iconst 1, 1) := by decide +kernel
theorem dX6_sheet_60 : decode cX6_sheet 60 = .ok (.ireturn, 1) := by decide +kernel
theorem dX6_lose_0 : decode cX6_lose 0 = .ok (.iload_n 1, 1) := by decide +kernel
theorem dX6_lose_1 : decode cX6_lose 1 = .ok (.invokestatic 56, 3) := by decide +kernel
theorem dX6_lose_4 : decode cX6_lose 4 = .ok (.ifCond .ne 5, 3) := by decide +kernel
theorem dX6_lose_7 : decode cX6_lose 7 = .ok (.iconst (-1), 1) := by decide +kernel
theorem dX6_lose_8 : decode cX6_lose 8 = .ok (.ireturn, 1) := by decide +kernel
theorem dX6_lose_9 : decode cX6_lose 9 = .ok (.aload_n 0, 1) := by decide +kernel
theorem dX6_lose_10 : decode cX6_lose 10 = .ok (.getfield 13, 3) := by decide +kernel
theorem dX6_lose_13 : decode cX6_lose 13 = .ok (.iload_n 1, 1) := by decide +kernel
theorem dX6_lose_14 : decode cX6_lose 14 = .ok (.aaload, 1) := by decide +kernel
theorem dX6_lose_15 : decode cX6_lose 15 = .ok (.getfield 256, 3) := by decide +kernel
theorem dX6_lose_18 : decode cX6_lose 18 = .ok (.iconst (-1), 1) := by decide +kernel
theorem dX6_lose_19 : decode cX6_lose 19 = .ok (.if_icmp .ne 7, 3) := by decide +kernel
theorem dX6_lose_22 : decode cX6_lose 22 = .ok (.iconst 0, 1) := by decide +kernel
theorem dX6_lose_23 : decode cX6_lose 23 = .ok (.goto 4, 3) := by decide +kernel
theorem dX6_lose_26 : decode cX6_lose 26 = .ok (.iconst 1, 1) := by decide +kernel
theorem dX6_lose_27 : decode cX6_lose 27 = .ok (.istore_n 2, 1) := by decide +kernel
theorem dX6_lose_28 : decode cX6_lose 28 = .ok (.aload_n 0, 1) := by decide +kernel
theorem dX6_lose_29 : decode cX6_lose 29 = .ok (.getfield 13, 3) := by decide +kernel
theorem dX6_lose_32 : decode cX6_lose 32 = .ok (.iload_n 1, 1) := by decide +kernel
theorem dX6_lose_33 : decode cX6_lose 33 = .ok (.aaload, 1) := by decide +kernel
theorem dX6_lose_34 : decode cX6_lose 34 = .ok (.iconst (-1), 1) := by decide +kernel
theorem dX6_lose_35 : decode cX6_lose 35 = .ok (.putfield 256, 3) := by decide +kernel
theorem dX6_lose_38 : decode cX6_lose 38 = .ok (.iload_n 2, 1) := by decide +kernel
theorem dX6_lose_39 : decode cX6_lose 39 = .ok (.ireturn, 1) := by decide +kernel
theorem dX6_put_0 : decode cX6_put 0 = .ok (.iload_n 1, 1) := by decide +kernel
theorem dX6_put_1 : decode cX6_put 1 = .ok (.invokestatic 56, 3) := by decide +kernel
theorem dX6_put_4 : decode cX6_put 4 = .ok (.ifCond .ne 9, 3) := by decide +kernel
theorem dX6_put_7 : decode cX6_put 7 = .ok (.aload_n 0, 1) := by decide +kernel
theorem dX6_put_8 : decode cX6_put 8 = .ok (.iconst (-1), 1) := by decide +kernel
theorem dX6_put_9 : decode cX6_put 9 = .ok (.invokevirtual 60, 3) := by decide +kernel
theorem dX6_put_12 : decode cX6_put 12 = .ok (.ireturn, 1) := by decide +kernel
theorem dX6_put_13 : decode cX6_put 13 = .ok (.aload_n 0, 1) := by decide +kernel
theorem dX6_put_14 : decode cX6_put 14 = .ok (.getfield 13, 3) := by decide +kernel
theorem dX6_put_17 : decode cX6_put 17 = .ok (.iload_n 1, 1) := by decide +kernel
theorem dX6_put_18 : decode cX6_put 18 = .ok (.aaload, 1) := by decide +kernel
theorem dX6_put_19 : decode cX6_put 19 = .ok (.astore 4, 2) := by decide +kernel
theorem dX6_put_21 : decode cX6_put 21 = .ok (.aload 4, 2) := by decide +kernel
theorem dX6_put_23 : decode cX6_put 23 = .ok (.getfield 256, 3) := by decide +kernel
theorem dX6_put_26 : decode cX6_put 26 = .ok (.iconst (-1), 1) := by decide +kernel
theorem dX6_put_27 : decode cX6_put 27 = .ok (.if_icmp .ne 9, 3) := by decide +kernel
theorem dX6_put_30 : decode cX6_put 30 = .ok (.aload_n 0, 1) := by decide +kernel
theorem dX6_put_31 : decode cX6_put 31 = .ok (.iconst 1, 1) := by decide +kernel
theorem dX6_put_32 : decode cX6_put 32 = .ok (.invokevirtual 74, 3) := by decide +kernel
theorem dX6_put_35 : decode cX6_put 35 = .ok (.ireturn, 1) := by decide +kernel
theorem dX6_put_36 : decode cX6_put 36 = .ok (.iload_n 2, 1) := by decide +kernel
theorem dX6_put_37 : decode cX6_put 37 = .ok (.ifCond .lt 12, 3) := by decide +kernel
theorem dX6_put_40 : decode cX6_put 40 = .ok (.iload_n 2, 1) := by decide +kernel
theorem dX6_put_41 : decode cX6_put 41 = .ok (.aload 4, 2) := by decide +kernel
theorem dX6_put_43 : decode cX6_put 43 = .ok (.getfield 259, 3) := by decide +kernel
theorem dX6_put_46 : decode cX6_put 46 = .ok (.if_icmp .lt 9, 3) := by decide +kernel
theorem dX6_put_49 : decode cX6_put 49 = .ok (.aload_n 0, 1) := by decide +kernel
theorem dX6_put_50 : decode cX6_put 50 = .ok (.iconst 3, 1) := by decide +kernel
theorem dX6_put_51 : decode cX6_put 51 = .ok (.invokevirtual 74, 3) := by decide +kernel
theorem dX6_put_54 : decode cX6_put 54 = .ok (.ireturn, 1) := by decide +kernel
theorem dX6_put_55 : decode cX6_put 55 = .ok (.aload_n 0, 1) := by decide +kernel
theorem dX6_put_56 : decode cX6_put 56 = .ok (.iconst 0, 1) := by decide +kernel
theorem dX6_put_57 : decode cX6_put 57 = .ok (.putfield 77, 3) := by decide +kernel
theorem dX6_put_60 : decode cX6_put 60 = .ok (.aload 4, 2) := by decide +kernel
theorem dX6_put_62 : decode cX6_put 62 = .ok (.getfield 262, 3) := by decide +kernel
theorem dX6_put_65 : decode cX6_put 65 = .ok (.iload_n 2, 1) := by decide +kernel
theorem dX6_put_66 : decode cX6_put 66 = .ok (.iload_n 3, 1) := by decide +kernel
theorem dX6_put_67 : decode cX6_put 67 = .ok (.aload 4, 2) := by decide +kernel
theorem dX6_put_69 : decode cX6_put 69 = .ok (.getfield 256, 3) := by decide +kernel
theorem dX6_put_72 : decode cX6_put 72 = .ok (.invokestatic 265, 3) := by decide +kernel
theorem dX6_put_75 : decode cX6_put 75 = .ok (.iastore, 1) := by decide +kernel
theorem dX6_put_76 : decode cX6_put 76 = .ok (.iconst 1, 1) := by decide +kernel
theorem dX6_put_77 : decode cX6_put 77 = .ok (.ireturn, 1) := by decide +kernel
theorem dX6_cell_0 : decode cX6_cell 0 = .ok (.iload_n 1, 1) := by decide +kernel
theorem dX6_cell_1 : decode cX6_cell 1 = .ok (.invokestatic 56, 3) := by decide +kernel
theorem dX6_cell_4 : decode cX6_cell 4 = .ok (.ifCond .eq 10, 3) := by decide +kernel
theorem dX6_cell_7 : decode cX6_cell 7 = .ok (.iload_n 3, 1) := by decide +kernel
theorem dX6_cell_8 : decode cX6_cell 8 = .ok (.invokestatic 64, 3) := by decide +kernel
theorem dX6_cell_11 : decode cX6_cell 11 = .ok (.ifCond .ne 12, 3) := by decide +kernel
theorem dX6_cell_14 : decode cX6_cell 14 = .ok (.aload_n 0, 1) := by decide +kernel
theorem dX6_cell_15 : decode cX6_cell 15 = .ok (.iconst 0, 1) := by decide +kernel
theorem dX6_cell_16 : decode cX6_cell 16 = .ok (.putfield 77, 3) := by decide +kernel
theorem dX6_cell_19 : decode cX6_cell 19 = .ok (.ldc2_w 250, 3) := by decide +kernel
theorem dX6_cell_22 : decode cX6_cell 22 = .ok (.lreturn, 1) := by decide +kernel
theorem dX6_cell_23 : decode cX6_cell 23 = .ok (.aload_n 0, 1) := by decide +kernel
theorem dX6_cell_24 : decode cX6_cell 24 = .ok (.getfield 13, 3) := by decide +kernel
theorem dX6_cell_27 : decode cX6_cell 27 = .ok (.iload_n 1, 1) := by decide +kernel
theorem dX6_cell_28 : decode cX6_cell 28 = .ok (.aaload, 1) := by decide +kernel
theorem dX6_cell_29 : decode cX6_cell 29 = .ok (.astore 4, 2) := by decide +kernel
theorem dX6_cell_31 : decode cX6_cell 31 = .ok (.aload_n 0, 1) := by decide +kernel
theorem dX6_cell_32 : decode cX6_cell 32 = .ok (.aload 4, 2) := by decide +kernel
theorem dX6_cell_34 : decode cX6_cell 34 = .ok (.iload_n 3, 1) := by decide +kernel
theorem dX6_cell_35 : decode cX6_cell 35 = .ok (.invokevirtual 67, 3) := by decide +kernel
theorem dX6_cell_38 : decode cX6_cell 38 = .ok (.putfield 77, 3) := by decide +kernel
theorem dX6_cell_41 : decode cX6_cell 41 = .ok (.aload_n 0, 1) := by decide +kernel
theorem dX6_cell_42 : decode cX6_cell 42 = .ok (.getfield 77, 3) := by decide +kernel
theorem dX6_cell_45 : decode cX6_cell 45 = .ok (.ifCond .ne 21, 3) := by decide +kernel
theorem dX6_cell_48 : decode cX6_cell 48 = .ok (.iload_n 2, 1) := by decide +kernel
theorem dX6_cell_49 : decode cX6_cell 49 = .ok (.ifCond .lt 12, 3) := by decide +kernel
theorem dX6_cell_52 : decode cX6_cell 52 = .ok (.iload_n 2, 1) := by decide +kernel
theorem dX6_cell_53 : decode cX6_cell 53 = .ok (.aload 4, 2) := by decide +kernel
theorem dX6_cell_55 : decode cX6_cell 55 = .ok (.getfield 259, 3) := by decide +kernel
theorem dX6_cell_58 : decode cX6_cell 58 = .ok (.if_icmp .lt 8, 3) := by decide +kernel
theorem dX6_cell_61 : decode cX6_cell 61 = .ok (.aload_n 0, 1) := by decide +kernel
theorem dX6_cell_62 : decode cX6_cell 62 = .ok (.iconst 3, 1) := by decide +kernel
theorem dX6_cell_63 : decode cX6_cell 63 = .ok (.putfield 77, 3) := by decide +kernel
theorem dX6_cell_66 : decode cX6_cell 66 = .ok (.aload_n 0, 1) := by decide +kernel
theorem dX6_cell_67 : decode cX6_cell 67 = .ok (.getfield 77, 3) := by decide +kernel
theorem dX6_cell_70 : decode cX6_cell 70 = .ok (.ifCond .ne 14, 3) := by decide +kernel
theorem dX6_cell_73 : decode cX6_cell 73 = .ok (.aload 4, 2) := by decide +kernel
theorem dX6_cell_75 : decode cX6_cell 75 = .ok (.getfield 262, 3) := by decide +kernel
theorem dX6_cell_78 : decode cX6_cell 78 = .ok (.iload_n 2, 1) := by decide +kernel
theorem dX6_cell_79 : decode cX6_cell 79 = .ok (.iaload, 1) := by decide +kernel
theorem dX6_cell_80 : decode cX6_cell 80 = .ok (.i2l, 1) := by decide +kernel
theorem dX6_cell_81 : decode cX6_cell 81 = .ok (.goto 6, 3) := by decide +kernel
theorem dX6_cell_84 : decode cX6_cell 84 = .ok (.ldc2_w 250, 3) := by decide +kernel
theorem dX6_cell_87 : decode cX6_cell 87 = .ok (.lreturn, 1) := by decide +kernel
theorem dX6_copy_0 : decode cX6_copy 0 = .ok (.iload_n 1, 1) := by decide +kernel
theorem dX6_copy_1 : decode cX6_copy 1 = .ok (.invokestatic 56, 3) := by decide +kernel
theorem dX6_copy_4 : decode cX6_copy 4 = .ok (.ifCond .eq 10, 3) := by decide +kernel
theorem dX6_copy_7 : decode cX6_copy 7 = .ok (.iload_n 3, 1) := by decide +kernel
theorem dX6_copy_8 : decode cX6_copy 8 = .ok (.invokestatic 56, 3) := by decide +kernel
theorem dX6_copy_11 : decode cX6_copy 11 = .ok (.ifCond .ne 9, 3) := by decide +kernel
theorem dX6_copy_14 : decode cX6_copy 14 = .ok (.aload_n 0, 1) := by decide +kernel
theorem dX6_copy_15 : decode cX6_copy 15 = .ok (.iconst (-1), 1) := by decide +kernel
theorem dX6_copy_16 : decode cX6_copy 16 = .ok (.invokevirtual 60, 3) := by decide +kernel
theorem dX6_copy_19 : decode cX6_copy 19 = .ok (.ireturn, 1) := by decide +kernel
theorem dX6_copy_20 : decode cX6_copy 20 = .ok (.aload_n 0, 1) := by decide +kernel
theorem dX6_copy_21 : decode cX6_copy 21 = .ok (.getfield 13, 3) := by decide +kernel
theorem dX6_copy_24 : decode cX6_copy 24 = .ok (.iload_n 1, 1) := by decide +kernel
theorem dX6_copy_25 : decode cX6_copy 25 = .ok (.aaload, 1) := by decide +kernel
theorem dX6_copy_26 : decode cX6_copy 26 = .ok (.astore 6, 2) := by decide +kernel
theorem dX6_copy_28 : decode cX6_copy 28 = .ok (.aload_n 0, 1) := by decide +kernel
theorem dX6_copy_29 : decode cX6_copy 29 = .ok (.getfield 13, 3) := by decide +kernel
theorem dX6_copy_32 : decode cX6_copy 32 = .ok (.iload_n 3, 1) := by decide +kernel
theorem dX6_copy_33 : decode cX6_copy 33 = .ok (.aaload, 1) := by decide +kernel
theorem dX6_copy_34 : decode cX6_copy 34 = .ok (.astore 7, 2) := by decide +kernel
theorem dX6_copy_36 : decode cX6_copy 36 = .ok (.aload 6, 2) := by decide +kernel
theorem dX6_copy_38 : decode cX6_copy 38 = .ok (.getfield 256, 3) := by decide +kernel
theorem dX6_copy_41 : decode cX6_copy 41 = .ok (.iconst (-1), 1) := by decide +kernel
theorem dX6_copy_42 : decode cX6_copy 42 = .ok (.if_icmp .eq 12, 3) := by decide +kernel
theorem dX6_copy_45 : decode cX6_copy 45 = .ok (.aload 7, 2) := by decide +kernel
theorem dX6_copy_47 : decode cX6_copy 47 = .ok (.getfield 256, 3) := by decide +kernel
theorem dX6_copy_50 : decode cX6_copy 50 = .ok (.iconst (-1), 1) := by decide +kernel
theorem dX6_copy_51 : decode cX6_copy 51 = .ok (.if_icmp .ne 9, 3) := by decide +kernel
theorem dX6_copy_54 : decode cX6_copy 54 = .ok (.aload_n 0, 1) := by decide +kernel
theorem dX6_copy_55 : decode cX6_copy 55 = .ok (.iconst 1, 1) := by decide +kernel
theorem dX6_copy_56 : decode cX6_copy 56 = .ok (.invokevirtual 74, 3) := by decide +kernel
theorem dX6_copy_59 : decode cX6_copy 59 = .ok (.ireturn, 1) := by decide +kernel
theorem dX6_copy_60 : decode cX6_copy 60 = .ok (.aload 6, 2) := by decide +kernel
theorem dX6_copy_62 : decode cX6_copy 62 = .ok (.getfield 256, 3) := by decide +kernel
theorem dX6_copy_65 : decode cX6_copy 65 = .ok (.aload 7, 2) := by decide +kernel
theorem dX6_copy_67 : decode cX6_copy 67 = .ok (.getfield 256, 3) := by decide +kernel
theorem dX6_copy_70 : decode cX6_copy 70 = .ok (.if_icmp .eq 9, 3) := by decide +kernel
theorem dX6_copy_73 : decode cX6_copy 73 = .ok (.aload_n 0, 1) := by decide +kernel
theorem dX6_copy_74 : decode cX6_copy 74 = .ok (.iconst 2, 1) := by decide +kernel
theorem dX6_copy_75 : decode cX6_copy 75 = .ok (.invokevirtual 74, 3) := by decide +kernel
theorem dX6_copy_78 : decode cX6_copy 78 = .ok (.ireturn, 1) := by decide +kernel
theorem dX6_copy_79 : decode cX6_copy 79 = .ok (.aload 6, 2) := by decide +kernel
theorem dX6_copy_81 : decode cX6_copy 81 = .ok (.iload_n 2, 1) := by decide +kernel
theorem dX6_copy_82 : decode cX6_copy 82 = .ok (.iload 5, 2) := by decide +kernel
theorem dX6_copy_84 : decode cX6_copy 84 = .ok (.invokevirtual 70, 3) := by decide +kernel
theorem dX6_copy_87 : decode cX6_copy 87 = .ok (.ifCond .eq 15, 3) := by decide +kernel
theorem dX6_copy_90 : decode cX6_copy 90 = .ok (.aload 7, 2) := by decide +kernel
theorem dX6_copy_92 : decode cX6_copy 92 = .ok (.iload 4, 2) := by decide +kernel
theorem dX6_copy_94 : decode cX6_copy 94 = .ok (.iload 5, 2) := by decide +kernel
theorem dX6_copy_96 : decode cX6_copy 96 = .ok (.invokevirtual 70, 3) := by decide +kernel
theorem dX6_copy_99 : decode cX6_copy 99 = .ok (.ifCond .ne 9, 3) := by decide +kernel
theorem dX6_copy_102 : decode cX6_copy 102 = .ok (.aload_n 0, 1) := by decide +kernel
theorem dX6_copy_103 : decode cX6_copy 103 = .ok (.iconst 3, 1) := by decide +kernel
theorem dX6_copy_104 : decode cX6_copy 104 = .ok (.invokevirtual 74, 3) := by decide +kernel
theorem dX6_copy_107 : decode cX6_copy 107 = .ok (.ireturn, 1) := by decide +kernel
theorem dX6_copy_108 : decode cX6_copy 108 = .ok (.aload_n 0, 1) := by decide +kernel
theorem dX6_copy_109 : decode cX6_copy 109 = .ok (.iconst 0, 1) := by decide +kernel
theorem dX6_copy_110 : decode cX6_copy 110 = .ok (.putfield 77, 3) := by decide +kernel
theorem dX6_copy_113 : decode cX6_copy 113 = .ok (.aload 6, 2) := by decide +kernel
theorem dX6_copy_115 : decode cX6_copy 115 = .ok (.getfield 262, 3) := by decide +kernel
theorem dX6_copy_118 : decode cX6_copy 118 = .ok (.iload_n 2, 1) := by decide +kernel
theorem dX6_copy_119 : decode cX6_copy 119 = .ok (.aload 7, 2) := by decide +kernel
theorem dX6_copy_121 : decode cX6_copy 121 = .ok (.getfield 262, 3) := by decide +kernel
theorem dX6_copy_124 : decode cX6_copy 124 = .ok (.iload 4, 2) := by decide +kernel
theorem dX6_copy_126 : decode cX6_copy 126 = .ok (.iload 5, 2) := by decide +kernel
theorem dX6_copy_128 : decode cX6_copy 128 = .ok (.invokestatic 268, 3) := by decide +kernel
theorem dX6_copy_131 : decode cX6_copy 131 = .ok (.iload 5, 2) := by decide +kernel
theorem dX6_copy_133 : decode cX6_copy 133 = .ok (.ireturn, 1) := by decide +kernel
theorem dX6_tell_0 : decode cX6_tell 0 = .ok (.aload_n 0, 1) := by decide +kernel
theorem dX6_tell_1 : decode cX6_tell 1 = .ok (.iload_n 1, 1) := by decide +kernel
theorem dX6_tell_2 : decode cX6_tell 2 = .ok (.invokevirtual 102, 3) := by decide +kernel
theorem dX6_tell_5 : decode cX6_tell 5 = .ok (.ifCond .ne 5, 3) := by decide +kernel
theorem dX6_tell_8 : decode cX6_tell 8 = .ok (.iconst (-1), 1) := by decide +kernel
theorem dX6_tell_9 : decode cX6_tell 9 = .ok (.ireturn, 1) := by decide +kernel
theorem dX6_tell_10 : decode cX6_tell 10 = .ok (.aload_n 0, 1) := by decide +kernel
theorem dX6_tell_11 : decode cX6_tell 11 = .ok (.getfield 20, 3) := by decide +kernel
theorem dX6_tell_14 : decode cX6_tell 14 = .ok (.getfield 105, 3) := by decide +kernel
theorem dX6_tell_17 : decode cX6_tell 17 = .ok (.iload_n 1, 1) := by decide +kernel
theorem dX6_tell_18 : decode cX6_tell 18 = .ok (.iaload, 1) := by decide +kernel
theorem dX6_tell_19 : decode cX6_tell 19 = .ok (.lookupswitch 37 #[(1, 31), (2, 25)], 25) := by decide +kernel
theorem dX6_tell_44 : decode cX6_tell 44 = .ok (.aload_n 0, 1) := by decide +kernel
theorem dX6_tell_45 : decode cX6_tell 45 = .ok (.iload_n 1, 1) := by decide +kernel
theorem dX6_tell_46 : decode cX6_tell 46 = .ok (.invokevirtual 274, 3) := by decide +kernel
theorem dX6_tell_49 : decode cX6_tell 49 = .ok (.ireturn, 1) := by decide +kernel
theorem dX6_tell_50 : decode cX6_tell 50 = .ok (.aload_n 0, 1) := by decide +kernel
theorem dX6_tell_51 : decode cX6_tell 51 = .ok (.iload_n 1, 1) := by decide +kernel
theorem dX6_tell_52 : decode cX6_tell 52 = .ok (.invokevirtual 277, 3) := by decide +kernel
theorem dX6_tell_55 : decode cX6_tell 55 = .ok (.ireturn, 1) := by decide +kernel
theorem dX6_tell_56 : decode cX6_tell 56 = .ok (.aload_n 0, 1) := by decide +kernel
theorem dX6_tell_57 : decode cX6_tell 57 = .ok (.iload_n 1, 1) := by decide +kernel
theorem dX6_tell_58 : decode cX6_tell 58 = .ok (.invokevirtual 280, 3) := by decide +kernel
theorem dX6_tell_61 : decode cX6_tell 61 = .ok (.ireturn, 1) := by decide +kernel
theorem dX6_probe_0 : decode cX6_probe 0 = .ok (.aload_n 0, 1) := by decide +kernel
theorem dX6_probe_1 : decode cX6_probe 1 = .ok (.iload_n 1, 1) := by decide +kernel
theorem dX6_probe_2 : decode cX6_probe 2 = .ok (.invokevirtual 102, 3) := by decide +kernel
theorem dX6_probe_5 : decode cX6_probe 5 = .ok (.ifCond .ne 5, 3) := by decide +kernel
theorem dX6_probe_8 : decode cX6_probe 8 = .ok (.iconst (-1), 1) := by decide +kernel
theorem dX6_probe_9 : decode cX6_probe 9 = .ok (.ireturn, 1) := by decide +kernel
theorem dX6_probe_10 : decode cX6_probe 10 = .ok (.aload_n 0, 1) := by decide +kernel
theorem dX6_probe_11 : decode cX6_probe 11 = .ok (.getfield 20, 3) := by decide +kernel
theorem dX6_probe_14 : decode cX6_probe 14 = .ok (.getfield 105, 3) := by decide +kernel
theorem dX6_probe_17 : decode cX6_probe 17 = .ok (.iload_n 1, 1) := by decide +kernel
theorem dX6_probe_18 : decode cX6_probe 18 = .ok (.iaload, 1) := by decide +kernel
theorem dX6_probe_19 : decode cX6_probe 19 = .ok (.iconst 2, 1) := by decide +kernel
theorem dX6_probe_20 : decode cX6_probe 20 = .ok (.if_icmp .ne 11, 3) := by decide +kernel
theorem dX6_probe_23 : decode cX6_probe 23 = .ok (.aload_n 0, 1) := by decide +kernel
theorem dX6_probe_24 : decode cX6_probe 24 = .ok (.iconst 5, 1) := by decide +kernel
theorem dX6_probe_25 : decode cX6_probe 25 = .ok (.invokevirtual 283, 3) := by decide +kernel
theorem dX6_probe_28 : decode cX6_probe 28 = .ok (.bipush 20, 2) := by decide +kernel
theorem dX6_probe_30 : decode cX6_probe 30 = .ok (.ireturn, 1) := by decide +kernel
theorem dX6_probe_31 : decode cX6_probe 31 = .ok (.aload_n 0, 1) := by decide +kernel
theorem dX6_probe_32 : decode cX6_probe 32 = .ok (.iconst 4, 1) := by decide +kernel
theorem dX6_probe_33 : decode cX6_probe 33 = .ok (.invokevirtual 283, 3) := by decide +kernel
theorem dX6_probe_36 : decode cX6_probe 36 = .ok (.aload_n 0, 1) := by decide +kernel
theorem dX6_probe_37 : decode cX6_probe 37 = .ok (.getfield 20, 3) := by decide +kernel
theorem dX6_probe_40 : decode cX6_probe 40 = .ok (.iload_n 1, 1) := by decide +kernel
theorem dX6_probe_41 : decode cX6_probe 41 = .ok (.invokevirtual 121, 3) := by decide +kernel
theorem dX6_probe_44 : decode cX6_probe 44 = .ok (.invokestatic 220, 3) := by decide +kernel
theorem dX6_probe_47 : decode cX6_probe 47 = .ok (.ireturn, 1) := by decide +kernel
theorem dX6_as_0 : decode cX6_as 0 = .ok (.aload_n 0, 1) := by decide +kernel
theorem dX6_as_1 : decode cX6_as 1 = .ok (.iload_n 1, 1) := by decide +kernel
theorem dX6_as_2 : decode cX6_as 2 = .ok (.invokevirtual 102, 3) := by decide +kernel
theorem dX6_as_5 : decode cX6_as 5 = .ok (.ifCond .ne 9, 3) := by decide +kernel
theorem dX6_as_8 : decode cX6_as 8 = .ok (.aload_n 0, 1) := by decide +kernel
theorem dX6_as_9 : decode cX6_as 9 = .ok (.iconst (-1), 1) := by decide +kernel
theorem dX6_as_10 : decode cX6_as 10 = .ok (.invokevirtual 60, 3) := by decide +kernel
theorem dX6_as_13 : decode cX6_as 13 = .ok (.ireturn, 1) := by decide +kernel
theorem dX6_as_14 : decode cX6_as 14 = .ok (.iload_n 2, 1) := by decide +kernel
theorem dX6_as_15 : decode cX6_as 15 = .ok (.invokestatic 225, 3) := by decide +kernel
theorem dX6_as_18 : decode cX6_as 18 = .ok (.ifCond .ne 10, 3) := by decide +kernel
theorem dX6_as_21 : decode cX6_as 21 = .ok (.aload_n 0, 1) := by decide +kernel
theorem dX6_as_22 : decode cX6_as 22 = .ok (.bipush (-2), 2) := by decide +kernel
theorem dX6_as_24 : decode cX6_as 24 = .ok (.invokevirtual 60, 3) := by decide +kernel
theorem dX6_as_27 : decode cX6_as 27 = .ok (.ireturn, 1) := by decide +kernel
theorem dX6_as_28 : decode cX6_as 28 = .ok (.aload_n 0, 1) := by decide +kernel
theorem dX6_as_29 : decode cX6_as 29 = .ok (.iload_n 1, 1) := by decide +kernel
theorem dX6_as_30 : decode cX6_as 30 = .ok (.iload_n 2, 1) := by decide +kernel
theorem dX6_as_31 : decode cX6_as 31 = .ok (.invokevirtual 237, 3) := by decide +kernel
theorem dX6_as_34 : decode cX6_as 34 = .ok (.ifCond .ne 9, 3) := by decide +kernel
theorem dX6_as_37 : decode cX6_as 37 = .ok (.aload_n 0, 1) := by decide +kernel
theorem dX6_as_38 : decode cX6_as 38 = .ok (.iconst 2, 1) := by decide +kernel
theorem dX6_as_39 : decode cX6_as 39 = .ok (.invokevirtual 74, 3) := by decide +kernel
theorem dX6_as_42 : decode cX6_as 42 = .ok (.ireturn, 1) := by decide +kernel
theorem dX6_as_43 : decode cX6_as 43 = .ok (.aload_n 0, 1) := by decide +kernel
theorem dX6_as_44 : decode cX6_as 44 = .ok (.iconst 0, 1) := by decide +kernel
theorem dX6_as_45 : decode cX6_as 45 = .ok (.putfield 77, 3) := by decide +kernel
theorem dX6_as_48 : decode cX6_as 48 = .ok (.iconst 1, 1) := by decide +kernel
theorem dX6_as_49 : decode cX6_as 49 = .ok (.ireturn, 1) := by decide +kernel
theorem dX6_trace_0 : decode cX6_trace 0 = .ok (.aload_n 0, 1) := by decide +kernel
theorem dX6_trace_1 : decode cX6_trace 1 = .ok (.getfield 286, 3) := by decide +kernel
theorem dX6_trace_4 : decode cX6_trace 4 = .ok (.ireturn, 1) := by decide +kernel
theorem dX6_fault_0 : decode cX6_fault 0 = .ok (.aload_n 0, 1) := by decide +kernel
theorem dX6_fault_1 : decode cX6_fault 1 = .ok (.getfield 77, 3) := by decide +kernel
theorem dX6_fault_4 : decode cX6_fault 4 = .ok (.ireturn, 1) := by decide +kernel
theorem dX6_many_0 : decode cX6_many 0 = .ok (.iload_n 1, 1) := by decide +kernel
theorem dX6_many_1 : decode cX6_many 1 = .ok (.tableswitch 89 0 4 #[35, 43, 51, 59, 81], 35) := by decide +kernel
theorem dX6_many_36 : decode cX6_many 36 = .ok (.aload_n 0, 1) := by decide +kernel
theorem dX6_many_37 : decode cX6_many 37 = .ok (.getfield 20, 3) := by decide +kernel
theorem dX6_many_40 : decode cX6_many 40 = .ok (.getfield 99, 3) := by decide +kernel
theorem dX6_many_43 : decode cX6_many 43 = .ok (.ireturn, 1) := by decide +kernel
theorem dX6_many_44 : decode cX6_many 44 = .ok (.aload_n 0, 1) := by decide +kernel
theorem dX6_many_45 : decode cX6_many 45 = .ok (.getfield 20, 3) := by decide +kernel
theorem dX6_many_48 : decode cX6_many 48 = .ok (.getfield 130, 3) := by decide +kernel
theorem dX6_many_51 : decode cX6_many 51 = .ok (.ireturn, 1) := by decide +kernel
theorem dX6_many_52 : decode cX6_many 52 = .ok (.aload_n 0, 1) := by decide +kernel
theorem dX6_many_53 : decode cX6_many 53 = .ok (.getfield 20, 3) := by decide +kernel
theorem dX6_many_56 : decode cX6_many 56 = .ok (.invokevirtual 172, 3) := by decide +kernel
theorem dX6_many_59 : decode cX6_many 59 = .ok (.ireturn, 1) := by decide +kernel
theorem dX6_many_60 : decode cX6_many 60 = .ok (.aload_n 0, 1) := by decide +kernel
theorem dX6_many_61 : decode cX6_many 61 = .ok (.getfield 44, 3) := by decide +kernel
theorem dX6_many_64 : decode cX6_many 64 = .ok (.getfield 92, 3) := by decide +kernel
theorem dX6_many_67 : decode cX6_many 67 = .ok (.ifCond .eq 13, 3) := by decide +kernel
theorem dX6_many_70 : decode cX6_many 70 = .ok (.aload_n 0, 1) := by decide +kernel
theorem dX6_many_71 : decode cX6_many 71 = .ok (.getfield 44, 3) := by decide +kernel
theorem dX6_many_74 : decode cX6_many 74 = .ok (.getfield 289, 3) := by decide +kernel
theorem dX6_many_77 : decode cX6_many 77 = .ok (.goto 4, 3) := by decide +kernel
theorem dX6_many_80 : decode cX6_many 80 = .ok (.iconst 0, 1) := by decide +kernel
theorem dX6_many_81 : decode cX6_many 81 = .ok (.ireturn, 1) := by decide +kernel
theorem dX6_many_82 : decode cX6_many 82 = .ok (.aload_n 0, 1) := by decide +kernel
theorem dX6_many_83 : decode cX6_many 83 = .ok (.getfield 51, 3) := by decide +kernel
theorem dX6_many_86 : decode cX6_many 86 = .ok (.getfield 96, 3) := by decide +kernel
theorem dX6_many_89 : decode cX6_many 89 = .ok (.ireturn, 1) := by decide +kernel
theorem dX6_many_90 : decode cX6_many 90 = .ok (.bipush (-2), 2) := by decide +kernel
theorem dX6_many_92 : decode cX6_many 92 = .ok (.ireturn, 1) := by decide +kernel
theorem dX6_refused_0 : decode cX6_refused 0 = .ok (.aload_n 0, 1) := by decide +kernel
theorem dX6_refused_1 : decode cX6_refused 1 = .ok (.iconst 0, 1) := by decide +kernel
theorem dX6_refused_2 : decode cX6_refused 2 = .ok (.putfield 77, 3) := by decide +kernel
theorem dX6_refused_5 : decode cX6_refused 5 = .ok (.iload_n 1, 1) := by decide +kernel
theorem dX6_refused_6 : decode cX6_refused 6 = .ok (.ireturn, 1) := by decide +kernel
theorem dX6_failed_0 : decode cX6_failed 0 = .ok (.aload_n 0, 1) := by decide +kernel
theorem dX6_failed_1 : decode cX6_failed 1 = .ok (.iload_n 1, 1) := by decide +kernel
theorem dX6_failed_2 : decode cX6_failed 2 = .ok (.putfield 77, 3) := by decide +kernel
theorem dX6_failed_5 : decode cX6_failed 5 = .ok (.bipush (-10), 2) := by decide +kernel
theorem dX6_failed_7 : decode cX6_failed 7 = .ok (.iload_n 1, 1) := by decide +kernel
theorem dX6_failed_8 : decode cX6_failed 8 = .ok (.isub, 1) := by decide +kernel
theorem dX6_failed_9 : decode cX6_failed 9 = .ok (.ireturn, 1) := by decide +kernel
theorem dX6_noCircuit_0 : decode cX6_noCircuit 0 = .ok (.aload_n 0, 1) := by decide +kernel
theorem dX6_noCircuit_1 : decode cX6_noCircuit 1 = .ok (.getfield 20, 3) := by decide +kernel
theorem dX6_noCircuit_4 : decode cX6_noCircuit 4 = .ok (.getfield 99, 3) := by decide +kernel
theorem dX6_noCircuit_7 : decode cX6_noCircuit 7 = .ok (.ifCond .ne 7, 3) := by decide +kernel
theorem dX6_noCircuit_10 : decode cX6_noCircuit 10 = .ok (.iconst 1, 1) := by decide +kernel
theorem dX6_noCircuit_11 : decode cX6_noCircuit 11 = .ok (.goto 4, 3) := by decide +kernel
theorem dX6_noCircuit_14 : decode cX6_noCircuit 14 = .ok (.iconst 0, 1) := by decide +kernel
theorem dX6_noCircuit_15 : decode cX6_noCircuit 15 = .ok (.ireturn, 1) := by decide +kernel
theorem dX6_isCell_0 : decode cX6_isCell 0 = .ok (.iload_n 1, 1) := by decide +kernel
theorem dX6_isCell_1 : decode cX6_isCell 1 = .ok (.ifCond .lt 18, 3) := by decide +kernel
theorem dX6_isCell_4 : decode cX6_isCell 4 = .ok (.iload_n 1, 1) := by decide +kernel
theorem dX6_isCell_5 : decode cX6_isCell 5 = .ok (.aload_n 0, 1) := by decide +kernel
theorem dX6_isCell_6 : decode cX6_isCell 6 = .ok (.getfield 20, 3) := by decide +kernel
theorem dX6_isCell_9 : decode cX6_isCell 9 = .ok (.getfield 99, 3) := by decide +kernel
theorem dX6_isCell_12 : decode cX6_isCell 12 = .ok (.if_icmp .ge 7, 3) := by decide +kernel
theorem dX6_isCell_15 : decode cX6_isCell 15 = .ok (.iconst 1, 1) := by decide +kernel
theorem dX6_isCell_16 : decode cX6_isCell 16 = .ok (.goto 4, 3) := by decide +kernel
theorem dX6_isCell_19 : decode cX6_isCell 19 = .ok (.iconst 0, 1) := by decide +kernel
theorem dX6_isCell_20 : decode cX6_isCell 20 = .ok (.ireturn, 1) := by decide +kernel
theorem dX6_isOfKind_0 : decode cX6_isOfKind 0 = .ok (.aload_n 0, 1) := by decide +kernel
theorem dX6_isOfKind_1 : decode cX6_isOfKind 1 = .ok (.getfield 20, 3) := by decide +kernel
theorem dX6_isOfKind_4 : decode cX6_isOfKind 4 = .ok (.getfield 105, 3) := by decide +kernel
theorem dX6_isOfKind_7 : decode cX6_isOfKind 7 = .ok (.iload_n 1, 1) := by decide +kernel
theorem dX6_isOfKind_8 : decode cX6_isOfKind 8 = .ok (.iaload, 1) := by decide +kernel
theorem dX6_isOfKind_9 : decode cX6_isOfKind 9 = .ok (.iload_n 2, 1) := by decide +kernel
theorem dX6_isOfKind_10 : decode cX6_isOfKind 10 = .ok (.if_icmp .lt 7, 3) := by decide +kernel
theorem dX6_isOfKind_13 : decode cX6_isOfKind 13 = .ok (.iconst 1, 1) := by decide +kernel
theorem dX6_isOfKind_14 : decode cX6_isOfKind 14 = .ok (.goto 4, 3) := by decide +kernel
theorem dX6_isOfKind_17 : decode cX6_isOfKind 17 = .ok (.iconst 0, 1) := by decide +kernel
theorem dX6_isOfKind_18 : decode cX6_isOfKind 18 = .ok (.ireturn, 1) := by decide +kernel
theorem dX6_isSheet_0 : decode cX6_isSheet 0 = .ok (.iload_n 0, 1) := by decide +kernel
theorem dX6_isSheet_1 : decode cX6_isSheet 1 = .ok (.ifCond .lt 12, 3) := by decide +kernel
theorem dX6_isSheet_4 : decode cX6_isSheet 4 = .ok (.iload_n 0, 1) := by decide +kernel
theorem dX6_isSheet_5 : decode cX6_isSheet 5 = .ok (.iconst 4, 1) := by decide +kernel
theorem dX6_isSheet_6 : decode cX6_isSheet 6 = .ok (.if_icmp .ge 7, 3) := by decide +kernel
theorem dX6_isSheet_9 : decode cX6_isSheet 9 = .ok (.iconst 1, 1) := by decide +kernel
theorem dX6_isSheet_10 : decode cX6_isSheet 10 = .ok (.goto 4, 3) := by decide +kernel
theorem dX6_isSheet_13 : decode cX6_isSheet 13 = .ok (.iconst 0, 1) := by decide +kernel
theorem dX6_isSheet_14 : decode cX6_isSheet 14 = .ok (.ireturn, 1) := by decide +kernel
theorem dX6_isLane_0 : decode cX6_isLane 0 = .ok (.iload_n 0, 1) := by decide +kernel
theorem dX6_isLane_1 : decode cX6_isLane 1 = .ok (.ifCond .lt 12, 3) := by decide +kernel
theorem dX6_isLane_4 : decode cX6_isLane 4 = .ok (.iload_n 0, 1) := by decide +kernel
theorem dX6_isLane_5 : decode cX6_isLane 5 = .ok (.iconst 2, 1) := by decide +kernel
theorem dX6_isLane_6 : decode cX6_isLane 6 = .ok (.if_icmp .gt 7, 3) := by decide +kernel
theorem dX6_isLane_9 : decode cX6_isLane 9 = .ok (.iconst 1, 1) := by decide +kernel
theorem dX6_isLane_10 : decode cX6_isLane 10 = .ok (.goto 4, 3) := by decide +kernel
theorem dX6_isLane_13 : decode cX6_isLane 13 = .ok (.iconst 0, 1) := by decide +kernel
theorem dX6_isLane_14 : decode cX6_isLane 14 = .ok (.ireturn, 1) := by decide +kernel
theorem dX6_isKind_0 : decode cX6_isKind 0 = .ok (.iload_n 0, 1) := by decide +kernel
theorem dX6_isKind_1 : decode cX6_isKind 1 = .ok (.ifCond .lt 12, 3) := by decide +kernel
theorem dX6_isKind_4 : decode cX6_isKind 4 = .ok (.iload_n 0, 1) := by decide +kernel
theorem dX6_isKind_5 : decode cX6_isKind 5 = .ok (.iconst 2, 1) := by decide +kernel
theorem dX6_isKind_6 : decode cX6_isKind 6 = .ok (.if_icmp .gt 7, 3) := by decide +kernel
theorem dX6_isKind_9 : decode cX6_isKind 9 = .ok (.iconst 1, 1) := by decide +kernel
theorem dX6_isKind_10 : decode cX6_isKind 10 = .ok (.goto 4, 3) := by decide +kernel
theorem dX6_isKind_13 : decode cX6_isKind 13 = .ok (.iconst 0, 1) := by decide +kernel
theorem dX6_isKind_14 : decode cX6_isKind 14 = .ok (.ireturn, 1) := by decide +kernel
theorem dX6_isBulk_0 : decode cX6_isBulk 0 = .ok (.iload_n 0, 1) := by decide +kernel
theorem dX6_isBulk_1 : decode cX6_isBulk 1 = .ok (.iconst 1, 1) := by decide +kernel
theorem dX6_isBulk_2 : decode cX6_isBulk 2 = .ok (.if_icmp .lt 13, 3) := by decide +kernel
theorem dX6_isBulk_5 : decode cX6_isBulk 5 = .ok (.iload_n 0, 1) := by decide +kernel
theorem dX6_isBulk_6 : decode cX6_isBulk 6 = .ok (.bipush 9, 2) := by decide +kernel
theorem dX6_isBulk_8 : decode cX6_isBulk 8 = .ok (.if_icmp .gt 7, 3) := by decide +kernel
theorem dX6_isBulk_11 : decode cX6_isBulk 11 = .ok (.iconst 1, 1) := by decide +kernel
theorem dX6_isBulk_12 : decode cX6_isBulk 12 = .ok (.goto 4, 3) := by decide +kernel
theorem dX6_isBulk_15 : decode cX6_isBulk 15 = .ok (.iconst 0, 1) := by decide +kernel
theorem dX6_isBulk_16 : decode cX6_isBulk 16 = .ok (.ireturn, 1) := by decide +kernel
theorem dX6_isManner_0 : decode cX6_isManner 0 = .ok (.iload_n 0, 1) := by decide +kernel
theorem dX6_isManner_1 : decode cX6_isManner 1 = .ok (.ifCond .lt 12, 3) := by decide +kernel
theorem dX6_isManner_4 : decode cX6_isManner 4 = .ok (.iload_n 0, 1) := by decide +kernel
theorem dX6_isManner_5 : decode cX6_isManner 5 = .ok (.iconst 2, 1) := by decide +kernel
theorem dX6_isManner_6 : decode cX6_isManner 6 = .ok (.if_icmp .gt 7, 3) := by decide +kernel
theorem dX6_isManner_9 : decode cX6_isManner 9 = .ok (.iconst 1, 1) := by decide +kernel
theorem dX6_isManner_10 : decode cX6_isManner 10 = .ok (.goto 4, 3) := by decide +kernel
theorem dX6_isManner_13 : decode cX6_isManner 13 = .ok (.iconst 0, 1) := by decide +kernel
theorem dX6_isManner_14 : decode cX6_isManner 14 = .ok (.ireturn, 1) := by decide +kernel
theorem dX6_isAsked_0 : decode cX6_isAsked 0 = .ok (.iload_n 0, 1) := by decide +kernel
theorem dX6_isAsked_1 : decode cX6_isAsked 1 = .ok (.ifCond .lt 8, 3) := by decide +kernel
theorem dX6_isAsked_4 : decode cX6_isAsked 4 = .ok (.iload_n 0, 1) := by decide +kernel
theorem dX6_isAsked_5 : decode cX6_isAsked 5 = .ok (.iload_n 1, 1) := by decide +kernel
theorem dX6_isAsked_6 : decode cX6_isAsked 6 = .ok (.if_icmp .le 15, 3) := by decide +kernel
theorem dX6_isAsked_9 : decode cX6_isAsked 9 = .ok (.iload_n 0, 1) := by decide +kernel
theorem dX6_isAsked_10 : decode cX6_isAsked 10 = .ok (.bipush 10, 2) := by decide +kernel
theorem dX6_isAsked_12 : decode cX6_isAsked 12 = .ok (.if_icmp .lt 13, 3) := by decide +kernel
theorem dX6_isAsked_15 : decode cX6_isAsked 15 = .ok (.iload_n 0, 1) := by decide +kernel
theorem dX6_isAsked_16 : decode cX6_isAsked 16 = .ok (.bipush 17, 2) := by decide +kernel
theorem dX6_isAsked_18 : decode cX6_isAsked 18 = .ok (.if_icmp .ge 7, 3) := by decide +kernel
theorem dX6_isAsked_21 : decode cX6_isAsked 21 = .ok (.iconst 1, 1) := by decide +kernel
theorem dX6_isAsked_22 : decode cX6_isAsked 22 = .ok (.goto 4, 3) := by decide +kernel
theorem dX6_isAsked_25 : decode cX6_isAsked 25 = .ok (.iconst 0, 1) := by decide +kernel
theorem dX6_isAsked_26 : decode cX6_isAsked 26 = .ok (.ireturn, 1) := by decide +kernel
theorem dX6_cutToLane_0 : decode cX6_cutToLane 0 = .ok (.iload_n 1, 1) := by decide +kernel
theorem dX6_cutToLane_1 : decode cX6_cutToLane 1 = .ok (.lookupswitch 33 #[(0, 27), (1, 30)], 27) := by decide +kernel
theorem dX6_cutToLane_28 : decode cX6_cutToLane 28 = .ok (.iload_n 0, 1) := by decide +kernel
theorem dX6_cutToLane_29 : decode cX6_cutToLane 29 = .ok (.i2b, 1) := by decide +kernel
theorem dX6_cutToLane_30 : decode cX6_cutToLane 30 = .ok (.ireturn, 1) := by decide +kernel
theorem dX6_cutToLane_31 : decode cX6_cutToLane 31 = .ok (.iload_n 0, 1) := by decide +kernel
theorem dX6_cutToLane_32 : decode cX6_cutToLane 32 = .ok (.i2s, 1) := by decide +kernel
theorem dX6_cutToLane_33 : decode cX6_cutToLane 33 = .ok (.ireturn, 1) := by decide +kernel
theorem dX6_cutToLane_34 : decode cX6_cutToLane 34 = .ok (.iload_n 0, 1) := by decide +kernel
theorem dX6_cutToLane_35 : decode cX6_cutToLane 35 = .ok (.ireturn, 1) := by decide +kernel
theorem dX6_isCutBy_0 : decode cX6_isCutBy 0 = .ok (.iload_n 0, 1) := by decide +kernel
theorem dX6_isCutBy_1 : decode cX6_isCutBy 1 = .ok (.iload_n 1, 1) := by decide +kernel
theorem dX6_isCutBy_2 : decode cX6_isCutBy 2 = .ok (.iand, 1) := by decide +kernel
theorem dX6_isCutBy_3 : decode cX6_isCutBy 3 = .ok (.istore_n 2, 1) := by decide +kernel
theorem dX6_isCutBy_4 : decode cX6_isCutBy 4 = .ok (.iload_n 2, 1) := by decide +kernel
theorem dX6_isCutBy_5 : decode cX6_isCutBy 5 = .ok (.ifCond .eq 12, 3) := by decide +kernel
theorem dX6_isCutBy_8 : decode cX6_isCutBy 8 = .ok (.iload_n 2, 1) := by decide +kernel
theorem dX6_isCutBy_9 : decode cX6_isCutBy 9 = .ok (.iload_n 0, 1) := by decide +kernel
theorem dX6_isCutBy_10 : decode cX6_isCutBy 10 = .ok (.if_icmp .eq 7, 3) := by decide +kernel
theorem dX6_isCutBy_13 : decode cX6_isCutBy 13 = .ok (.iconst 1, 1) := by decide +kernel
theorem dX6_isCutBy_14 : decode cX6_isCutBy 14 = .ok (.goto 4, 3) := by decide +kernel
theorem dX6_isCutBy_17 : decode cX6_isCutBy 17 = .ok (.iconst 0, 1) := by decide +kernel
theorem dX6_isCutBy_18 : decode cX6_isCutBy 18 = .ok (.ireturn, 1) := by decide +kernel
theorem dX6_floatBits_0 : decode cX6_floatBits 0 = .ok (.iload_n 0, 1) := by decide +kernel
theorem dX6_floatBits_1 : decode cX6_floatBits 1 = .ok (.ifCond .le 7, 3) := by decide +kernel
theorem dX6_floatBits_4 : decode cX6_floatBits 4 = .ok (.iload_n 1, 1) := by decide +kernel
theorem dX6_floatBits_5 : decode cX6_floatBits 5 = .ok (.ifCond .gt 5, 3) := by decide +kernel
theorem dX6_floatBits_8 : decode cX6_floatBits 8 = .ok (.iconst 0, 1) := by decide +kernel
theorem dX6_floatBits_9 : decode cX6_floatBits 9 = .ok (.ireturn, 1) := by decide +kernel
theorem dX6_floatBits_10 : decode cX6_floatBits 10 = .ok (.iload_n 0, 1) := by decide +kernel
theorem dX6_floatBits_11 : decode cX6_floatBits 11 = .ok (.i2l, 1) := by decide +kernel
theorem dX6_floatBits_12 : decode cX6_floatBits 12 = .ok (.lstore_n 2, 1) := by decide +kernel
theorem dX6_floatBits_13 : decode cX6_floatBits 13 = .ok (.bipush 127, 2) := by decide +kernel
theorem dX6_floatBits_15 : decode cX6_floatBits 15 = .ok (.istore 4, 2) := by decide +kernel
theorem dX6_floatBits_17 : decode cX6_floatBits 17 = .ok (.iconst 0, 1) := by decide +kernel
theorem dX6_floatBits_18 : decode cX6_floatBits 18 = .ok (.istore 5, 2) := by decide +kernel
theorem dX6_floatBits_20 : decode cX6_floatBits 20 = .ok (.iload 5, 2) := by decide +kernel
theorem dX6_floatBits_22 : decode cX6_floatBits 22 = .ok (.bipush 31, 2) := by decide +kernel
theorem dX6_floatBits_24 : decode cX6_floatBits 24 = .ok (.if_icmp .ge 25, 3) := by decide +kernel
theorem dX6_floatBits_27 : decode cX6_floatBits 27 = .ok (.lload_n 2, 1) := by decide +kernel
theorem dX6_floatBits_28 : decode cX6_floatBits 28 = .ok (.iload_n 1, 1) := by decide +kernel
theorem dX6_floatBits_29 : decode cX6_floatBits 29 = .ok (.i2l, 1) := by decide +kernel
theorem dX6_floatBits_30 : decode cX6_floatBits 30 = .ok (.lcmp, 1) := by decide +kernel
theorem dX6_floatBits_31 : decode cX6_floatBits 31 = .ok (.ifCond .ge 18, 3) := by decide +kernel
theorem dX6_floatBits_34 : decode cX6_floatBits 34 = .ok (.lload_n 2, 1) := by decide +kernel
theorem dX6_floatBits_35 : decode cX6_floatBits 35 = .ok (.ldc2_w 292, 3) := by decide +kernel
theorem dX6_floatBits_38 : decode cX6_floatBits 38 = .ok (.lmul, 1) := by decide +kernel
theorem dX6_floatBits_39 : decode cX6_floatBits 39 = .ok (.lstore_n 2, 1) := by decide +kernel
theorem dX6_floatBits_40 : decode cX6_floatBits 40 = .ok (.iinc 4 (-1), 3) := by decide +kernel
theorem dX6_floatBits_43 : decode cX6_floatBits 43 = .ok (.iinc 5 1, 3) := by decide +kernel
theorem dX6_floatBits_46 : decode cX6_floatBits 46 = .ok (.goto (-26), 3) := by decide +kernel
theorem dX6_floatBits_49 : decode cX6_floatBits 49 = .ok (.lload_n 2, 1) := by decide +kernel
theorem dX6_floatBits_50 : decode cX6_floatBits 50 = .ok (.bipush 23, 2) := by decide +kernel
theorem dX6_floatBits_52 : decode cX6_floatBits 52 = .ok (.lshl, 1) := by decide +kernel
theorem dX6_floatBits_53 : decode cX6_floatBits 53 = .ok (.lstore_n 2, 1) := by decide +kernel
theorem dX6_floatBits_54 : decode cX6_floatBits 54 = .ok (.lload_n 2, 1) := by decide +kernel
theorem dX6_floatBits_55 : decode cX6_floatBits 55 = .ok (.iload_n 1, 1) := by decide +kernel
theorem dX6_floatBits_56 : decode cX6_floatBits 56 = .ok (.i2l, 1) := by decide +kernel
theorem dX6_floatBits_57 : decode cX6_floatBits 57 = .ok (.ldiv, 1) := by decide +kernel
theorem dX6_floatBits_58 : decode cX6_floatBits 58 = .ok (.lstore 5, 2) := by decide +kernel
theorem dX6_floatBits_60 : decode cX6_floatBits 60 = .ok (.ldc2_w 292, 3) := by decide +kernel
theorem dX6_floatBits_63 : decode cX6_floatBits 63 = .ok (.lload_n 2, 1) := by decide +kernel
theorem dX6_floatBits_64 : decode cX6_floatBits 64 = .ok (.iload_n 1, 1) := by decide +kernel
theorem dX6_floatBits_65 : decode cX6_floatBits 65 = .ok (.i2l, 1) := by decide +kernel
theorem dX6_floatBits_66 : decode cX6_floatBits 66 = .ok (.lrem, 1) := by decide +kernel
theorem dX6_floatBits_67 : decode cX6_floatBits 67 = .ok (.lmul, 1) := by decide +kernel
theorem dX6_floatBits_68 : decode cX6_floatBits 68 = .ok (.lstore 7, 2) := by decide +kernel
theorem dX6_floatBits_70 : decode cX6_floatBits 70 = .ok (.lload 7, 2) := by decide +kernel
theorem dX6_floatBits_72 : decode cX6_floatBits 72 = .ok (.iload_n 1, 1) := by decide +kernel
theorem dX6_floatBits_73 : decode cX6_floatBits 73 = .ok (.i2l, 1) := by decide +kernel
theorem dX6_floatBits_74 : decode cX6_floatBits 74 = .ok (.lcmp, 1) := by decide +kernel
theorem dX6_floatBits_75 : decode cX6_floatBits 75 = .ok (.ifCond .gt 22, 3) := by decide +kernel
theorem dX6_floatBits_78 : decode cX6_floatBits 78 = .ok (.lload 7, 2) := by decide +kernel
theorem dX6_floatBits_80 : decode cX6_floatBits 80 = .ok (.iload_n 1, 1) := by decide +kernel
theorem dX6_floatBits_81 : decode cX6_floatBits 81 = .ok (.i2l, 1) := by decide +kernel
theorem dX6_floatBits_82 : decode cX6_floatBits 82 = .ok (.lcmp, 1) := by decide +kernel
theorem dX6_floatBits_83 : decode cX6_floatBits 83 = .ok (.ifCond .ne 20, 3) := by decide +kernel
theorem dX6_floatBits_86 : decode cX6_floatBits 86 = .ok (.lload 5, 2) := by decide +kernel
theorem dX6_floatBits_88 : decode cX6_floatBits 88 = .ok (.ldc2_w 292, 3) := by decide +kernel
theorem dX6_floatBits_91 : decode cX6_floatBits 91 = .ok (.lrem, 1) := by decide +kernel
theorem dX6_floatBits_92 : decode cX6_floatBits 92 = .ok (.lconst 1, 1) := by decide +kernel
theorem dX6_floatBits_93 : decode cX6_floatBits 93 = .ok (.lcmp, 1) := by decide +kernel
theorem dX6_floatBits_94 : decode cX6_floatBits 94 = .ok (.ifCond .ne 9, 3) := by decide +kernel
theorem dX6_floatBits_97 : decode cX6_floatBits 97 = .ok (.lload 5, 2) := by decide +kernel
theorem dX6_floatBits_99 : decode cX6_floatBits 99 = .ok (.lconst 1, 1) := by decide +kernel
theorem dX6_floatBits_100 : decode cX6_floatBits 100 = .ok (.ladd, 1) := by decide +kernel
theorem dX6_floatBits_101 : decode cX6_floatBits 101 = .ok (.lstore 5, 2) := by decide +kernel
theorem dX6_floatBits_103 : decode cX6_floatBits 103 = .ok (.iload 4, 2) := by decide +kernel
theorem dX6_floatBits_105 : decode cX6_floatBits 105 = .ok (.iconst 1, 1) := by decide +kernel
theorem dX6_floatBits_106 : decode cX6_floatBits 106 = .ok (.isub, 1) := by decide +kernel
theorem dX6_floatBits_107 : decode cX6_floatBits 107 = .ok (.i2l, 1) := by decide +kernel
theorem dX6_floatBits_108 : decode cX6_floatBits 108 = .ok (.bipush 23, 2) := by decide +kernel
theorem dX6_floatBits_110 : decode cX6_floatBits 110 = .ok (.lshl, 1) := by decide +kernel
theorem dX6_floatBits_111 : decode cX6_floatBits 111 = .ok (.lload 5, 2) := by decide +kernel
theorem dX6_floatBits_113 : decode cX6_floatBits 113 = .ok (.ladd, 1) := by decide +kernel
theorem dX6_floatBits_114 : decode cX6_floatBits 114 = .ok (.l2i, 1) := by decide +kernel
theorem dX6_floatBits_115 : decode cX6_floatBits 115 = .ok (.ireturn, 1) := by decide +kernel
theorem dX6_areActs_0 : decode cX6_areActs 0 = .ok (.iconst 0, 1) := by decide +kernel
theorem dX6_areActs_1 : decode cX6_areActs 1 = .ok (.istore_n 3, 1) := by decide +kernel
theorem dX6_areActs_2 : decode cX6_areActs 2 = .ok (.iload_n 3, 1) := by decide +kernel
theorem dX6_areActs_3 : decode cX6_areActs 3 = .ok (.iload_n 2, 1) := by decide +kernel
theorem dX6_areActs_4 : decode cX6_areActs 4 = .ok (.if_icmp .ge 39, 3) := by decide +kernel
theorem dX6_areActs_7 : decode cX6_areActs 7 = .ok (.aload_n 0, 1) := by decide +kernel
theorem dX6_areActs_8 : decode cX6_areActs 8 = .ok (.getfield 262, 3) := by decide +kernel
theorem dX6_areActs_11 : decode cX6_areActs 11 = .ok (.iload_n 1, 1) := by decide +kernel
theorem dX6_areActs_12 : decode cX6_areActs 12 = .ok (.iconst 2, 1) := by decide +kernel
theorem dX6_areActs_13 : decode cX6_areActs 13 = .ok (.iload_n 3, 1) := by decide +kernel
theorem dX6_areActs_14 : decode cX6_areActs 14 = .ok (.imul, 1) := by decide +kernel
theorem dX6_areActs_15 : decode cX6_areActs 15 = .ok (.iadd, 1) := by decide +kernel
theorem dX6_areActs_16 : decode cX6_areActs 16 = .ok (.iaload, 1) := by decide +kernel
theorem dX6_areActs_17 : decode cX6_areActs 17 = .ok (.aload_n 0, 1) := by decide +kernel
theorem dX6_areActs_18 : decode cX6_areActs 18 = .ok (.getfield 262, 3) := by decide +kernel
theorem dX6_areActs_21 : decode cX6_areActs 21 = .ok (.iload_n 1, 1) := by decide +kernel
theorem dX6_areActs_22 : decode cX6_areActs 22 = .ok (.iconst 2, 1) := by decide +kernel
theorem dX6_areActs_23 : decode cX6_areActs 23 = .ok (.iload_n 3, 1) := by decide +kernel
theorem dX6_areActs_24 : decode cX6_areActs 24 = .ok (.imul, 1) := by decide +kernel
theorem dX6_areActs_25 : decode cX6_areActs 25 = .ok (.iadd, 1) := by decide +kernel
theorem dX6_areActs_26 : decode cX6_areActs 26 = .ok (.iconst 1, 1) := by decide +kernel
theorem dX6_areActs_27 : decode cX6_areActs 27 = .ok (.iadd, 1) := by decide +kernel
theorem dX6_areActs_28 : decode cX6_areActs 28 = .ok (.iaload, 1) := by decide +kernel
theorem dX6_areActs_29 : decode cX6_areActs 29 = .ok (.invokestatic 294, 3) := by decide +kernel
theorem dX6_areActs_32 : decode cX6_areActs 32 = .ok (.ifCond .ne 5, 3) := by decide +kernel
theorem dX6_areActs_35 : decode cX6_areActs 35 = .ok (.iconst 0, 1) := by decide +kernel
theorem dX6_areActs_36 : decode cX6_areActs 36 = .ok (.ireturn, 1) := by decide +kernel
theorem dX6_areActs_37 : decode cX6_areActs 37 = .ok (.iinc 3 1, 3) := by decide +kernel
theorem dX6_areActs_40 : decode cX6_areActs 40 = .ok (.goto (-38), 3) := by decide +kernel
theorem dX6_areActs_43 : decode cX6_areActs 43 = .ok (.iconst 1, 1) := by decide +kernel
theorem dX6_areActs_44 : decode cX6_areActs 44 = .ok (.ireturn, 1) := by decide +kernel
theorem dX6_isAct_0 : decode cX6_isAct 0 = .ok (.iload_n 1, 1) := by decide +kernel
theorem dX6_isAct_1 : decode cX6_isAct 1 = .ok (.bipush 20, 2) := by decide +kernel
theorem dX6_isAct_3 : decode cX6_isAct 3 = .ok (.if_icmp .ne 8, 3) := by decide +kernel
theorem dX6_isAct_6 : decode cX6_isAct 6 = .ok (.iload_n 0, 1) := by decide +kernel
theorem dX6_isAct_7 : decode cX6_isAct 7 = .ok (.invokestatic 175, 3) := by decide +kernel
theorem dX6_isAct_10 : decode cX6_isAct 10 = .ok (.ireturn, 1) := by decide +kernel
theorem dX6_isAct_11 : decode cX6_isAct 11 = .ok (.iload_n 1, 1) := by decide +kernel
theorem dX6_isAct_12 : decode cX6_isAct 12 = .ok (.bipush 10, 2) := by decide +kernel
theorem dX6_isAct_14 : decode cX6_isAct 14 = .ok (.if_icmp .lt 14, 3) := by decide +kernel
theorem dX6_isAct_17 : decode cX6_isAct 17 = .ok (.iload_n 1, 1) := by decide +kernel
theorem dX6_isAct_18 : decode cX6_isAct 18 = .ok (.bipush 17, 2) := by decide +kernel
theorem dX6_isAct_20 : decode cX6_isAct 20 = .ok (.if_icmp .ge 8, 3) := by decide +kernel
theorem dX6_isAct_23 : decode cX6_isAct 23 = .ok (.iload_n 0, 1) := by decide +kernel
theorem dX6_isAct_24 : decode cX6_isAct 24 = .ok (.invokestatic 156, 3) := by decide +kernel
theorem dX6_isAct_27 : decode cX6_isAct 27 = .ok (.ireturn, 1) := by decide +kernel
theorem dX6_isAct_28 : decode cX6_isAct 28 = .ok (.iload_n 1, 1) := by decide +kernel
theorem dX6_isAct_29 : decode cX6_isAct 29 = .ok (.ifCond .lt 17, 3) := by decide +kernel
theorem dX6_isAct_32 : decode cX6_isAct 32 = .ok (.iload_n 1, 1) := by decide +kernel
theorem dX6_isAct_33 : decode cX6_isAct 33 = .ok (.bipush 7, 2) := by decide +kernel
theorem dX6_isAct_35 : decode cX6_isAct 35 = .ok (.if_icmp .ge 11, 3) := by decide +kernel
theorem dX6_isAct_38 : decode cX6_isAct 38 = .ok (.iload_n 0, 1) := by decide +kernel
theorem dX6_isAct_39 : decode cX6_isAct 39 = .ok (.ifCond .ne 7, 3) := by decide +kernel
theorem dX6_isAct_42 : decode cX6_isAct 42 = .ok (.iconst 1, 1) := by decide +kernel
theorem dX6_isAct_43 : decode cX6_isAct 43 = .ok (.goto 4, 3) := by decide +kernel
theorem dX6_isAct_46 : decode cX6_isAct 46 = .ok (.iconst 0, 1) := by decide +kernel
theorem dX6_isAct_47 : decode cX6_isAct 47 = .ok (.ireturn, 1) := by decide +kernel
theorem dX6_firstWrong_0 : decode cX6_firstWrong 0 = .ok (.aload_n 0, 1) := by decide +kernel
theorem dX6_firstWrong_1 : decode cX6_firstWrong 1 = .ok (.getfield 24, 3) := by decide +kernel
theorem dX6_firstWrong_4 : decode cX6_firstWrong 4 = .ok (.aload_n 0, 1) := by decide +kernel
theorem dX6_firstWrong_5 : decode cX6_firstWrong 5 = .ok (.getfield 20, 3) := by decide +kernel
theorem dX6_firstWrong_8 : decode cX6_firstWrong 8 = .ok (.invokevirtual 88, 3) := by decide +kernel
theorem dX6_firstWrong_11 : decode cX6_firstWrong 11 = .ok (.iconst 0, 1) := by decide +kernel
theorem dX6_firstWrong_12 : decode cX6_firstWrong 12 = .ok (.istore 4, 2) := by decide +kernel
theorem dX6_firstWrong_14 : decode cX6_firstWrong 14 = .ok (.iload 4, 2) := by decide +kernel
theorem dX6_firstWrong_16 : decode cX6_firstWrong 16 = .ok (.iload_n 3, 1) := by decide +kernel
theorem dX6_firstWrong_17 : decode cX6_firstWrong 17 = .ok (.if_icmp .ge 74, 3) := by decide +kernel
theorem dX6_firstWrong_20 : decode cX6_firstWrong 20 = .ok (.aload_n 1, 1) := by decide +kernel
theorem dX6_firstWrong_21 : decode cX6_firstWrong 21 = .ok (.getfield 262, 3) := by decide +kernel
theorem dX6_firstWrong_24 : decode cX6_firstWrong 24 = .ok (.iload_n 2, 1) := by decide +kernel
theorem dX6_firstWrong_25 : decode cX6_firstWrong 25 = .ok (.iconst 2, 1) := by decide +kernel
theorem dX6_firstWrong_26 : decode cX6_firstWrong 26 = .ok (.iload 4, 2) := by decide +kernel
theorem dX6_firstWrong_28 : decode cX6_firstWrong 28 = .ok (.imul, 1) := by decide +kernel
theorem dX6_firstWrong_29 : decode cX6_firstWrong 29 = .ok (.iadd, 1) := by decide +kernel
theorem dX6_firstWrong_30 : decode cX6_firstWrong 30 = .ok (.iaload, 1) := by decide +kernel
theorem dX6_firstWrong_31 : decode cX6_firstWrong 31 = .ok (.istore 5, 2) := by decide +kernel
theorem dX6_firstWrong_33 : decode cX6_firstWrong 33 = .ok (.aload_n 1, 1) := by decide +kernel
theorem dX6_firstWrong_34 : decode cX6_firstWrong 34 = .ok (.getfield 262, 3) := by decide +kernel
theorem dX6_firstWrong_37 : decode cX6_firstWrong 37 = .ok (.iload_n 2, 1) := by decide +kernel
theorem dX6_firstWrong_38 : decode cX6_firstWrong 38 = .ok (.iconst 2, 1) := by decide +kernel
theorem dX6_firstWrong_39 : decode cX6_firstWrong 39 = .ok (.iload 4, 2) := by decide +kernel
theorem dX6_firstWrong_41 : decode cX6_firstWrong 41 = .ok (.imul, 1) := by decide +kernel
theorem dX6_firstWrong_42 : decode cX6_firstWrong 42 = .ok (.iadd, 1) := by decide +kernel
theorem dX6_firstWrong_43 : decode cX6_firstWrong 43 = .ok (.iconst 1, 1) := by decide +kernel
theorem dX6_firstWrong_44 : decode cX6_firstWrong 44 = .ok (.iadd, 1) := by decide +kernel
theorem dX6_firstWrong_45 : decode cX6_firstWrong 45 = .ok (.iaload, 1) := by decide +kernel
theorem dX6_firstWrong_46 : decode cX6_firstWrong 46 = .ok (.istore 6, 2) := by decide +kernel
theorem dX6_firstWrong_48 : decode cX6_firstWrong 48 = .ok (.iload 6, 2) := by decide +kernel
theorem dX6_firstWrong_50 : decode cX6_firstWrong 50 = .ok (.bipush 20, 2) := by decide +kernel
theorem dX6_firstWrong_52 : decode cX6_firstWrong 52 = .ok (.if_icmp .ne 19, 3) := by decide +kernel
theorem dX6_firstWrong_55 : decode cX6_firstWrong 55 = .ok (.aload_n 0, 1) := by decide +kernel
theorem dX6_firstWrong_56 : decode cX6_firstWrong 56 = .ok (.getfield 37, 3) := by decide +kernel
theorem dX6_firstWrong_59 : decode cX6_firstWrong 59 = .ok (.aload_n 0, 1) := by decide +kernel
theorem dX6_firstWrong_60 : decode cX6_firstWrong 60 = .ok (.getfield 24, 3) := by decide +kernel
theorem dX6_firstWrong_63 : decode cX6_firstWrong 63 = .ok (.iload 5, 2) := by decide +kernel
theorem dX6_firstWrong_65 : decode cX6_firstWrong 65 = .ok (.invokevirtual 178, 3) := by decide +kernel
theorem dX6_firstWrong_68 : decode cX6_firstWrong 68 = .ok (.goto 17, 3) := by decide +kernel
theorem dX6_firstWrong_71 : decode cX6_firstWrong 71 = .ok (.aload_n 0, 1) := by decide +kernel
theorem dX6_firstWrong_72 : decode cX6_firstWrong 72 = .ok (.iload 5, 2) := by decide +kernel
theorem dX6_firstWrong_74 : decode cX6_firstWrong 74 = .ok (.iload 6, 2) := by decide +kernel
theorem dX6_firstWrong_76 : decode cX6_firstWrong 76 = .ok (.invokevirtual 297, 3) := by decide +kernel
theorem dX6_firstWrong_79 : decode cX6_firstWrong 79 = .ok (.ifCond .ne 6, 3) := by decide +kernel
theorem dX6_firstWrong_82 : decode cX6_firstWrong 82 = .ok (.iload 4, 2) := by decide +kernel
theorem dX6_firstWrong_84 : decode cX6_firstWrong 84 = .ok (.ireturn, 1) := by decide +kernel
theorem dX6_firstWrong_85 : decode cX6_firstWrong 85 = .ok (.iinc 4 1, 3) := by decide +kernel
theorem dX6_firstWrong_88 : decode cX6_firstWrong 88 = .ok (.goto (-74), 3) := by decide +kernel
theorem dX6_firstWrong_91 : decode cX6_firstWrong 91 = .ok (.bipush (-9), 2) := by decide +kernel
theorem dX6_firstWrong_93 : decode cX6_firstWrong 93 = .ok (.ireturn, 1) := by decide +kernel
theorem dX6_isDone_0 : decode cX6_isDone 0 = .ok (.iload_n 2, 1) := by decide +kernel
theorem dX6_isDone_1 : decode cX6_isDone 1 = .ok (.bipush 10, 2) := by decide +kernel
theorem dX6_isDone_3 : decode cX6_isDone 3 = .ok (.if_icmp .ge 7, 3) := by decide +kernel
theorem dX6_isDone_6 : decode cX6_isDone 6 = .ok (.iconst 1, 1) := by decide +kernel
theorem dX6_isDone_7 : decode cX6_isDone 7 = .ok (.goto 4, 3) := by decide +kernel
theorem dX6_isDone_10 : decode cX6_isDone 10 = .ok (.iconst 0, 1) := by decide +kernel
theorem dX6_isDone_11 : decode cX6_isDone 11 = .ok (.istore_n 3, 1) := by decide +kernel
theorem dX6_isDone_12 : decode cX6_isDone 12 = .ok (.iload_n 3, 1) := by decide +kernel
theorem dX6_isDone_13 : decode cX6_isDone 13 = .ok (.ifCond .eq 7, 3) := by decide +kernel
theorem dX6_isDone_16 : decode cX6_isDone 16 = .ok (.iload_n 2, 1) := by decide +kernel
theorem dX6_isDone_17 : decode cX6_isDone 17 = .ok (.goto 7, 3) := by decide +kernel
theorem dX6_isDone_20 : decode cX6_isDone 20 = .ok (.iload_n 2, 1) := by decide +kernel
theorem dX6_isDone_21 : decode cX6_isDone 21 = .ok (.bipush 10, 2) := by decide +kernel
theorem dX6_isDone_23 : decode cX6_isDone 23 = .ok (.isub, 1) := by decide +kernel
theorem dX6_isDone_24 : decode cX6_isDone 24 = .ok (.istore 4, 2) := by decide +kernel
theorem dX6_isDone_26 : decode cX6_isDone 26 = .ok (.iload 4, 2) := by decide +kernel
theorem dX6_isDone_28 : decode cX6_isDone 28 = .ok (.aload_n 0, 1) := by decide +kernel
theorem dX6_isDone_29 : decode cX6_isDone 29 = .ok (.getfield 24, 3) := by decide +kernel
theorem dX6_isDone_32 : decode cX6_isDone 32 = .ok (.getfield 99, 3) := by decide +kernel
theorem dX6_isDone_35 : decode cX6_isDone 35 = .ok (.if_icmp .ge 19, 3) := by decide +kernel
theorem dX6_isDone_38 : decode cX6_isDone 38 = .ok (.iload_n 3, 1) := by decide +kernel
theorem dX6_isDone_39 : decode cX6_isDone 39 = .ok (.ifCond .eq 17, 3) := by decide +kernel
theorem dX6_isDone_42 : decode cX6_isDone 42 = .ok (.aload_n 0, 1) := by decide +kernel
theorem dX6_isDone_43 : decode cX6_isDone 43 = .ok (.getfield 24, 3) := by decide +kernel
theorem dX6_isDone_46 : decode cX6_isDone 46 = .ok (.iload 4, 2) := by decide +kernel
theorem dX6_isDone_48 : decode cX6_isDone 48 = .ok (.invokevirtual 118, 3) := by decide +kernel
theorem dX6_isDone_51 : decode cX6_isDone 51 = .ok (.ifCond .eq 5, 3) := by decide +kernel
theorem dX6_isDone_54 : decode cX6_isDone 54 = .ok (.iconst 0, 1) := by decide +kernel
theorem dX6_isDone_55 : decode cX6_isDone 55 = .ok (.ireturn, 1) := by decide +kernel
theorem dX6_isDone_56 : decode cX6_isDone 56 = .ok (.iload_n 3, 1) := by decide +kernel
theorem dX6_isDone_57 : decode cX6_isDone 57 = .ok (.ifCond .eq 15, 3) := by decide +kernel
theorem dX6_isDone_60 : decode cX6_isDone 60 = .ok (.aload_n 0, 1) := by decide +kernel
theorem dX6_isDone_61 : decode cX6_isDone 61 = .ok (.getfield 24, 3) := by decide +kernel
theorem dX6_isDone_64 : decode cX6_isDone 64 = .ok (.iload 4, 2) := by decide +kernel
theorem dX6_isDone_66 : decode cX6_isDone 66 = .ok (.invokevirtual 168, 3) := by decide +kernel
theorem dX6_isDone_69 : decode cX6_isDone 69 = .ok (.goto 23, 3) := by decide +kernel
theorem dX6_isDone_72 : decode cX6_isDone 72 = .ok (.aload_n 0, 1) := by decide +kernel
theorem dX6_isDone_73 : decode cX6_isDone 73 = .ok (.getfield 24, 3) := by decide +kernel
theorem dX6_isDone_76 : decode cX6_isDone 76 = .ok (.iload 4, 2) := by decide +kernel
theorem dX6_isDone_78 : decode cX6_isDone 78 = .ok (.aload_n 0, 1) := by decide +kernel
theorem dX6_isDone_79 : decode cX6_isDone 79 = .ok (.getfield 24, 3) := by decide +kernel
theorem dX6_isDone_82 : decode cX6_isDone 82 = .ok (.getfield 105, 3) := by decide +kernel
theorem dX6_isDone_85 : decode cX6_isDone 85 = .ok (.iload 4, 2) := by decide +kernel
theorem dX6_isDone_87 : decode cX6_isDone 87 = .ok (.iaload, 1) := by decide +kernel
theorem dX6_isDone_88 : decode cX6_isDone 88 = .ok (.iload_n 1, 1) := by decide +kernel
theorem dX6_isDone_89 : decode cX6_isDone 89 = .ok (.invokevirtual 159, 3) := by decide +kernel
theorem dX6_isDone_92 : decode cX6_isDone 92 = .ok (.iconst 1, 1) := by decide +kernel
theorem dX6_isDone_93 : decode cX6_isDone 93 = .ok (.ireturn, 1) := by decide +kernel
theorem dX6_afterDay_0 : decode cX6_afterDay 0 = .ok (.iload_n 1, 1) := by decide +kernel
theorem dX6_afterDay_1 : decode cX6_afterDay 1 = .ok (.tableswitch 81 0 4 #[35, 81, 43, 51, 66], 35) := by decide +kernel
theorem dX6_afterDay_36 : decode cX6_afterDay 36 = .ok (.aload_n 0, 1) := by decide +kernel
theorem dX6_afterDay_37 : decode cX6_afterDay 37 = .ok (.getfield 24, 3) := by decide +kernel
theorem dX6_afterDay_40 : decode cX6_afterDay 40 = .ok (.invokevirtual 172, 3) := by decide +kernel
theorem dX6_afterDay_43 : decode cX6_afterDay 43 = .ok (.ireturn, 1) := by decide +kernel
theorem dX6_afterDay_44 : decode cX6_afterDay 44 = .ok (.aload_n 0, 1) := by decide +kernel
theorem dX6_afterDay_45 : decode cX6_afterDay 45 = .ok (.getfield 24, 3) := by decide +kernel
theorem dX6_afterDay_48 : decode cX6_afterDay 48 = .ok (.getfield 136, 3) := by decide +kernel
theorem dX6_afterDay_51 : decode cX6_afterDay 51 = .ok (.ireturn, 1) := by decide +kernel
theorem dX6_afterDay_52 : decode cX6_afterDay 52 = .ok (.aload_n 0, 1) := by decide +kernel
theorem dX6_afterDay_53 : decode cX6_afterDay 53 = .ok (.getfield 24, 3) := by decide +kernel
theorem dX6_afterDay_56 : decode cX6_afterDay 56 = .ok (.aload_n 0, 1) := by decide +kernel
theorem dX6_afterDay_57 : decode cX6_afterDay 57 = .ok (.getfield 24, 3) := by decide +kernel
theorem dX6_afterDay_60 : decode cX6_afterDay 60 = .ok (.invokevirtual 146, 3) := by decide +kernel
theorem dX6_afterDay_63 : decode cX6_afterDay 63 = .ok (.invokevirtual 150, 3) := by decide +kernel
theorem dX6_afterDay_66 : decode cX6_afterDay 66 = .ok (.ireturn, 1) := by decide +kernel
theorem dX6_afterDay_67 : decode cX6_afterDay 67 = .ok (.aload_n 0, 1) := by decide +kernel
theorem dX6_afterDay_68 : decode cX6_afterDay 68 = .ok (.getfield 24, 3) := by decide +kernel
theorem dX6_afterDay_71 : decode cX6_afterDay 71 = .ok (.aload_n 0, 1) := by decide +kernel
theorem dX6_afterDay_72 : decode cX6_afterDay 72 = .ok (.getfield 24, 3) := by decide +kernel
theorem dX6_afterDay_75 : decode cX6_afterDay 75 = .ok (.invokevirtual 146, 3) := by decide +kernel
theorem dX6_afterDay_78 : decode cX6_afterDay 78 = .ok (.invokevirtual 127, 3) := by decide +kernel
theorem dX6_afterDay_81 : decode cX6_afterDay 81 = .ok (.ireturn, 1) := by decide +kernel
theorem dX6_afterDay_82 : decode cX6_afterDay 82 = .ok (.aload_n 0, 1) := by decide +kernel
theorem dX6_afterDay_83 : decode cX6_afterDay 83 = .ok (.iload_n 1, 1) := by decide +kernel
theorem dX6_afterDay_84 : decode cX6_afterDay 84 = .ok (.bipush 10, 2) := by decide +kernel
theorem dX6_afterDay_86 : decode cX6_afterDay 86 = .ok (.isub, 1) := by decide +kernel
theorem dX6_afterDay_87 : decode cX6_afterDay 87 = .ok (.invokevirtual 102, 3) := by decide +kernel
theorem dX6_afterDay_90 : decode cX6_afterDay 90 = .ok (.ifCond .eq 20, 3) := by decide +kernel
theorem dX6_afterDay_93 : decode cX6_afterDay 93 = .ok (.aload_n 0, 1) := by decide +kernel
theorem dX6_afterDay_94 : decode cX6_afterDay 94 = .ok (.getfield 24, 3) := by decide +kernel
theorem dX6_afterDay_97 : decode cX6_afterDay 97 = .ok (.iload_n 1, 1) := by decide +kernel
theorem dX6_afterDay_98 : decode cX6_afterDay 98 = .ok (.bipush 10, 2) := by decide +kernel
theorem dX6_afterDay_100 : decode cX6_afterDay 100 = .ok (.isub, 1) := by decide +kernel
theorem dX6_afterDay_101 : decode cX6_afterDay 101 = .ok (.invokevirtual 124, 3) := by decide +kernel
theorem dX6_afterDay_104 : decode cX6_afterDay 104 = .ok (.bipush 10, 2) := by decide +kernel
theorem dX6_afterDay_106 : decode cX6_afterDay 106 = .ok (.iadd, 1) := by decide +kernel
theorem dX6_afterDay_107 : decode cX6_afterDay 107 = .ok (.goto 5, 3) := by decide +kernel
theorem dX6_afterDay_110 : decode cX6_afterDay 110 = .ok (.bipush (-9), 2) := by decide +kernel
theorem dX6_afterDay_112 : decode cX6_afterDay 112 = .ok (.ireturn, 1) := by decide +kernel
theorem dX6_leaveInTrace_0 : decode cX6_leaveInTrace 0 = .ok (.aload_n 0, 1) := by decide +kernel
theorem dX6_leaveInTrace_1 : decode cX6_leaveInTrace 1 = .ok (.bipush 31, 2) := by decide +kernel
theorem dX6_leaveInTrace_3 : decode cX6_leaveInTrace 3 = .ok (.aload_n 0, 1) := by decide +kernel
theorem dX6_leaveInTrace_4 : decode cX6_leaveInTrace 4 = .ok (.getfield 286, 3) := by decide +kernel
theorem dX6_leaveInTrace_7 : decode cX6_leaveInTrace 7 = .ok (.imul, 1) := by decide +kernel
theorem dX6_leaveInTrace_8 : decode cX6_leaveInTrace 8 = .ok (.iload_n 1, 1) := by decide +kernel
theorem dX6_leaveInTrace_9 : decode cX6_leaveInTrace 9 = .ok (.iadd, 1) := by decide +kernel
theorem dX6_leaveInTrace_10 : decode cX6_leaveInTrace 10 = .ok (.putfield 286, 3) := by decide +kernel
theorem dX6_leaveInTrace_13 : decode cX6_leaveInTrace 13 = .ok (.return_, 1) := by decide +kernel
theorem dX6_plainTold_0 : decode cX6_plainTold 0 = .ok (.aload_n 0, 1) := by decide +kernel
theorem dX6_plainTold_1 : decode cX6_plainTold 1 = .ok (.iconst 1, 1) := by decide +kernel
theorem dX6_plainTold_2 : decode cX6_plainTold 2 = .ok (.invokevirtual 283, 3) := by decide +kernel
theorem dX6_plainTold_5 : decode cX6_plainTold 5 = .ok (.aload_n 0, 1) := by decide +kernel
theorem dX6_plainTold_6 : decode cX6_plainTold 6 = .ok (.getfield 20, 3) := by decide +kernel
theorem dX6_plainTold_9 : decode cX6_plainTold 9 = .ok (.getfield 109, 3) := by decide +kernel
theorem dX6_plainTold_12 : decode cX6_plainTold 12 = .ok (.iload_n 1, 1) := by decide +kernel
theorem dX6_plainTold_13 : decode cX6_plainTold 13 = .ok (.iaload, 1) := by decide +kernel
theorem dX6_plainTold_14 : decode cX6_plainTold 14 = .ok (.ireturn, 1) := by decide +kernel
theorem dX6_bulkyTold_0 : decode cX6_bulkyTold 0 = .ok (.aload_n 0, 1) := by decide +kernel
theorem dX6_bulkyTold_1 : decode cX6_bulkyTold 1 = .ok (.iconst 2, 1) := by decide +kernel
theorem dX6_bulkyTold_2 : decode cX6_bulkyTold 2 = .ok (.invokevirtual 283, 3) := by decide +kernel
theorem dX6_bulkyTold_5 : decode cX6_bulkyTold 5 = .ok (.aload_n 0, 1) := by decide +kernel
theorem dX6_bulkyTold_6 : decode cX6_bulkyTold 6 = .ok (.iload_n 1, 1) := by decide +kernel
theorem dX6_bulkyTold_7 : decode cX6_bulkyTold 7 = .ok (.invokevirtual 280, 3) := by decide +kernel
theorem dX6_bulkyTold_10 : decode cX6_bulkyTold 10 = .ok (.bipush 100, 2) := by decide +kernel
theorem dX6_bulkyTold_12 : decode cX6_bulkyTold 12 = .ok (.iadd, 1) := by decide +kernel
theorem dX6_bulkyTold_13 : decode cX6_bulkyTold 13 = .ok (.ireturn, 1) := by decide +kernel
theorem dX6_doubleTold_0 : decode cX6_doubleTold 0 = .ok (.aload_n 0, 1) := by decide +kernel
theorem dX6_doubleTold_1 : decode cX6_doubleTold 1 = .ok (.iconst 3, 1) := by decide +kernel
theorem dX6_doubleTold_2 : decode cX6_doubleTold 2 = .ok (.invokevirtual 283, 3) := by decide +kernel
theorem dX6_doubleTold_5 : decode cX6_doubleTold 5 = .ok (.aload_n 0, 1) := by decide +kernel
theorem dX6_doubleTold_6 : decode cX6_doubleTold 6 = .ok (.iload_n 1, 1) := by decide +kernel
theorem dX6_doubleTold_7 : decode cX6_doubleTold 7 = .ok (.invokevirtual 277, 3) := by decide +kernel
theorem dX6_doubleTold_10 : decode cX6_doubleTold 10 = .ok (.istore_n 2, 1) := by decide +kernel
theorem dX6_doubleTold_11 : decode cX6_doubleTold 11 = .ok (.iload_n 2, 1) := by decide +kernel
theorem dX6_doubleTold_12 : decode cX6_doubleTold 12 = .ok (.aload_n 0, 1) := by decide +kernel
theorem dX6_doubleTold_13 : decode cX6_doubleTold 13 = .ok (.iload_n 1, 1) := by decide +kernel
theorem dX6_doubleTold_14 : decode cX6_doubleTold 14 = .ok (.invokevirtual 280, 3) := by decide +kernel
theorem dX6_doubleTold_17 : decode cX6_doubleTold 17 = .ok (.iadd, 1) := by decide +kernel
theorem dX6_doubleTold_18 : decode cX6_doubleTold 18 = .ok (.ireturn, 1) := by decide +kernel
theorem dX7_init_0 : decode cX7_init 0 = .ok (.aload_n 0, 1) := by decide +kernel
theorem dX7_init_1 : decode cX7_init 1 = .ok (.invokespecial 1, 3) := by decide +kernel
theorem dX7_init_4 : decode cX7_init 4 = .ok (.aload_n 0, 1) := by decide +kernel
theorem dX7_init_5 : decode cX7_init 5 = .ok (.iconst 4, 1) := by decide +kernel
theorem dX7_init_6 : decode cX7_init 6 = .ok (.newarray .int, 2) := by decide +kernel
theorem dX7_init_8 : decode cX7_init 8 = .ok (.dup, 1) := by decide +kernel
theorem dX7_init_9 : decode cX7_init 9 = .ok (.iconst 0, 1) := by decide +kernel
theorem dX7_init_10 : decode cX7_init 10 = .ok (.bipush (-9), 2) := by decide +kernel
theorem dX7_init_12 : decode cX7_init 12 = .ok (.iastore, 1) := by decide +kernel
theorem dX7_init_13 : decode cX7_init 13 = .ok (.dup, 1) := by decide +kernel
theorem dX7_init_14 : decode cX7_init 14 = .ok (.iconst 1, 1) := by decide +kernel
theorem dX7_init_15 : decode cX7_init 15 = .ok (.bipush (-9), 2) := by decide +kernel
theorem dX7_init_17 : decode cX7_init 17 = .ok (.iastore, 1) := by decide +kernel
theorem dX7_init_18 : decode cX7_init 18 = .ok (.dup, 1) := by decide +kernel
theorem dX7_init_19 : decode cX7_init 19 = .ok (.iconst 2, 1) := by decide +kernel
theorem dX7_init_20 : decode cX7_init 20 = .ok (.bipush (-9), 2) := by decide +kernel
theorem dX7_init_22 : decode cX7_init 22 = .ok (.iastore, 1) := by decide +kernel
theorem dX7_init_23 : decode cX7_init 23 = .ok (.dup, 1) := by decide +kernel
theorem dX7_init_24 : decode cX7_init 24 = .ok (.iconst 3, 1) := by decide +kernel
theorem dX7_init_25 : decode cX7_init 25 = .ok (.bipush (-9), 2) := by decide +kernel
theorem dX7_init_27 : decode cX7_init 27 = .ok (.iastore, 1) := by decide +kernel
theorem dX7_init_28 : decode cX7_init 28 = .ok (.putfield 9, 3) := by decide +kernel
theorem dX7_init_31 : decode cX7_init 31 = .ok (.aload_n 0, 1) := by decide +kernel
theorem dX7_init_32 : decode cX7_init 32 = .ok (.iconst 4, 1) := by decide +kernel
theorem dX7_init_33 : decode cX7_init 33 = .ok (.newarray .int, 2) := by decide +kernel
theorem dX7_init_35 : decode cX7_init 35 = .ok (.putfield 13, 3) := by decide +kernel
theorem dX7_init_38 : decode cX7_init 38 = .ok (.aload_n 0, 1) := by decide +kernel
theorem dX7_init_39 : decode cX7_init 39 = .ok (.sipush 240, 3) := by decide +kernel
theorem dX7_init_42 : decode cX7_init 42 = .ok (.newarray .int, 2) := by decide +kernel
theorem dX7_init_44 : decode cX7_init 44 = .ok (.putfield 16, 3) := by decide +kernel
theorem dX7_init_47 : decode cX7_init 47 = .ok (.aload_n 0, 1) := by decide +kernel
theorem dX7_init_48 : decode cX7_init 48 = .ok (.ldc 19, 2) := by decide +kernel
theorem dX7_init_50 : decode cX7_init 50 = .ok (.putfield 20, 3) := by decide +kernel
theorem dX7_init_53 : decode cX7_init 53 = .ok (.aload_n 0, 1) := by decide +kernel
theorem dX7_init_54 : decode cX7_init 54 = .ok (.bipush (-9), 2) := by decide +kernel
theorem dX7_init_56 : decode cX7_init 56 = .ok (.putfield 24, 3) := by decide +kernel
theorem dX7_init_59 : decode cX7_init 59 = .ok (.aload_n 0, 1) := by decide +kernel
theorem dX7_init_60 : decode cX7_init 60 = .ok (.bipush 9, 2) := by decide +kernel
theorem dX7_init_62 : decode cX7_init 62 = .ok (.newarray .int, 2) := by decide +kernel
theorem dX7_init_64 : decode cX7_init 64 = .ok (.putfield 27, 3) := by decide +kernel
theorem dX7_init_67 : decode cX7_init 67 = .ok (.aload_n 0, 1) := by decide +kernel
theorem dX7_init_68 : decode cX7_init 68 = .ok (.bipush 7, 2) := by decide +kernel
theorem dX7_init_70 : decode cX7_init 70 = .ok (.newarray .int, 2) := by decide +kernel
theorem dX7_init_72 : decode cX7_init 72 = .ok (.putfield 30, 3) := by decide +kernel
theorem dX7_init_75 : decode cX7_init 75 = .ok (.aload_n 0, 1) := by decide +kernel
theorem dX7_init_76 : decode cX7_init 76 = .ok (.bipush 7, 2) := by decide +kernel
theorem dX7_init_78 : decode cX7_init 78 = .ok (.newarray .int, 2) := by decide +kernel
theorem dX7_init_80 : decode cX7_init 80 = .ok (.putfield 33, 3) := by decide +kernel
theorem dX7_init_83 : decode cX7_init 83 = .ok (.aload_n 0, 1) := by decide +kernel
theorem dX7_init_84 : decode cX7_init 84 = .ok (.bipush 6, 2) := by decide +kernel
theorem dX7_init_86 : decode cX7_init 86 = .ok (.newarray .int, 2) := by decide +kernel
theorem dX7_init_88 : decode cX7_init 88 = .ok (.putfield 36, 3) := by decide +kernel
theorem dX7_init_91 : decode cX7_init 91 = .ok (.aload_n 0, 1) := by decide +kernel
theorem dX7_init_92 : decode cX7_init 92 = .ok (.bipush 7, 2) := by decide +kernel
theorem dX7_init_94 : decode cX7_init 94 = .ok (.newarray .int, 2) := by decide +kernel
theorem dX7_init_96 : decode cX7_init 96 = .ok (.putfield 39, 3) := by decide +kernel
theorem dX7_init_99 : decode cX7_init 99 = .ok (.aload_n 0, 1) := by decide +kernel
theorem dX7_init_100 : decode cX7_init 100 = .ok (.bipush 7, 2) := by decide +kernel
theorem dX7_init_102 : decode cX7_init 102 = .ok (.newarray .int, 2) := by decide +kernel
theorem dX7_init_104 : decode cX7_init 104 = .ok (.putfield 42, 3) := by decide +kernel
theorem dX7_init_107 : decode cX7_init 107 = .ok (.aload_n 0, 1) := by decide +kernel
theorem dX7_init_108 : decode cX7_init 108 = .ok (.bipush 6, 2) := by decide +kernel
theorem dX7_init_110 : decode cX7_init 110 = .ok (.newarray .int, 2) := by decide +kernel
theorem dX7_init_112 : decode cX7_init 112 = .ok (.putfield 45, 3) := by decide +kernel
theorem dX7_init_115 : decode cX7_init 115 = .ok (.aload_n 0, 1) := by decide +kernel
theorem dX7_init_116 : decode cX7_init 116 = .ok (.bipush 7, 2) := by decide +kernel
theorem dX7_init_118 : decode cX7_init 118 = .ok (.newarray .int, 2) := by decide +kernel
theorem dX7_init_120 : decode cX7_init 120 = .ok (.putfield 48, 3) := by decide +kernel
theorem dX7_init_123 : decode cX7_init 123 = .ok (.aload_n 0, 1) := by decide +kernel
theorem dX7_init_124 : decode cX7_init 124 = .ok (.bipush 7, 2) := by decide +kernel
theorem dX7_init_126 : decode cX7_init 126 = .ok (.newarray .int, 2) := by decide +kernel
theorem dX7_init_128 : decode cX7_init 128 = .ok (.putfield 51, 3) := by decide +kernel
theorem dX7_init_131 : decode cX7_init 131 = .ok (.aload_n 0, 1) := by decide +kernel
theorem dX7_init_132 : decode cX7_init 132 = .ok (.bipush 8, 2) := by decide +kernel
theorem dX7_init_134 : decode cX7_init 134 = .ok (.newarray .int, 2) := by decide +kernel
theorem dX7_init_136 : decode cX7_init 136 = .ok (.putfield 54, 3) := by decide +kernel
theorem dX7_init_139 : decode cX7_init 139 = .ok (.aload_n 0, 1) := by decide +kernel
theorem dX7_init_140 : decode cX7_init 140 = .ok (.bipush 8, 2) := by decide +kernel
theorem dX7_init_142 : decode cX7_init 142 = .ok (.newarray .int, 2) := by decide +kernel
theorem dX7_init_144 : decode cX7_init 144 = .ok (.putfield 57, 3) := by decide +kernel
theorem dX7_init_147 : decode cX7_init 147 = .ok (.return_, 1) := by decide +kernel
theorem dX7_fails_0 : decode cX7_fails 0 = .ok (.aload_n 0, 1) := by decide +kernel
theorem dX7_fails_1 : decode cX7_fails 1 = .ok (.iload_n 1, 1) := by decide +kernel
theorem dX7_fails_2 : decode cX7_fails 2 = .ok (.putfield 60, 3) := by decide +kernel
theorem dX7_fails_5 : decode cX7_fails 5 = .ok (.bipush (-10), 2) := by decide +kernel
theorem dX7_fails_7 : decode cX7_fails 7 = .ok (.iload_n 1, 1) := by decide +kernel
theorem dX7_fails_8 : decode cX7_fails 8 = .ok (.isub, 1) := by decide +kernel
theorem dX7_fails_9 : decode cX7_fails 9 = .ok (.ireturn, 1) := by decide +kernel
theorem dX7_lost_0 : decode cX7_lost 0 = .ok (.aload_n 0, 1) := by decide +kernel
theorem dX7_lost_1 : decode cX7_lost 1 = .ok (.iload_n 1, 1) := by decide +kernel
theorem dX7_lost_2 : decode cX7_lost 2 = .ok (.putfield 60, 3) := by decide +kernel
theorem dX7_lost_5 : decode cX7_lost 5 = .ok (.ldc2_w 63, 3) := by decide +kernel
theorem dX7_lost_8 : decode cX7_lost 8 = .ok (.lreturn, 1) := by decide +kernel
theorem dX7_within_0 : decode cX7_within 0 = .ok (.iload_n 0, 1) := by decide +kernel
theorem dX7_within_1 : decode cX7_within 1 = .ok (.iload_n 1, 1) := by decide +kernel
theorem dX7_within_2 : decode cX7_within 2 = .ok (.if_icmp .lt 12, 3) := by decide +kernel
theorem dX7_within_5 : decode cX7_within 5 = .ok (.iload_n 0, 1) := by decide +kernel
theorem dX7_within_6 : decode cX7_within 6 = .ok (.iload_n 2, 1) := by decide +kernel
theorem dX7_within_7 : decode cX7_within 7 = .ok (.if_icmp .gt 7, 3) := by decide +kernel
theorem dX7_within_10 : decode cX7_within 10 = .ok (.iconst 1, 1) := by decide +kernel
theorem dX7_within_11 : decode cX7_within 11 = .ok (.goto 4, 3) := by decide +kernel
theorem dX7_within_14 : decode cX7_within 14 = .ok (.iconst 0, 1) := by decide +kernel
theorem dX7_within_15 : decode cX7_within 15 = .ok (.ireturn, 1) := by decide +kernel
theorem dX7_isSheet_0 : decode cX7_isSheet 0 = .ok (.iload_n 0, 1) := by decide +kernel
theorem dX7_isSheet_1 : decode cX7_isSheet 1 = .ok (.iconst 0, 1) := by decide +kernel
theorem dX7_isSheet_2 : decode cX7_isSheet 2 = .ok (.iconst 3, 1) := by decide +kernel
theorem dX7_isSheet_3 : decode cX7_isSheet 3 = .ok (.invokestatic 65, 3) := by decide +kernel
theorem dX7_isSheet_6 : decode cX7_isSheet 6 = .ok (.ireturn, 1) := by decide +kernel
theorem dX7_isSort_0 : decode cX7_isSort 0 = .ok (.iload_n 0, 1) := by decide +kernel
theorem dX7_isSort_1 : decode cX7_isSort 1 = .ok (.iconst 0, 1) := by decide +kernel
theorem dX7_isSort_2 : decode cX7_isSort 2 = .ok (.iconst 2, 1) := by decide +kernel
theorem dX7_isSort_3 : decode cX7_isSort 3 = .ok (.invokestatic 65, 3) := by decide +kernel
theorem dX7_isSort_6 : decode cX7_isSort 6 = .ok (.ireturn, 1) := by decide +kernel
theorem dX7_against_0 : decode cX7_against 0 = .ok (.aload_n 0, 1) := by decide +kernel
theorem dX7_against_1 : decode cX7_against 1 = .ok (.getfield 9, 3) := by decide +kernel
theorem dX7_against_4 : decode cX7_against 4 = .ok (.iload_n 1, 1) := by decide +kernel
theorem dX7_against_5 : decode cX7_against 5 = .ok (.iaload, 1) := by decide +kernel
theorem dX7_against_6 : decode cX7_against 6 = .ok (.bipush (-9), 2) := by decide +kernel
theorem dX7_against_8 : decode cX7_against 8 = .ok (.if_icmp .eq 15, 3) := by decide +kernel
theorem dX7_against_11 : decode cX7_against 11 = .ok (.aload_n 0, 1) := by decide +kernel
theorem dX7_against_12 : decode cX7_against 12 = .ok (.getfield 9, 3) := by decide +kernel
theorem dX7_against_15 : decode cX7_against 15 = .ok (.iload_n 1, 1) := by decide +kernel
theorem dX7_against_16 : decode cX7_against 16 = .ok (.iaload, 1) := by decide +kernel
theorem dX7_against_17 : decode cX7_against 17 = .ok (.iload_n 2, 1) := by decide +kernel
theorem dX7_against_18 : decode cX7_against 18 = .ok (.if_icmp .eq 5, 3) := by decide +kernel
theorem dX7_against_21 : decode cX7_against 21 = .ok (.iconst 2, 1) := by decide +kernel
theorem dX7_against_22 : decode cX7_against 22 = .ok (.ireturn, 1) := by decide +kernel
theorem dX7_against_23 : decode cX7_against 23 = .ok (.aload_n 0, 1) := by decide +kernel
theorem dX7_against_24 : decode cX7_against 24 = .ok (.getfield 9, 3) := by decide +kernel
theorem dX7_against_27 : decode cX7_against 27 = .ok (.iload_n 1, 1) := by decide +kernel
theorem dX7_against_28 : decode cX7_against 28 = .ok (.iaload, 1) := by decide +kernel
theorem dX7_against_29 : decode cX7_against 29 = .ok (.bipush (-9), 2) := by decide +kernel
theorem dX7_against_31 : decode cX7_against 31 = .ok (.if_icmp .ne 5, 3) := by decide +kernel
theorem dX7_against_34 : decode cX7_against 34 = .ok (.iconst 1, 1) := by decide +kernel
theorem dX7_against_35 : decode cX7_against 35 = .ok (.ireturn, 1) := by decide +kernel
theorem dX7_against_36 : decode cX7_against 36 = .ok (.iload 4, 2) := by decide +kernel
theorem dX7_against_38 : decode cX7_against 38 = .ok (.ifCond .ge 5, 3) := by decide +kernel
theorem dX7_against_41 : decode cX7_against 41 = .ok (.iconst 4, 1) := by decide +kernel
theorem dX7_against_42 : decode cX7_against 42 = .ok (.ireturn, 1) := by decide +kernel
theorem dX7_against_43 : decode cX7_against 43 = .ok (.iload_n 3, 1) := by decide +kernel
theorem dX7_against_44 : decode cX7_against 44 = .ok (.ifCond .lt 26, 3) := by decide +kernel
theorem dX7_against_47 : decode cX7_against 47 = .ok (.iload_n 3, 1) := by decide +kernel
theorem dX7_against_48 : decode cX7_against 48 = .ok (.aload_n 0, 1) := by decide +kernel
theorem dX7_against_49 : decode cX7_against 49 = .ok (.getfield 13, 3) := by decide +kernel
theorem dX7_against_52 : decode cX7_against 52 = .ok (.iload_n 1, 1) := by decide +kernel
theorem dX7_against_53 : decode cX7_against 53 = .ok (.iaload, 1) := by decide +kernel
theorem dX7_against_54 : decode cX7_against 54 = .ok (.if_icmp .gt 16, 3) := by decide +kernel
theorem dX7_against_57 : decode cX7_against 57 = .ok (.iload 4, 2) := by decide +kernel
theorem dX7_against_59 : decode cX7_against 59 = .ok (.aload_n 0, 1) := by decide +kernel
theorem dX7_against_60 : decode cX7_against 60 = .ok (.getfield 13, 3) := by decide +kernel
theorem dX7_against_63 : decode cX7_against 63 = .ok (.iload_n 1, 1) := by decide +kernel
theorem dX7_against_64 : decode cX7_against 64 = .ok (.iaload, 1) := by decide +kernel
theorem dX7_against_65 : decode cX7_against 65 = .ok (.iload_n 3, 1) := by decide +kernel
theorem dX7_against_66 : decode cX7_against 66 = .ok (.isub, 1) := by decide +kernel
theorem dX7_against_67 : decode cX7_against 67 = .ok (.if_icmp .le 7, 3) := by decide +kernel
theorem dX7_against_70 : decode cX7_against 70 = .ok (.iconst 3, 1) := by decide +kernel
theorem dX7_against_71 : decode cX7_against 71 = .ok (.goto 4, 3) := by decide +kernel
theorem dX7_against_74 : decode cX7_against 74 = .ok (.iconst 0, 1) := by decide +kernel
theorem dX7_against_75 : decode cX7_against 75 = .ok (.ireturn, 1) := by decide +kernel
theorem dX7_isCell_0 : decode cX7_isCell 0 = .ok (.iload_n 1, 1) := by decide +kernel
theorem dX7_isCell_1 : decode cX7_isCell 1 = .ok (.ifCond .lt 15, 3) := by decide +kernel
theorem dX7_isCell_4 : decode cX7_isCell 4 = .ok (.iload_n 1, 1) := by decide +kernel
theorem dX7_isCell_5 : decode cX7_isCell 5 = .ok (.aload_n 0, 1) := by decide +kernel
theorem dX7_isCell_6 : decode cX7_isCell 6 = .ok (.getfield 69, 3) := by decide +kernel
theorem dX7_isCell_9 : decode cX7_isCell 9 = .ok (.if_icmp .ge 7, 3) := by decide +kernel
theorem dX7_isCell_12 : decode cX7_isCell 12 = .ok (.iconst 1, 1) := by decide +kernel
theorem dX7_isCell_13 : decode cX7_isCell 13 = .ok (.goto 4, 3) := by decide +kernel
theorem dX7_isCell_16 : decode cX7_isCell 16 = .ok (.iconst 0, 1) := by decide +kernel
theorem dX7_isCell_17 : decode cX7_isCell 17 = .ok (.ireturn, 1) := by decide +kernel
theorem dX7_isOf_0 : decode cX7_isOf 0 = .ok (.iload_n 0, 1) := by decide +kernel
theorem dX7_isOf_1 : decode cX7_isOf 1 = .ok (.iload_n 1, 1) := by decide +kernel
theorem dX7_isOf_2 : decode cX7_isOf 2 = .ok (.ishr, 1) := by decide +kernel
theorem dX7_isOf_3 : decode cX7_isOf 3 = .ok (.iconst 1, 1) := by decide +kernel
theorem dX7_isOf_4 : decode cX7_isOf 4 = .ok (.iand, 1) := by decide +kernel
theorem dX7_isOf_5 : decode cX7_isOf 5 = .ok (.iconst 1, 1) := by decide +kernel
theorem dX7_isOf_6 : decode cX7_isOf 6 = .ok (.if_icmp .ne 7, 3) := by decide +kernel
theorem dX7_isOf_9 : decode cX7_isOf 9 = .ok (.iconst 1, 1) := by decide +kernel
theorem dX7_isOf_10 : decode cX7_isOf 10 = .ok (.goto 4, 3) := by decide +kernel
theorem dX7_isOf_13 : decode cX7_isOf 13 = .ok (.iconst 0, 1) := by decide +kernel
theorem dX7_isOf_14 : decode cX7_isOf 14 = .ok (.ireturn, 1) := by decide +kernel
theorem dX7_size_0 : decode cX7_size 0 = .ok (.iconst 0, 1) := by decide +kernel
theorem dX7_size_1 : decode cX7_size 1 = .ok (.istore_n 1, 1) := by decide +kernel
theorem dX7_size_2 : decode cX7_size 2 = .ok (.iload_n 0, 1) := by decide +kernel
theorem dX7_size_3 : decode cX7_size 3 = .ok (.istore_n 2, 1) := by decide +kernel
theorem dX7_size_4 : decode cX7_size 4 = .ok (.iload_n 2, 1) := by decide +kernel
theorem dX7_size_5 : decode cX7_size 5 = .ok (.ifCond .le 16, 3) := by decide +kernel
theorem dX7_size_8 : decode cX7_size 8 = .ok (.iload_n 1, 1) := by decide +kernel
theorem dX7_size_9 : decode cX7_size 9 = .ok (.iload_n 2, 1) := by decide +kernel
theorem dX7_size_10 : decode cX7_size 10 = .ok (.iconst 1, 1) := by decide +kernel
theorem dX7_size_11 : decode cX7_size 11 = .ok (.iand, 1) := by decide +kernel
theorem dX7_size_12 : decode cX7_size 12 = .ok (.iadd, 1) := by decide +kernel
theorem dX7_size_13 : decode cX7_size 13 = .ok (.istore_n 1, 1) := by decide +kernel
theorem dX7_size_14 : decode cX7_size 14 = .ok (.iload_n 2, 1) := by decide +kernel
theorem dX7_size_15 : decode cX7_size 15 = .ok (.iconst 1, 1) := by decide +kernel
theorem dX7_size_16 : decode cX7_size 16 = .ok (.ishr, 1) := by decide +kernel
theorem dX7_size_17 : decode cX7_size 17 = .ok (.istore_n 2, 1) := by decide +kernel
theorem dX7_size_18 : decode cX7_size 18 = .ok (.goto (-14), 3) := by decide +kernel
theorem dX7_size_21 : decode cX7_size 21 = .ok (.iload_n 1, 1) := by decide +kernel
theorem dX7_size_22 : decode cX7_size 22 = .ok (.ireturn, 1) := by decide +kernel
theorem dX7_isSign_0 : decode cX7_isSign 0 = .ok (.aload_n 0, 1) := by decide +kernel
theorem dX7_isSign_1 : decode cX7_isSign 1 = .ok (.getfield 72, 3) := by decide +kernel
theorem dX7_isSign_4 : decode cX7_isSign 4 = .ok (.iload_n 1, 1) := by decide +kernel
theorem dX7_isSign_5 : decode cX7_isSign 5 = .ok (.if_icmp .ge 16, 3) := by decide +kernel
theorem dX7_isSign_8 : decode cX7_isSign 8 = .ok (.aload_n 0, 1) := by decide +kernel
theorem dX7_isSign_9 : decode cX7_isSign 9 = .ok (.getfield 16, 3) := by decide +kernel
theorem dX7_isSign_12 : decode cX7_isSign 12 = .ok (.aload_n 0, 1) := by decide +kernel
theorem dX7_isSign_13 : decode cX7_isSign 13 = .ok (.getfield 72, 3) := by decide +kernel
theorem dX7_isSign_16 : decode cX7_isSign 16 = .ok (.iaload, 1) := by decide +kernel
theorem dX7_isSign_17 : decode cX7_isSign 17 = .ok (.iload_n 2, 1) := by decide +kernel
theorem dX7_isSign_18 : decode cX7_isSign 18 = .ok (.if_icmp .eq 5, 3) := by decide +kernel
theorem dX7_isSign_21 : decode cX7_isSign 21 = .ok (.iconst 0, 1) := by decide +kernel
theorem dX7_isSign_22 : decode cX7_isSign 22 = .ok (.ireturn, 1) := by decide +kernel
theorem dX7_isSign_23 : decode cX7_isSign 23 = .ok (.aload_n 0, 1) := by decide +kernel
theorem dX7_isSign_24 : decode cX7_isSign 24 = .ok (.dup, 1) := by decide +kernel
theorem dX7_isSign_25 : decode cX7_isSign 25 = .ok (.getfield 72, 3) := by decide +kernel
theorem dX7_isSign_28 : decode cX7_isSign 28 = .ok (.iconst 1, 1) := by decide +kernel
theorem dX7_isSign_29 : decode cX7_isSign 29 = .ok (.iadd, 1) := by decide +kernel
theorem dX7_isSign_30 : decode cX7_isSign 30 = .ok (.putfield 72, 3) := by decide +kernel
theorem dX7_isSign_33 : decode cX7_isSign 33 = .ok (.iconst 1, 1) := by decide +kernel
theorem dX7_isSign_34 : decode cX7_isSign 34 = .ok (.ireturn, 1) := by decide +kernel
theorem dX7_circuit_0 : decode cX7_circuit 0 = .ok (.aload_n 0, 1) := by decide +kernel
theorem dX7_circuit_1 : decode cX7_circuit 1 = .ok (.iconst 0, 1) := by decide +kernel
theorem dX7_circuit_2 : decode cX7_circuit 2 = .ok (.putfield 60, 3) := by decide +kernel
theorem dX7_circuit_5 : decode cX7_circuit 5 = .ok (.iload_n 1, 1) := by decide +kernel
theorem dX7_circuit_6 : decode cX7_circuit 6 = .ok (.invokestatic 75, 3) := by decide +kernel
theorem dX7_circuit_9 : decode cX7_circuit 9 = .ok (.ifCond .ne 5, 3) := by decide +kernel
theorem dX7_circuit_12 : decode cX7_circuit 12 = .ok (.iconst (-1), 1) := by decide +kernel
theorem dX7_circuit_13 : decode cX7_circuit 13 = .ok (.ireturn, 1) := by decide +kernel
theorem dX7_circuit_14 : decode cX7_circuit 14 = .ok (.iload_n 2, 1) := by decide +kernel
theorem dX7_circuit_15 : decode cX7_circuit 15 = .ok (.invokestatic 79, 3) := by decide +kernel
theorem dX7_circuit_18 : decode cX7_circuit 18 = .ok (.ifCond .ne 6, 3) := by decide +kernel
theorem dX7_circuit_21 : decode cX7_circuit 21 = .ok (.bipush (-2), 2) := by decide +kernel
theorem dX7_circuit_23 : decode cX7_circuit 23 = .ok (.ireturn, 1) := by decide +kernel
theorem dX7_circuit_24 : decode cX7_circuit 24 = .ok (.aload_n 0, 1) := by decide +kernel
theorem dX7_circuit_25 : decode cX7_circuit 25 = .ok (.iload_n 1, 1) := by decide +kernel
theorem dX7_circuit_26 : decode cX7_circuit 26 = .ok (.iload_n 2, 1) := by decide +kernel
theorem dX7_circuit_27 : decode cX7_circuit 27 = .ok (.iload_n 3, 1) := by decide +kernel
theorem dX7_circuit_28 : decode cX7_circuit 28 = .ok (.iload 4, 2) := by decide +kernel
theorem dX7_circuit_30 : decode cX7_circuit 30 = .ok (.invokevirtual 82, 3) := by decide +kernel
theorem dX7_circuit_33 : decode cX7_circuit 33 = .ok (.istore 5, 2) := by decide +kernel
theorem dX7_circuit_35 : decode cX7_circuit 35 = .ok (.iload 5, 2) := by decide +kernel
theorem dX7_circuit_37 : decode cX7_circuit 37 = .ok (.ifCond .eq 10, 3) := by decide +kernel
theorem dX7_circuit_40 : decode cX7_circuit 40 = .ok (.aload_n 0, 1) := by decide +kernel
theorem dX7_circuit_41 : decode cX7_circuit 41 = .ok (.iload 5, 2) := by decide +kernel
theorem dX7_circuit_43 : decode cX7_circuit 43 = .ok (.invokevirtual 86, 3) := by decide +kernel
theorem dX7_circuit_46 : decode cX7_circuit 46 = .ok (.ireturn, 1) := by decide +kernel
theorem dX7_circuit_47 : decode cX7_circuit 47 = .ok (.bipush 60, 2) := by decide +kernel
theorem dX7_circuit_49 : decode cX7_circuit 49 = .ok (.iload_n 1, 1) := by decide +kernel
theorem dX7_circuit_50 : decode cX7_circuit 50 = .ok (.imul, 1) := by decide +kernel
theorem dX7_circuit_51 : decode cX7_circuit 51 = .ok (.iload_n 3, 1) := by decide +kernel
theorem dX7_circuit_52 : decode cX7_circuit 52 = .ok (.iadd, 1) := by decide +kernel
theorem dX7_circuit_53 : decode cX7_circuit 53 = .ok (.istore 6, 2) := by decide +kernel
theorem dX7_circuit_55 : decode cX7_circuit 55 = .ok (.aload_n 0, 1) := by decide +kernel
theorem dX7_circuit_56 : decode cX7_circuit 56 = .ok (.iload 6, 2) := by decide +kernel
theorem dX7_circuit_58 : decode cX7_circuit 58 = .ok (.putfield 72, 3) := by decide +kernel
theorem dX7_circuit_61 : decode cX7_circuit 61 = .ok (.aload_n 0, 1) := by decide +kernel
theorem dX7_circuit_62 : decode cX7_circuit 62 = .ok (.iload 6, 2) := by decide +kernel
theorem dX7_circuit_64 : decode cX7_circuit 64 = .ok (.iload 4, 2) := by decide +kernel
theorem dX7_circuit_66 : decode cX7_circuit 66 = .ok (.iadd, 1) := by decide +kernel
theorem dX7_circuit_67 : decode cX7_circuit 67 = .ok (.invokevirtual 90, 3) := by decide +kernel
theorem dX7_circuit_70 : decode cX7_circuit 70 = .ok (.ifCond .ne 14, 3) := by decide +kernel
theorem dX7_circuit_73 : decode cX7_circuit 73 = .ok (.bipush (-100), 2) := by decide +kernel
theorem dX7_circuit_75 : decode cX7_circuit 75 = .ok (.aload_n 0, 1) := by decide +kernel
theorem dX7_circuit_76 : decode cX7_circuit 76 = .ok (.getfield 72, 3) := by decide +kernel
theorem dX7_circuit_79 : decode cX7_circuit 79 = .ok (.iload 6, 2) := by decide +kernel
theorem dX7_circuit_81 : decode cX7_circuit 81 = .ok (.isub, 1) := by decide +kernel
theorem dX7_circuit_82 : decode cX7_circuit 82 = .ok (.isub, 1) := by decide +kernel
theorem dX7_circuit_83 : decode cX7_circuit 83 = .ok (.ireturn, 1) := by decide +kernel
theorem dX7_circuit_84 : decode cX7_circuit 84 = .ok (.aload_n 0, 1) := by decide +kernel
theorem dX7_circuit_85 : decode cX7_circuit 85 = .ok (.aload_n 0, 1) := by decide +kernel
theorem dX7_circuit_86 : decode cX7_circuit 86 = .ok (.getfield 93, 3) := by decide +kernel
theorem dX7_circuit_89 : decode cX7_circuit 89 = .ok (.putfield 69, 3) := by decide +kernel
theorem dX7_circuit_92 : decode cX7_circuit 92 = .ok (.aload_n 0, 1) := by decide +kernel
theorem dX7_circuit_93 : decode cX7_circuit 93 = .ok (.aload_n 0, 1) := by decide +kernel
theorem dX7_circuit_94 : decode cX7_circuit 94 = .ok (.getfield 96, 3) := by decide +kernel
theorem dX7_circuit_97 : decode cX7_circuit 97 = .ok (.putfield 99, 3) := by decide +kernel
theorem dX7_circuit_100 : decode cX7_circuit 100 = .ok (.aload_n 0, 1) := by decide +kernel
theorem dX7_circuit_101 : decode cX7_circuit 101 = .ok (.aload_n 0, 1) := by decide +kernel
theorem dX7_circuit_102 : decode cX7_circuit 102 = .ok (.getfield 102, 3) := by decide +kernel
theorem dX7_circuit_105 : decode cX7_circuit 105 = .ok (.putfield 105, 3) := by decide +kernel
theorem dX7_circuit_108 : decode cX7_circuit 108 = .ok (.aload_n 0, 1) := by decide +kernel
theorem dX7_circuit_109 : decode cX7_circuit 109 = .ok (.aload_n 0, 1) := by decide +kernel
theorem dX7_circuit_110 : decode cX7_circuit 110 = .ok (.getfield 108, 3) := by decide +kernel
theorem dX7_circuit_113 : decode cX7_circuit 113 = .ok (.putfield 111, 3) := by decide +kernel
theorem dX7_circuit_116 : decode cX7_circuit 116 = .ok (.iconst 0, 1) := by decide +kernel
theorem dX7_circuit_117 : decode cX7_circuit 117 = .ok (.istore 7, 2) := by decide +kernel
theorem dX7_circuit_119 : decode cX7_circuit 119 = .ok (.iload 7, 2) := by decide +kernel
theorem dX7_circuit_121 : decode cX7_circuit 121 = .ok (.aload_n 0, 1) := by decide +kernel
theorem dX7_circuit_122 : decode cX7_circuit 122 = .ok (.getfield 69, 3) := by decide +kernel
theorem dX7_circuit_125 : decode cX7_circuit 125 = .ok (.if_icmp .ge 37, 3) := by decide +kernel
theorem dX7_circuit_128 : decode cX7_circuit 128 = .ok (.aload_n 0, 1) := by decide +kernel
theorem dX7_circuit_129 : decode cX7_circuit 129 = .ok (.getfield 30, 3) := by decide +kernel
theorem dX7_circuit_132 : decode cX7_circuit 132 = .ok (.iload 7, 2) := by decide +kernel
theorem dX7_circuit_134 : decode cX7_circuit 134 = .ok (.aload_n 0, 1) := by decide +kernel
theorem dX7_circuit_135 : decode cX7_circuit 135 = .ok (.getfield 39, 3) := by decide +kernel
theorem dX7_circuit_138 : decode cX7_circuit 138 = .ok (.iload 7, 2) := by decide +kernel
theorem dX7_circuit_140 : decode cX7_circuit 140 = .ok (.iaload, 1) := by decide +kernel
theorem dX7_circuit_141 : decode cX7_circuit 141 = .ok (.iastore, 1) := by decide +kernel
theorem dX7_circuit_142 : decode cX7_circuit 142 = .ok (.aload_n 0, 1) := by decide +kernel
theorem dX7_circuit_143 : decode cX7_circuit 143 = .ok (.getfield 33, 3) := by decide +kernel
theorem dX7_circuit_146 : decode cX7_circuit 146 = .ok (.iload 7, 2) := by decide +kernel
theorem dX7_circuit_148 : decode cX7_circuit 148 = .ok (.aload_n 0, 1) := by decide +kernel
theorem dX7_circuit_149 : decode cX7_circuit 149 = .ok (.getfield 42, 3) := by decide +kernel
theorem dX7_circuit_152 : decode cX7_circuit 152 = .ok (.iload 7, 2) := by decide +kernel
theorem dX7_circuit_154 : decode cX7_circuit 154 = .ok (.iaload, 1) := by decide +kernel
theorem dX7_circuit_155 : decode cX7_circuit 155 = .ok (.iastore, 1) := by decide +kernel
theorem dX7_circuit_156 : decode cX7_circuit 156 = .ok (.iinc 7 1, 3) := by decide +kernel
theorem dX7_circuit_159 : decode cX7_circuit 159 = .ok (.goto (-40), 3) := by decide +kernel
theorem dX7_circuit_162 : decode cX7_circuit 162 = .ok (.iconst 0, 1) := by decide +kernel
theorem dX7_circuit_163 : decode cX7_circuit 163 = .ok (.istore 7, 2) := by decide +kernel
theorem dX7_circuit_165 : decode cX7_circuit 165 = .ok (.iload 7, 2) := by decide +kernel
theorem dX7_circuit_167 : decode cX7_circuit 167 = .ok (.aload_n 0, 1) := by decide +kernel
theorem dX7_circuit_168 : decode cX7_circuit 168 = .ok (.getfield 99, 3) := by decide +kernel
theorem dX7_circuit_171 : decode cX7_circuit 171 = .ok (.if_icmp .ge 23, 3) := by decide +kernel
theorem dX7_circuit_174 : decode cX7_circuit 174 = .ok (.aload_n 0, 1) := by decide +kernel
theorem dX7_circuit_175 : decode cX7_circuit 175 = .ok (.getfield 36, 3) := by decide +kernel
theorem dX7_circuit_178 : decode cX7_circuit 178 = .ok (.iload 7, 2) := by decide +kernel
theorem dX7_circuit_180 : decode cX7_circuit 180 = .ok (.aload_n 0, 1) := by decide +kernel
theorem dX7_circuit_181 : decode cX7_circuit 181 = .ok (.getfield 45, 3) := by decide +kernel
theorem dX7_circuit_184 : decode cX7_circuit 184 = .ok (.iload 7, 2) := by decide +kernel
theorem dX7_circuit_186 : decode cX7_circuit 186 = .ok (.iaload, 1) := by decide +kernel
theorem dX7_circuit_187 : decode cX7_circuit 187 = .ok (.iastore, 1) := by decide +kernel
theorem dX7_circuit_188 : decode cX7_circuit 188 = .ok (.iinc 7 1, 3) := by decide +kernel
theorem dX7_circuit_191 : decode cX7_circuit 191 = .ok (.goto (-26), 3) := by decide +kernel
theorem dX7_circuit_194 : decode cX7_circuit 194 = .ok (.aload_n 0, 1) := by decide +kernel
theorem dX7_circuit_195 : decode cX7_circuit 195 = .ok (.ldc 19, 2) := by decide +kernel
theorem dX7_circuit_197 : decode cX7_circuit 197 = .ok (.putfield 20, 3) := by decide +kernel
theorem dX7_circuit_200 : decode cX7_circuit 200 = .ok (.aload_n 0, 1) := by decide +kernel
theorem dX7_circuit_201 : decode cX7_circuit 201 = .ok (.bipush (-9), 2) := by decide +kernel
theorem dX7_circuit_203 : decode cX7_circuit 203 = .ok (.putfield 24, 3) := by decide +kernel
theorem dX7_circuit_206 : decode cX7_circuit 206 = .ok (.aload_n 0, 1) := by decide +kernel
theorem dX7_circuit_207 : decode cX7_circuit 207 = .ok (.iconst 0, 1) := by decide +kernel
theorem dX7_circuit_208 : decode cX7_circuit 208 = .ok (.putfield 114, 3) := by decide +kernel
theorem dX7_circuit_211 : decode cX7_circuit 211 = .ok (.aload_n 0, 1) := by decide +kernel
theorem dX7_circuit_212 : decode cX7_circuit 212 = .ok (.iconst 0, 1) := by decide +kernel
theorem dX7_circuit_213 : decode cX7_circuit 213 = .ok (.putfield 117, 3) := by decide +kernel
theorem dX7_circuit_216 : decode cX7_circuit 216 = .ok (.aload_n 0, 1) := by decide +kernel
theorem dX7_circuit_217 : decode cX7_circuit 217 = .ok (.getfield 69, 3) := by decide +kernel
theorem dX7_circuit_220 : decode cX7_circuit 220 = .ok (.ireturn, 1) := by decide +kernel
theorem dX7_readAll_0 : decode cX7_readAll 0 = .ok (.aload_n 0, 1) := by decide +kernel
theorem dX7_readAll_1 : decode cX7_readAll 1 = .ok (.iconst 0, 1) := by decide +kernel
theorem dX7_readAll_2 : decode cX7_readAll 2 = .ok (.putfield 93, 3) := by decide +kernel
theorem dX7_readAll_5 : decode cX7_readAll 5 = .ok (.aload_n 0, 1) := by decide +kernel
theorem dX7_readAll_6 : decode cX7_readAll 6 = .ok (.iconst 0, 1) := by decide +kernel
theorem dX7_readAll_7 : decode cX7_readAll 7 = .ok (.putfield 96, 3) := by decide +kernel
theorem dX7_readAll_10 : decode cX7_readAll 10 = .ok (.aload_n 0, 1) := by decide +kernel
theorem dX7_readAll_11 : decode cX7_readAll 11 = .ok (.iconst 0, 1) := by decide +kernel
theorem dX7_readAll_12 : decode cX7_readAll 12 = .ok (.putfield 102, 3) := by decide +kernel
theorem dX7_readAll_15 : decode cX7_readAll 15 = .ok (.aload_n 0, 1) := by decide +kernel
theorem dX7_readAll_16 : decode cX7_readAll 16 = .ok (.iconst 0, 1) := by decide +kernel
theorem dX7_readAll_17 : decode cX7_readAll 17 = .ok (.putfield 108, 3) := by decide +kernel
theorem dX7_readAll_20 : decode cX7_readAll 20 = .ok (.aload_n 0, 1) := by decide +kernel
theorem dX7_readAll_21 : decode cX7_readAll 21 = .ok (.iload_n 1, 1) := by decide +kernel
theorem dX7_readAll_22 : decode cX7_readAll 22 = .ok (.bipush 104, 2) := by decide +kernel
theorem dX7_readAll_24 : decode cX7_readAll 24 = .ok (.invokevirtual 120, 3) := by decide +kernel
theorem dX7_readAll_27 : decode cX7_readAll 27 = .ok (.ifCond .ne 5, 3) := by decide +kernel
theorem dX7_readAll_30 : decode cX7_readAll 30 = .ok (.iconst 0, 1) := by decide +kernel
theorem dX7_readAll_31 : decode cX7_readAll 31 = .ok (.ireturn, 1) := by decide +kernel
theorem dX7_readAll_32 : decode cX7_readAll 32 = .ok (.aload_n 0, 1) := by decide +kernel
theorem dX7_readAll_33 : decode cX7_readAll 33 = .ok (.getfield 93, 3) := by decide +kernel
theorem dX7_readAll_36 : decode cX7_readAll 36 = .ok (.ifCond .eq 34, 3) := by decide +kernel
theorem dX7_readAll_39 : decode cX7_readAll 39 = .ok (.aload_n 0, 1) := by decide +kernel
theorem dX7_readAll_40 : decode cX7_readAll 40 = .ok (.getfield 93, 3) := by decide +kernel
theorem dX7_readAll_43 : decode cX7_readAll 43 = .ok (.bipush 7, 2) := by decide +kernel
theorem dX7_readAll_45 : decode cX7_readAll 45 = .ok (.if_icmp .ge 45, 3) := by decide +kernel
theorem dX7_readAll_48 : decode cX7_readAll 48 = .ok (.aload_n 0, 1) := by decide +kernel
theorem dX7_readAll_49 : decode cX7_readAll 49 = .ok (.getfield 72, 3) := by decide +kernel
theorem dX7_readAll_52 : decode cX7_readAll 52 = .ok (.iload_n 1, 1) := by decide +kernel
theorem dX7_readAll_53 : decode cX7_readAll 53 = .ok (.if_icmp .ge 37, 3) := by decide +kernel
theorem dX7_readAll_56 : decode cX7_readAll 56 = .ok (.aload_n 0, 1) := by decide +kernel
theorem dX7_readAll_57 : decode cX7_readAll 57 = .ok (.getfield 16, 3) := by decide +kernel
theorem dX7_readAll_60 : decode cX7_readAll 60 = .ok (.aload_n 0, 1) := by decide +kernel
theorem dX7_readAll_61 : decode cX7_readAll 61 = .ok (.getfield 72, 3) := by decide +kernel
theorem dX7_readAll_64 : decode cX7_readAll 64 = .ok (.iaload, 1) := by decide +kernel
theorem dX7_readAll_65 : decode cX7_readAll 65 = .ok (.bipush 59, 2) := by decide +kernel
theorem dX7_readAll_67 : decode cX7_readAll 67 = .ok (.if_icmp .ne 23, 3) := by decide +kernel
theorem dX7_readAll_70 : decode cX7_readAll 70 = .ok (.aload_n 0, 1) := by decide +kernel
theorem dX7_readAll_71 : decode cX7_readAll 71 = .ok (.iload_n 1, 1) := by decide +kernel
theorem dX7_readAll_72 : decode cX7_readAll 72 = .ok (.bipush 59, 2) := by decide +kernel
theorem dX7_readAll_74 : decode cX7_readAll 74 = .ok (.invokevirtual 120, 3) := by decide +kernel
theorem dX7_readAll_77 : decode cX7_readAll 77 = .ok (.ifCond .eq 11, 3) := by decide +kernel
theorem dX7_readAll_80 : decode cX7_readAll 80 = .ok (.aload_n 0, 1) := by decide +kernel
theorem dX7_readAll_81 : decode cX7_readAll 81 = .ok (.iload_n 1, 1) := by decide +kernel
theorem dX7_readAll_82 : decode cX7_readAll 82 = .ok (.invokevirtual 124, 3) := by decide +kernel
theorem dX7_readAll_85 : decode cX7_readAll 85 = .ok (.ifCond .ne (-53), 3) := by decide +kernel
theorem dX7_readAll_88 : decode cX7_readAll 88 = .ok (.iconst 0, 1) := by decide +kernel
theorem dX7_readAll_89 : decode cX7_readAll 89 = .ok (.ireturn, 1) := by decide +kernel
theorem dX7_readAll_90 : decode cX7_readAll 90 = .ok (.aload_n 0, 1) := by decide +kernel
theorem dX7_readAll_91 : decode cX7_readAll 91 = .ok (.getfield 96, 3) := by decide +kernel
theorem dX7_readAll_94 : decode cX7_readAll 94 = .ok (.bipush 6, 2) := by decide +kernel
theorem dX7_readAll_96 : decode cX7_readAll 96 = .ok (.if_icmp .ge 31, 3) := by decide +kernel
theorem dX7_readAll_99 : decode cX7_readAll 99 = .ok (.aload_n 0, 1) := by decide +kernel
theorem dX7_readAll_100 : decode cX7_readAll 100 = .ok (.getfield 72, 3) := by decide +kernel
theorem dX7_readAll_103 : decode cX7_readAll 103 = .ok (.iload_n 1, 1) := by decide +kernel
theorem dX7_readAll_104 : decode cX7_readAll 104 = .ok (.if_icmp .ge 23, 3) := by decide +kernel
theorem dX7_readAll_107 : decode cX7_readAll 107 = .ok (.aload_n 0, 1) := by decide +kernel
theorem dX7_readAll_108 : decode cX7_readAll 108 = .ok (.iload_n 1, 1) := by decide +kernel
theorem dX7_readAll_109 : decode cX7_readAll 109 = .ok (.bipush 44, 2) := by decide +kernel
theorem dX7_readAll_111 : decode cX7_readAll 111 = .ok (.invokevirtual 120, 3) := by decide +kernel
theorem dX7_readAll_114 : decode cX7_readAll 114 = .ok (.ifCond .eq 11, 3) := by decide +kernel
theorem dX7_readAll_117 : decode cX7_readAll 117 = .ok (.aload_n 0, 1) := by decide +kernel
theorem dX7_readAll_118 : decode cX7_readAll 118 = .ok (.iload_n 1, 1) := by decide +kernel
theorem dX7_readAll_119 : decode cX7_readAll 119 = .ok (.invokevirtual 127, 3) := by decide +kernel
theorem dX7_readAll_122 : decode cX7_readAll 122 = .ok (.ifCond .ne (-32), 3) := by decide +kernel
theorem dX7_readAll_125 : decode cX7_readAll 125 = .ok (.iconst 0, 1) := by decide +kernel
theorem dX7_readAll_126 : decode cX7_readAll 126 = .ok (.ireturn, 1) := by decide +kernel
theorem dX7_readAll_127 : decode cX7_readAll 127 = .ok (.aload_n 0, 1) := by decide +kernel
theorem dX7_readAll_128 : decode cX7_readAll 128 = .ok (.getfield 72, 3) := by decide +kernel
theorem dX7_readAll_131 : decode cX7_readAll 131 = .ok (.iload_n 1, 1) := by decide +kernel
theorem dX7_readAll_132 : decode cX7_readAll 132 = .ok (.if_icmp .ne 7, 3) := by decide +kernel
theorem dX7_readAll_135 : decode cX7_readAll 135 = .ok (.iconst 1, 1) := by decide +kernel
theorem dX7_readAll_136 : decode cX7_readAll 136 = .ok (.goto 4, 3) := by decide +kernel
theorem dX7_readAll_139 : decode cX7_readAll 139 = .ok (.iconst 0, 1) := by decide +kernel
theorem dX7_readAll_140 : decode cX7_readAll 140 = .ok (.ireturn, 1) := by decide +kernel
theorem dX7_readCell_0 : decode cX7_readCell 0 = .ok (.aload_n 0, 1) := by decide +kernel
theorem dX7_readCell_1 : decode cX7_readCell 1 = .ok (.getfield 72, 3) := by decide +kernel
theorem dX7_readCell_4 : decode cX7_readCell 4 = .ok (.iload_n 1, 1) := by decide +kernel
theorem dX7_readCell_5 : decode cX7_readCell 5 = .ok (.if_icmp .ge 15, 3) := by decide +kernel
theorem dX7_readCell_8 : decode cX7_readCell 8 = .ok (.aload_n 0, 1) := by decide +kernel
theorem dX7_readCell_9 : decode cX7_readCell 9 = .ok (.getfield 16, 3) := by decide +kernel
theorem dX7_readCell_12 : decode cX7_readCell 12 = .ok (.aload_n 0, 1) := by decide +kernel
theorem dX7_readCell_13 : decode cX7_readCell 13 = .ok (.getfield 72, 3) := by decide +kernel
theorem dX7_readCell_16 : decode cX7_readCell 16 = .ok (.iaload, 1) := by decide +kernel
theorem dX7_readCell_17 : decode cX7_readCell 17 = .ok (.goto 4, 3) := by decide +kernel
theorem dX7_readCell_20 : decode cX7_readCell 20 = .ok (.iconst 0, 1) := by decide +kernel
theorem dX7_readCell_21 : decode cX7_readCell 21 = .ok (.istore_n 2, 1) := by decide +kernel
theorem dX7_readCell_22 : decode cX7_readCell 22 = .ok (.aload_n 0, 1) := by decide +kernel
theorem dX7_readCell_23 : decode cX7_readCell 23 = .ok (.getfield 39, 3) := by decide +kernel
theorem dX7_readCell_26 : decode cX7_readCell 26 = .ok (.aload_n 0, 1) := by decide +kernel
theorem dX7_readCell_27 : decode cX7_readCell 27 = .ok (.getfield 93, 3) := by decide +kernel
theorem dX7_readCell_30 : decode cX7_readCell 30 = .ok (.iload_n 2, 1) := by decide +kernel
theorem dX7_readCell_31 : decode cX7_readCell 31 = .ok (.bipush 112, 2) := by decide +kernel
theorem dX7_readCell_33 : decode cX7_readCell 33 = .ok (.if_icmp .ne 7, 3) := by decide +kernel
theorem dX7_readCell_36 : decode cX7_readCell 36 = .ok (.iconst 0, 1) := by decide +kernel
theorem dX7_readCell_37 : decode cX7_readCell 37 = .ok (.goto 25, 3) := by decide +kernel
theorem dX7_readCell_40 : decode cX7_readCell 40 = .ok (.iload_n 2, 1) := by decide +kernel
theorem dX7_readCell_41 : decode cX7_readCell 41 = .ok (.bipush 98, 2) := by decide +kernel
theorem dX7_readCell_43 : decode cX7_readCell 43 = .ok (.if_icmp .ne 7, 3) := by decide +kernel
theorem dX7_readCell_46 : decode cX7_readCell 46 = .ok (.iconst 1, 1) := by decide +kernel
theorem dX7_readCell_47 : decode cX7_readCell 47 = .ok (.goto 15, 3) := by decide +kernel
theorem dX7_readCell_50 : decode cX7_readCell 50 = .ok (.iload_n 2, 1) := by decide +kernel
theorem dX7_readCell_51 : decode cX7_readCell 51 = .ok (.bipush 100, 2) := by decide +kernel
theorem dX7_readCell_53 : decode cX7_readCell 53 = .ok (.if_icmp .ne 7, 3) := by decide +kernel
theorem dX7_readCell_56 : decode cX7_readCell 56 = .ok (.iconst 2, 1) := by decide +kernel
theorem dX7_readCell_57 : decode cX7_readCell 57 = .ok (.goto 5, 3) := by decide +kernel
theorem dX7_readCell_60 : decode cX7_readCell 60 = .ok (.bipush (-9), 2) := by decide +kernel
theorem dX7_readCell_62 : decode cX7_readCell 62 = .ok (.iastore, 1) := by decide +kernel
theorem dX7_readCell_63 : decode cX7_readCell 63 = .ok (.aload_n 0, 1) := by decide +kernel
theorem dX7_readCell_64 : decode cX7_readCell 64 = .ok (.getfield 39, 3) := by decide +kernel
theorem dX7_readCell_67 : decode cX7_readCell 67 = .ok (.aload_n 0, 1) := by decide +kernel
theorem dX7_readCell_68 : decode cX7_readCell 68 = .ok (.getfield 93, 3) := by decide +kernel
theorem dX7_readCell_71 : decode cX7_readCell 71 = .ok (.iaload, 1) := by decide +kernel
theorem dX7_readCell_72 : decode cX7_readCell 72 = .ok (.bipush (-9), 2) := by decide +kernel
