theorem dX8_beast_10 : decode cX8_beast 10 = .ok (.aload_n 0, 1) := by decide +kernel
theorem dX8_beast_11 : decode cX8_beast 11 = .ok (.invokevirtual 228, 3) := by decide +kernel
theorem dX8_beast_14 : decode cX8_beast 14 = .ok (.iload_n 2, 1) := by decide +kernel
theorem dX8_beast_15 : decode cX8_beast 15 = .ok (.tableswitch 65 0 3 #[29, 35, 42, 55], 29) := by decide +kernel
theorem dX8_beast_44 : decode cX8_beast 44 = .ok (.aload_n 0, 1) := by decide +kernel
theorem dX8_beast_45 : decode cX8_beast 45 = .ok (.iload_n 1, 1) := by decide +kernel
theorem dX8_beast_46 : decode cX8_beast 46 = .ok (.invokevirtual 192, 3) := by decide +kernel
theorem dX8_beast_49 : decode cX8_beast 49 = .ok (.ireturn, 1) := by decide +kernel
theorem dX8_beast_50 : decode cX8_beast 50 = .ok (.aload_n 0, 1) := by decide +kernel
theorem dX8_beast_51 : decode cX8_beast 51 = .ok (.getfield 16, 3) := by decide +kernel
theorem dX8_beast_54 : decode cX8_beast 54 = .ok (.iload_n 1, 1) := by decide +kernel
theorem dX8_beast_55 : decode cX8_beast 55 = .ok (.iaload, 1) := by decide +kernel
theorem dX8_beast_56 : decode cX8_beast 56 = .ok (.ireturn, 1) := by decide +kernel
theorem dX8_beast_57 : decode cX8_beast 57 = .ok (.aload_n 0, 1) := by decide +kernel
theorem dX8_beast_58 : decode cX8_beast 58 = .ok (.getfield 22, 3) := by decide +kernel
theorem dX8_beast_61 : decode cX8_beast 61 = .ok (.bipush 37, 2) := by decide +kernel
theorem dX8_beast_63 : decode cX8_beast 63 = .ok (.iload_n 1, 1) := by decide +kernel
theorem dX8_beast_64 : decode cX8_beast 64 = .ok (.iadd, 1) := by decide +kernel
theorem dX8_beast_65 : decode cX8_beast 65 = .ok (.iaload, 1) := by decide +kernel
theorem dX8_beast_66 : decode cX8_beast 66 = .ok (.invokestatic 234, 3) := by decide +kernel
theorem dX8_beast_69 : decode cX8_beast 69 = .ok (.ireturn, 1) := by decide +kernel
theorem dX8_beast_70 : decode cX8_beast 70 = .ok (.aload_n 0, 1) := by decide +kernel
theorem dX8_beast_71 : decode cX8_beast 71 = .ok (.getfield 22, 3) := by decide +kernel
theorem dX8_beast_74 : decode cX8_beast 74 = .ok (.bipush 45, 2) := by decide +kernel
theorem dX8_beast_76 : decode cX8_beast 76 = .ok (.iload_n 1, 1) := by decide +kernel
theorem dX8_beast_77 : decode cX8_beast 77 = .ok (.iadd, 1) := by decide +kernel
theorem dX8_beast_78 : decode cX8_beast 78 = .ok (.iaload, 1) := by decide +kernel
theorem dX8_beast_79 : decode cX8_beast 79 = .ok (.ireturn, 1) := by decide +kernel
theorem dX8_beast_80 : decode cX8_beast 80 = .ok (.iconst (-1), 1) := by decide +kernel
theorem dX8_beast_81 : decode cX8_beast 81 = .ok (.ireturn, 1) := by decide +kernel
theorem dX8_looksAt_0 : decode cX8_looksAt 0 = .ok (.aload_n 0, 1) := by decide +kernel
theorem dX8_looksAt_1 : decode cX8_looksAt 1 = .ok (.iload_n 1, 1) := by decide +kernel
theorem dX8_looksAt_2 : decode cX8_looksAt 2 = .ok (.invokevirtual 231, 3) := by decide +kernel
theorem dX8_looksAt_5 : decode cX8_looksAt 5 = .ok (.ifCond .eq 12, 3) := by decide +kernel
theorem dX8_looksAt_8 : decode cX8_looksAt 8 = .ok (.iload_n 2, 1) := by decide +kernel
theorem dX8_looksAt_9 : decode cX8_looksAt 9 = .ok (.iconst 0, 1) := by decide +kernel
theorem dX8_looksAt_10 : decode cX8_looksAt 10 = .ok (.iconst 3, 1) := by decide +kernel
theorem dX8_looksAt_11 : decode cX8_looksAt 11 = .ok (.invokestatic 115, 3) := by decide +kernel
theorem dX8_looksAt_14 : decode cX8_looksAt 14 = .ok (.ifCond .ne 5, 3) := by decide +kernel
theorem dX8_looksAt_17 : decode cX8_looksAt 17 = .ok (.iconst (-1), 1) := by decide +kernel
theorem dX8_looksAt_18 : decode cX8_looksAt 18 = .ok (.ireturn, 1) := by decide +kernel
theorem dX8_looksAt_19 : decode cX8_looksAt 19 = .ok (.aload_n 0, 1) := by decide +kernel
theorem dX8_looksAt_20 : decode cX8_looksAt 20 = .ok (.getfield 22, 3) := by decide +kernel
theorem dX8_looksAt_23 : decode cX8_looksAt 23 = .ok (.bipush 37, 2) := by decide +kernel
theorem dX8_looksAt_25 : decode cX8_looksAt 25 = .ok (.iload_n 1, 1) := by decide +kernel
theorem dX8_looksAt_26 : decode cX8_looksAt 26 = .ok (.iadd, 1) := by decide +kernel
theorem dX8_looksAt_27 : decode cX8_looksAt 27 = .ok (.iaload, 1) := by decide +kernel
theorem dX8_looksAt_28 : decode cX8_looksAt 28 = .ok (.bipush 36, 2) := by decide +kernel
theorem dX8_looksAt_30 : decode cX8_looksAt 30 = .ok (.if_icmp .ne 6, 3) := by decide +kernel
theorem dX8_looksAt_33 : decode cX8_looksAt 33 = .ok (.bipush (-2), 2) := by decide +kernel
theorem dX8_looksAt_35 : decode cX8_looksAt 35 = .ok (.ireturn, 1) := by decide +kernel
theorem dX8_looksAt_36 : decode cX8_looksAt 36 = .ok (.aload_n 0, 1) := by decide +kernel
theorem dX8_looksAt_37 : decode cX8_looksAt 37 = .ok (.invokevirtual 228, 3) := by decide +kernel
theorem dX8_looksAt_40 : decode cX8_looksAt 40 = .ok (.iconst 0, 1) := by decide +kernel
theorem dX8_looksAt_41 : decode cX8_looksAt 41 = .ok (.ireturn, 1) := by decide +kernel
theorem dX8_goes_0 : decode cX8_goes 0 = .ok (.aload_n 0, 1) := by decide +kernel
theorem dX8_goes_1 : decode cX8_goes 1 = .ok (.iload_n 1, 1) := by decide +kernel
theorem dX8_goes_2 : decode cX8_goes 2 = .ok (.iload_n 2, 1) := by decide +kernel
theorem dX8_goes_3 : decode cX8_goes 3 = .ok (.invokevirtual 237, 3) := by decide +kernel
theorem dX8_goes_6 : decode cX8_goes 6 = .ok (.istore_n 3, 1) := by decide +kernel
theorem dX8_goes_7 : decode cX8_goes 7 = .ok (.iload_n 3, 1) := by decide +kernel
theorem dX8_goes_8 : decode cX8_goes 8 = .ok (.ifCond .ge 7, 3) := by decide +kernel
theorem dX8_goes_11 : decode cX8_goes 11 = .ok (.iload_n 3, 1) := by decide +kernel
theorem dX8_goes_12 : decode cX8_goes 12 = .ok (.goto 10, 3) := by decide +kernel
theorem dX8_goes_15 : decode cX8_goes 15 = .ok (.aload_n 0, 1) := by decide +kernel
theorem dX8_goes_16 : decode cX8_goes 16 = .ok (.iload_n 1, 1) := by decide +kernel
theorem dX8_goes_17 : decode cX8_goes 17 = .ok (.iload_n 2, 1) := by decide +kernel
theorem dX8_goes_18 : decode cX8_goes 18 = .ok (.iconst 1, 1) := by decide +kernel
theorem dX8_goes_19 : decode cX8_goes 19 = .ok (.invokevirtual 208, 3) := by decide +kernel
theorem dX8_goes_22 : decode cX8_goes 22 = .ok (.ireturn, 1) := by decide +kernel
theorem dX8_takes_0 : decode cX8_takes 0 = .ok (.aload_n 0, 1) := by decide +kernel
theorem dX8_takes_1 : decode cX8_takes 1 = .ok (.iload_n 1, 1) := by decide +kernel
theorem dX8_takes_2 : decode cX8_takes 2 = .ok (.iload_n 2, 1) := by decide +kernel
theorem dX8_takes_3 : decode cX8_takes 3 = .ok (.invokevirtual 237, 3) := by decide +kernel
theorem dX8_takes_6 : decode cX8_takes 6 = .ok (.istore_n 3, 1) := by decide +kernel
theorem dX8_takes_7 : decode cX8_takes 7 = .ok (.iload_n 3, 1) := by decide +kernel
theorem dX8_takes_8 : decode cX8_takes 8 = .ok (.ifCond .ge 5, 3) := by decide +kernel
theorem dX8_takes_11 : decode cX8_takes 11 = .ok (.iload_n 3, 1) := by decide +kernel
theorem dX8_takes_12 : decode cX8_takes 12 = .ok (.ireturn, 1) := by decide +kernel
theorem dX8_takes_13 : decode cX8_takes 13 = .ok (.aload_n 0, 1) := by decide +kernel
theorem dX8_takes_14 : decode cX8_takes 14 = .ok (.iload_n 1, 1) := by decide +kernel
theorem dX8_takes_15 : decode cX8_takes 15 = .ok (.iload_n 2, 1) := by decide +kernel
theorem dX8_takes_16 : decode cX8_takes 16 = .ok (.iconst 1, 1) := by decide +kernel
theorem dX8_takes_17 : decode cX8_takes 17 = .ok (.invokevirtual 208, 3) := by decide +kernel
theorem dX8_takes_20 : decode cX8_takes 20 = .ok (.istore 4, 2) := by decide +kernel
theorem dX8_takes_22 : decode cX8_takes 22 = .ok (.iload 4, 2) := by decide +kernel
theorem dX8_takes_24 : decode cX8_takes 24 = .ok (.ifCond .ge 8, 3) := by decide +kernel
theorem dX8_takes_27 : decode cX8_takes 27 = .ok (.bipush (-4), 2) := by decide +kernel
theorem dX8_takes_29 : decode cX8_takes 29 = .ok (.goto 7, 3) := by decide +kernel
theorem dX8_takes_32 : decode cX8_takes 32 = .ok (.aload_n 0, 1) := by decide +kernel
theorem dX8_takes_33 : decode cX8_takes 33 = .ok (.getfield 198, 3) := by decide +kernel
theorem dX8_takes_36 : decode cX8_takes 36 = .ok (.ireturn, 1) := by decide +kernel
theorem dX8_does_0 : decode cX8_does 0 = .ok (.aload_n 0, 1) := by decide +kernel
theorem dX8_does_1 : decode cX8_does 1 = .ok (.getfield 175, 3) := by decide +kernel
theorem dX8_does_4 : decode cX8_does 4 = .ok (.bipush 8, 2) := by decide +kernel
theorem dX8_does_6 : decode cX8_does 6 = .ok (.if_icmp .ne 71, 3) := by decide +kernel
theorem dX8_does_9 : decode cX8_does 9 = .ok (.iconst 0, 1) := by decide +kernel
theorem dX8_does_10 : decode cX8_does 10 = .ok (.istore_n 2, 1) := by decide +kernel
theorem dX8_does_11 : decode cX8_does 11 = .ok (.iload_n 2, 1) := by decide +kernel
theorem dX8_does_12 : decode cX8_does 12 = .ok (.sipush 378, 3) := by decide +kernel
theorem dX8_does_15 : decode cX8_does 15 = .ok (.if_icmp .ge 24, 3) := by decide +kernel
theorem dX8_does_18 : decode cX8_does 18 = .ok (.aload_n 0, 1) := by decide +kernel
theorem dX8_does_19 : decode cX8_does 19 = .ok (.getfield 25, 3) := by decide +kernel
theorem dX8_does_22 : decode cX8_does 22 = .ok (.iload_n 2, 1) := by decide +kernel
theorem dX8_does_23 : decode cX8_does 23 = .ok (.aload_n 0, 1) := by decide +kernel
theorem dX8_does_24 : decode cX8_does 24 = .ok (.getfield 25, 3) := by decide +kernel
theorem dX8_does_27 : decode cX8_does 27 = .ok (.iload_n 2, 1) := by decide +kernel
theorem dX8_does_28 : decode cX8_does 28 = .ok (.bipush 54, 2) := by decide +kernel
theorem dX8_does_30 : decode cX8_does 30 = .ok (.iadd, 1) := by decide +kernel
theorem dX8_does_31 : decode cX8_does 31 = .ok (.iaload, 1) := by decide +kernel
theorem dX8_does_32 : decode cX8_does 32 = .ok (.iastore, 1) := by decide +kernel
theorem dX8_does_33 : decode cX8_does 33 = .ok (.iinc 2 1, 3) := by decide +kernel
theorem dX8_does_36 : decode cX8_does 36 = .ok (.goto (-25), 3) := by decide +kernel
theorem dX8_does_39 : decode cX8_does 39 = .ok (.iconst 0, 1) := by decide +kernel
theorem dX8_does_40 : decode cX8_does 40 = .ok (.istore_n 2, 1) := by decide +kernel
theorem dX8_does_41 : decode cX8_does 41 = .ok (.iload_n 2, 1) := by decide +kernel
theorem dX8_does_42 : decode cX8_does 42 = .ok (.bipush 7, 2) := by decide +kernel
theorem dX8_does_44 : decode cX8_does 44 = .ok (.if_icmp .ge 23, 3) := by decide +kernel
theorem dX8_does_47 : decode cX8_does 47 = .ok (.aload_n 0, 1) := by decide +kernel
theorem dX8_does_48 : decode cX8_does 48 = .ok (.getfield 28, 3) := by decide +kernel
theorem dX8_does_51 : decode cX8_does 51 = .ok (.iload_n 2, 1) := by decide +kernel
theorem dX8_does_52 : decode cX8_does 52 = .ok (.aload_n 0, 1) := by decide +kernel
theorem dX8_does_53 : decode cX8_does 53 = .ok (.getfield 28, 3) := by decide +kernel
theorem dX8_does_56 : decode cX8_does 56 = .ok (.iload_n 2, 1) := by decide +kernel
theorem dX8_does_57 : decode cX8_does 57 = .ok (.iconst 1, 1) := by decide +kernel
theorem dX8_does_58 : decode cX8_does 58 = .ok (.iadd, 1) := by decide +kernel
theorem dX8_does_59 : decode cX8_does 59 = .ok (.iaload, 1) := by decide +kernel
theorem dX8_does_60 : decode cX8_does 60 = .ok (.iastore, 1) := by decide +kernel
theorem dX8_does_61 : decode cX8_does 61 = .ok (.iinc 2 1, 3) := by decide +kernel
theorem dX8_does_64 : decode cX8_does 64 = .ok (.goto (-23), 3) := by decide +kernel
theorem dX8_does_67 : decode cX8_does 67 = .ok (.aload_n 0, 1) := by decide +kernel
theorem dX8_does_68 : decode cX8_does 68 = .ok (.dup, 1) := by decide +kernel
theorem dX8_does_69 : decode cX8_does 69 = .ok (.getfield 175, 3) := by decide +kernel
theorem dX8_does_72 : decode cX8_does 72 = .ok (.iconst 1, 1) := by decide +kernel
theorem dX8_does_73 : decode cX8_does 73 = .ok (.isub, 1) := by decide +kernel
theorem dX8_does_74 : decode cX8_does 74 = .ok (.putfield 175, 3) := by decide +kernel
theorem dX8_does_77 : decode cX8_does 77 = .ok (.aload_n 0, 1) := by decide +kernel
theorem dX8_does_78 : decode cX8_does 78 = .ok (.getfield 25, 3) := by decide +kernel
theorem dX8_does_81 : decode cX8_does 81 = .ok (.bipush 54, 2) := by decide +kernel
theorem dX8_does_83 : decode cX8_does 83 = .ok (.aload_n 0, 1) := by decide +kernel
theorem dX8_does_84 : decode cX8_does 84 = .ok (.getfield 175, 3) := by decide +kernel
theorem dX8_does_87 : decode cX8_does 87 = .ok (.imul, 1) := by decide +kernel
theorem dX8_does_88 : decode cX8_does 88 = .ok (.aload_n 0, 1) := by decide +kernel
theorem dX8_does_89 : decode cX8_does 89 = .ok (.getfield 22, 3) := by decide +kernel
theorem dX8_does_92 : decode cX8_does 92 = .ok (.iconst 0, 1) := by decide +kernel
theorem dX8_does_93 : decode cX8_does 93 = .ok (.bipush 54, 2) := by decide +kernel
theorem dX8_does_95 : decode cX8_does 95 = .ok (.invokestatic 162, 3) := by decide +kernel
theorem dX8_does_98 : decode cX8_does 98 = .ok (.aload_n 0, 1) := by decide +kernel
theorem dX8_does_99 : decode cX8_does 99 = .ok (.getfield 28, 3) := by decide +kernel
theorem dX8_does_102 : decode cX8_does 102 = .ok (.aload_n 0, 1) := by decide +kernel
theorem dX8_does_103 : decode cX8_does 103 = .ok (.getfield 175, 3) := by decide +kernel
theorem dX8_does_106 : decode cX8_does 106 = .ok (.iload_n 1, 1) := by decide +kernel
theorem dX8_does_107 : decode cX8_does 107 = .ok (.iastore, 1) := by decide +kernel
theorem dX8_does_108 : decode cX8_does 108 = .ok (.aload_n 0, 1) := by decide +kernel
theorem dX8_does_109 : decode cX8_does 109 = .ok (.dup, 1) := by decide +kernel
theorem dX8_does_110 : decode cX8_does 110 = .ok (.getfield 175, 3) := by decide +kernel
theorem dX8_does_113 : decode cX8_does 113 = .ok (.iconst 1, 1) := by decide +kernel
theorem dX8_does_114 : decode cX8_does 114 = .ok (.iadd, 1) := by decide +kernel
theorem dX8_does_115 : decode cX8_does 115 = .ok (.putfield 175, 3) := by decide +kernel
theorem dX8_does_118 : decode cX8_does 118 = .ok (.aload_n 0, 1) := by decide +kernel
theorem dX8_does_119 : decode cX8_does 119 = .ok (.iload_n 1, 1) := by decide +kernel
theorem dX8_does_120 : decode cX8_does 120 = .ok (.invokevirtual 240, 3) := by decide +kernel
theorem dX8_does_123 : decode cX8_does 123 = .ok (.aload_n 0, 1) := by decide +kernel
theorem dX8_does_124 : decode cX8_does 124 = .ok (.getfield 22, 3) := by decide +kernel
theorem dX8_does_127 : decode cX8_does 127 = .ok (.iconst 0, 1) := by decide +kernel
theorem dX8_does_128 : decode cX8_does 128 = .ok (.aload_n 0, 1) := by decide +kernel
theorem dX8_does_129 : decode cX8_does 129 = .ok (.getfield 55, 3) := by decide +kernel
theorem dX8_does_132 : decode cX8_does 132 = .ok (.iconst 0, 1) := by decide +kernel
theorem dX8_does_133 : decode cX8_does 133 = .ok (.bipush 54, 2) := by decide +kernel
theorem dX8_does_135 : decode cX8_does 135 = .ok (.invokestatic 162, 3) := by decide +kernel
theorem dX8_does_138 : decode cX8_does 138 = .ok (.return_, 1) := by decide +kernel
theorem dX8_drive_0 : decode cX8_drive 0 = .ok (.aload_n 0, 1) := by decide +kernel
theorem dX8_drive_1 : decode cX8_drive 1 = .ok (.iload_n 1, 1) := by decide +kernel
theorem dX8_drive_2 : decode cX8_drive 2 = .ok (.invokevirtual 231, 3) := by decide +kernel
theorem dX8_drive_5 : decode cX8_drive 5 = .ok (.ifCond .eq 12, 3) := by decide +kernel
theorem dX8_drive_8 : decode cX8_drive 8 = .ok (.iload_n 2, 1) := by decide +kernel
theorem dX8_drive_9 : decode cX8_drive 9 = .ok (.iconst 0, 1) := by decide +kernel
theorem dX8_drive_10 : decode cX8_drive 10 = .ok (.iconst 3, 1) := by decide +kernel
theorem dX8_drive_11 : decode cX8_drive 11 = .ok (.invokestatic 115, 3) := by decide +kernel
theorem dX8_drive_14 : decode cX8_drive 14 = .ok (.ifCond .ne 5, 3) := by decide +kernel
theorem dX8_drive_17 : decode cX8_drive 17 = .ok (.iconst (-1), 1) := by decide +kernel
theorem dX8_drive_18 : decode cX8_drive 18 = .ok (.ireturn, 1) := by decide +kernel
theorem dX8_drive_19 : decode cX8_drive 19 = .ok (.aload_n 0, 1) := by decide +kernel
theorem dX8_drive_20 : decode cX8_drive 20 = .ok (.invokevirtual 228, 3) := by decide +kernel
theorem dX8_drive_23 : decode cX8_drive 23 = .ok (.aload_n 0, 1) := by decide +kernel
theorem dX8_drive_24 : decode cX8_drive 24 = .ok (.bipush 10, 2) := by decide +kernel
theorem dX8_drive_26 : decode cX8_drive 26 = .ok (.iload_n 1, 1) := by decide +kernel
theorem dX8_drive_27 : decode cX8_drive 27 = .ok (.imul, 1) := by decide +kernel
theorem dX8_drive_28 : decode cX8_drive 28 = .ok (.iload_n 2, 1) := by decide +kernel
theorem dX8_drive_29 : decode cX8_drive 29 = .ok (.iadd, 1) := by decide +kernel
theorem dX8_drive_30 : decode cX8_drive 30 = .ok (.invokevirtual 243, 3) := by decide +kernel
theorem dX8_drive_33 : decode cX8_drive 33 = .ok (.ifCond .ne 6, 3) := by decide +kernel
theorem dX8_drive_36 : decode cX8_drive 36 = .ok (.bipush (-2), 2) := by decide +kernel
theorem dX8_drive_38 : decode cX8_drive 38 = .ok (.ireturn, 1) := by decide +kernel
theorem dX8_drive_39 : decode cX8_drive 39 = .ok (.aload_n 0, 1) := by decide +kernel
theorem dX8_drive_40 : decode cX8_drive 40 = .ok (.iload_n 1, 1) := by decide +kernel
theorem dX8_drive_41 : decode cX8_drive 41 = .ok (.iload_n 2, 1) := by decide +kernel
theorem dX8_drive_42 : decode cX8_drive 42 = .ok (.iconst 1, 1) := by decide +kernel
theorem dX8_drive_43 : decode cX8_drive 43 = .ok (.invokevirtual 208, 3) := by decide +kernel
theorem dX8_drive_46 : decode cX8_drive 46 = .ok (.istore_n 3, 1) := by decide +kernel
theorem dX8_drive_47 : decode cX8_drive 47 = .ok (.aload_n 0, 1) := by decide +kernel
theorem dX8_drive_48 : decode cX8_drive 48 = .ok (.bipush 10, 2) := by decide +kernel
theorem dX8_drive_50 : decode cX8_drive 50 = .ok (.iload_n 1, 1) := by decide +kernel
theorem dX8_drive_51 : decode cX8_drive 51 = .ok (.imul, 1) := by decide +kernel
theorem dX8_drive_52 : decode cX8_drive 52 = .ok (.iload_n 2, 1) := by decide +kernel
theorem dX8_drive_53 : decode cX8_drive 53 = .ok (.iadd, 1) := by decide +kernel
theorem dX8_drive_54 : decode cX8_drive 54 = .ok (.invokevirtual 246, 3) := by decide +kernel
theorem dX8_drive_57 : decode cX8_drive 57 = .ok (.iload_n 3, 1) := by decide +kernel
theorem dX8_drive_58 : decode cX8_drive 58 = .ok (.ireturn, 1) := by decide +kernel
theorem dX8_rest_0 : decode cX8_rest 0 = .ok (.aload_n 0, 1) := by decide +kernel
theorem dX8_rest_1 : decode cX8_rest 1 = .ok (.invokevirtual 228, 3) := by decide +kernel
theorem dX8_rest_4 : decode cX8_rest 4 = .ok (.aload_n 0, 1) := by decide +kernel
theorem dX8_rest_5 : decode cX8_rest 5 = .ok (.invokevirtual 222, 3) := by decide +kernel
theorem dX8_rest_8 : decode cX8_rest 8 = .ok (.ifCond .eq 6, 3) := by decide +kernel
theorem dX8_rest_11 : decode cX8_rest 11 = .ok (.bipush (-2), 2) := by decide +kernel
theorem dX8_rest_13 : decode cX8_rest 13 = .ok (.ireturn, 1) := by decide +kernel
theorem dX8_rest_14 : decode cX8_rest 14 = .ok (.aload_n 0, 1) := by decide +kernel
theorem dX8_rest_15 : decode cX8_rest 15 = .ok (.bipush 99, 2) := by decide +kernel
theorem dX8_rest_17 : decode cX8_rest 17 = .ok (.invokevirtual 246, 3) := by decide +kernel
theorem dX8_rest_20 : decode cX8_rest 20 = .ok (.aload_n 0, 1) := by decide +kernel
theorem dX8_rest_21 : decode cX8_rest 21 = .ok (.getfield 22, 3) := by decide +kernel
theorem dX8_rest_24 : decode cX8_rest 24 = .ok (.iconst 0, 1) := by decide +kernel
theorem dX8_rest_25 : decode cX8_rest 25 = .ok (.iaload, 1) := by decide +kernel
theorem dX8_rest_26 : decode cX8_rest 26 = .ok (.ireturn, 1) := by decide +kernel
theorem dX8_undo_0 : decode cX8_undo 0 = .ok (.aload_n 0, 1) := by decide +kernel
theorem dX8_undo_1 : decode cX8_undo 1 = .ok (.getfield 175, 3) := by decide +kernel
theorem dX8_undo_4 : decode cX8_undo 4 = .ok (.ifCond .ne 6, 3) := by decide +kernel
theorem dX8_undo_7 : decode cX8_undo 7 = .ok (.bipush (-2), 2) := by decide +kernel
theorem dX8_undo_9 : decode cX8_undo 9 = .ok (.ireturn, 1) := by decide +kernel
theorem dX8_undo_10 : decode cX8_undo 10 = .ok (.aload_n 0, 1) := by decide +kernel
theorem dX8_undo_11 : decode cX8_undo 11 = .ok (.dup, 1) := by decide +kernel
theorem dX8_undo_12 : decode cX8_undo 12 = .ok (.getfield 175, 3) := by decide +kernel
theorem dX8_undo_15 : decode cX8_undo 15 = .ok (.iconst 1, 1) := by decide +kernel
theorem dX8_undo_16 : decode cX8_undo 16 = .ok (.isub, 1) := by decide +kernel
theorem dX8_undo_17 : decode cX8_undo 17 = .ok (.putfield 175, 3) := by decide +kernel
theorem dX8_undo_20 : decode cX8_undo 20 = .ok (.aload_n 0, 1) := by decide +kernel
theorem dX8_undo_21 : decode cX8_undo 21 = .ok (.getfield 22, 3) := by decide +kernel
theorem dX8_undo_24 : decode cX8_undo 24 = .ok (.iconst 0, 1) := by decide +kernel
theorem dX8_undo_25 : decode cX8_undo 25 = .ok (.aload_n 0, 1) := by decide +kernel
theorem dX8_undo_26 : decode cX8_undo 26 = .ok (.getfield 25, 3) := by decide +kernel
theorem dX8_undo_29 : decode cX8_undo 29 = .ok (.bipush 54, 2) := by decide +kernel
theorem dX8_undo_31 : decode cX8_undo 31 = .ok (.aload_n 0, 1) := by decide +kernel
theorem dX8_undo_32 : decode cX8_undo 32 = .ok (.getfield 175, 3) := by decide +kernel
theorem dX8_undo_35 : decode cX8_undo 35 = .ok (.imul, 1) := by decide +kernel
theorem dX8_undo_36 : decode cX8_undo 36 = .ok (.bipush 54, 2) := by decide +kernel
theorem dX8_undo_38 : decode cX8_undo 38 = .ok (.invokestatic 162, 3) := by decide +kernel
theorem dX8_undo_41 : decode cX8_undo 41 = .ok (.aload_n 0, 1) := by decide +kernel
theorem dX8_undo_42 : decode cX8_undo 42 = .ok (.getfield 175, 3) := by decide +kernel
theorem dX8_undo_45 : decode cX8_undo 45 = .ok (.ireturn, 1) := by decide +kernel
theorem dX8_reaches_0 : decode cX8_reaches 0 = .ok (.aload_n 0, 1) := by decide +kernel
theorem dX8_reaches_1 : decode cX8_reaches 1 = .ok (.getfield 61, 3) := by decide +kernel
theorem dX8_reaches_4 : decode cX8_reaches 4 = .ok (.iload_n 1, 1) := by decide +kernel
theorem dX8_reaches_5 : decode cX8_reaches 5 = .ok (.iaload, 1) := by decide +kernel
theorem dX8_reaches_6 : decode cX8_reaches 6 = .ok (.ifCond .ge 59, 3) := by decide +kernel
theorem dX8_reaches_9 : decode cX8_reaches 9 = .ok (.aload_n 0, 1) := by decide +kernel
theorem dX8_reaches_10 : decode cX8_reaches 10 = .ok (.getfield 61, 3) := by decide +kernel
theorem dX8_reaches_13 : decode cX8_reaches 13 = .ok (.iload_n 1, 1) := by decide +kernel
theorem dX8_reaches_14 : decode cX8_reaches 14 = .ok (.iload_n 2, 1) := by decide +kernel
theorem dX8_reaches_15 : decode cX8_reaches 15 = .ok (.ifCond .ge 7, 3) := by decide +kernel
theorem dX8_reaches_18 : decode cX8_reaches 18 = .ok (.iconst 0, 1) := by decide +kernel
theorem dX8_reaches_19 : decode cX8_reaches 19 = .ok (.goto 11, 3) := by decide +kernel
theorem dX8_reaches_22 : decode cX8_reaches 22 = .ok (.aload_n 0, 1) := by decide +kernel
theorem dX8_reaches_23 : decode cX8_reaches 23 = .ok (.getfield 61, 3) := by decide +kernel
theorem dX8_reaches_26 : decode cX8_reaches 26 = .ok (.iload_n 2, 1) := by decide +kernel
theorem dX8_reaches_27 : decode cX8_reaches 27 = .ok (.iaload, 1) := by decide +kernel
theorem dX8_reaches_28 : decode cX8_reaches 28 = .ok (.iconst 1, 1) := by decide +kernel
theorem dX8_reaches_29 : decode cX8_reaches 29 = .ok (.iadd, 1) := by decide +kernel
theorem dX8_reaches_30 : decode cX8_reaches 30 = .ok (.iastore, 1) := by decide +kernel
theorem dX8_reaches_31 : decode cX8_reaches 31 = .ok (.aload_n 0, 1) := by decide +kernel
theorem dX8_reaches_32 : decode cX8_reaches 32 = .ok (.getfield 64, 3) := by decide +kernel
theorem dX8_reaches_35 : decode cX8_reaches 35 = .ok (.iload_n 1, 1) := by decide +kernel
theorem dX8_reaches_36 : decode cX8_reaches 36 = .ok (.iload_n 2, 1) := by decide +kernel
theorem dX8_reaches_37 : decode cX8_reaches 37 = .ok (.iastore, 1) := by decide +kernel
theorem dX8_reaches_38 : decode cX8_reaches 38 = .ok (.aload_n 0, 1) := by decide +kernel
theorem dX8_reaches_39 : decode cX8_reaches 39 = .ok (.getfield 67, 3) := by decide +kernel
theorem dX8_reaches_42 : decode cX8_reaches 42 = .ok (.iload_n 1, 1) := by decide +kernel
theorem dX8_reaches_43 : decode cX8_reaches 43 = .ok (.iload_n 3, 1) := by decide +kernel
theorem dX8_reaches_44 : decode cX8_reaches 44 = .ok (.iastore, 1) := by decide +kernel
theorem dX8_reaches_45 : decode cX8_reaches 45 = .ok (.aload_n 0, 1) := by decide +kernel
theorem dX8_reaches_46 : decode cX8_reaches 46 = .ok (.getfield 58, 3) := by decide +kernel
theorem dX8_reaches_49 : decode cX8_reaches 49 = .ok (.aload_n 0, 1) := by decide +kernel
theorem dX8_reaches_50 : decode cX8_reaches 50 = .ok (.getfield 249, 3) := by decide +kernel
theorem dX8_reaches_53 : decode cX8_reaches 53 = .ok (.iload_n 1, 1) := by decide +kernel
theorem dX8_reaches_54 : decode cX8_reaches 54 = .ok (.iastore, 1) := by decide +kernel
theorem dX8_reaches_55 : decode cX8_reaches 55 = .ok (.aload_n 0, 1) := by decide +kernel
theorem dX8_reaches_56 : decode cX8_reaches 56 = .ok (.dup, 1) := by decide +kernel
theorem dX8_reaches_57 : decode cX8_reaches 57 = .ok (.getfield 249, 3) := by decide +kernel
theorem dX8_reaches_60 : decode cX8_reaches 60 = .ok (.iconst 1, 1) := by decide +kernel
theorem dX8_reaches_61 : decode cX8_reaches 61 = .ok (.iadd, 1) := by decide +kernel
theorem dX8_reaches_62 : decode cX8_reaches 62 = .ok (.putfield 249, 3) := by decide +kernel
theorem dX8_reaches_65 : decode cX8_reaches 65 = .ok (.return_, 1) := by decide +kernel
theorem dX8_nowOne_0 : decode cX8_nowOne 0 = .ok (.aload_n 0, 1) := by decide +kernel
theorem dX8_nowOne_1 : decode cX8_nowOne 1 = .ok (.getfield 55, 3) := by decide +kernel
theorem dX8_nowOne_4 : decode cX8_nowOne 4 = .ok (.bipush 37, 2) := by decide +kernel
theorem dX8_nowOne_6 : decode cX8_nowOne 6 = .ok (.iload_n 1, 1) := by decide +kernel
theorem dX8_nowOne_7 : decode cX8_nowOne 7 = .ok (.iadd, 1) := by decide +kernel
theorem dX8_nowOne_8 : decode cX8_nowOne 8 = .ok (.iaload, 1) := by decide +kernel
theorem dX8_nowOne_9 : decode cX8_nowOne 9 = .ok (.aload_n 0, 1) := by decide +kernel
theorem dX8_nowOne_10 : decode cX8_nowOne 10 = .ok (.getfield 55, 3) := by decide +kernel
theorem dX8_nowOne_13 : decode cX8_nowOne 13 = .ok (.bipush 53, 2) := by decide +kernel
theorem dX8_nowOne_15 : decode cX8_nowOne 15 = .ok (.iaload, 1) := by decide +kernel
theorem dX8_nowOne_16 : decode cX8_nowOne 16 = .ok (.iload_n 1, 1) := by decide +kernel
theorem dX8_nowOne_17 : decode cX8_nowOne 17 = .ok (.invokestatic 181, 3) := by decide +kernel
theorem dX8_nowOne_20 : decode cX8_nowOne 20 = .ok (.ifCond .eq 8, 3) := by decide +kernel
theorem dX8_nowOne_23 : decode cX8_nowOne 23 = .ok (.bipush 36, 2) := by decide +kernel
theorem dX8_nowOne_25 : decode cX8_nowOne 25 = .ok (.goto 4, 3) := by decide +kernel
theorem dX8_nowOne_28 : decode cX8_nowOne 28 = .ok (.iconst 0, 1) := by decide +kernel
theorem dX8_nowOne_29 : decode cX8_nowOne 29 = .ok (.iadd, 1) := by decide +kernel
theorem dX8_nowOne_30 : decode cX8_nowOne 30 = .ok (.ireturn, 1) := by decide +kernel
theorem dX8_strays_0 : decode cX8_strays 0 = .ok (.iconst 0, 1) := by decide +kernel
theorem dX8_strays_1 : decode cX8_strays 1 = .ok (.istore_n 3, 1) := by decide +kernel
theorem dX8_strays_2 : decode cX8_strays 2 = .ok (.iload_n 3, 1) := by decide +kernel
theorem dX8_strays_3 : decode cX8_strays 3 = .ok (.bipush 72, 2) := by decide +kernel
theorem dX8_strays_5 : decode cX8_strays 5 = .ok (.if_icmp .ge 16, 3) := by decide +kernel
theorem dX8_strays_8 : decode cX8_strays 8 = .ok (.aload_n 0, 1) := by decide +kernel
theorem dX8_strays_9 : decode cX8_strays 9 = .ok (.getfield 61, 3) := by decide +kernel
theorem dX8_strays_12 : decode cX8_strays 12 = .ok (.iload_n 3, 1) := by decide +kernel
theorem dX8_strays_13 : decode cX8_strays 13 = .ok (.iconst (-1), 1) := by decide +kernel
theorem dX8_strays_14 : decode cX8_strays 14 = .ok (.iastore, 1) := by decide +kernel
theorem dX8_strays_15 : decode cX8_strays 15 = .ok (.iinc 3 1, 3) := by decide +kernel
theorem dX8_strays_18 : decode cX8_strays 18 = .ok (.goto (-16), 3) := by decide +kernel
theorem dX8_strays_21 : decode cX8_strays 21 = .ok (.aload_n 0, 1) := by decide +kernel
theorem dX8_strays_22 : decode cX8_strays 22 = .ok (.iconst 0, 1) := by decide +kernel
theorem dX8_strays_23 : decode cX8_strays 23 = .ok (.putfield 249, 3) := by decide +kernel
theorem dX8_strays_26 : decode cX8_strays 26 = .ok (.aload_n 0, 1) := by decide +kernel
theorem dX8_strays_27 : decode cX8_strays 27 = .ok (.invokevirtual 228, 3) := by decide +kernel
theorem dX8_strays_30 : decode cX8_strays 30 = .ok (.aload_n 0, 1) := by decide +kernel
theorem dX8_strays_31 : decode cX8_strays 31 = .ok (.getfield 55, 3) := by decide +kernel
theorem dX8_strays_34 : decode cX8_strays 34 = .ok (.bipush 53, 2) := by decide +kernel
theorem dX8_strays_36 : decode cX8_strays 36 = .ok (.iaload, 1) := by decide +kernel
theorem dX8_strays_37 : decode cX8_strays 37 = .ok (.iconst 1, 1) := by decide +kernel
theorem dX8_strays_38 : decode cX8_strays 38 = .ok (.iload_n 1, 1) := by decide +kernel
theorem dX8_strays_39 : decode cX8_strays 39 = .ok (.ishl, 1) := by decide +kernel
theorem dX8_strays_40 : decode cX8_strays 40 = .ok (.iconst (-1), 1) := by decide +kernel
theorem dX8_strays_41 : decode cX8_strays 41 = .ok (.ixor, 1) := by decide +kernel
theorem dX8_strays_42 : decode cX8_strays 42 = .ok (.iand, 1) := by decide +kernel
theorem dX8_strays_43 : decode cX8_strays 43 = .ok (.istore_n 3, 1) := by decide +kernel
theorem dX8_strays_44 : decode cX8_strays 44 = .ok (.aload_n 0, 1) := by decide +kernel
theorem dX8_strays_45 : decode cX8_strays 45 = .ok (.aload_n 0, 1) := by decide +kernel
theorem dX8_strays_46 : decode cX8_strays 46 = .ok (.iload_n 1, 1) := by decide +kernel
theorem dX8_strays_47 : decode cX8_strays 47 = .ok (.invokevirtual 252, 3) := by decide +kernel
theorem dX8_strays_50 : decode cX8_strays 50 = .ok (.iconst (-1), 1) := by decide +kernel
theorem dX8_strays_51 : decode cX8_strays 51 = .ok (.iconst 0, 1) := by decide +kernel
theorem dX8_strays_52 : decode cX8_strays 52 = .ok (.invokevirtual 255, 3) := by decide +kernel
theorem dX8_strays_55 : decode cX8_strays 55 = .ok (.iconst 0, 1) := by decide +kernel
theorem dX8_strays_56 : decode cX8_strays 56 = .ok (.istore 4, 2) := by decide +kernel
theorem dX8_strays_58 : decode cX8_strays 58 = .ok (.iload 4, 2) := by decide +kernel
theorem dX8_strays_60 : decode cX8_strays 60 = .ok (.aload_n 0, 1) := by decide +kernel
theorem dX8_strays_61 : decode cX8_strays 61 = .ok (.getfield 249, 3) := by decide +kernel
theorem dX8_strays_64 : decode cX8_strays 64 = .ok (.if_icmp .ge 116, 3) := by decide +kernel
theorem dX8_strays_67 : decode cX8_strays 67 = .ok (.aload_n 0, 1) := by decide +kernel
theorem dX8_strays_68 : decode cX8_strays 68 = .ok (.getfield 58, 3) := by decide +kernel
theorem dX8_strays_71 : decode cX8_strays 71 = .ok (.iload 4, 2) := by decide +kernel
theorem dX8_strays_73 : decode cX8_strays 73 = .ok (.iaload, 1) := by decide +kernel
theorem dX8_strays_74 : decode cX8_strays 74 = .ok (.istore 5, 2) := by decide +kernel
theorem dX8_strays_76 : decode cX8_strays 76 = .ok (.iconst 0, 1) := by decide +kernel
theorem dX8_strays_77 : decode cX8_strays 77 = .ok (.istore 6, 2) := by decide +kernel
theorem dX8_strays_79 : decode cX8_strays 79 = .ok (.iload 6, 2) := by decide +kernel
theorem dX8_strays_81 : decode cX8_strays 81 = .ok (.iconst 4, 1) := by decide +kernel
theorem dX8_strays_82 : decode cX8_strays 82 = .ok (.if_icmp .ge 92, 3) := by decide +kernel
theorem dX8_strays_85 : decode cX8_strays 85 = .ok (.aload_n 0, 1) := by decide +kernel
theorem dX8_strays_86 : decode cX8_strays 86 = .ok (.getfield 61, 3) := by decide +kernel
theorem dX8_strays_89 : decode cX8_strays 89 = .ok (.iload 5, 2) := by decide +kernel
theorem dX8_strays_91 : decode cX8_strays 91 = .ok (.iaload, 1) := by decide +kernel
theorem dX8_strays_92 : decode cX8_strays 92 = .ok (.iload_n 2, 1) := by decide +kernel
theorem dX8_strays_93 : decode cX8_strays 93 = .ok (.if_icmp .ge 81, 3) := by decide +kernel
theorem dX8_strays_96 : decode cX8_strays 96 = .ok (.aload_n 0, 1) := by decide +kernel
theorem dX8_strays_97 : decode cX8_strays 97 = .ok (.getfield 55, 3) := by decide +kernel
theorem dX8_strays_100 : decode cX8_strays 100 = .ok (.bipush 37, 2) := by decide +kernel
theorem dX8_strays_102 : decode cX8_strays 102 = .ok (.iload_n 1, 1) := by decide +kernel
theorem dX8_strays_103 : decode cX8_strays 103 = .ok (.iadd, 1) := by decide +kernel
theorem dX8_strays_104 : decode cX8_strays 104 = .ok (.iload 5, 2) := by decide +kernel
theorem dX8_strays_106 : decode cX8_strays 106 = .ok (.bipush 36, 2) := by decide +kernel
theorem dX8_strays_108 : decode cX8_strays 108 = .ok (.irem, 1) := by decide +kernel
theorem dX8_strays_109 : decode cX8_strays 109 = .ok (.iastore, 1) := by decide +kernel
theorem dX8_strays_110 : decode cX8_strays 110 = .ok (.aload_n 0, 1) := by decide +kernel
theorem dX8_strays_111 : decode cX8_strays 111 = .ok (.getfield 55, 3) := by decide +kernel
theorem dX8_strays_114 : decode cX8_strays 114 = .ok (.bipush 53, 2) := by decide +kernel
theorem dX8_strays_116 : decode cX8_strays 116 = .ok (.iload_n 3, 1) := by decide +kernel
theorem dX8_strays_117 : decode cX8_strays 117 = .ok (.iload 5, 2) := by decide +kernel
theorem dX8_strays_119 : decode cX8_strays 119 = .ok (.bipush 36, 2) := by decide +kernel
theorem dX8_strays_121 : decode cX8_strays 121 = .ok (.if_icmp .lt 9, 3) := by decide +kernel
theorem dX8_strays_124 : decode cX8_strays 124 = .ok (.iconst 1, 1) := by decide +kernel
theorem dX8_strays_125 : decode cX8_strays 125 = .ok (.iload_n 1, 1) := by decide +kernel
theorem dX8_strays_126 : decode cX8_strays 126 = .ok (.ishl, 1) := by decide +kernel
theorem dX8_strays_127 : decode cX8_strays 127 = .ok (.goto 4, 3) := by decide +kernel
theorem dX8_strays_130 : decode cX8_strays 130 = .ok (.iconst 0, 1) := by decide +kernel
theorem dX8_strays_131 : decode cX8_strays 131 = .ok (.ior, 1) := by decide +kernel
theorem dX8_strays_132 : decode cX8_strays 132 = .ok (.iastore, 1) := by decide +kernel
theorem dX8_strays_133 : decode cX8_strays 133 = .ok (.aload_n 0, 1) := by decide +kernel
theorem dX8_strays_134 : decode cX8_strays 134 = .ok (.iload_n 1, 1) := by decide +kernel
theorem dX8_strays_135 : decode cX8_strays 135 = .ok (.iload 6, 2) := by decide +kernel
theorem dX8_strays_137 : decode cX8_strays 137 = .ok (.iconst 0, 1) := by decide +kernel
theorem dX8_strays_138 : decode cX8_strays 138 = .ok (.invokevirtual 208, 3) := by decide +kernel
theorem dX8_strays_141 : decode cX8_strays 141 = .ok (.istore 7, 2) := by decide +kernel
theorem dX8_strays_143 : decode cX8_strays 143 = .ok (.iload 7, 2) := by decide +kernel
theorem dX8_strays_145 : decode cX8_strays 145 = .ok (.ifCond .lt 23, 3) := by decide +kernel
theorem dX8_strays_148 : decode cX8_strays 148 = .ok (.aload_n 0, 1) := by decide +kernel
theorem dX8_strays_149 : decode cX8_strays 149 = .ok (.iload_n 1, 1) := by decide +kernel
theorem dX8_strays_150 : decode cX8_strays 150 = .ok (.iload 7, 2) := by decide +kernel
theorem dX8_strays_152 : decode cX8_strays 152 = .ok (.invokevirtual 212, 3) := by decide +kernel
theorem dX8_strays_155 : decode cX8_strays 155 = .ok (.aload_n 0, 1) := by decide +kernel
theorem dX8_strays_156 : decode cX8_strays 156 = .ok (.aload_n 0, 1) := by decide +kernel
theorem dX8_strays_157 : decode cX8_strays 157 = .ok (.iload_n 1, 1) := by decide +kernel
theorem dX8_strays_158 : decode cX8_strays 158 = .ok (.invokevirtual 252, 3) := by decide +kernel
theorem dX8_strays_161 : decode cX8_strays 161 = .ok (.iload 5, 2) := by decide +kernel
theorem dX8_strays_163 : decode cX8_strays 163 = .ok (.iload 6, 2) := by decide +kernel
theorem dX8_strays_165 : decode cX8_strays 165 = .ok (.invokevirtual 255, 3) := by decide +kernel
theorem dX8_strays_168 : decode cX8_strays 168 = .ok (.iinc 6 1, 3) := by decide +kernel
theorem dX8_strays_171 : decode cX8_strays 171 = .ok (.goto (-92), 3) := by decide +kernel
theorem dX8_strays_174 : decode cX8_strays 174 = .ok (.iinc 4 1, 3) := by decide +kernel
theorem dX8_strays_177 : decode cX8_strays 177 = .ok (.goto (-119), 3) := by decide +kernel
theorem dX8_strays_180 : decode cX8_strays 180 = .ok (.return_, 1) := by decide +kernel
theorem dX8_fewest_0 : decode cX8_fewest 0 = .ok (.aload_n 0, 1) := by decide +kernel
theorem dX8_fewest_1 : decode cX8_fewest 1 = .ok (.iload_n 1, 1) := by decide +kernel
theorem dX8_fewest_2 : decode cX8_fewest 2 = .ok (.invokevirtual 231, 3) := by decide +kernel
theorem dX8_fewest_5 : decode cX8_fewest 5 = .ok (.ifCond .eq 16, 3) := by decide +kernel
theorem dX8_fewest_8 : decode cX8_fewest 8 = .ok (.aload_n 0, 1) := by decide +kernel
theorem dX8_fewest_9 : decode cX8_fewest 9 = .ok (.iload_n 2, 1) := by decide +kernel
theorem dX8_fewest_10 : decode cX8_fewest 10 = .ok (.invokevirtual 225, 3) := by decide +kernel
theorem dX8_fewest_13 : decode cX8_fewest 13 = .ok (.ifCond .eq 8, 3) := by decide +kernel
theorem dX8_fewest_16 : decode cX8_fewest 16 = .ok (.iload_n 3, 1) := by decide +kernel
theorem dX8_fewest_17 : decode cX8_fewest 17 = .ok (.iconst (-1), 1) := by decide +kernel
theorem dX8_fewest_18 : decode cX8_fewest 18 = .ok (.if_icmp .ge 5, 3) := by decide +kernel
theorem dX8_fewest_21 : decode cX8_fewest 21 = .ok (.iconst (-1), 1) := by decide +kernel
theorem dX8_fewest_22 : decode cX8_fewest 22 = .ok (.ireturn, 1) := by decide +kernel
theorem dX8_fewest_23 : decode cX8_fewest 23 = .ok (.aload_n 0, 1) := by decide +kernel
theorem dX8_fewest_24 : decode cX8_fewest 24 = .ok (.getfield 22, 3) := by decide +kernel
theorem dX8_fewest_27 : decode cX8_fewest 27 = .ok (.bipush 37, 2) := by decide +kernel
theorem dX8_fewest_29 : decode cX8_fewest 29 = .ok (.iload_n 1, 1) := by decide +kernel
theorem dX8_fewest_30 : decode cX8_fewest 30 = .ok (.iadd, 1) := by decide +kernel
theorem dX8_fewest_31 : decode cX8_fewest 31 = .ok (.iaload, 1) := by decide +kernel
theorem dX8_fewest_32 : decode cX8_fewest 32 = .ok (.bipush 36, 2) := by decide +kernel
theorem dX8_fewest_34 : decode cX8_fewest 34 = .ok (.if_icmp .ne 6, 3) := by decide +kernel
theorem dX8_fewest_37 : decode cX8_fewest 37 = .ok (.bipush (-2), 2) := by decide +kernel
theorem dX8_fewest_39 : decode cX8_fewest 39 = .ok (.ireturn, 1) := by decide +kernel
theorem dX8_fewest_40 : decode cX8_fewest 40 = .ok (.aload_n 0, 1) := by decide +kernel
theorem dX8_fewest_41 : decode cX8_fewest 41 = .ok (.iload_n 1, 1) := by decide +kernel
theorem dX8_fewest_42 : decode cX8_fewest 42 = .ok (.bipush 12, 2) := by decide +kernel
theorem dX8_fewest_44 : decode cX8_fewest 44 = .ok (.invokevirtual 258, 3) := by decide +kernel
theorem dX8_fewest_47 : decode cX8_fewest 47 = .ok (.bipush (-4), 2) := by decide +kernel
theorem dX8_fewest_49 : decode cX8_fewest 49 = .ok (.istore 4, 2) := by decide +kernel
theorem dX8_fewest_51 : decode cX8_fewest 51 = .ok (.aload_n 0, 1) := by decide +kernel
theorem dX8_fewest_52 : decode cX8_fewest 52 = .ok (.getfield 249, 3) := by decide +kernel
theorem dX8_fewest_55 : decode cX8_fewest 55 = .ok (.iconst 1, 1) := by decide +kernel
theorem dX8_fewest_56 : decode cX8_fewest 56 = .ok (.isub, 1) := by decide +kernel
theorem dX8_fewest_57 : decode cX8_fewest 57 = .ok (.istore 5, 2) := by decide +kernel
theorem dX8_fewest_59 : decode cX8_fewest 59 = .ok (.iload 5, 2) := by decide +kernel
theorem dX8_fewest_61 : decode cX8_fewest 61 = .ok (.ifCond .lt 37, 3) := by decide +kernel
theorem dX8_fewest_64 : decode cX8_fewest 64 = .ok (.aload_n 0, 1) := by decide +kernel
theorem dX8_fewest_65 : decode cX8_fewest 65 = .ok (.getfield 58, 3) := by decide +kernel
theorem dX8_fewest_68 : decode cX8_fewest 68 = .ok (.iload 5, 2) := by decide +kernel
theorem dX8_fewest_70 : decode cX8_fewest 70 = .ok (.iaload, 1) := by decide +kernel
theorem dX8_fewest_71 : decode cX8_fewest 71 = .ok (.bipush 36, 2) := by decide +kernel
theorem dX8_fewest_73 : decode cX8_fewest 73 = .ok (.irem, 1) := by decide +kernel
theorem dX8_fewest_74 : decode cX8_fewest 74 = .ok (.iload_n 2, 1) := by decide +kernel
theorem dX8_fewest_75 : decode cX8_fewest 75 = .ok (.if_icmp .ne 13, 3) := by decide +kernel
theorem dX8_fewest_78 : decode cX8_fewest 78 = .ok (.aload_n 0, 1) := by decide +kernel
theorem dX8_fewest_79 : decode cX8_fewest 79 = .ok (.getfield 58, 3) := by decide +kernel
theorem dX8_fewest_82 : decode cX8_fewest 82 = .ok (.iload 5, 2) := by decide +kernel
theorem dX8_fewest_84 : decode cX8_fewest 84 = .ok (.iaload, 1) := by decide +kernel
theorem dX8_fewest_85 : decode cX8_fewest 85 = .ok (.goto 5, 3) := by decide +kernel
theorem dX8_fewest_88 : decode cX8_fewest 88 = .ok (.iload 4, 2) := by decide +kernel
theorem dX8_fewest_90 : decode cX8_fewest 90 = .ok (.istore 4, 2) := by decide +kernel
theorem dX8_fewest_92 : decode cX8_fewest 92 = .ok (.iinc 5 (-1), 3) := by decide +kernel
theorem dX8_fewest_95 : decode cX8_fewest 95 = .ok (.goto (-36), 3) := by decide +kernel
theorem dX8_fewest_98 : decode cX8_fewest 98 = .ok (.iload 4, 2) := by decide +kernel
theorem dX8_fewest_100 : decode cX8_fewest 100 = .ok (.ifCond .ge 6, 3) := by decide +kernel
theorem dX8_fewest_103 : decode cX8_fewest 103 = .ok (.bipush (-4), 2) := by decide +kernel
theorem dX8_fewest_105 : decode cX8_fewest 105 = .ok (.ireturn, 1) := by decide +kernel
theorem dX8_fewest_106 : decode cX8_fewest 106 = .ok (.aload_n 0, 1) := by decide +kernel
theorem dX8_fewest_107 : decode cX8_fewest 107 = .ok (.getfield 61, 3) := by decide +kernel
theorem dX8_fewest_110 : decode cX8_fewest 110 = .ok (.iload 4, 2) := by decide +kernel
theorem dX8_fewest_112 : decode cX8_fewest 112 = .ok (.iaload, 1) := by decide +kernel
theorem dX8_fewest_113 : decode cX8_fewest 113 = .ok (.istore 5, 2) := by decide +kernel
theorem dX8_fewest_115 : decode cX8_fewest 115 = .ok (.iload_n 3, 1) := by decide +kernel
theorem dX8_fewest_116 : decode cX8_fewest 116 = .ok (.ifCond .lt 9, 3) := by decide +kernel
theorem dX8_fewest_119 : decode cX8_fewest 119 = .ok (.iload_n 3, 1) := by decide +kernel
theorem dX8_fewest_120 : decode cX8_fewest 120 = .ok (.iload 5, 2) := by decide +kernel
theorem dX8_fewest_122 : decode cX8_fewest 122 = .ok (.if_icmp .lt 15, 3) := by decide +kernel
theorem dX8_fewest_125 : decode cX8_fewest 125 = .ok (.iload_n 3, 1) := by decide +kernel
theorem dX8_fewest_126 : decode cX8_fewest 126 = .ok (.ifCond .ge 8, 3) := by decide +kernel
theorem dX8_fewest_129 : decode cX8_fewest 129 = .ok (.iload 5, 2) := by decide +kernel
theorem dX8_fewest_131 : decode cX8_fewest 131 = .ok (.goto 5, 3) := by decide +kernel
theorem dX8_fewest_134 : decode cX8_fewest 134 = .ok (.bipush (-4), 2) := by decide +kernel
theorem dX8_fewest_136 : decode cX8_fewest 136 = .ok (.ireturn, 1) := by decide +kernel
theorem dX8_fewest_137 : decode cX8_fewest 137 = .ok (.aload_n 0, 1) := by decide +kernel
theorem dX8_fewest_138 : decode cX8_fewest 138 = .ok (.getfield 61, 3) := by decide +kernel
theorem dX8_fewest_141 : decode cX8_fewest 141 = .ok (.iload 4, 2) := by decide +kernel
theorem dX8_fewest_143 : decode cX8_fewest 143 = .ok (.iaload, 1) := by decide +kernel
theorem dX8_fewest_144 : decode cX8_fewest 144 = .ok (.iload_n 3, 1) := by decide +kernel
theorem dX8_fewest_145 : decode cX8_fewest 145 = .ok (.iconst 1, 1) := by decide +kernel
theorem dX8_fewest_146 : decode cX8_fewest 146 = .ok (.iadd, 1) := by decide +kernel
theorem dX8_fewest_147 : decode cX8_fewest 147 = .ok (.if_icmp .le 15, 3) := by decide +kernel
theorem dX8_fewest_150 : decode cX8_fewest 150 = .ok (.aload_n 0, 1) := by decide +kernel
theorem dX8_fewest_151 : decode cX8_fewest 151 = .ok (.getfield 64, 3) := by decide +kernel
theorem dX8_fewest_154 : decode cX8_fewest 154 = .ok (.iload 4, 2) := by decide +kernel
theorem dX8_fewest_156 : decode cX8_fewest 156 = .ok (.iaload, 1) := by decide +kernel
theorem dX8_fewest_157 : decode cX8_fewest 157 = .ok (.istore 4, 2) := by decide +kernel
theorem dX8_fewest_159 : decode cX8_fewest 159 = .ok (.goto (-22), 3) := by decide +kernel
theorem dX8_fewest_162 : decode cX8_fewest 162 = .ok (.aload_n 0, 1) := by decide +kernel
theorem dX8_fewest_163 : decode cX8_fewest 163 = .ok (.getfield 67, 3) := by decide +kernel
theorem dX8_fewest_166 : decode cX8_fewest 166 = .ok (.iload 4, 2) := by decide +kernel
theorem dX8_fewest_168 : decode cX8_fewest 168 = .ok (.iaload, 1) := by decide +kernel
theorem dX8_fewest_169 : decode cX8_fewest 169 = .ok (.ireturn, 1) := by decide +kernel
theorem dX8_stray_0 : decode cX8_stray 0 = .ok (.aload_n 0, 1) := by decide +kernel
theorem dX8_stray_1 : decode cX8_stray 1 = .ok (.iload_n 1, 1) := by decide +kernel
theorem dX8_stray_2 : decode cX8_stray 2 = .ok (.invokevirtual 231, 3) := by decide +kernel
theorem dX8_stray_5 : decode cX8_stray 5 = .ok (.ifCond .eq 13, 3) := by decide +kernel
theorem dX8_stray_8 : decode cX8_stray 8 = .ok (.iload_n 2, 1) := by decide +kernel
theorem dX8_stray_9 : decode cX8_stray 9 = .ok (.iconst 0, 1) := by decide +kernel
theorem dX8_stray_10 : decode cX8_stray 10 = .ok (.bipush 6, 2) := by decide +kernel
theorem dX8_stray_12 : decode cX8_stray 12 = .ok (.invokestatic 115, 3) := by decide +kernel
theorem dX8_stray_15 : decode cX8_stray 15 = .ok (.ifCond .ne 5, 3) := by decide +kernel
theorem dX8_stray_18 : decode cX8_stray 18 = .ok (.iconst (-1), 1) := by decide +kernel
theorem dX8_stray_19 : decode cX8_stray 19 = .ok (.ireturn, 1) := by decide +kernel
theorem dX8_stray_20 : decode cX8_stray 20 = .ok (.aload_n 0, 1) := by decide +kernel
theorem dX8_stray_21 : decode cX8_stray 21 = .ok (.getfield 22, 3) := by decide +kernel
theorem dX8_stray_24 : decode cX8_stray 24 = .ok (.bipush 37, 2) := by decide +kernel
theorem dX8_stray_26 : decode cX8_stray 26 = .ok (.iload_n 1, 1) := by decide +kernel
theorem dX8_stray_27 : decode cX8_stray 27 = .ok (.iadd, 1) := by decide +kernel
theorem dX8_stray_28 : decode cX8_stray 28 = .ok (.iaload, 1) := by decide +kernel
theorem dX8_stray_29 : decode cX8_stray 29 = .ok (.bipush 36, 2) := by decide +kernel
theorem dX8_stray_31 : decode cX8_stray 31 = .ok (.if_icmp .ne 6, 3) := by decide +kernel
theorem dX8_stray_34 : decode cX8_stray 34 = .ok (.bipush (-2), 2) := by decide +kernel
theorem dX8_stray_36 : decode cX8_stray 36 = .ok (.ireturn, 1) := by decide +kernel
theorem dX8_stray_37 : decode cX8_stray 37 = .ok (.aload_n 0, 1) := by decide +kernel
theorem dX8_stray_38 : decode cX8_stray 38 = .ok (.iload_n 1, 1) := by decide +kernel
theorem dX8_stray_39 : decode cX8_stray 39 = .ok (.iload_n 2, 1) := by decide +kernel
theorem dX8_stray_40 : decode cX8_stray 40 = .ok (.invokevirtual 258, 3) := by decide +kernel
theorem dX8_stray_43 : decode cX8_stray 43 = .ok (.iconst 0, 1) := by decide +kernel
theorem dX8_stray_44 : decode cX8_stray 44 = .ok (.istore_n 3, 1) := by decide +kernel
theorem dX8_stray_45 : decode cX8_stray 45 = .ok (.iconst 0, 1) := by decide +kernel
theorem dX8_stray_46 : decode cX8_stray 46 = .ok (.istore 4, 2) := by decide +kernel
theorem dX8_stray_48 : decode cX8_stray 48 = .ok (.iload 4, 2) := by decide +kernel
theorem dX8_stray_50 : decode cX8_stray 50 = .ok (.bipush 36, 2) := by decide +kernel
theorem dX8_stray_52 : decode cX8_stray 52 = .ok (.if_icmp .ge 40, 3) := by decide +kernel
theorem dX8_stray_55 : decode cX8_stray 55 = .ok (.iload_n 3, 1) := by decide +kernel
theorem dX8_stray_56 : decode cX8_stray 56 = .ok (.aload_n 0, 1) := by decide +kernel
theorem dX8_stray_57 : decode cX8_stray 57 = .ok (.getfield 61, 3) := by decide +kernel
theorem dX8_stray_60 : decode cX8_stray 60 = .ok (.iload 4, 2) := by decide +kernel
theorem dX8_stray_62 : decode cX8_stray 62 = .ok (.iaload, 1) := by decide +kernel
theorem dX8_stray_63 : decode cX8_stray 63 = .ok (.ifCond .ge 16, 3) := by decide +kernel
theorem dX8_stray_66 : decode cX8_stray 66 = .ok (.aload_n 0, 1) := by decide +kernel
theorem dX8_stray_67 : decode cX8_stray 67 = .ok (.getfield 61, 3) := by decide +kernel
theorem dX8_stray_70 : decode cX8_stray 70 = .ok (.iload 4, 2) := by decide +kernel
theorem dX8_stray_72 : decode cX8_stray 72 = .ok (.bipush 36, 2) := by decide +kernel
theorem dX8_stray_74 : decode cX8_stray 74 = .ok (.iadd, 1) := by decide +kernel
theorem dX8_stray_75 : decode cX8_stray 75 = .ok (.iaload, 1) := by decide +kernel
theorem dX8_stray_76 : decode cX8_stray 76 = .ok (.ifCond .lt 7, 3) := by decide +kernel
theorem dX8_stray_79 : decode cX8_stray 79 = .ok (.iconst 1, 1) := by decide +kernel
theorem dX8_stray_80 : decode cX8_stray 80 = .ok (.goto 4, 3) := by decide +kernel
theorem dX8_stray_83 : decode cX8_stray 83 = .ok (.iconst 0, 1) := by decide +kernel
theorem dX8_stray_84 : decode cX8_stray 84 = .ok (.iadd, 1) := by decide +kernel
theorem dX8_stray_85 : decode cX8_stray 85 = .ok (.istore_n 3, 1) := by decide +kernel
theorem dX8_stray_86 : decode cX8_stray 86 = .ok (.iinc 4 1, 3) := by decide +kernel
theorem dX8_stray_89 : decode cX8_stray 89 = .ok (.goto (-41), 3) := by decide +kernel
theorem dX8_stray_92 : decode cX8_stray 92 = .ok (.iload_n 3, 1) := by decide +kernel
theorem dX8_stray_93 : decode cX8_stray 93 = .ok (.ireturn, 1) := by decide +kernel
theorem dX8_nextDrive_0 : decode cX8_nextDrive 0 = .ok (.iload_n 1, 1) := by decide +kernel
theorem dX8_nextDrive_1 : decode cX8_nextDrive 1 = .ok (.iconst 1, 1) := by decide +kernel
theorem dX8_nextDrive_2 : decode cX8_nextDrive 2 = .ok (.iadd, 1) := by decide +kernel
theorem dX8_nextDrive_3 : decode cX8_nextDrive 3 = .ok (.istore_n 2, 1) := by decide +kernel
theorem dX8_nextDrive_4 : decode cX8_nextDrive 4 = .ok (.iload_n 2, 1) := by decide +kernel
theorem dX8_nextDrive_5 : decode cX8_nextDrive 5 = .ok (.bipush 10, 2) := by decide +kernel
theorem dX8_nextDrive_7 : decode cX8_nextDrive 7 = .ok (.aload_n 0, 1) := by decide +kernel
theorem dX8_nextDrive_8 : decode cX8_nextDrive 8 = .ok (.getfield 112, 3) := by decide +kernel
theorem dX8_nextDrive_11 : decode cX8_nextDrive 11 = .ok (.imul, 1) := by decide +kernel
theorem dX8_nextDrive_12 : decode cX8_nextDrive 12 = .ok (.if_icmp .ge 19, 3) := by decide +kernel
theorem dX8_nextDrive_15 : decode cX8_nextDrive 15 = .ok (.aload_n 0, 1) := by decide +kernel
theorem dX8_nextDrive_16 : decode cX8_nextDrive 16 = .ok (.iload_n 2, 1) := by decide +kernel
theorem dX8_nextDrive_17 : decode cX8_nextDrive 17 = .ok (.invokevirtual 243, 3) := by decide +kernel
theorem dX8_nextDrive_20 : decode cX8_nextDrive 20 = .ok (.ifCond .eq 5, 3) := by decide +kernel
theorem dX8_nextDrive_23 : decode cX8_nextDrive 23 = .ok (.iload_n 2, 1) := by decide +kernel
theorem dX8_nextDrive_24 : decode cX8_nextDrive 24 = .ok (.ireturn, 1) := by decide +kernel
theorem dX8_nextDrive_25 : decode cX8_nextDrive 25 = .ok (.iinc 2 1, 3) := by decide +kernel
theorem dX8_nextDrive_28 : decode cX8_nextDrive 28 = .ok (.goto (-24), 3) := by decide +kernel
theorem dX8_nextDrive_31 : decode cX8_nextDrive 31 = .ok (.iload_n 1, 1) := by decide +kernel
theorem dX8_nextDrive_32 : decode cX8_nextDrive 32 = .ok (.bipush 99, 2) := by decide +kernel
theorem dX8_nextDrive_34 : decode cX8_nextDrive 34 = .ok (.if_icmp .ge 8, 3) := by decide +kernel
theorem dX8_nextDrive_37 : decode cX8_nextDrive 37 = .ok (.bipush 99, 2) := by decide +kernel
theorem dX8_nextDrive_39 : decode cX8_nextDrive 39 = .ok (.goto 5, 3) := by decide +kernel
theorem dX8_nextDrive_42 : decode cX8_nextDrive 42 = .ok (.bipush 100, 2) := by decide +kernel
theorem dX8_nextDrive_44 : decode cX8_nextDrive 44 = .ok (.ireturn, 1) := by decide +kernel
theorem dX8_isWatered_0 : decode cX8_isWatered 0 = .ok (.iconst 0, 1) := by decide +kernel
theorem dX8_isWatered_1 : decode cX8_isWatered 1 = .ok (.istore_n 2, 1) := by decide +kernel
theorem dX8_isWatered_2 : decode cX8_isWatered 2 = .ok (.iconst 0, 1) := by decide +kernel
theorem dX8_isWatered_3 : decode cX8_isWatered 3 = .ok (.istore_n 3, 1) := by decide +kernel
theorem dX8_isWatered_4 : decode cX8_isWatered 4 = .ok (.iload_n 3, 1) := by decide +kernel
theorem dX8_isWatered_5 : decode cX8_isWatered 5 = .ok (.aload_n 0, 1) := by decide +kernel
theorem dX8_isWatered_6 : decode cX8_isWatered 6 = .ok (.getfield 112, 3) := by decide +kernel
theorem dX8_isWatered_9 : decode cX8_isWatered 9 = .ok (.if_icmp .ge 54, 3) := by decide +kernel
theorem dX8_isWatered_12 : decode cX8_isWatered 12 = .ok (.iload_n 2, 1) := by decide +kernel
theorem dX8_isWatered_13 : decode cX8_isWatered 13 = .ok (.ifCond .ne 38, 3) := by decide +kernel
theorem dX8_isWatered_16 : decode cX8_isWatered 16 = .ok (.aload_n 0, 1) := by decide +kernel
theorem dX8_isWatered_17 : decode cX8_isWatered 17 = .ok (.getfield 16, 3) := by decide +kernel
theorem dX8_isWatered_20 : decode cX8_isWatered 20 = .ok (.iload_n 3, 1) := by decide +kernel
theorem dX8_isWatered_21 : decode cX8_isWatered 21 = .ok (.iaload, 1) := by decide +kernel
theorem dX8_isWatered_22 : decode cX8_isWatered 22 = .ok (.iload_n 1, 1) := by decide +kernel
theorem dX8_isWatered_23 : decode cX8_isWatered 23 = .ok (.if_icmp .ne 32, 3) := by decide +kernel
theorem dX8_isWatered_26 : decode cX8_isWatered 26 = .ok (.aload_n 0, 1) := by decide +kernel
theorem dX8_isWatered_27 : decode cX8_isWatered 27 = .ok (.getfield 13, 3) := by decide +kernel
theorem dX8_isWatered_30 : decode cX8_isWatered 30 = .ok (.iload_n 3, 1) := by decide +kernel
theorem dX8_isWatered_31 : decode cX8_isWatered 31 = .ok (.iaload, 1) := by decide +kernel
theorem dX8_isWatered_32 : decode cX8_isWatered 32 = .ok (.ifCond .ne 23, 3) := by decide +kernel
theorem dX8_isWatered_35 : decode cX8_isWatered 35 = .ok (.aload_n 0, 1) := by decide +kernel
theorem dX8_isWatered_36 : decode cX8_isWatered 36 = .ok (.getfield 55, 3) := by decide +kernel
theorem dX8_isWatered_39 : decode cX8_isWatered 39 = .ok (.bipush 37, 2) := by decide +kernel
theorem dX8_isWatered_41 : decode cX8_isWatered 41 = .ok (.iload_n 3, 1) := by decide +kernel
theorem dX8_isWatered_42 : decode cX8_isWatered 42 = .ok (.iadd, 1) := by decide +kernel
theorem dX8_isWatered_43 : decode cX8_isWatered 43 = .ok (.iaload, 1) := by decide +kernel
theorem dX8_isWatered_44 : decode cX8_isWatered 44 = .ok (.aload_n 0, 1) := by decide +kernel
theorem dX8_isWatered_45 : decode cX8_isWatered 45 = .ok (.getfield 166, 3) := by decide +kernel
theorem dX8_isWatered_48 : decode cX8_isWatered 48 = .ok (.if_icmp .ne 7, 3) := by decide +kernel
theorem dX8_isWatered_51 : decode cX8_isWatered 51 = .ok (.iconst 1, 1) := by decide +kernel
theorem dX8_isWatered_52 : decode cX8_isWatered 52 = .ok (.goto 4, 3) := by decide +kernel
theorem dX8_isWatered_55 : decode cX8_isWatered 55 = .ok (.iconst 0, 1) := by decide +kernel
theorem dX8_isWatered_56 : decode cX8_isWatered 56 = .ok (.istore_n 2, 1) := by decide +kernel
theorem dX8_isWatered_57 : decode cX8_isWatered 57 = .ok (.iinc 3 1, 3) := by decide +kernel
theorem dX8_isWatered_60 : decode cX8_isWatered 60 = .ok (.goto (-56), 3) := by decide +kernel
theorem dX8_isWatered_63 : decode cX8_isWatered 63 = .ok (.iload_n 2, 1) := by decide +kernel
theorem dX8_isWatered_64 : decode cX8_isWatered 64 = .ok (.ireturn, 1) := by decide +kernel
theorem dX8_isSummer_0 : decode cX8_isSummer 0 = .ok (.iconst 0, 1) := by decide +kernel
theorem dX8_isSummer_1 : decode cX8_isSummer 1 = .ok (.istore_n 3, 1) := by decide +kernel
theorem dX8_isSummer_2 : decode cX8_isSummer 2 = .ok (.aload_n 0, 1) := by decide +kernel
theorem dX8_isSummer_3 : decode cX8_isSummer 3 = .ok (.getfield 70, 3) := by decide +kernel
theorem dX8_isSummer_6 : decode cX8_isSummer 6 = .ok (.iconst 0, 1) := by decide +kernel
theorem dX8_isSummer_7 : decode cX8_isSummer 7 = .ok (.aload_n 0, 1) := by decide +kernel
theorem dX8_isSummer_8 : decode cX8_isSummer 8 = .ok (.getfield 22, 3) := by decide +kernel
theorem dX8_isSummer_11 : decode cX8_isSummer 11 = .ok (.iconst 0, 1) := by decide +kernel
theorem dX8_isSummer_12 : decode cX8_isSummer 12 = .ok (.bipush 54, 2) := by decide +kernel
theorem dX8_isSummer_14 : decode cX8_isSummer 14 = .ok (.invokestatic 162, 3) := by decide +kernel
theorem dX8_isSummer_17 : decode cX8_isSummer 17 = .ok (.aload_n 0, 1) := by decide +kernel
theorem dX8_isSummer_18 : decode cX8_isSummer 18 = .ok (.getfield 73, 3) := by decide +kernel
theorem dX8_isSummer_21 : decode cX8_isSummer 21 = .ok (.iconst 0, 1) := by decide +kernel
theorem dX8_isSummer_22 : decode cX8_isSummer 22 = .ok (.iconst (-1), 1) := by decide +kernel
theorem dX8_isSummer_23 : decode cX8_isSummer 23 = .ok (.iastore, 1) := by decide +kernel
theorem dX8_isSummer_24 : decode cX8_isSummer 24 = .ok (.iload_n 3, 1) := by decide +kernel
theorem dX8_isSummer_25 : decode cX8_isSummer 25 = .ok (.ifCond .lt 186, 3) := by decide +kernel
theorem dX8_isSummer_28 : decode cX8_isSummer 28 = .ok (.aload_n 0, 1) := by decide +kernel
theorem dX8_isSummer_29 : decode cX8_isSummer 29 = .ok (.getfield 55, 3) := by decide +kernel
theorem dX8_isSummer_32 : decode cX8_isSummer 32 = .ok (.iconst 0, 1) := by decide +kernel
theorem dX8_isSummer_33 : decode cX8_isSummer 33 = .ok (.aload_n 0, 1) := by decide +kernel
theorem dX8_isSummer_34 : decode cX8_isSummer 34 = .ok (.getfield 70, 3) := by decide +kernel
theorem dX8_isSummer_37 : decode cX8_isSummer 37 = .ok (.bipush 54, 2) := by decide +kernel
theorem dX8_isSummer_39 : decode cX8_isSummer 39 = .ok (.iload_n 3, 1) := by decide +kernel
theorem dX8_isSummer_40 : decode cX8_isSummer 40 = .ok (.imul, 1) := by decide +kernel
theorem dX8_isSummer_41 : decode cX8_isSummer 41 = .ok (.bipush 54, 2) := by decide +kernel
theorem dX8_isSummer_43 : decode cX8_isSummer 43 = .ok (.invokestatic 162, 3) := by decide +kernel
theorem dX8_isSummer_46 : decode cX8_isSummer 46 = .ok (.iload_n 3, 1) := by decide +kernel
theorem dX8_isSummer_47 : decode cX8_isSummer 47 = .ok (.iload_n 2, 1) := by decide +kernel
theorem dX8_isSummer_48 : decode cX8_isSummer 48 = .ok (.if_icmp .ne 13, 3) := by decide +kernel
theorem dX8_isSummer_51 : decode cX8_isSummer 51 = .ok (.aload_n 0, 1) := by decide +kernel
theorem dX8_isSummer_52 : decode cX8_isSummer 52 = .ok (.iload_n 1, 1) := by decide +kernel
theorem dX8_isSummer_53 : decode cX8_isSummer 53 = .ok (.invokevirtual 261, 3) := by decide +kernel
theorem dX8_isSummer_56 : decode cX8_isSummer 56 = .ok (.ifCond .eq 5, 3) := by decide +kernel
theorem dX8_isSummer_59 : decode cX8_isSummer 59 = .ok (.iconst 1, 1) := by decide +kernel
theorem dX8_isSummer_60 : decode cX8_isSummer 60 = .ok (.ireturn, 1) := by decide +kernel
theorem dX8_isSummer_61 : decode cX8_isSummer 61 = .ok (.iload_n 3, 1) := by decide +kernel
theorem dX8_isSummer_62 : decode cX8_isSummer 62 = .ok (.iload_n 2, 1) := by decide +kernel
theorem dX8_isSummer_63 : decode cX8_isSummer 63 = .ok (.if_icmp .eq 10, 3) := by decide +kernel
theorem dX8_isSummer_66 : decode cX8_isSummer 66 = .ok (.aload_n 0, 1) := by decide +kernel
theorem dX8_isSummer_67 : decode cX8_isSummer 67 = .ok (.invokevirtual 222, 3) := by decide +kernel
theorem dX8_isSummer_70 : decode cX8_isSummer 70 = .ok (.ifCond .eq 7, 3) := by decide +kernel
theorem dX8_isSummer_73 : decode cX8_isSummer 73 = .ok (.iconst 1, 1) := by decide +kernel
theorem dX8_isSummer_74 : decode cX8_isSummer 74 = .ok (.goto 4, 3) := by decide +kernel
theorem dX8_isSummer_77 : decode cX8_isSummer 77 = .ok (.iconst 0, 1) := by decide +kernel
theorem dX8_isSummer_78 : decode cX8_isSummer 78 = .ok (.istore 4, 2) := by decide +kernel
theorem dX8_isSummer_80 : decode cX8_isSummer 80 = .ok (.iload 4, 2) := by decide +kernel
theorem dX8_isSummer_82 : decode cX8_isSummer 82 = .ok (.ifCond .ne 14, 3) := by decide +kernel
theorem dX8_isSummer_85 : decode cX8_isSummer 85 = .ok (.aload_n 0, 1) := by decide +kernel
theorem dX8_isSummer_86 : decode cX8_isSummer 86 = .ok (.getfield 73, 3) := by decide +kernel
theorem dX8_isSummer_89 : decode cX8_isSummer 89 = .ok (.iload_n 3, 1) := by decide +kernel
theorem dX8_isSummer_90 : decode cX8_isSummer 90 = .ok (.iaload, 1) := by decide +kernel
theorem dX8_isSummer_91 : decode cX8_isSummer 91 = .ok (.bipush 99, 2) := by decide +kernel
theorem dX8_isSummer_93 : decode cX8_isSummer 93 = .ok (.if_icmp .ne 8, 3) := by decide +kernel
theorem dX8_isSummer_96 : decode cX8_isSummer 96 = .ok (.bipush 100, 2) := by decide +kernel
theorem dX8_isSummer_98 : decode cX8_isSummer 98 = .ok (.goto 30, 3) := by decide +kernel
theorem dX8_isSummer_101 : decode cX8_isSummer 101 = .ok (.aload_n 0, 1) := by decide +kernel
theorem dX8_isSummer_102 : decode cX8_isSummer 102 = .ok (.getfield 55, 3) := by decide +kernel
theorem dX8_isSummer_105 : decode cX8_isSummer 105 = .ok (.iconst 0, 1) := by decide +kernel
theorem dX8_isSummer_106 : decode cX8_isSummer 106 = .ok (.iaload, 1) := by decide +kernel
theorem dX8_isSummer_107 : decode cX8_isSummer 107 = .ok (.iconst 2, 1) := by decide +kernel
theorem dX8_isSummer_108 : decode cX8_isSummer 108 = .ok (.irem, 1) := by decide +kernel
theorem dX8_isSummer_109 : decode cX8_isSummer 109 = .ok (.iload_n 1, 1) := by decide +kernel
theorem dX8_isSummer_110 : decode cX8_isSummer 110 = .ok (.if_icmp .ne 16, 3) := by decide +kernel
theorem dX8_isSummer_113 : decode cX8_isSummer 113 = .ok (.aload_n 0, 1) := by decide +kernel
theorem dX8_isSummer_114 : decode cX8_isSummer 114 = .ok (.aload_n 0, 1) := by decide +kernel
theorem dX8_isSummer_115 : decode cX8_isSummer 115 = .ok (.getfield 73, 3) := by decide +kernel
theorem dX8_isSummer_118 : decode cX8_isSummer 118 = .ok (.iload_n 3, 1) := by decide +kernel
theorem dX8_isSummer_119 : decode cX8_isSummer 119 = .ok (.iaload, 1) := by decide +kernel
theorem dX8_isSummer_120 : decode cX8_isSummer 120 = .ok (.invokevirtual 264, 3) := by decide +kernel
theorem dX8_isSummer_123 : decode cX8_isSummer 123 = .ok (.goto 5, 3) := by decide +kernel
theorem dX8_isSummer_126 : decode cX8_isSummer 126 = .ok (.bipush 99, 2) := by decide +kernel
theorem dX8_isSummer_128 : decode cX8_isSummer 128 = .ok (.istore 5, 2) := by decide +kernel
theorem dX8_isSummer_130 : decode cX8_isSummer 130 = .ok (.iload 5, 2) := by decide +kernel
theorem dX8_isSummer_132 : decode cX8_isSummer 132 = .ok (.bipush 100, 2) := by decide +kernel
theorem dX8_isSummer_134 : decode cX8_isSummer 134 = .ok (.if_icmp .ne 9, 3) := by decide +kernel
theorem dX8_isSummer_137 : decode cX8_isSummer 137 = .ok (.iinc 3 (-1), 3) := by decide +kernel
theorem dX8_isSummer_140 : decode cX8_isSummer 140 = .ok (.goto 68, 3) := by decide +kernel
theorem dX8_isSummer_143 : decode cX8_isSummer 143 = .ok (.aload_n 0, 1) := by decide +kernel
theorem dX8_isSummer_144 : decode cX8_isSummer 144 = .ok (.iload_n 1, 1) := by decide +kernel
theorem dX8_isSummer_145 : decode cX8_isSummer 145 = .ok (.invokevirtual 267, 3) := by decide +kernel
theorem dX8_isSummer_148 : decode cX8_isSummer 148 = .ok (.istore 6, 2) := by decide +kernel
theorem dX8_isSummer_150 : decode cX8_isSummer 150 = .ok (.aload_n 0, 1) := by decide +kernel
theorem dX8_isSummer_151 : decode cX8_isSummer 151 = .ok (.getfield 73, 3) := by decide +kernel
theorem dX8_isSummer_154 : decode cX8_isSummer 154 = .ok (.iload_n 3, 1) := by decide +kernel
theorem dX8_isSummer_155 : decode cX8_isSummer 155 = .ok (.iload 5, 2) := by decide +kernel
theorem dX8_isSummer_157 : decode cX8_isSummer 157 = .ok (.iastore, 1) := by decide +kernel
theorem dX8_isSummer_158 : decode cX8_isSummer 158 = .ok (.aload_n 0, 1) := by decide +kernel
theorem dX8_isSummer_159 : decode cX8_isSummer 159 = .ok (.iload 5, 2) := by decide +kernel
theorem dX8_isSummer_161 : decode cX8_isSummer 161 = .ok (.invokevirtual 240, 3) := by decide +kernel
theorem dX8_isSummer_164 : decode cX8_isSummer 164 = .ok (.aload_n 0, 1) := by decide +kernel
theorem dX8_isSummer_165 : decode cX8_isSummer 165 = .ok (.iload_n 1, 1) := by decide +kernel
theorem dX8_isSummer_166 : decode cX8_isSummer 166 = .ok (.invokevirtual 267, 3) := by decide +kernel
theorem dX8_isSummer_169 : decode cX8_isSummer 169 = .ok (.iload 6, 2) := by decide +kernel
theorem dX8_isSummer_171 : decode cX8_isSummer 171 = .ok (.if_icmp .ne 37, 3) := by decide +kernel
theorem dX8_isSummer_174 : decode cX8_isSummer 174 = .ok (.iinc 3 1, 3) := by decide +kernel
theorem dX8_isSummer_177 : decode cX8_isSummer 177 = .ok (.aload_n 0, 1) := by decide +kernel
theorem dX8_isSummer_178 : decode cX8_isSummer 178 = .ok (.getfield 70, 3) := by decide +kernel
theorem dX8_isSummer_181 : decode cX8_isSummer 181 = .ok (.bipush 54, 2) := by decide +kernel
theorem dX8_isSummer_183 : decode cX8_isSummer 183 = .ok (.iload_n 3, 1) := by decide +kernel
theorem dX8_isSummer_184 : decode cX8_isSummer 184 = .ok (.imul, 1) := by decide +kernel
theorem dX8_isSummer_185 : decode cX8_isSummer 185 = .ok (.aload_n 0, 1) := by decide +kernel
theorem dX8_isSummer_186 : decode cX8_isSummer 186 = .ok (.getfield 55, 3) := by decide +kernel
theorem dX8_isSummer_189 : decode cX8_isSummer 189 = .ok (.iconst 0, 1) := by decide +kernel
theorem dX8_isSummer_190 : decode cX8_isSummer 190 = .ok (.bipush 54, 2) := by decide +kernel
theorem dX8_isSummer_192 : decode cX8_isSummer 192 = .ok (.invokestatic 162, 3) := by decide +kernel
theorem dX8_isSummer_195 : decode cX8_isSummer 195 = .ok (.iload_n 3, 1) := by decide +kernel
theorem dX8_isSummer_196 : decode cX8_isSummer 196 = .ok (.bipush 6, 2) := by decide +kernel
theorem dX8_isSummer_198 : decode cX8_isSummer 198 = .ok (.if_icmp .ge 10, 3) := by decide +kernel
theorem dX8_isSummer_201 : decode cX8_isSummer 201 = .ok (.aload_n 0, 1) := by decide +kernel
theorem dX8_isSummer_202 : decode cX8_isSummer 202 = .ok (.getfield 73, 3) := by decide +kernel
theorem dX8_isSummer_205 : decode cX8_isSummer 205 = .ok (.iload_n 3, 1) := by decide +kernel
theorem dX8_isSummer_206 : decode cX8_isSummer 206 = .ok (.iconst (-1), 1) := by decide +kernel
theorem dX8_isSummer_207 : decode cX8_isSummer 207 = .ok (.iastore, 1) := by decide +kernel
theorem dX8_isSummer_208 : decode cX8_isSummer 208 = .ok (.goto (-184), 3) := by decide +kernel
theorem dX8_isSummer_211 : decode cX8_isSummer 211 = .ok (.iconst 0, 1) := by decide +kernel
theorem dX8_isSummer_212 : decode cX8_isSummer 212 = .ok (.ireturn, 1) := by decide +kernel
theorem dX8_summer_0 : decode cX8_summer 0 = .ok (.iload_n 1, 1) := by decide +kernel
theorem dX8_summer_1 : decode cX8_summer 1 = .ok (.iconst 0, 1) := by decide +kernel
theorem dX8_summer_2 : decode cX8_summer 2 = .ok (.iconst 1, 1) := by decide +kernel
theorem dX8_summer_3 : decode cX8_summer 3 = .ok (.invokestatic 115, 3) := by decide +kernel
theorem dX8_summer_6 : decode cX8_summer 6 = .ok (.ifCond .eq 8, 3) := by decide +kernel
theorem dX8_summer_9 : decode cX8_summer 9 = .ok (.iload_n 2, 1) := by decide +kernel
theorem dX8_summer_10 : decode cX8_summer 10 = .ok (.iconst (-1), 1) := by decide +kernel
theorem dX8_summer_11 : decode cX8_summer 11 = .ok (.if_icmp .ge 5, 3) := by decide +kernel
theorem dX8_summer_14 : decode cX8_summer 14 = .ok (.iconst (-1), 1) := by decide +kernel
theorem dX8_summer_15 : decode cX8_summer 15 = .ok (.ireturn, 1) := by decide +kernel
theorem dX8_summer_16 : decode cX8_summer 16 = .ok (.aload_n 0, 1) := by decide +kernel
theorem dX8_summer_17 : decode cX8_summer 17 = .ok (.getfield 166, 3) := by decide +kernel
theorem dX8_summer_20 : decode cX8_summer 20 = .ok (.ifCond .ge 6, 3) := by decide +kernel
theorem dX8_summer_23 : decode cX8_summer 23 = .ok (.bipush (-2), 2) := by decide +kernel
theorem dX8_summer_25 : decode cX8_summer 25 = .ok (.ireturn, 1) := by decide +kernel
theorem dX8_summer_26 : decode cX8_summer 26 = .ok (.iconst 0, 1) := by decide +kernel
theorem dX8_summer_27 : decode cX8_summer 27 = .ok (.istore_n 3, 1) := by decide +kernel
theorem dX8_summer_28 : decode cX8_summer 28 = .ok (.iload_n 3, 1) := by decide +kernel
theorem dX8_summer_29 : decode cX8_summer 29 = .ok (.iconst 5, 1) := by decide +kernel
theorem dX8_summer_30 : decode cX8_summer 30 = .ok (.if_icmp .gt 77, 3) := by decide +kernel
theorem dX8_summer_33 : decode cX8_summer 33 = .ok (.aload_n 0, 1) := by decide +kernel
theorem dX8_summer_34 : decode cX8_summer 34 = .ok (.iload_n 1, 1) := by decide +kernel
theorem dX8_summer_35 : decode cX8_summer 35 = .ok (.iload_n 3, 1) := by decide +kernel
theorem dX8_summer_36 : decode cX8_summer 36 = .ok (.invokevirtual 270, 3) := by decide +kernel
theorem dX8_summer_39 : decode cX8_summer 39 = .ok (.ifCond .eq 62, 3) := by decide +kernel
theorem dX8_summer_42 : decode cX8_summer 42 = .ok (.iload_n 2, 1) := by decide +kernel
theorem dX8_summer_43 : decode cX8_summer 43 = .ok (.iconst 2, 1) := by decide +kernel
theorem dX8_summer_44 : decode cX8_summer 44 = .ok (.if_icmp .le 7, 3) := by decide +kernel
theorem dX8_summer_47 : decode cX8_summer 47 = .ok (.iload_n 3, 1) := by decide +kernel
theorem dX8_summer_48 : decode cX8_summer 48 = .ok (.goto 24, 3) := by decide +kernel
theorem dX8_summer_51 : decode cX8_summer 51 = .ok (.iconst 2, 1) := by decide +kernel
theorem dX8_summer_52 : decode cX8_summer 52 = .ok (.iload_n 2, 1) := by decide +kernel
theorem dX8_summer_53 : decode cX8_summer 53 = .ok (.imul, 1) := by decide +kernel
theorem dX8_summer_54 : decode cX8_summer 54 = .ok (.aload_n 0, 1) := by decide +kernel
theorem dX8_summer_55 : decode cX8_summer 55 = .ok (.getfield 22, 3) := by decide +kernel
theorem dX8_summer_58 : decode cX8_summer 58 = .ok (.iconst 0, 1) := by decide +kernel
theorem dX8_summer_59 : decode cX8_summer 59 = .ok (.iaload, 1) := by decide +kernel
theorem dX8_summer_60 : decode cX8_summer 60 = .ok (.iconst 2, 1) := by decide +kernel
theorem dX8_summer_61 : decode cX8_summer 61 = .ok (.irem, 1) := by decide +kernel
theorem dX8_summer_62 : decode cX8_summer 62 = .ok (.iload_n 1, 1) := by decide +kernel
theorem dX8_summer_63 : decode cX8_summer 63 = .ok (.if_icmp .ne 7, 3) := by decide +kernel
theorem dX8_summer_66 : decode cX8_summer 66 = .ok (.iconst 0, 1) := by decide +kernel
theorem dX8_summer_67 : decode cX8_summer 67 = .ok (.goto 4, 3) := by decide +kernel
theorem dX8_summer_70 : decode cX8_summer 70 = .ok (.iconst 1, 1) := by decide +kernel
theorem dX8_summer_71 : decode cX8_summer 71 = .ok (.iadd, 1) := by decide +kernel
theorem dX8_summer_72 : decode cX8_summer 72 = .ok (.istore 4, 2) := by decide +kernel
theorem dX8_summer_74 : decode cX8_summer 74 = .ok (.iload_n 2, 1) := by decide +kernel
theorem dX8_summer_75 : decode cX8_summer 75 = .ok (.ifCond .ge 7, 3) := by decide +kernel
theorem dX8_summer_78 : decode cX8_summer 78 = .ok (.iload_n 3, 1) := by decide +kernel
theorem dX8_summer_79 : decode cX8_summer 79 = .ok (.goto 21, 3) := by decide +kernel
theorem dX8_summer_82 : decode cX8_summer 82 = .ok (.iload 4, 2) := by decide +kernel
theorem dX8_summer_84 : decode cX8_summer 84 = .ok (.iload_n 3, 1) := by decide +kernel
theorem dX8_summer_85 : decode cX8_summer 85 = .ok (.if_icmp .ge 13, 3) := by decide +kernel
theorem dX8_summer_88 : decode cX8_summer 88 = .ok (.aload_n 0, 1) := by decide +kernel
theorem dX8_summer_89 : decode cX8_summer 89 = .ok (.getfield 73, 3) := by decide +kernel
theorem dX8_summer_92 : decode cX8_summer 92 = .ok (.iload 4, 2) := by decide +kernel
theorem dX8_summer_94 : decode cX8_summer 94 = .ok (.iaload, 1) := by decide +kernel
theorem dX8_summer_95 : decode cX8_summer 95 = .ok (.goto 5, 3) := by decide +kernel
theorem dX8_summer_98 : decode cX8_summer 98 = .ok (.bipush (-4), 2) := by decide +kernel
theorem dX8_summer_100 : decode cX8_summer 100 = .ok (.ireturn, 1) := by decide +kernel
theorem dX8_summer_101 : decode cX8_summer 101 = .ok (.iinc 3 1, 3) := by decide +kernel
theorem dX8_summer_104 : decode cX8_summer 104 = .ok (.goto (-76), 3) := by decide +kernel
theorem dX8_summer_107 : decode cX8_summer 107 = .ok (.bipush (-4), 2) := by decide +kernel
theorem dX8_summer_109 : decode cX8_summer 109 = .ok (.ireturn, 1) := by decide +kernel
theorem dX8_plays_0 : decode cX8_plays 0 = .ok (.iconst 0, 1) := by decide +kernel
theorem dX8_plays_1 : decode cX8_plays 1 = .ok (.istore_n 2, 1) := by decide +kernel
theorem dX8_plays_2 : decode cX8_plays 2 = .ok (.bipush 99, 2) := by decide +kernel
theorem dX8_plays_4 : decode cX8_plays 4 = .ok (.istore_n 3, 1) := by decide +kernel
theorem dX8_plays_5 : decode cX8_plays 5 = .ok (.aload_n 0, 1) := by decide +kernel
theorem dX8_plays_6 : decode cX8_plays 6 = .ok (.getfield 70, 3) := by decide +kernel
theorem dX8_plays_9 : decode cX8_plays 9 = .ok (.iconst 0, 1) := by decide +kernel
theorem dX8_plays_10 : decode cX8_plays 10 = .ok (.aload_n 0, 1) := by decide +kernel
theorem dX8_plays_11 : decode cX8_plays 11 = .ok (.getfield 22, 3) := by decide +kernel
theorem dX8_plays_14 : decode cX8_plays 14 = .ok (.iconst 0, 1) := by decide +kernel
theorem dX8_plays_15 : decode cX8_plays 15 = .ok (.bipush 54, 2) := by decide +kernel
theorem dX8_plays_17 : decode cX8_plays 17 = .ok (.invokestatic 162, 3) := by decide +kernel
theorem dX8_plays_20 : decode cX8_plays 20 = .ok (.aload_n 0, 1) := by decide +kernel
theorem dX8_plays_21 : decode cX8_plays 21 = .ok (.getfield 73, 3) := by decide +kernel
theorem dX8_plays_24 : decode cX8_plays 24 = .ok (.iconst 0, 1) := by decide +kernel
theorem dX8_plays_25 : decode cX8_plays 25 = .ok (.iconst (-1), 1) := by decide +kernel
theorem dX8_plays_26 : decode cX8_plays 26 = .ok (.iastore, 1) := by decide +kernel
theorem dX8_plays_27 : decode cX8_plays 27 = .ok (.aload_n 0, 1) := by decide +kernel
theorem dX8_plays_28 : decode cX8_plays 28 = .ok (.getfield 55, 3) := by decide +kernel
theorem dX8_plays_31 : decode cX8_plays 31 = .ok (.iconst 0, 1) := by decide +kernel
theorem dX8_plays_32 : decode cX8_plays 32 = .ok (.aload_n 0, 1) := by decide +kernel
theorem dX8_plays_33 : decode cX8_plays 33 = .ok (.getfield 70, 3) := by decide +kernel
theorem dX8_plays_36 : decode cX8_plays 36 = .ok (.bipush 54, 2) := by decide +kernel
theorem dX8_plays_38 : decode cX8_plays 38 = .ok (.iload_n 2, 1) := by decide +kernel
theorem dX8_plays_39 : decode cX8_plays 39 = .ok (.imul, 1) := by decide +kernel
theorem dX8_plays_40 : decode cX8_plays 40 = .ok (.bipush 54, 2) := by decide +kernel
theorem dX8_plays_42 : decode cX8_plays 42 = .ok (.invokestatic 162, 3) := by decide +kernel
theorem dX8_plays_45 : decode cX8_plays 45 = .ok (.iload_n 2, 1) := by decide +kernel
theorem dX8_plays_46 : decode cX8_plays 46 = .ok (.iload_n 1, 1) := by decide +kernel
theorem dX8_plays_47 : decode cX8_plays 47 = .ok (.if_icmp .eq 10, 3) := by decide +kernel
theorem dX8_plays_50 : decode cX8_plays 50 = .ok (.aload_n 0, 1) := by decide +kernel
theorem dX8_plays_51 : decode cX8_plays 51 = .ok (.invokevirtual 222, 3) := by decide +kernel
theorem dX8_plays_54 : decode cX8_plays 54 = .ok (.ifCond .eq 7, 3) := by decide +kernel
theorem dX8_plays_57 : decode cX8_plays 57 = .ok (.iconst 1, 1) := by decide +kernel
theorem dX8_plays_58 : decode cX8_plays 58 = .ok (.goto 4, 3) := by decide +kernel
theorem dX8_plays_61 : decode cX8_plays 61 = .ok (.iconst 0, 1) := by decide +kernel
theorem dX8_plays_62 : decode cX8_plays 62 = .ok (.istore 4, 2) := by decide +kernel
theorem dX8_plays_64 : decode cX8_plays 64 = .ok (.iload 4, 2) := by decide +kernel
theorem dX8_plays_66 : decode cX8_plays 66 = .ok (.ifCond .ne 14, 3) := by decide +kernel
theorem dX8_plays_69 : decode cX8_plays 69 = .ok (.aload_n 0, 1) := by decide +kernel
theorem dX8_plays_70 : decode cX8_plays 70 = .ok (.getfield 73, 3) := by decide +kernel
theorem dX8_plays_73 : decode cX8_plays 73 = .ok (.iload_n 2, 1) := by decide +kernel
theorem dX8_plays_74 : decode cX8_plays 74 = .ok (.iaload, 1) := by decide +kernel
theorem dX8_plays_75 : decode cX8_plays 75 = .ok (.bipush 99, 2) := by decide +kernel
theorem dX8_plays_77 : decode cX8_plays 77 = .ok (.if_icmp .ne 8, 3) := by decide +kernel
theorem dX8_plays_80 : decode cX8_plays 80 = .ok (.bipush 100, 2) := by decide +kernel
theorem dX8_plays_82 : decode cX8_plays 82 = .ok (.goto 13, 3) := by decide +kernel
theorem dX8_plays_85 : decode cX8_plays 85 = .ok (.aload_n 0, 1) := by decide +kernel
theorem dX8_plays_86 : decode cX8_plays 86 = .ok (.aload_n 0, 1) := by decide +kernel
theorem dX8_plays_87 : decode cX8_plays 87 = .ok (.getfield 73, 3) := by decide +kernel
theorem dX8_plays_90 : decode cX8_plays 90 = .ok (.iload_n 2, 1) := by decide +kernel
theorem dX8_plays_91 : decode cX8_plays 91 = .ok (.iaload, 1) := by decide +kernel
theorem dX8_plays_92 : decode cX8_plays 92 = .ok (.invokevirtual 264, 3) := by decide +kernel
theorem dX8_plays_95 : decode cX8_plays 95 = .ok (.istore 5, 2) := by decide +kernel
theorem dX8_plays_97 : decode cX8_plays 97 = .ok (.iload 5, 2) := by decide +kernel
theorem dX8_plays_99 : decode cX8_plays 99 = .ok (.bipush 100, 2) := by decide +kernel
theorem dX8_plays_101 : decode cX8_plays 101 = .ok (.if_icmp .eq 48, 3) := by decide +kernel
theorem dX8_plays_104 : decode cX8_plays 104 = .ok (.aload_n 0, 1) := by decide +kernel
theorem dX8_plays_105 : decode cX8_plays 105 = .ok (.getfield 73, 3) := by decide +kernel
theorem dX8_plays_108 : decode cX8_plays 108 = .ok (.iload_n 2, 1) := by decide +kernel
theorem dX8_plays_109 : decode cX8_plays 109 = .ok (.iload 5, 2) := by decide +kernel
theorem dX8_plays_111 : decode cX8_plays 111 = .ok (.iastore, 1) := by decide +kernel
theorem dX8_plays_112 : decode cX8_plays 112 = .ok (.aload_n 0, 1) := by decide +kernel
theorem dX8_plays_113 : decode cX8_plays 113 = .ok (.iload 5, 2) := by decide +kernel
theorem dX8_plays_115 : decode cX8_plays 115 = .ok (.invokevirtual 240, 3) := by decide +kernel
theorem dX8_plays_118 : decode cX8_plays 118 = .ok (.iinc 2 1, 3) := by decide +kernel
theorem dX8_plays_121 : decode cX8_plays 121 = .ok (.aload_n 0, 1) := by decide +kernel
theorem dX8_plays_122 : decode cX8_plays 122 = .ok (.getfield 70, 3) := by decide +kernel
theorem dX8_plays_125 : decode cX8_plays 125 = .ok (.bipush 54, 2) := by decide +kernel
theorem dX8_plays_127 : decode cX8_plays 127 = .ok (.iload_n 2, 1) := by decide +kernel
theorem dX8_plays_128 : decode cX8_plays 128 = .ok (.imul, 1) := by decide +kernel
theorem dX8_plays_129 : decode cX8_plays 129 = .ok (.aload_n 0, 1) := by decide +kernel
theorem dX8_plays_130 : decode cX8_plays 130 = .ok (.getfield 55, 3) := by decide +kernel
theorem dX8_plays_133 : decode cX8_plays 133 = .ok (.iconst 0, 1) := by decide +kernel
theorem dX8_plays_134 : decode cX8_plays 134 = .ok (.bipush 54, 2) := by decide +kernel
theorem dX8_plays_136 : decode cX8_plays 136 = .ok (.invokestatic 162, 3) := by decide +kernel
theorem dX8_plays_139 : decode cX8_plays 139 = .ok (.aload_n 0, 1) := by decide +kernel
theorem dX8_plays_140 : decode cX8_plays 140 = .ok (.getfield 73, 3) := by decide +kernel
theorem dX8_plays_143 : decode cX8_plays 143 = .ok (.iload_n 2, 1) := by decide +kernel
theorem dX8_plays_144 : decode cX8_plays 144 = .ok (.iconst (-1), 1) := by decide +kernel
theorem dX8_plays_145 : decode cX8_plays 145 = .ok (.iastore, 1) := by decide +kernel
theorem dX8_plays_146 : decode cX8_plays 146 = .ok (.goto 142, 3) := by decide +kernel
theorem dX8_plays_149 : decode cX8_plays 149 = .ok (.iload 4, 2) := by decide +kernel
theorem dX8_plays_151 : decode cX8_plays 151 = .ok (.ifCond .eq 10, 3) := by decide +kernel
theorem dX8_plays_154 : decode cX8_plays 154 = .ok (.aload_n 0, 1) := by decide +kernel
theorem dX8_plays_155 : decode cX8_plays 155 = .ok (.invokevirtual 273, 3) := by decide +kernel
theorem dX8_plays_158 : decode cX8_plays 158 = .ok (.goto 9, 3) := by decide +kernel
theorem dX8_plays_161 : decode cX8_plays 161 = .ok (.aload_n 0, 1) := by decide +kernel
theorem dX8_plays_162 : decode cX8_plays 162 = .ok (.getfield 76, 3) := by decide +kernel
theorem dX8_plays_165 : decode cX8_plays 165 = .ok (.iload_n 2, 1) := by decide +kernel
theorem dX8_plays_166 : decode cX8_plays 166 = .ok (.iaload, 1) := by decide +kernel
theorem dX8_plays_167 : decode cX8_plays 167 = .ok (.istore 6, 2) := by decide +kernel
theorem dX8_plays_169 : decode cX8_plays 169 = .ok (.iload_n 2, 1) := by decide +kernel
theorem dX8_plays_170 : decode cX8_plays 170 = .ok (.ifCond .ne 13, 3) := by decide +kernel
theorem dX8_plays_173 : decode cX8_plays 173 = .ok (.aload_n 0, 1) := by decide +kernel
theorem dX8_plays_174 : decode cX8_plays 174 = .ok (.getfield 73, 3) := by decide +kernel
theorem dX8_plays_177 : decode cX8_plays 177 = .ok (.iconst 5, 1) := by decide +kernel
theorem dX8_plays_178 : decode cX8_plays 178 = .ok (.iload_n 3, 1) := by decide +kernel
theorem dX8_plays_179 : decode cX8_plays 179 = .ok (.iastore, 1) := by decide +kernel
theorem dX8_plays_180 : decode cX8_plays 180 = .ok (.iload 6, 2) := by decide +kernel
theorem dX8_plays_182 : decode cX8_plays 182 = .ok (.ireturn, 1) := by decide +kernel
theorem dX8_plays_183 : decode cX8_plays 183 = .ok (.iinc 2 (-1), 3) := by decide +kernel
theorem dX8_plays_186 : decode cX8_plays 186 = .ok (.aload_n 0, 1) := by decide +kernel
theorem dX8_plays_187 : decode cX8_plays 187 = .ok (.iload_n 2, 1) := by decide +kernel
theorem dX8_plays_188 : decode cX8_plays 188 = .ok (.invokevirtual 276, 3) := by decide +kernel
theorem dX8_plays_191 : decode cX8_plays 191 = .ok (.istore 7, 2) := by decide +kernel
theorem dX8_plays_193 : decode cX8_plays 193 = .ok (.iload 7, 2) := by decide +kernel
theorem dX8_plays_195 : decode cX8_plays 195 = .ok (.ifCond .ne 44, 3) := by decide +kernel
theorem dX8_plays_198 : decode cX8_plays 198 = .ok (.aload_n 0, 1) := by decide +kernel
theorem dX8_plays_199 : decode cX8_plays 199 = .ok (.getfield 70, 3) := by decide +kernel
theorem dX8_plays_202 : decode cX8_plays 202 = .ok (.bipush 54, 2) := by decide +kernel
theorem dX8_plays_204 : decode cX8_plays 204 = .ok (.iload_n 2, 1) := by decide +kernel
theorem dX8_plays_205 : decode cX8_plays 205 = .ok (.imul, 1) := by decide +kernel
theorem dX8_plays_206 : decode cX8_plays 206 = .ok (.iconst 0, 1) := by decide +kernel
theorem dX8_plays_207 : decode cX8_plays 207 = .ok (.iadd, 1) := by decide +kernel
theorem dX8_plays_208 : decode cX8_plays 208 = .ok (.iaload, 1) := by decide +kernel
theorem dX8_plays_209 : decode cX8_plays 209 = .ok (.iconst 2, 1) := by decide +kernel
theorem dX8_plays_210 : decode cX8_plays 210 = .ok (.irem, 1) := by decide +kernel
theorem dX8_plays_211 : decode cX8_plays 211 = .ok (.ifCond .ne 17, 3) := by decide +kernel
theorem dX8_plays_214 : decode cX8_plays 214 = .ok (.iload 6, 2) := by decide +kernel
theorem dX8_plays_216 : decode cX8_plays 216 = .ok (.aload_n 0, 1) := by decide +kernel
theorem dX8_plays_217 : decode cX8_plays 217 = .ok (.getfield 76, 3) := by decide +kernel
theorem dX8_plays_220 : decode cX8_plays 220 = .ok (.iload_n 2, 1) := by decide +kernel
theorem dX8_plays_221 : decode cX8_plays 221 = .ok (.iaload, 1) := by decide +kernel
theorem dX8_plays_222 : decode cX8_plays 222 = .ok (.if_icmp .le 21, 3) := by decide +kernel
theorem dX8_plays_225 : decode cX8_plays 225 = .ok (.goto 14, 3) := by decide +kernel
theorem dX8_plays_228 : decode cX8_plays 228 = .ok (.iload 6, 2) := by decide +kernel
theorem dX8_plays_230 : decode cX8_plays 230 = .ok (.aload_n 0, 1) := by decide +kernel
theorem dX8_plays_231 : decode cX8_plays 231 = .ok (.getfield 76, 3) := by decide +kernel
theorem dX8_plays_234 : decode cX8_plays 234 = .ok (.iload_n 2, 1) := by decide +kernel
theorem dX8_plays_235 : decode cX8_plays 235 = .ok (.iaload, 1) := by decide +kernel
theorem dX8_plays_236 : decode cX8_plays 236 = .ok (.if_icmp .ge 7, 3) := by decide +kernel
theorem dX8_plays_239 : decode cX8_plays 239 = .ok (.iconst 1, 1) := by decide +kernel
theorem dX8_plays_240 : decode cX8_plays 240 = .ok (.goto 4, 3) := by decide +kernel
theorem dX8_plays_243 : decode cX8_plays 243 = .ok (.iconst 0, 1) := by decide +kernel
theorem dX8_plays_244 : decode cX8_plays 244 = .ok (.istore 8, 2) := by decide +kernel
theorem dX8_plays_246 : decode cX8_plays 246 = .ok (.aload_n 0, 1) := by decide +kernel
theorem dX8_plays_247 : decode cX8_plays 247 = .ok (.getfield 76, 3) := by decide +kernel
theorem dX8_plays_250 : decode cX8_plays 250 = .ok (.iload_n 2, 1) := by decide +kernel
theorem dX8_plays_251 : decode cX8_plays 251 = .ok (.iload 8, 2) := by decide +kernel
theorem dX8_plays_253 : decode cX8_plays 253 = .ok (.ifCond .eq 8, 3) := by decide +kernel
theorem dX8_plays_256 : decode cX8_plays 256 = .ok (.iload 6, 2) := by decide +kernel
theorem dX8_plays_258 : decode cX8_plays 258 = .ok (.goto 9, 3) := by decide +kernel
theorem dX8_plays_261 : decode cX8_plays 261 = .ok (.aload_n 0, 1) := by decide +kernel
theorem dX8_plays_262 : decode cX8_plays 262 = .ok (.getfield 76, 3) := by decide +kernel
theorem dX8_plays_265 : decode cX8_plays 265 = .ok (.iload_n 2, 1) := by decide +kernel
theorem dX8_plays_266 : decode cX8_plays 266 = .ok (.iaload, 1) := by decide +kernel
theorem dX8_plays_267 : decode cX8_plays 267 = .ok (.iastore, 1) := by decide +kernel
theorem dX8_plays_268 : decode cX8_plays 268 = .ok (.iload 8, 2) := by decide +kernel
theorem dX8_plays_270 : decode cX8_plays 270 = .ok (.ifCond .eq 16, 3) := by decide +kernel
theorem dX8_plays_273 : decode cX8_plays 273 = .ok (.iload_n 2, 1) := by decide +kernel
theorem dX8_plays_274 : decode cX8_plays 274 = .ok (.ifCond .ne 12, 3) := by decide +kernel
theorem dX8_plays_277 : decode cX8_plays 277 = .ok (.aload_n 0, 1) := by decide +kernel
theorem dX8_plays_278 : decode cX8_plays 278 = .ok (.getfield 73, 3) := by decide +kernel
theorem dX8_plays_281 : decode cX8_plays 281 = .ok (.iconst 0, 1) := by decide +kernel
theorem dX8_plays_282 : decode cX8_plays 282 = .ok (.iaload, 1) := by decide +kernel
theorem dX8_plays_283 : decode cX8_plays 283 = .ok (.goto 4, 3) := by decide +kernel
theorem dX8_plays_286 : decode cX8_plays 286 = .ok (.iload_n 3, 1) := by decide +kernel
theorem dX8_plays_287 : decode cX8_plays 287 = .ok (.istore_n 3, 1) := by decide +kernel
theorem dX8_plays_288 : decode cX8_plays 288 = .ok (.goto (-261), 3) := by decide +kernel
theorem dX8_isFirstOf_0 : decode cX8_isFirstOf 0 = .ok (.aload_n 0, 1) := by decide +kernel
theorem dX8_isFirstOf_1 : decode cX8_isFirstOf 1 = .ok (.getfield 55, 3) := by decide +kernel
theorem dX8_isFirstOf_4 : decode cX8_isFirstOf 4 = .ok (.iconst 0, 1) := by decide +kernel
theorem dX8_isFirstOf_5 : decode cX8_isFirstOf 5 = .ok (.aload_n 0, 1) := by decide +kernel
theorem dX8_isFirstOf_6 : decode cX8_isFirstOf 6 = .ok (.getfield 70, 3) := by decide +kernel
theorem dX8_isFirstOf_9 : decode cX8_isFirstOf 9 = .ok (.bipush 54, 2) := by decide +kernel
theorem dX8_isFirstOf_11 : decode cX8_isFirstOf 11 = .ok (.iload_n 1, 1) := by decide +kernel
theorem dX8_isFirstOf_12 : decode cX8_isFirstOf 12 = .ok (.imul, 1) := by decide +kernel
theorem dX8_isFirstOf_13 : decode cX8_isFirstOf 13 = .ok (.bipush 54, 2) := by decide +kernel
theorem dX8_isFirstOf_15 : decode cX8_isFirstOf 15 = .ok (.invokestatic 162, 3) := by decide +kernel
theorem dX8_isFirstOf_18 : decode cX8_isFirstOf 18 = .ok (.aload_n 0, 1) := by decide +kernel
theorem dX8_isFirstOf_19 : decode cX8_isFirstOf 19 = .ok (.iconst (-1), 1) := by decide +kernel
theorem dX8_isFirstOf_20 : decode cX8_isFirstOf 20 = .ok (.invokevirtual 264, 3) := by decide +kernel
theorem dX8_isFirstOf_23 : decode cX8_isFirstOf 23 = .ok (.aload_n 0, 1) := by decide +kernel
theorem dX8_isFirstOf_24 : decode cX8_isFirstOf 24 = .ok (.getfield 73, 3) := by decide +kernel
theorem dX8_isFirstOf_27 : decode cX8_isFirstOf 27 = .ok (.iload_n 1, 1) := by decide +kernel
theorem dX8_isFirstOf_28 : decode cX8_isFirstOf 28 = .ok (.iaload, 1) := by decide +kernel
theorem dX8_isFirstOf_29 : decode cX8_isFirstOf 29 = .ok (.if_icmp .ne 7, 3) := by decide +kernel
theorem dX8_isFirstOf_32 : decode cX8_isFirstOf 32 = .ok (.iconst 1, 1) := by decide +kernel
theorem dX8_isFirstOf_33 : decode cX8_isFirstOf 33 = .ok (.goto 4, 3) := by decide +kernel
theorem dX8_isFirstOf_36 : decode cX8_isFirstOf 36 = .ok (.iconst 0, 1) := by decide +kernel
theorem dX8_isFirstOf_37 : decode cX8_isFirstOf 37 = .ok (.ireturn, 1) := by decide +kernel
theorem dX8_game_0 : decode cX8_game 0 = .ok (.iload_n 1, 1) := by decide +kernel
theorem dX8_game_1 : decode cX8_game 1 = .ok (.iconst 1, 1) := by decide +kernel
theorem dX8_game_2 : decode cX8_game 2 = .ok (.iconst 3, 1) := by decide +kernel
theorem dX8_game_3 : decode cX8_game 3 = .ok (.invokestatic 115, 3) := by decide +kernel
theorem dX8_game_6 : decode cX8_game 6 = .ok (.ifCond .eq 12, 3) := by decide +kernel
theorem dX8_game_9 : decode cX8_game 9 = .ok (.iload_n 2, 1) := by decide +kernel
theorem dX8_game_10 : decode cX8_game 10 = .ok (.iconst 0, 1) := by decide +kernel
theorem dX8_game_11 : decode cX8_game 11 = .ok (.iconst 1, 1) := by decide +kernel
theorem dX8_game_12 : decode cX8_game 12 = .ok (.invokestatic 115, 3) := by decide +kernel
theorem dX8_game_15 : decode cX8_game 15 = .ok (.ifCond .ne 5, 3) := by decide +kernel
theorem dX8_game_18 : decode cX8_game 18 = .ok (.iconst (-1), 1) := by decide +kernel
theorem dX8_game_19 : decode cX8_game 19 = .ok (.ireturn, 1) := by decide +kernel
theorem dX8_game_20 : decode cX8_game 20 = .ok (.aload_n 0, 1) := by decide +kernel
theorem dX8_game_21 : decode cX8_game 21 = .ok (.invokevirtual 228, 3) := by decide +kernel
theorem dX8_game_24 : decode cX8_game 24 = .ok (.aload_n 0, 1) := by decide +kernel
theorem dX8_game_25 : decode cX8_game 25 = .ok (.invokevirtual 222, 3) := by decide +kernel
theorem dX8_game_28 : decode cX8_game 28 = .ok (.ifCond .eq 6, 3) := by decide +kernel
theorem dX8_game_31 : decode cX8_game 31 = .ok (.bipush (-2), 2) := by decide +kernel
theorem dX8_game_33 : decode cX8_game 33 = .ok (.ireturn, 1) := by decide +kernel
theorem dX8_game_34 : decode cX8_game 34 = .ok (.aload_n 0, 1) := by decide +kernel
theorem dX8_game_35 : decode cX8_game 35 = .ok (.iload_n 1, 1) := by decide +kernel
theorem dX8_game_36 : decode cX8_game 36 = .ok (.invokevirtual 279, 3) := by decide +kernel
theorem dX8_game_39 : decode cX8_game 39 = .ok (.istore_n 3, 1) := by decide +kernel
theorem dX8_game_40 : decode cX8_game 40 = .ok (.iload_n 2, 1) := by decide +kernel
theorem dX8_game_41 : decode cX8_game 41 = .ok (.ifCond .ne 10, 3) := by decide +kernel
theorem dX8_game_44 : decode cX8_game 44 = .ok (.bipush 100, 2) := by decide +kernel
theorem dX8_game_46 : decode cX8_game 46 = .ok (.iload_n 3, 1) := by decide +kernel
theorem dX8_game_47 : decode cX8_game 47 = .ok (.iadd, 1) := by decide +kernel
theorem dX8_game_48 : decode cX8_game 48 = .ok (.goto 9, 3) := by decide +kernel
theorem dX8_game_51 : decode cX8_game 51 = .ok (.aload_n 0, 1) := by decide +kernel
theorem dX8_game_52 : decode cX8_game 52 = .ok (.getfield 73, 3) := by decide +kernel
theorem dX8_game_55 : decode cX8_game 55 = .ok (.iconst 5, 1) := by decide +kernel
theorem dX8_game_56 : decode cX8_game 56 = .ok (.iaload, 1) := by decide +kernel
theorem dX8_game_57 : decode cX8_game 57 = .ok (.ireturn, 1) := by decide +kernel
theorem dX8_again_0 : decode cX8_again 0 = .ok (.aload_n 0, 1) := by decide +kernel
theorem dX8_again_1 : decode cX8_again 1 = .ok (.iload_n 1, 1) := by decide +kernel
theorem dX8_again_2 : decode cX8_again 2 = .ok (.invokevirtual 225, 3) := by decide +kernel
theorem dX8_again_5 : decode cX8_again 5 = .ok (.ifCond .ne 5, 3) := by decide +kernel
theorem dX8_again_8 : decode cX8_again 8 = .ok (.iconst (-1), 1) := by decide +kernel
theorem dX8_again_9 : decode cX8_again 9 = .ok (.ireturn, 1) := by decide +kernel
theorem dX8_again_10 : decode cX8_again 10 = .ok (.aload_n 0, 1) := by decide +kernel
theorem dX8_again_11 : decode cX8_again 11 = .ok (.getfield 7, 3) := by decide +kernel
theorem dX8_again_14 : decode cX8_again 14 = .ok (.iload_n 1, 1) := by decide +kernel
theorem dX8_again_15 : decode cX8_again 15 = .ok (.iaload, 1) := by decide +kernel
theorem dX8_again_16 : decode cX8_again 16 = .ok (.bipush 9, 2) := by decide +kernel
theorem dX8_again_18 : decode cX8_again 18 = .ok (.if_icmp .ne 6, 3) := by decide +kernel
theorem dX8_again_21 : decode cX8_again 21 = .ok (.bipush (-2), 2) := by decide +kernel
theorem dX8_again_23 : decode cX8_again 23 = .ok (.ireturn, 1) := by decide +kernel
theorem dX8_again_24 : decode cX8_again 24 = .ok (.aload_n 0, 1) := by decide +kernel
theorem dX8_again_25 : decode cX8_again 25 = .ok (.invokevirtual 228, 3) := by decide +kernel
theorem dX8_again_28 : decode cX8_again 28 = .ok (.iconst 0, 1) := by decide +kernel
theorem dX8_again_29 : decode cX8_again 29 = .ok (.istore_n 2, 1) := by decide +kernel
theorem dX8_again_30 : decode cX8_again 30 = .ok (.iload_n 2, 1) := by decide +kernel
theorem dX8_again_31 : decode cX8_again 31 = .ok (.bipush 60, 2) := by decide +kernel
theorem dX8_again_33 : decode cX8_again 33 = .ok (.if_icmp .gt 28, 3) := by decide +kernel
theorem dX8_again_36 : decode cX8_again 36 = .ok (.aload_n 0, 1) := by decide +kernel
theorem dX8_again_37 : decode cX8_again 37 = .ok (.getfield 55, 3) := by decide +kernel
theorem dX8_again_40 : decode cX8_again 40 = .ok (.iconst 1, 1) := by decide +kernel
theorem dX8_again_41 : decode cX8_again 41 = .ok (.iload_n 1, 1) := by decide +kernel
theorem dX8_again_42 : decode cX8_again 42 = .ok (.iadd, 1) := by decide +kernel
theorem dX8_again_43 : decode cX8_again 43 = .ok (.iaload, 1) := by decide +kernel
theorem dX8_again_44 : decode cX8_again 44 = .ok (.ifCond .le 5, 3) := by decide +kernel
theorem dX8_again_47 : decode cX8_again 47 = .ok (.iload_n 2, 1) := by decide +kernel
theorem dX8_again_48 : decode cX8_again 48 = .ok (.ireturn, 1) := by decide +kernel
theorem dX8_again_49 : decode cX8_again 49 = .ok (.aload_n 0, 1) := by decide +kernel
theorem dX8_again_50 : decode cX8_again 50 = .ok (.bipush 99, 2) := by decide +kernel
theorem dX8_again_52 : decode cX8_again 52 = .ok (.invokevirtual 240, 3) := by decide +kernel
theorem dX8_again_55 : decode cX8_again 55 = .ok (.iinc 2 1, 3) := by decide +kernel
theorem dX8_again_58 : decode cX8_again 58 = .ok (.goto (-28), 3) := by decide +kernel
theorem dX8_again_61 : decode cX8_again 61 = .ok (.bipush (-4), 2) := by decide +kernel
theorem dX8_again_63 : decode cX8_again 63 = .ok (.ireturn, 1) := by decide +kernel
theorem dX8_starves_0 : decode cX8_starves 0 = .ok (.aload_n 0, 1) := by decide +kernel
theorem dX8_starves_1 : decode cX8_starves 1 = .ok (.iload_n 1, 1) := by decide +kernel
theorem dX8_starves_2 : decode cX8_starves 2 = .ok (.invokevirtual 231, 3) := by decide +kernel
theorem dX8_starves_5 : decode cX8_starves 5 = .ok (.ifCond .ne 5, 3) := by decide +kernel
theorem dX8_starves_8 : decode cX8_starves 8 = .ok (.iconst (-1), 1) := by decide +kernel
theorem dX8_starves_9 : decode cX8_starves 9 = .ok (.ireturn, 1) := by decide +kernel
theorem dX8_starves_10 : decode cX8_starves 10 = .ok (.aload_n 0, 1) := by decide +kernel
theorem dX8_starves_11 : decode cX8_starves 11 = .ok (.getfield 22, 3) := by decide +kernel
theorem dX8_starves_14 : decode cX8_starves 14 = .ok (.bipush 37, 2) := by decide +kernel
theorem dX8_starves_16 : decode cX8_starves 16 = .ok (.iload_n 1, 1) := by decide +kernel
theorem dX8_starves_17 : decode cX8_starves 17 = .ok (.iadd, 1) := by decide +kernel
theorem dX8_starves_18 : decode cX8_starves 18 = .ok (.iaload, 1) := by decide +kernel
theorem dX8_starves_19 : decode cX8_starves 19 = .ok (.bipush 36, 2) := by decide +kernel
theorem dX8_starves_21 : decode cX8_starves 21 = .ok (.if_icmp .ne 6, 3) := by decide +kernel
theorem dX8_starves_24 : decode cX8_starves 24 = .ok (.bipush (-2), 2) := by decide +kernel
theorem dX8_starves_26 : decode cX8_starves 26 = .ok (.ireturn, 1) := by decide +kernel
theorem dX8_starves_27 : decode cX8_starves 27 = .ok (.aload_n 0, 1) := by decide +kernel
theorem dX8_starves_28 : decode cX8_starves 28 = .ok (.invokevirtual 228, 3) := by decide +kernel
theorem dX8_starves_31 : decode cX8_starves 31 = .ok (.iconst 1, 1) := by decide +kernel
theorem dX8_starves_32 : decode cX8_starves 32 = .ok (.istore_n 2, 1) := by decide +kernel
theorem dX8_starves_33 : decode cX8_starves 33 = .ok (.iload_n 2, 1) := by decide +kernel
theorem dX8_starves_34 : decode cX8_starves 34 = .ok (.bipush 60, 2) := by decide +kernel
theorem dX8_starves_36 : decode cX8_starves 36 = .ok (.if_icmp .gt 31, 3) := by decide +kernel
theorem dX8_starves_39 : decode cX8_starves 39 = .ok (.aload_n 0, 1) := by decide +kernel
theorem dX8_starves_40 : decode cX8_starves 40 = .ok (.bipush 99, 2) := by decide +kernel
theorem dX8_starves_42 : decode cX8_starves 42 = .ok (.invokevirtual 240, 3) := by decide +kernel
theorem dX8_starves_45 : decode cX8_starves 45 = .ok (.aload_n 0, 1) := by decide +kernel
theorem dX8_starves_46 : decode cX8_starves 46 = .ok (.getfield 55, 3) := by decide +kernel
theorem dX8_starves_49 : decode cX8_starves 49 = .ok (.bipush 37, 2) := by decide +kernel
theorem dX8_starves_51 : decode cX8_starves 51 = .ok (.iload_n 1, 1) := by decide +kernel
theorem dX8_starves_52 : decode cX8_starves 52 = .ok (.iadd, 1) := by decide +kernel
theorem dX8_starves_53 : decode cX8_starves 53 = .ok (.iaload, 1) := by decide +kernel
theorem dX8_starves_54 : decode cX8_starves 54 = .ok (.bipush 36, 2) := by decide +kernel
theorem dX8_starves_56 : decode cX8_starves 56 = .ok (.if_icmp .ne 5, 3) := by decide +kernel
theorem dX8_starves_59 : decode cX8_starves 59 = .ok (.iload_n 2, 1) := by decide +kernel
theorem dX8_starves_60 : decode cX8_starves 60 = .ok (.ireturn, 1) := by decide +kernel
theorem dX8_starves_61 : decode cX8_starves 61 = .ok (.iinc 2 1, 3) := by decide +kernel
theorem dX8_starves_64 : decode cX8_starves 64 = .ok (.goto (-31), 3) := by decide +kernel
theorem dX8_starves_67 : decode cX8_starves 67 = .ok (.bipush (-4), 2) := by decide +kernel
theorem dX8_starves_69 : decode cX8_starves 69 = .ok (.ireturn, 1) := by decide +kernel
theorem dX8_isOtherwise_0 : decode cX8_isOtherwise 0 = .ok (.aload_n 0, 1) := by decide +kernel
theorem dX8_isOtherwise_1 : decode cX8_isOtherwise 1 = .ok (.getfield 55, 3) := by decide +kernel
theorem dX8_isOtherwise_4 : decode cX8_isOtherwise 4 = .ok (.iconst 0, 1) := by decide +kernel
theorem dX8_isOtherwise_5 : decode cX8_isOtherwise 5 = .ok (.aload_n 0, 1) := by decide +kernel
theorem dX8_isOtherwise_6 : decode cX8_isOtherwise 6 = .ok (.getfield 25, 3) := by decide +kernel
theorem dX8_isOtherwise_9 : decode cX8_isOtherwise 9 = .ok (.bipush 54, 2) := by decide +kernel
theorem dX8_isOtherwise_11 : decode cX8_isOtherwise 11 = .ok (.iload_n 1, 1) := by decide +kernel
theorem dX8_isOtherwise_12 : decode cX8_isOtherwise 12 = .ok (.imul, 1) := by decide +kernel
theorem dX8_isOtherwise_13 : decode cX8_isOtherwise 13 = .ok (.bipush 54, 2) := by decide +kernel
theorem dX8_isOtherwise_15 : decode cX8_isOtherwise 15 = .ok (.invokestatic 162, 3) := by decide +kernel
theorem dX8_isOtherwise_18 : decode cX8_isOtherwise 18 = .ok (.iload_n 2, 1) := by decide +kernel
theorem dX8_isOtherwise_19 : decode cX8_isOtherwise 19 = .ok (.aload_n 0, 1) := by decide +kernel
theorem dX8_isOtherwise_20 : decode cX8_isOtherwise 20 = .ok (.getfield 28, 3) := by decide +kernel
theorem dX8_isOtherwise_23 : decode cX8_isOtherwise 23 = .ok (.iload_n 1, 1) := by decide +kernel
theorem dX8_isOtherwise_24 : decode cX8_isOtherwise 24 = .ok (.iaload, 1) := by decide +kernel
theorem dX8_isOtherwise_25 : decode cX8_isOtherwise 25 = .ok (.if_icmp .eq 44, 3) := by decide +kernel
theorem dX8_isOtherwise_28 : decode cX8_isOtherwise 28 = .ok (.iload_n 2, 1) := by decide +kernel
theorem dX8_isOtherwise_29 : decode cX8_isOtherwise 29 = .ok (.bipush 99, 2) := by decide +kernel
theorem dX8_isOtherwise_31 : decode cX8_isOtherwise 31 = .ok (.if_icmp .eq 40, 3) := by decide +kernel
theorem dX8_isOtherwise_34 : decode cX8_isOtherwise 34 = .ok (.aload_n 0, 1) := by decide +kernel
theorem dX8_isOtherwise_35 : decode cX8_isOtherwise 35 = .ok (.getfield 28, 3) := by decide +kernel
theorem dX8_isOtherwise_38 : decode cX8_isOtherwise 38 = .ok (.iload_n 1, 1) := by decide +kernel
theorem dX8_isOtherwise_39 : decode cX8_isOtherwise 39 = .ok (.iaload, 1) := by decide +kernel
theorem dX8_isOtherwise_40 : decode cX8_isOtherwise 40 = .ok (.bipush 99, 2) := by decide +kernel
theorem dX8_isOtherwise_42 : decode cX8_isOtherwise 42 = .ok (.if_icmp .eq 19, 3) := by decide +kernel
theorem dX8_isOtherwise_45 : decode cX8_isOtherwise 45 = .ok (.iload_n 2, 1) := by decide +kernel
theorem dX8_isOtherwise_46 : decode cX8_isOtherwise 46 = .ok (.bipush 10, 2) := by decide +kernel
theorem dX8_isOtherwise_48 : decode cX8_isOtherwise 48 = .ok (.idiv, 1) := by decide +kernel
theorem dX8_isOtherwise_49 : decode cX8_isOtherwise 49 = .ok (.aload_n 0, 1) := by decide +kernel
theorem dX8_isOtherwise_50 : decode cX8_isOtherwise 50 = .ok (.getfield 28, 3) := by decide +kernel
theorem dX8_isOtherwise_53 : decode cX8_isOtherwise 53 = .ok (.iload_n 1, 1) := by decide +kernel
theorem dX8_isOtherwise_54 : decode cX8_isOtherwise 54 = .ok (.iaload, 1) := by decide +kernel
theorem dX8_isOtherwise_55 : decode cX8_isOtherwise 55 = .ok (.bipush 10, 2) := by decide +kernel
theorem dX8_isOtherwise_57 : decode cX8_isOtherwise 57 = .ok (.idiv, 1) := by decide +kernel
theorem dX8_isOtherwise_58 : decode cX8_isOtherwise 58 = .ok (.if_icmp .ne 11, 3) := by decide +kernel
theorem dX8_isOtherwise_61 : decode cX8_isOtherwise 61 = .ok (.aload_n 0, 1) := by decide +kernel
theorem dX8_isOtherwise_62 : decode cX8_isOtherwise 62 = .ok (.iload_n 2, 1) := by decide +kernel
theorem dX8_isOtherwise_63 : decode cX8_isOtherwise 63 = .ok (.invokevirtual 243, 3) := by decide +kernel
theorem dX8_isOtherwise_66 : decode cX8_isOtherwise 66 = .ok (.ifCond .ne 5, 3) := by decide +kernel
theorem dX8_isOtherwise_69 : decode cX8_isOtherwise 69 = .ok (.iconst 0, 1) := by decide +kernel
theorem dX8_isOtherwise_70 : decode cX8_isOtherwise 70 = .ok (.ireturn, 1) := by decide +kernel
theorem dX8_isOtherwise_71 : decode cX8_isOtherwise 71 = .ok (.aload_n 0, 1) := by decide +kernel
theorem dX8_isOtherwise_72 : decode cX8_isOtherwise 72 = .ok (.iload_n 2, 1) := by decide +kernel
theorem dX8_isOtherwise_73 : decode cX8_isOtherwise 73 = .ok (.invokevirtual 240, 3) := by decide +kernel
theorem dX8_isOtherwise_76 : decode cX8_isOtherwise 76 = .ok (.iload_n 1, 1) := by decide +kernel
theorem dX8_isOtherwise_77 : decode cX8_isOtherwise 77 = .ok (.iconst 1, 1) := by decide +kernel
theorem dX8_isOtherwise_78 : decode cX8_isOtherwise 78 = .ok (.iadd, 1) := by decide +kernel
theorem dX8_isOtherwise_79 : decode cX8_isOtherwise 79 = .ok (.istore 5, 2) := by decide +kernel
theorem dX8_isOtherwise_81 : decode cX8_isOtherwise 81 = .ok (.iload 5, 2) := by decide +kernel
theorem dX8_isOtherwise_83 : decode cX8_isOtherwise 83 = .ok (.aload_n 0, 1) := by decide +kernel
theorem dX8_isOtherwise_84 : decode cX8_isOtherwise 84 = .ok (.getfield 175, 3) := by decide +kernel
theorem dX8_isOtherwise_87 : decode cX8_isOtherwise 87 = .ok (.if_icmp .ge 51, 3) := by decide +kernel
theorem dX8_isOtherwise_90 : decode cX8_isOtherwise 90 = .ok (.aload_n 0, 1) := by decide +kernel
theorem dX8_isOtherwise_91 : decode cX8_isOtherwise 91 = .ok (.aload_n 0, 1) := by decide +kernel
theorem dX8_isOtherwise_92 : decode cX8_isOtherwise 92 = .ok (.getfield 28, 3) := by decide +kernel
theorem dX8_isOtherwise_95 : decode cX8_isOtherwise 95 = .ok (.iload 5, 2) := by decide +kernel
theorem dX8_isOtherwise_97 : decode cX8_isOtherwise 97 = .ok (.iaload, 1) := by decide +kernel
theorem dX8_isOtherwise_98 : decode cX8_isOtherwise 98 = .ok (.bipush 99, 2) := by decide +kernel
theorem dX8_isOtherwise_100 : decode cX8_isOtherwise 100 = .ok (.if_icmp .eq 27, 3) := by decide +kernel
theorem dX8_isOtherwise_103 : decode cX8_isOtherwise 103 = .ok (.aload_n 0, 1) := by decide +kernel
theorem dX8_isOtherwise_104 : decode cX8_isOtherwise 104 = .ok (.aload_n 0, 1) := by decide +kernel
theorem dX8_isOtherwise_105 : decode cX8_isOtherwise 105 = .ok (.getfield 28, 3) := by decide +kernel
theorem dX8_isOtherwise_108 : decode cX8_isOtherwise 108 = .ok (.iload 5, 2) := by decide +kernel
theorem dX8_isOtherwise_110 : decode cX8_isOtherwise 110 = .ok (.iaload, 1) := by decide +kernel
theorem dX8_isOtherwise_111 : decode cX8_isOtherwise 111 = .ok (.invokevirtual 243, 3) := by decide +kernel
theorem dX8_isOtherwise_114 : decode cX8_isOtherwise 114 = .ok (.ifCond .eq 13, 3) := by decide +kernel
theorem dX8_isOtherwise_117 : decode cX8_isOtherwise 117 = .ok (.aload_n 0, 1) := by decide +kernel
theorem dX8_isOtherwise_118 : decode cX8_isOtherwise 118 = .ok (.getfield 28, 3) := by decide +kernel
theorem dX8_isOtherwise_121 : decode cX8_isOtherwise 121 = .ok (.iload 5, 2) := by decide +kernel
theorem dX8_isOtherwise_123 : decode cX8_isOtherwise 123 = .ok (.iaload, 1) := by decide +kernel
theorem dX8_isOtherwise_124 : decode cX8_isOtherwise 124 = .ok (.goto 5, 3) := by decide +kernel
theorem dX8_isOtherwise_127 : decode cX8_isOtherwise 127 = .ok (.bipush 99, 2) := by decide +kernel
theorem dX8_isOtherwise_129 : decode cX8_isOtherwise 129 = .ok (.invokevirtual 240, 3) := by decide +kernel
theorem dX8_isOtherwise_132 : decode cX8_isOtherwise 132 = .ok (.iinc 5 1, 3) := by decide +kernel
theorem dX8_isOtherwise_135 : decode cX8_isOtherwise 135 = .ok (.goto (-54), 3) := by decide +kernel
theorem dX8_isOtherwise_138 : decode cX8_isOtherwise 138 = .ok (.aload_n 0, 1) := by decide +kernel
theorem dX8_isOtherwise_139 : decode cX8_isOtherwise 139 = .ok (.getfield 55, 3) := by decide +kernel
theorem dX8_isOtherwise_142 : decode cX8_isOtherwise 142 = .ok (.bipush 37, 2) := by decide +kernel
theorem dX8_isOtherwise_144 : decode cX8_isOtherwise 144 = .ok (.iload_n 3, 1) := by decide +kernel
theorem dX8_isOtherwise_145 : decode cX8_isOtherwise 145 = .ok (.iadd, 1) := by decide +kernel
theorem dX8_isOtherwise_146 : decode cX8_isOtherwise 146 = .ok (.iaload, 1) := by decide +kernel
theorem dX8_isOtherwise_147 : decode cX8_isOtherwise 147 = .ok (.iload 4, 2) := by decide +kernel
theorem dX8_isOtherwise_149 : decode cX8_isOtherwise 149 = .ok (.if_icmp .ne 7, 3) := by decide +kernel
theorem dX8_isOtherwise_152 : decode cX8_isOtherwise 152 = .ok (.iconst 1, 1) := by decide +kernel
theorem dX8_isOtherwise_153 : decode cX8_isOtherwise 153 = .ok (.goto 4, 3) := by decide +kernel
theorem dX8_isOtherwise_156 : decode cX8_isOtherwise 156 = .ok (.iconst 0, 1) := by decide +kernel
theorem dX8_isOtherwise_157 : decode cX8_isOtherwise 157 = .ok (.ireturn, 1) := by decide +kernel
theorem dX8_otherwise_0 : decode cX8_otherwise 0 = .ok (.aload_n 0, 1) := by decide +kernel
theorem dX8_otherwise_1 : decode cX8_otherwise 1 = .ok (.iload_n 1, 1) := by decide +kernel
theorem dX8_otherwise_2 : decode cX8_otherwise 2 = .ok (.invokevirtual 231, 3) := by decide +kernel
theorem dX8_otherwise_5 : decode cX8_otherwise 5 = .ok (.ifCond .eq 20, 3) := by decide +kernel
theorem dX8_otherwise_8 : decode cX8_otherwise 8 = .ok (.aload_n 0, 1) := by decide +kernel
theorem dX8_otherwise_9 : decode cX8_otherwise 9 = .ok (.iload_n 2, 1) := by decide +kernel
theorem dX8_otherwise_10 : decode cX8_otherwise 10 = .ok (.invokevirtual 225, 3) := by decide +kernel
theorem dX8_otherwise_13 : decode cX8_otherwise 13 = .ok (.ifCond .eq 12, 3) := by decide +kernel
theorem dX8_otherwise_16 : decode cX8_otherwise 16 = .ok (.iload_n 3, 1) := by decide +kernel
theorem dX8_otherwise_17 : decode cX8_otherwise 17 = .ok (.iconst 0, 1) := by decide +kernel
theorem dX8_otherwise_18 : decode cX8_otherwise 18 = .ok (.iconst 1, 1) := by decide +kernel
theorem dX8_otherwise_19 : decode cX8_otherwise 19 = .ok (.invokestatic 115, 3) := by decide +kernel
theorem dX8_otherwise_22 : decode cX8_otherwise 22 = .ok (.ifCond .ne 5, 3) := by decide +kernel
theorem dX8_otherwise_25 : decode cX8_otherwise 25 = .ok (.iconst (-1), 1) := by decide +kernel
theorem dX8_otherwise_26 : decode cX8_otherwise 26 = .ok (.ireturn, 1) := by decide +kernel
theorem dX8_otherwise_27 : decode cX8_otherwise 27 = .ok (.iconst 0, 1) := by decide +kernel
theorem dX8_otherwise_28 : decode cX8_otherwise 28 = .ok (.istore 4, 2) := by decide +kernel
theorem dX8_otherwise_30 : decode cX8_otherwise 30 = .ok (.bipush (-4), 2) := by decide +kernel
theorem dX8_otherwise_32 : decode cX8_otherwise 32 = .ok (.istore 5, 2) := by decide +kernel
theorem dX8_otherwise_34 : decode cX8_otherwise 34 = .ok (.iconst 0, 1) := by decide +kernel
theorem dX8_otherwise_35 : decode cX8_otherwise 35 = .ok (.istore 6, 2) := by decide +kernel
theorem dX8_otherwise_37 : decode cX8_otherwise 37 = .ok (.iload 6, 2) := by decide +kernel
theorem dX8_otherwise_39 : decode cX8_otherwise 39 = .ok (.aload_n 0, 1) := by decide +kernel
theorem dX8_otherwise_40 : decode cX8_otherwise 40 = .ok (.getfield 175, 3) := by decide +kernel
theorem dX8_otherwise_43 : decode cX8_otherwise 43 = .ok (.if_icmp .ge 84, 3) := by decide +kernel
theorem dX8_otherwise_46 : decode cX8_otherwise 46 = .ok (.iconst 0, 1) := by decide +kernel
theorem dX8_otherwise_47 : decode cX8_otherwise 47 = .ok (.istore 7, 2) := by decide +kernel
theorem dX8_otherwise_49 : decode cX8_otherwise 49 = .ok (.iload 7, 2) := by decide +kernel
theorem dX8_otherwise_51 : decode cX8_otherwise 51 = .ok (.bipush 99, 2) := by decide +kernel
theorem dX8_otherwise_53 : decode cX8_otherwise 53 = .ok (.if_icmp .gt 68, 3) := by decide +kernel
theorem dX8_otherwise_56 : decode cX8_otherwise 56 = .ok (.iload 7, 2) := by decide +kernel
theorem dX8_otherwise_58 : decode cX8_otherwise 58 = .ok (.bipush 10, 2) := by decide +kernel
theorem dX8_otherwise_60 : decode cX8_otherwise 60 = .ok (.irem, 1) := by decide +kernel
theorem dX8_otherwise_61 : decode cX8_otherwise 61 = .ok (.iconst 4, 1) := by decide +kernel
theorem dX8_otherwise_62 : decode cX8_otherwise 62 = .ok (.if_icmp .lt 10, 3) := by decide +kernel
theorem dX8_otherwise_65 : decode cX8_otherwise 65 = .ok (.iload 7, 2) := by decide +kernel
theorem dX8_otherwise_67 : decode cX8_otherwise 67 = .ok (.bipush 99, 2) := by decide +kernel
theorem dX8_otherwise_69 : decode cX8_otherwise 69 = .ok (.if_icmp .ne 46, 3) := by decide +kernel
theorem dX8_otherwise_72 : decode cX8_otherwise 72 = .ok (.aload_n 0, 1) := by decide +kernel
theorem dX8_otherwise_73 : decode cX8_otherwise 73 = .ok (.aload_n 0, 1) := by decide +kernel
theorem dX8_otherwise_74 : decode cX8_otherwise 74 = .ok (.getfield 175, 3) := by decide +kernel
theorem dX8_otherwise_77 : decode cX8_otherwise 77 = .ok (.iconst 1, 1) := by decide +kernel
theorem dX8_otherwise_78 : decode cX8_otherwise 78 = .ok (.isub, 1) := by decide +kernel
theorem dX8_otherwise_79 : decode cX8_otherwise 79 = .ok (.iload 6, 2) := by decide +kernel
theorem dX8_otherwise_81 : decode cX8_otherwise 81 = .ok (.isub, 1) := by decide +kernel
theorem dX8_otherwise_82 : decode cX8_otherwise 82 = .ok (.iload 7, 2) := by decide +kernel
theorem dX8_otherwise_84 : decode cX8_otherwise 84 = .ok (.iload_n 1, 1) := by decide +kernel
theorem dX8_otherwise_85 : decode cX8_otherwise 85 = .ok (.iload_n 2, 1) := by decide +kernel
theorem dX8_otherwise_86 : decode cX8_otherwise 86 = .ok (.invokevirtual 282, 3) := by decide +kernel
theorem dX8_otherwise_89 : decode cX8_otherwise 89 = .ok (.ifCond .eq 26, 3) := by decide +kernel
theorem dX8_otherwise_92 : decode cX8_otherwise 92 = .ok (.iload 4, 2) := by decide +kernel
theorem dX8_otherwise_94 : decode cX8_otherwise 94 = .ok (.ifCond .ne 14, 3) := by decide +kernel
theorem dX8_otherwise_97 : decode cX8_otherwise 97 = .ok (.bipush 100, 2) := by decide +kernel
theorem dX8_otherwise_99 : decode cX8_otherwise 99 = .ok (.iload 6, 2) := by decide +kernel
theorem dX8_otherwise_101 : decode cX8_otherwise 101 = .ok (.imul, 1) := by decide +kernel
theorem dX8_otherwise_102 : decode cX8_otherwise 102 = .ok (.iload 7, 2) := by decide +kernel
theorem dX8_otherwise_104 : decode cX8_otherwise 104 = .ok (.iadd, 1) := by decide +kernel
theorem dX8_otherwise_105 : decode cX8_otherwise 105 = .ok (.goto 5, 3) := by decide +kernel
theorem dX8_otherwise_108 : decode cX8_otherwise 108 = .ok (.iload 5, 2) := by decide +kernel
theorem dX8_otherwise_110 : decode cX8_otherwise 110 = .ok (.istore 5, 2) := by decide +kernel
theorem dX8_otherwise_112 : decode cX8_otherwise 112 = .ok (.iinc 4 1, 3) := by decide +kernel
theorem dX8_otherwise_115 : decode cX8_otherwise 115 = .ok (.iinc 7 1, 3) := by decide +kernel
theorem dX8_otherwise_118 : decode cX8_otherwise 118 = .ok (.goto (-69), 3) := by decide +kernel
theorem dX8_otherwise_121 : decode cX8_otherwise 121 = .ok (.iinc 6 1, 3) := by decide +kernel
theorem dX8_otherwise_124 : decode cX8_otherwise 124 = .ok (.goto (-87), 3) := by decide +kernel
theorem dX8_otherwise_127 : decode cX8_otherwise 127 = .ok (.iload_n 3, 1) := by decide +kernel
theorem dX8_otherwise_128 : decode cX8_otherwise 128 = .ok (.ifCond .ne 8, 3) := by decide +kernel
theorem dX8_otherwise_131 : decode cX8_otherwise 131 = .ok (.iload 4, 2) := by decide +kernel
theorem dX8_otherwise_133 : decode cX8_otherwise 133 = .ok (.goto 5, 3) := by decide +kernel
theorem dX8_otherwise_136 : decode cX8_otherwise 136 = .ok (.iload 5, 2) := by decide +kernel
theorem dX8_otherwise_138 : decode cX8_otherwise 138 = .ok (.ireturn, 1) := by decide +kernel
theorem dX8_isNearBog_0 : decode cX8_isNearBog 0 = .ok (.iconst 0, 1) := by decide +kernel
theorem dX8_isNearBog_1 : decode cX8_isNearBog 1 = .ok (.istore_n 2, 1) := by decide +kernel
theorem dX8_isNearBog_2 : decode cX8_isNearBog 2 = .ok (.iconst 0, 1) := by decide +kernel
theorem dX8_isNearBog_3 : decode cX8_isNearBog 3 = .ok (.istore_n 3, 1) := by decide +kernel
theorem dX8_isNearBog_4 : decode cX8_isNearBog 4 = .ok (.iload_n 3, 1) := by decide +kernel
theorem dX8_isNearBog_5 : decode cX8_isNearBog 5 = .ok (.iconst 4, 1) := by decide +kernel
theorem dX8_isNearBog_6 : decode cX8_isNearBog 6 = .ok (.if_icmp .ge 44, 3) := by decide +kernel
theorem dX8_isNearBog_9 : decode cX8_isNearBog 9 = .ok (.aload_n 0, 1) := by decide +kernel
theorem dX8_isNearBog_10 : decode cX8_isNearBog 10 = .ok (.iload_n 1, 1) := by decide +kernel
theorem dX8_isNearBog_11 : decode cX8_isNearBog 11 = .ok (.iload_n 3, 1) := by decide +kernel
theorem dX8_isNearBog_12 : decode cX8_isNearBog 12 = .ok (.invokevirtual 185, 3) := by decide +kernel
theorem dX8_isNearBog_15 : decode cX8_isNearBog 15 = .ok (.istore 4, 2) := by decide +kernel
theorem dX8_isNearBog_17 : decode cX8_isNearBog 17 = .ok (.iload_n 2, 1) := by decide +kernel
theorem dX8_isNearBog_18 : decode cX8_isNearBog 18 = .ok (.ifCond .ne 20, 3) := by decide +kernel
theorem dX8_isNearBog_21 : decode cX8_isNearBog 21 = .ok (.iload 4, 2) := by decide +kernel
theorem dX8_isNearBog_23 : decode cX8_isNearBog 23 = .ok (.ifCond .lt 19, 3) := by decide +kernel
theorem dX8_isNearBog_26 : decode cX8_isNearBog 26 = .ok (.aload_n 0, 1) := by decide +kernel
theorem dX8_isNearBog_27 : decode cX8_isNearBog 27 = .ok (.getfield 7, 3) := by decide +kernel
theorem dX8_isNearBog_30 : decode cX8_isNearBog 30 = .ok (.iload 4, 2) := by decide +kernel
theorem dX8_isNearBog_32 : decode cX8_isNearBog 32 = .ok (.iaload, 1) := by decide +kernel
theorem dX8_isNearBog_33 : decode cX8_isNearBog 33 = .ok (.bipush 9, 2) := by decide +kernel
theorem dX8_isNearBog_35 : decode cX8_isNearBog 35 = .ok (.if_icmp .ne 7, 3) := by decide +kernel
theorem dX8_isNearBog_38 : decode cX8_isNearBog 38 = .ok (.iconst 1, 1) := by decide +kernel
theorem dX8_isNearBog_39 : decode cX8_isNearBog 39 = .ok (.goto 4, 3) := by decide +kernel
theorem dX8_isNearBog_42 : decode cX8_isNearBog 42 = .ok (.iconst 0, 1) := by decide +kernel
theorem dX8_isNearBog_43 : decode cX8_isNearBog 43 = .ok (.istore_n 2, 1) := by decide +kernel
theorem dX8_isNearBog_44 : decode cX8_isNearBog 44 = .ok (.iinc 3 1, 3) := by decide +kernel
theorem dX8_isNearBog_47 : decode cX8_isNearBog 47 = .ok (.goto (-43), 3) := by decide +kernel
theorem dX8_isNearBog_50 : decode cX8_isNearBog 50 = .ok (.iload_n 2, 1) := by decide +kernel
theorem dX8_isNearBog_51 : decode cX8_isNearBog 51 = .ok (.ireturn, 1) := by decide +kernel
theorem dX8_wolf_0 : decode cX8_wolf 0 = .ok (.iconst 0, 1) := by decide +kernel
theorem dX8_wolf_1 : decode cX8_wolf 1 = .ok (.istore_n 1, 1) := by decide +kernel
theorem dX8_wolf_2 : decode cX8_wolf 2 = .ok (.iload_n 1, 1) := by decide +kernel
theorem dX8_wolf_3 : decode cX8_wolf 3 = .ok (.aload_n 0, 1) := by decide +kernel
theorem dX8_wolf_4 : decode cX8_wolf 4 = .ok (.getfield 112, 3) := by decide +kernel
theorem dX8_wolf_7 : decode cX8_wolf 7 = .ok (.if_icmp .ge 51, 3) := by decide +kernel
theorem dX8_wolf_10 : decode cX8_wolf 10 = .ok (.aload_n 0, 1) := by decide +kernel
theorem dX8_wolf_11 : decode cX8_wolf 11 = .ok (.getfield 55, 3) := by decide +kernel
theorem dX8_wolf_14 : decode cX8_wolf 14 = .ok (.bipush 37, 2) := by decide +kernel
theorem dX8_wolf_16 : decode cX8_wolf 16 = .ok (.iload_n 1, 1) := by decide +kernel
theorem dX8_wolf_17 : decode cX8_wolf 17 = .ok (.iadd, 1) := by decide +kernel
theorem dX8_wolf_18 : decode cX8_wolf 18 = .ok (.iaload, 1) := by decide +kernel
theorem dX8_wolf_19 : decode cX8_wolf 19 = .ok (.bipush 36, 2) := by decide +kernel
theorem dX8_wolf_21 : decode cX8_wolf 21 = .ok (.if_icmp .eq 31, 3) := by decide +kernel
theorem dX8_wolf_24 : decode cX8_wolf 24 = .ok (.aload_n 0, 1) := by decide +kernel
theorem dX8_wolf_25 : decode cX8_wolf 25 = .ok (.aload_n 0, 1) := by decide +kernel
theorem dX8_wolf_26 : decode cX8_wolf 26 = .ok (.getfield 55, 3) := by decide +kernel
theorem dX8_wolf_29 : decode cX8_wolf 29 = .ok (.bipush 37, 2) := by decide +kernel
theorem dX8_wolf_31 : decode cX8_wolf 31 = .ok (.iload_n 1, 1) := by decide +kernel
theorem dX8_wolf_32 : decode cX8_wolf 32 = .ok (.iadd, 1) := by decide +kernel
theorem dX8_wolf_33 : decode cX8_wolf 33 = .ok (.iaload, 1) := by decide +kernel
theorem dX8_wolf_34 : decode cX8_wolf 34 = .ok (.invokevirtual 286, 3) := by decide +kernel
theorem dX8_wolf_37 : decode cX8_wolf 37 = .ok (.ifCond .eq 15, 3) := by decide +kernel
theorem dX8_wolf_40 : decode cX8_wolf 40 = .ok (.aload_n 0, 1) := by decide +kernel
theorem dX8_wolf_41 : decode cX8_wolf 41 = .ok (.getfield 55, 3) := by decide +kernel
theorem dX8_wolf_44 : decode cX8_wolf 44 = .ok (.bipush 37, 2) := by decide +kernel
theorem dX8_wolf_46 : decode cX8_wolf 46 = .ok (.iload_n 1, 1) := by decide +kernel
theorem dX8_wolf_47 : decode cX8_wolf 47 = .ok (.iadd, 1) := by decide +kernel
theorem dX8_wolf_48 : decode cX8_wolf 48 = .ok (.bipush 36, 2) := by decide +kernel
theorem dX8_wolf_50 : decode cX8_wolf 50 = .ok (.iastore, 1) := by decide +kernel
theorem dX8_wolf_51 : decode cX8_wolf 51 = .ok (.return_, 1) := by decide +kernel
theorem dX8_wolf_52 : decode cX8_wolf 52 = .ok (.iinc 1 1, 3) := by decide +kernel
theorem dX8_wolf_55 : decode cX8_wolf 55 = .ok (.goto (-53), 3) := by decide +kernel
theorem dX8_wolf_58 : decode cX8_wolf 58 = .ok (.return_, 1) := by decide +kernel
theorem dX8_lowest_0 : decode cX8_lowest 0 = .ok (.iload_n 0, 1) := by decide +kernel
theorem dX8_lowest_1 : decode cX8_lowest 1 = .ok (.istore_n 3, 1) := by decide +kernel
theorem dX8_lowest_2 : decode cX8_lowest 2 = .ok (.iload_n 1, 1) := by decide +kernel
theorem dX8_lowest_3 : decode cX8_lowest 3 = .ok (.istore 4, 2) := by decide +kernel
theorem dX8_lowest_5 : decode cX8_lowest 5 = .ok (.iload 4, 2) := by decide +kernel
theorem dX8_lowest_7 : decode cX8_lowest 7 = .ok (.ifCond .le 19, 3) := by decide +kernel
theorem dX8_lowest_10 : decode cX8_lowest 10 = .ok (.iload_n 3, 1) := by decide +kernel
theorem dX8_lowest_11 : decode cX8_lowest 11 = .ok (.iload 4, 2) := by decide +kernel
theorem dX8_lowest_13 : decode cX8_lowest 13 = .ok (.irem, 1) := by decide +kernel
theorem dX8_lowest_14 : decode cX8_lowest 14 = .ok (.istore 5, 2) := by decide +kernel
theorem dX8_lowest_16 : decode cX8_lowest 16 = .ok (.iload 4, 2) := by decide +kernel
theorem dX8_lowest_18 : decode cX8_lowest 18 = .ok (.istore_n 3, 1) := by decide +kernel
theorem dX8_lowest_19 : decode cX8_lowest 19 = .ok (.iload 5, 2) := by decide +kernel
theorem dX8_lowest_21 : decode cX8_lowest 21 = .ok (.istore 4, 2) := by decide +kernel
theorem dX8_lowest_23 : decode cX8_lowest 23 = .ok (.goto (-18), 3) := by decide +kernel
theorem dX8_lowest_26 : decode cX8_lowest 26 = .ok (.iload_n 2, 1) := by decide +kernel
theorem dX8_lowest_27 : decode cX8_lowest 27 = .ok (.ifCond .ne 7, 3) := by decide +kernel
theorem dX8_lowest_30 : decode cX8_lowest 30 = .ok (.iload_n 0, 1) := by decide +kernel
theorem dX8_lowest_31 : decode cX8_lowest 31 = .ok (.goto 4, 3) := by decide +kernel
theorem dX8_lowest_34 : decode cX8_lowest 34 = .ok (.iload_n 1, 1) := by decide +kernel
theorem dX8_lowest_35 : decode cX8_lowest 35 = .ok (.iload_n 3, 1) := by decide +kernel
theorem dX8_lowest_36 : decode cX8_lowest 36 = .ok (.idiv, 1) := by decide +kernel
theorem dX8_lowest_37 : decode cX8_lowest 37 = .ok (.ireturn, 1) := by decide +kernel
theorem dX8_wolves_0 : decode cX8_wolves 0 = .ok (.aload_n 0, 1) := by decide +kernel
theorem dX8_wolves_1 : decode cX8_wolves 1 = .ok (.iload_n 1, 1) := by decide +kernel
theorem dX8_wolves_2 : decode cX8_wolves 2 = .ok (.invokevirtual 231, 3) := by decide +kernel
theorem dX8_wolves_5 : decode cX8_wolves 5 = .ok (.ifCond .eq 33, 3) := by decide +kernel
theorem dX8_wolves_8 : decode cX8_wolves 8 = .ok (.iload_n 2, 1) := by decide +kernel
theorem dX8_wolves_9 : decode cX8_wolves 9 = .ok (.iconst 0, 1) := by decide +kernel
theorem dX8_wolves_10 : decode cX8_wolves 10 = .ok (.bipush 8, 2) := by decide +kernel
theorem dX8_wolves_12 : decode cX8_wolves 12 = .ok (.invokestatic 115, 3) := by decide +kernel
theorem dX8_wolves_15 : decode cX8_wolves 15 = .ok (.ifCond .eq 23, 3) := by decide +kernel
theorem dX8_wolves_18 : decode cX8_wolves 18 = .ok (.iload_n 3, 1) := by decide +kernel
theorem dX8_wolves_19 : decode cX8_wolves 19 = .ok (.iconst 0, 1) := by decide +kernel
theorem dX8_wolves_20 : decode cX8_wolves 20 = .ok (.bipush 10, 2) := by decide +kernel
theorem dX8_wolves_22 : decode cX8_wolves 22 = .ok (.invokestatic 115, 3) := by decide +kernel
theorem dX8_wolves_25 : decode cX8_wolves 25 = .ok (.ifCond .eq 13, 3) := by decide +kernel
theorem dX8_wolves_28 : decode cX8_wolves 28 = .ok (.iload 4, 2) := by decide +kernel
theorem dX8_wolves_30 : decode cX8_wolves 30 = .ok (.iconst 0, 1) := by decide +kernel
theorem dX8_wolves_31 : decode cX8_wolves 31 = .ok (.iconst 1, 1) := by decide +kernel
theorem dX8_wolves_32 : decode cX8_wolves 32 = .ok (.invokestatic 115, 3) := by decide +kernel
theorem dX8_wolves_35 : decode cX8_wolves 35 = .ok (.ifCond .ne 5, 3) := by decide +kernel
theorem dX8_wolves_38 : decode cX8_wolves 38 = .ok (.iconst (-1), 1) := by decide +kernel
theorem dX8_wolves_39 : decode cX8_wolves 39 = .ok (.ireturn, 1) := by decide +kernel
theorem dX8_wolves_40 : decode cX8_wolves 40 = .ok (.aload_n 0, 1) := by decide +kernel
theorem dX8_wolves_41 : decode cX8_wolves 41 = .ok (.getfield 22, 3) := by decide +kernel
theorem dX8_wolves_44 : decode cX8_wolves 44 = .ok (.bipush 37, 2) := by decide +kernel
theorem dX8_wolves_46 : decode cX8_wolves 46 = .ok (.iload_n 1, 1) := by decide +kernel
theorem dX8_wolves_47 : decode cX8_wolves 47 = .ok (.iadd, 1) := by decide +kernel
theorem dX8_wolves_48 : decode cX8_wolves 48 = .ok (.iaload, 1) := by decide +kernel
theorem dX8_wolves_49 : decode cX8_wolves 49 = .ok (.bipush 36, 2) := by decide +kernel
theorem dX8_wolves_51 : decode cX8_wolves 51 = .ok (.if_icmp .ne 6, 3) := by decide +kernel
theorem dX8_wolves_54 : decode cX8_wolves 54 = .ok (.bipush (-2), 2) := by decide +kernel
theorem dX8_wolves_56 : decode cX8_wolves 56 = .ok (.ireturn, 1) := by decide +kernel
theorem dX8_wolves_57 : decode cX8_wolves 57 = .ok (.iconst 0, 1) := by decide +kernel
theorem dX8_wolves_58 : decode cX8_wolves 58 = .ok (.istore 5, 2) := by decide +kernel
theorem dX8_wolves_60 : decode cX8_wolves 60 = .ok (.iconst 1, 1) := by decide +kernel
theorem dX8_wolves_61 : decode cX8_wolves 61 = .ok (.istore 6, 2) := by decide +kernel
theorem dX8_wolves_63 : decode cX8_wolves 63 = .ok (.iconst 0, 1) := by decide +kernel
theorem dX8_wolves_64 : decode cX8_wolves 64 = .ok (.istore 7, 2) := by decide +kernel
theorem dX8_wolves_66 : decode cX8_wolves 66 = .ok (.iload 7, 2) := by decide +kernel
theorem dX8_wolves_68 : decode cX8_wolves 68 = .ok (.iload_n 2, 1) := by decide +kernel
theorem dX8_wolves_69 : decode cX8_wolves 69 = .ok (.if_icmp .ge 16, 3) := by decide +kernel
theorem dX8_wolves_72 : decode cX8_wolves 72 = .ok (.iload 6, 2) := by decide +kernel
theorem dX8_wolves_74 : decode cX8_wolves 74 = .ok (.bipush 10, 2) := by decide +kernel
theorem dX8_wolves_76 : decode cX8_wolves 76 = .ok (.imul, 1) := by decide +kernel
theorem dX8_wolves_77 : decode cX8_wolves 77 = .ok (.istore 6, 2) := by decide +kernel
theorem dX8_wolves_79 : decode cX8_wolves 79 = .ok (.iinc 7 1, 3) := by decide +kernel
theorem dX8_wolves_82 : decode cX8_wolves 82 = .ok (.goto (-16), 3) := by decide +kernel
theorem dX8_wolves_85 : decode cX8_wolves 85 = .ok (.iconst 0, 1) := by decide +kernel
theorem dX8_wolves_86 : decode cX8_wolves 86 = .ok (.istore 7, 2) := by decide +kernel
theorem dX8_wolves_88 : decode cX8_wolves 88 = .ok (.iload 7, 2) := by decide +kernel
theorem dX8_wolves_90 : decode cX8_wolves 90 = .ok (.iconst 1, 1) := by decide +kernel
theorem dX8_wolves_91 : decode cX8_wolves 91 = .ok (.iload_n 2, 1) := by decide +kernel
theorem dX8_wolves_92 : decode cX8_wolves 92 = .ok (.ishl, 1) := by decide +kernel
theorem dX8_wolves_93 : decode cX8_wolves 93 = .ok (.if_icmp .ge 101, 3) := by decide +kernel
theorem dX8_wolves_96 : decode cX8_wolves 96 = .ok (.iconst 1, 1) := by decide +kernel
theorem dX8_wolves_97 : decode cX8_wolves 97 = .ok (.istore 8, 2) := by decide +kernel
theorem dX8_wolves_99 : decode cX8_wolves 99 = .ok (.aload_n 0, 1) := by decide +kernel
theorem dX8_wolves_100 : decode cX8_wolves 100 = .ok (.invokevirtual 228, 3) := by decide +kernel
theorem dX8_wolves_103 : decode cX8_wolves 103 = .ok (.iconst 0, 1) := by decide +kernel
theorem dX8_wolves_104 : decode cX8_wolves 104 = .ok (.istore 9, 2) := by decide +kernel
theorem dX8_wolves_106 : decode cX8_wolves 106 = .ok (.iload 9, 2) := by decide +kernel
theorem dX8_wolves_108 : decode cX8_wolves 108 = .ok (.iload_n 2, 1) := by decide +kernel
theorem dX8_wolves_109 : decode cX8_wolves 109 = .ok (.if_icmp .ge 54, 3) := by decide +kernel
theorem dX8_wolves_112 : decode cX8_wolves 112 = .ok (.iload 8, 2) := by decide +kernel
theorem dX8_wolves_114 : decode cX8_wolves 114 = .ok (.iload 7, 2) := by decide +kernel
theorem dX8_wolves_116 : decode cX8_wolves 116 = .ok (.iload 9, 2) := by decide +kernel
theorem dX8_wolves_118 : decode cX8_wolves 118 = .ok (.invokestatic 181, 3) := by decide +kernel
theorem dX8_wolves_121 : decode cX8_wolves 121 = .ok (.ifCond .eq 7, 3) := by decide +kernel
theorem dX8_wolves_124 : decode cX8_wolves 124 = .ok (.iload_n 3, 1) := by decide +kernel
theorem dX8_wolves_125 : decode cX8_wolves 125 = .ok (.goto 7, 3) := by decide +kernel
theorem dX8_wolves_128 : decode cX8_wolves 128 = .ok (.bipush 10, 2) := by decide +kernel
theorem dX8_wolves_130 : decode cX8_wolves 130 = .ok (.iload_n 3, 1) := by decide +kernel
theorem dX8_wolves_131 : decode cX8_wolves 131 = .ok (.isub, 1) := by decide +kernel
theorem dX8_wolves_132 : decode cX8_wolves 132 = .ok (.imul, 1) := by decide +kernel
theorem dX8_wolves_133 : decode cX8_wolves 133 = .ok (.istore 8, 2) := by decide +kernel
theorem dX8_wolves_135 : decode cX8_wolves 135 = .ok (.aload_n 0, 1) := by decide +kernel
theorem dX8_wolves_136 : decode cX8_wolves 136 = .ok (.invokevirtual 216, 3) := by decide +kernel
theorem dX8_wolves_139 : decode cX8_wolves 139 = .ok (.iload 7, 2) := by decide +kernel
theorem dX8_wolves_141 : decode cX8_wolves 141 = .ok (.iload 9, 2) := by decide +kernel
theorem dX8_wolves_143 : decode cX8_wolves 143 = .ok (.invokestatic 181, 3) := by decide +kernel
theorem dX8_wolves_146 : decode cX8_wolves 146 = .ok (.ifCond .eq 7, 3) := by decide +kernel
theorem dX8_wolves_149 : decode cX8_wolves 149 = .ok (.aload_n 0, 1) := by decide +kernel
theorem dX8_wolves_150 : decode cX8_wolves 150 = .ok (.invokevirtual 289, 3) := by decide +kernel
theorem dX8_wolves_153 : decode cX8_wolves 153 = .ok (.aload_n 0, 1) := by decide +kernel
theorem dX8_wolves_154 : decode cX8_wolves 154 = .ok (.invokevirtual 219, 3) := by decide +kernel
theorem dX8_wolves_157 : decode cX8_wolves 157 = .ok (.iinc 9 1, 3) := by decide +kernel
theorem dX8_wolves_160 : decode cX8_wolves 160 = .ok (.goto (-54), 3) := by decide +kernel
theorem dX8_wolves_163 : decode cX8_wolves 163 = .ok (.iload 5, 2) := by decide +kernel
theorem dX8_wolves_165 : decode cX8_wolves 165 = .ok (.aload_n 0, 1) := by decide +kernel
theorem dX8_wolves_166 : decode cX8_wolves 166 = .ok (.getfield 55, 3) := by decide +kernel
theorem dX8_wolves_169 : decode cX8_wolves 169 = .ok (.bipush 37, 2) := by decide +kernel
theorem dX8_wolves_171 : decode cX8_wolves 171 = .ok (.iload_n 1, 1) := by decide +kernel
theorem dX8_wolves_172 : decode cX8_wolves 172 = .ok (.iadd, 1) := by decide +kernel
theorem dX8_wolves_173 : decode cX8_wolves 173 = .ok (.iaload, 1) := by decide +kernel
theorem dX8_wolves_174 : decode cX8_wolves 174 = .ok (.bipush 36, 2) := by decide +kernel
theorem dX8_wolves_176 : decode cX8_wolves 176 = .ok (.if_icmp .eq 8, 3) := by decide +kernel
theorem dX8_wolves_179 : decode cX8_wolves 179 = .ok (.iload 8, 2) := by decide +kernel
theorem dX8_wolves_181 : decode cX8_wolves 181 = .ok (.goto 4, 3) := by decide +kernel
theorem dX8_wolves_184 : decode cX8_wolves 184 = .ok (.iconst 0, 1) := by decide +kernel
theorem dX8_wolves_185 : decode cX8_wolves 185 = .ok (.iadd, 1) := by decide +kernel
theorem dX8_wolves_186 : decode cX8_wolves 186 = .ok (.istore 5, 2) := by decide +kernel
theorem dX8_wolves_188 : decode cX8_wolves 188 = .ok (.iinc 7 1, 3) := by decide +kernel
theorem dX8_wolves_191 : decode cX8_wolves 191 = .ok (.goto (-103), 3) := by decide +kernel
theorem dX8_wolves_194 : decode cX8_wolves 194 = .ok (.iload 5, 2) := by decide +kernel
theorem dX8_wolves_196 : decode cX8_wolves 196 = .ok (.iload 6, 2) := by decide +kernel
theorem dX8_wolves_198 : decode cX8_wolves 198 = .ok (.iload 4, 2) := by decide +kernel
theorem dX8_wolves_200 : decode cX8_wolves 200 = .ok (.invokestatic 292, 3) := by decide +kernel
theorem dX8_wolves_203 : decode cX8_wolves 203 = .ok (.ireturn, 1) := by decide +kernel
theorem dX8_season_0 : decode cX8_season 0 = .ok (.iload_n 1, 1) := by decide +kernel
theorem dX8_season_1 : decode cX8_season 1 = .ok (.iconst 0, 1) := by decide +kernel
theorem dX8_season_2 : decode cX8_season 2 = .ok (.sipush 9999, 3) := by decide +kernel
theorem dX8_season_5 : decode cX8_season 5 = .ok (.invokestatic 115, 3) := by decide +kernel
theorem dX8_season_8 : decode cX8_season 8 = .ok (.ifCond .eq 22, 3) := by decide +kernel
theorem dX8_season_11 : decode cX8_season 11 = .ok (.iload_n 2, 1) := by decide +kernel
theorem dX8_season_12 : decode cX8_season 12 = .ok (.iconst 1, 1) := by decide +kernel
theorem dX8_season_13 : decode cX8_season 13 = .ok (.bipush 60, 2) := by decide +kernel
theorem dX8_season_15 : decode cX8_season 15 = .ok (.invokestatic 115, 3) := by decide +kernel
theorem dX8_season_18 : decode cX8_season 18 = .ok (.ifCond .eq 12, 3) := by decide +kernel
theorem dX8_season_21 : decode cX8_season 21 = .ok (.iload_n 3, 1) := by decide +kernel
theorem dX8_season_22 : decode cX8_season 22 = .ok (.iconst 0, 1) := by decide +kernel
theorem dX8_season_23 : decode cX8_season 23 = .ok (.iconst 1, 1) := by decide +kernel
theorem dX8_season_24 : decode cX8_season 24 = .ok (.invokestatic 115, 3) := by decide +kernel
theorem dX8_season_27 : decode cX8_season 27 = .ok (.ifCond .ne 5, 3) := by decide +kernel
theorem dX8_season_30 : decode cX8_season 30 = .ok (.iconst (-1), 1) := by decide +kernel
theorem dX8_season_31 : decode cX8_season 31 = .ok (.ireturn, 1) := by decide +kernel
theorem dX8_season_32 : decode cX8_season 32 = .ok (.aload_n 0, 1) := by decide +kernel
theorem dX8_season_33 : decode cX8_season 33 = .ok (.invokevirtual 228, 3) := by decide +kernel
theorem dX8_season_36 : decode cX8_season 36 = .ok (.iconst 0, 1) := by decide +kernel
theorem dX8_season_37 : decode cX8_season 37 = .ok (.istore 4, 2) := by decide +kernel
theorem dX8_season_39 : decode cX8_season 39 = .ok (.iload 4, 2) := by decide +kernel
theorem dX8_season_41 : decode cX8_season 41 = .ok (.iload_n 2, 1) := by decide +kernel
theorem dX8_season_42 : decode cX8_season 42 = .ok (.if_icmp .ge 89, 3) := by decide +kernel
theorem dX8_season_45 : decode cX8_season 45 = .ok (.aload_n 0, 1) := by decide +kernel
theorem dX8_season_46 : decode cX8_season 46 = .ok (.invokevirtual 222, 3) := by decide +kernel
theorem dX8_season_49 : decode cX8_season 49 = .ok (.ifCond .ne 82, 3) := by decide +kernel
theorem dX8_season_52 : decode cX8_season 52 = .ok (.ldc2_w 296, 3) := by decide +kernel
theorem dX8_season_55 : decode cX8_season 55 = .ok (.iload_n 1, 1) := by decide +kernel
theorem dX8_season_56 : decode cX8_season 56 = .ok (.i2l, 1) := by decide +kernel
theorem dX8_season_57 : decode cX8_season 57 = .ok (.lmul, 1) := by decide +kernel
theorem dX8_season_58 : decode cX8_season 58 = .ok (.ldc2_w 298, 3) := by decide +kernel
theorem dX8_season_61 : decode cX8_season 61 = .ok (.iload 4, 2) := by decide +kernel
theorem dX8_season_63 : decode cX8_season 63 = .ok (.i2l, 1) := by decide +kernel
theorem dX8_season_64 : decode cX8_season 64 = .ok (.lmul, 1) := by decide +kernel
theorem dX8_season_65 : decode cX8_season 65 = .ok (.ladd, 1) := by decide +kernel
theorem dX8_season_66 : decode cX8_season 66 = .ok (.lconst 1, 1) := by decide +kernel
theorem dX8_season_67 : decode cX8_season 67 = .ok (.ladd, 1) := by decide +kernel
theorem dX8_season_68 : decode cX8_season 68 = .ok (.lstore 5, 2) := by decide +kernel
theorem dX8_season_70 : decode cX8_season 70 = .ok (.lload 5, 2) := by decide +kernel
theorem dX8_season_72 : decode cX8_season 72 = .ok (.lload 5, 2) := by decide +kernel
theorem dX8_season_74 : decode cX8_season 74 = .ok (.lmul, 1) := by decide +kernel
theorem dX8_season_75 : decode cX8_season 75 = .ok (.ldc2_w 300, 3) := by decide +kernel
theorem dX8_season_78 : decode cX8_season 78 = .ok (.lrem, 1) := by decide +kernel
theorem dX8_season_79 : decode cX8_season 79 = .ok (.l2i, 1) := by decide +kernel
theorem dX8_season_80 : decode cX8_season 80 = .ok (.istore 7, 2) := by decide +kernel
theorem dX8_season_82 : decode cX8_season 82 = .ok (.bipush 10, 2) := by decide +kernel
theorem dX8_season_84 : decode cX8_season 84 = .ok (.iload 7, 2) := by decide +kernel
theorem dX8_season_86 : decode cX8_season 86 = .ok (.bipush 8, 2) := by decide +kernel
theorem dX8_season_88 : decode cX8_season 88 = .ok (.idiv, 1) := by decide +kernel
theorem dX8_season_89 : decode cX8_season 89 = .ok (.aload_n 0, 1) := by decide +kernel
theorem dX8_season_90 : decode cX8_season 90 = .ok (.getfield 112, 3) := by decide +kernel
theorem dX8_season_93 : decode cX8_season 93 = .ok (.irem, 1) := by decide +kernel
theorem dX8_season_94 : decode cX8_season 94 = .ok (.imul, 1) := by decide +kernel
theorem dX8_season_95 : decode cX8_season 95 = .ok (.iload 7, 2) := by decide +kernel
theorem dX8_season_97 : decode cX8_season 97 = .ok (.bipush 64, 2) := by decide +kernel
theorem dX8_season_99 : decode cX8_season 99 = .ok (.idiv, 1) := by decide +kernel
theorem dX8_season_100 : decode cX8_season 100 = .ok (.iconst 4, 1) := by decide +kernel
theorem dX8_season_101 : decode cX8_season 101 = .ok (.irem, 1) := by decide +kernel
theorem dX8_season_102 : decode cX8_season 102 = .ok (.iadd, 1) := by decide +kernel
theorem dX8_season_103 : decode cX8_season 103 = .ok (.istore 8, 2) := by decide +kernel
theorem dX8_season_105 : decode cX8_season 105 = .ok (.aload_n 0, 1) := by decide +kernel
theorem dX8_season_106 : decode cX8_season 106 = .ok (.aload_n 0, 1) := by decide +kernel
theorem dX8_season_107 : decode cX8_season 107 = .ok (.iload 8, 2) := by decide +kernel
theorem dX8_season_109 : decode cX8_season 109 = .ok (.invokevirtual 243, 3) := by decide +kernel
theorem dX8_season_112 : decode cX8_season 112 = .ok (.ifCond .eq 8, 3) := by decide +kernel
theorem dX8_season_115 : decode cX8_season 115 = .ok (.iload 8, 2) := by decide +kernel
theorem dX8_season_117 : decode cX8_season 117 = .ok (.goto 5, 3) := by decide +kernel
theorem dX8_season_120 : decode cX8_season 120 = .ok (.bipush 99, 2) := by decide +kernel
theorem dX8_season_122 : decode cX8_season 122 = .ok (.invokevirtual 240, 3) := by decide +kernel
theorem dX8_season_125 : decode cX8_season 125 = .ok (.iinc 4 1, 3) := by decide +kernel
theorem dX8_season_128 : decode cX8_season 128 = .ok (.goto (-89), 3) := by decide +kernel
theorem dX8_season_131 : decode cX8_season 131 = .ok (.iload_n 3, 1) := by decide +kernel
theorem dX8_season_132 : decode cX8_season 132 = .ok (.ifCond .ne 13, 3) := by decide +kernel
theorem dX8_season_135 : decode cX8_season 135 = .ok (.bipush 100, 2) := by decide +kernel
theorem dX8_season_137 : decode cX8_season 137 = .ok (.aload_n 0, 1) := by decide +kernel
theorem dX8_season_138 : decode cX8_season 138 = .ok (.invokevirtual 273, 3) := by decide +kernel
theorem dX8_season_141 : decode cX8_season 141 = .ok (.iadd, 1) := by decide +kernel
theorem dX8_season_142 : decode cX8_season 142 = .ok (.goto 14, 3) := by decide +kernel
theorem dX8_season_145 : decode cX8_season 145 = .ok (.aload_n 0, 1) := by decide +kernel
theorem dX8_season_146 : decode cX8_season 146 = .ok (.iconst 0, 1) := by decide +kernel
theorem dX8_season_147 : decode cX8_season 147 = .ok (.invokevirtual 267, 3) := by decide +kernel
theorem dX8_season_150 : decode cX8_season 150 = .ok (.aload_n 0, 1) := by decide +kernel
theorem dX8_season_151 : decode cX8_season 151 = .ok (.iconst 1, 1) := by decide +kernel
theorem dX8_season_152 : decode cX8_season 152 = .ok (.invokevirtual 267, 3) := by decide +kernel
theorem dX8_season_155 : decode cX8_season 155 = .ok (.iadd, 1) := by decide +kernel
theorem dX8_season_156 : decode cX8_season 156 = .ok (.ireturn, 1) := by decide +kernel
theorem dX8_keep_0 : decode cX8_keep 0 = .ok (.aload_n 0, 1) := by decide +kernel
theorem dX8_keep_1 : decode cX8_keep 1 = .ok (.getfield 178, 3) := by decide +kernel
theorem dX8_keep_4 : decode cX8_keep 4 = .ok (.iconst 2, 1) := by decide +kernel
theorem dX8_keep_5 : decode cX8_keep 5 = .ok (.if_icmp .ne 6, 3) := by decide +kernel
theorem dX8_keep_8 : decode cX8_keep 8 = .ok (.bipush (-3), 2) := by decide +kernel
theorem dX8_keep_10 : decode cX8_keep 10 = .ok (.ireturn, 1) := by decide +kernel
theorem dX8_keep_11 : decode cX8_keep 11 = .ok (.aload_n 0, 1) := by decide +kernel
theorem dX8_keep_12 : decode cX8_keep 12 = .ok (.getfield 31, 3) := by decide +kernel
theorem dX8_keep_15 : decode cX8_keep 15 = .ok (.bipush 54, 2) := by decide +kernel
theorem dX8_keep_17 : decode cX8_keep 17 = .ok (.aload_n 0, 1) := by decide +kernel
theorem dX8_keep_18 : decode cX8_keep 18 = .ok (.getfield 178, 3) := by decide +kernel
theorem dX8_keep_21 : decode cX8_keep 21 = .ok (.imul, 1) := by decide +kernel
theorem dX8_keep_22 : decode cX8_keep 22 = .ok (.aload_n 0, 1) := by decide +kernel
theorem dX8_keep_23 : decode cX8_keep 23 = .ok (.getfield 22, 3) := by decide +kernel
theorem dX8_keep_26 : decode cX8_keep 26 = .ok (.iconst 0, 1) := by decide +kernel
theorem dX8_keep_27 : decode cX8_keep 27 = .ok (.bipush 54, 2) := by decide +kernel
theorem dX8_keep_29 : decode cX8_keep 29 = .ok (.invokestatic 162, 3) := by decide +kernel
theorem dX8_keep_32 : decode cX8_keep 32 = .ok (.aload_n 0, 1) := by decide +kernel
theorem dX8_keep_33 : decode cX8_keep 33 = .ok (.dup, 1) := by decide +kernel
theorem dX8_keep_34 : decode cX8_keep 34 = .ok (.getfield 178, 3) := by decide +kernel
theorem dX8_keep_37 : decode cX8_keep 37 = .ok (.iconst 1, 1) := by decide +kernel
theorem dX8_keep_38 : decode cX8_keep 38 = .ok (.iadd, 1) := by decide +kernel
theorem dX8_keep_39 : decode cX8_keep 39 = .ok (.putfield 178, 3) := by decide +kernel
theorem dX8_keep_42 : decode cX8_keep 42 = .ok (.aload_n 0, 1) := by decide +kernel
theorem dX8_keep_43 : decode cX8_keep 43 = .ok (.getfield 178, 3) := by decide +kernel
theorem dX8_keep_46 : decode cX8_keep 46 = .ok (.ireturn, 1) := by decide +kernel
theorem dX8_back_0 : decode cX8_back 0 = .ok (.aload_n 0, 1) := by decide +kernel
theorem dX8_back_1 : decode cX8_back 1 = .ok (.getfield 178, 3) := by decide +kernel
theorem dX8_back_4 : decode cX8_back 4 = .ok (.ifCond .ne 6, 3) := by decide +kernel
theorem dX8_back_7 : decode cX8_back 7 = .ok (.bipush (-2), 2) := by decide +kernel
theorem dX8_back_9 : decode cX8_back 9 = .ok (.ireturn, 1) := by decide +kernel
theorem dX8_back_10 : decode cX8_back 10 = .ok (.aload_n 0, 1) := by decide +kernel
theorem dX8_back_11 : decode cX8_back 11 = .ok (.dup, 1) := by decide +kernel
theorem dX8_back_12 : decode cX8_back 12 = .ok (.getfield 178, 3) := by decide +kernel
theorem dX8_back_15 : decode cX8_back 15 = .ok (.iconst 1, 1) := by decide +kernel
theorem dX8_back_16 : decode cX8_back 16 = .ok (.isub, 1) := by decide +kernel
theorem dX8_back_17 : decode cX8_back 17 = .ok (.putfield 178, 3) := by decide +kernel
theorem dX8_back_20 : decode cX8_back 20 = .ok (.aload_n 0, 1) := by decide +kernel
theorem dX8_back_21 : decode cX8_back 21 = .ok (.getfield 22, 3) := by decide +kernel
theorem dX8_back_24 : decode cX8_back 24 = .ok (.iconst 0, 1) := by decide +kernel
theorem dX8_back_25 : decode cX8_back 25 = .ok (.aload_n 0, 1) := by decide +kernel
theorem dX8_back_26 : decode cX8_back 26 = .ok (.getfield 31, 3) := by decide +kernel
theorem dX8_back_29 : decode cX8_back 29 = .ok (.bipush 54, 2) := by decide +kernel
theorem dX8_back_31 : decode cX8_back 31 = .ok (.aload_n 0, 1) := by decide +kernel
theorem dX8_back_32 : decode cX8_back 32 = .ok (.getfield 178, 3) := by decide +kernel
theorem dX8_back_35 : decode cX8_back 35 = .ok (.imul, 1) := by decide +kernel
theorem dX8_back_36 : decode cX8_back 36 = .ok (.bipush 54, 2) := by decide +kernel
theorem dX8_back_38 : decode cX8_back 38 = .ok (.invokestatic 162, 3) := by decide +kernel
theorem dX8_back_41 : decode cX8_back 41 = .ok (.aload_n 0, 1) := by decide +kernel
theorem dX8_back_42 : decode cX8_back 42 = .ok (.iconst 0, 1) := by decide +kernel
theorem dX8_back_43 : decode cX8_back 43 = .ok (.putfield 175, 3) := by decide +kernel
theorem dX8_back_46 : decode cX8_back 46 = .ok (.aload_n 0, 1) := by decide +kernel
theorem dX8_back_47 : decode cX8_back 47 = .ok (.getfield 178, 3) := by decide +kernel
theorem dX8_back_50 : decode cX8_back 50 = .ok (.ireturn, 1) := by decide +kernel
theorem dX8_count_0 : decode cX8_count 0 = .ok (.aload_n 0, 1) := by decide +kernel
theorem dX8_count_1 : decode cX8_count 1 = .ok (.invokevirtual 228, 3) := by decide +kernel
theorem dX8_count_4 : decode cX8_count 4 = .ok (.iload_n 1, 1) := by decide +kernel
theorem dX8_count_5 : decode cX8_count 5 = .ok (.tableswitch 165 0 12 #[67, 72, 77, 82, 89, 95, 101, 109, 114, 145, 150, 155, 160], 67) := by decide +kernel
theorem dX8_count_72 : decode cX8_count 72 = .ok (.aload_n 0, 1) := by decide +kernel
theorem dX8_count_73 : decode cX8_count 73 = .ok (.getfield 119, 3) := by decide +kernel
theorem dX8_count_76 : decode cX8_count 76 = .ok (.ireturn, 1) := by decide +kernel
theorem dX8_count_77 : decode cX8_count 77 = .ok (.aload_n 0, 1) := by decide +kernel
theorem dX8_count_78 : decode cX8_count 78 = .ok (.getfield 159, 3) := by decide +kernel
theorem dX8_count_81 : decode cX8_count 81 = .ok (.ireturn, 1) := by decide +kernel
theorem dX8_count_82 : decode cX8_count 82 = .ok (.aload_n 0, 1) := by decide +kernel
theorem dX8_count_83 : decode cX8_count 83 = .ok (.getfield 112, 3) := by decide +kernel
theorem dX8_count_86 : decode cX8_count 86 = .ok (.ireturn, 1) := by decide +kernel
theorem dX8_count_87 : decode cX8_count 87 = .ok (.aload_n 0, 1) := by decide +kernel
theorem dX8_count_88 : decode cX8_count 88 = .ok (.getfield 22, 3) := by decide +kernel
theorem dX8_count_91 : decode cX8_count 91 = .ok (.iconst 0, 1) := by decide +kernel
theorem dX8_count_92 : decode cX8_count 92 = .ok (.iaload, 1) := by decide +kernel
theorem dX8_count_93 : decode cX8_count 93 = .ok (.ireturn, 1) := by decide +kernel
theorem dX8_count_94 : decode cX8_count 94 = .ok (.aload_n 0, 1) := by decide +kernel
theorem dX8_count_95 : decode cX8_count 95 = .ok (.iconst 0, 1) := by decide +kernel
theorem dX8_count_96 : decode cX8_count 96 = .ok (.invokevirtual 267, 3) := by decide +kernel
theorem dX8_count_99 : decode cX8_count 99 = .ok (.ireturn, 1) := by decide +kernel
theorem dX8_count_100 : decode cX8_count 100 = .ok (.aload_n 0, 1) := by decide +kernel
theorem dX8_count_101 : decode cX8_count 101 = .ok (.iconst 1, 1) := by decide +kernel
theorem dX8_count_102 : decode cX8_count 102 = .ok (.invokevirtual 267, 3) := by decide +kernel
theorem dX8_count_105 : decode cX8_count 105 = .ok (.ireturn, 1) := by decide +kernel
theorem dX8_count_106 : decode cX8_count 106 = .ok (.bipush 100, 2) := by decide +kernel
theorem dX8_count_108 : decode cX8_count 108 = .ok (.aload_n 0, 1) := by decide +kernel
theorem dX8_count_109 : decode cX8_count 109 = .ok (.invokevirtual 273, 3) := by decide +kernel
theorem dX8_count_112 : decode cX8_count 112 = .ok (.iadd, 1) := by decide +kernel
theorem dX8_count_113 : decode cX8_count 113 = .ok (.ireturn, 1) := by decide +kernel
theorem dX8_count_114 : decode cX8_count 114 = .ok (.aload_n 0, 1) := by decide +kernel
theorem dX8_count_115 : decode cX8_count 115 = .ok (.invokevirtual 222, 3) := by decide +kernel
theorem dX8_count_118 : decode cX8_count 118 = .ok (.ireturn, 1) := by decide +kernel
theorem dX8_count_119 : decode cX8_count 119 = .ok (.iconst 0, 1) := by decide +kernel
theorem dX8_count_120 : decode cX8_count 120 = .ok (.istore_n 2, 1) := by decide +kernel
theorem dX8_count_121 : decode cX8_count 121 = .ok (.iconst 0, 1) := by decide +kernel
theorem dX8_count_122 : decode cX8_count 122 = .ok (.istore_n 3, 1) := by decide +kernel
theorem dX8_count_123 : decode cX8_count 123 = .ok (.iload_n 3, 1) := by decide +kernel
theorem dX8_count_124 : decode cX8_count 124 = .ok (.aload_n 0, 1) := by decide +kernel
theorem dX8_count_125 : decode cX8_count 125 = .ok (.getfield 119, 3) := by decide +kernel
theorem dX8_count_128 : decode cX8_count 128 = .ok (.if_icmp .ge 20, 3) := by decide +kernel
theorem dX8_count_131 : decode cX8_count 131 = .ok (.iload_n 2, 1) := by decide +kernel
theorem dX8_count_132 : decode cX8_count 132 = .ok (.aload_n 0, 1) := by decide +kernel
theorem dX8_count_133 : decode cX8_count 133 = .ok (.getfield 22, 3) := by decide +kernel
theorem dX8_count_136 : decode cX8_count 136 = .ok (.iconst 1, 1) := by decide +kernel
theorem dX8_count_137 : decode cX8_count 137 = .ok (.iload_n 3, 1) := by decide +kernel
theorem dX8_count_138 : decode cX8_count 138 = .ok (.iadd, 1) := by decide +kernel
theorem dX8_count_139 : decode cX8_count 139 = .ok (.iaload, 1) := by decide +kernel
theorem dX8_count_140 : decode cX8_count 140 = .ok (.iadd, 1) := by decide +kernel
theorem dX8_count_141 : decode cX8_count 141 = .ok (.istore_n 2, 1) := by decide +kernel
theorem dX8_count_142 : decode cX8_count 142 = .ok (.iinc 3 1, 3) := by decide +kernel
theorem dX8_count_145 : decode cX8_count 145 = .ok (.goto (-22), 3) := by decide +kernel
theorem dX8_count_148 : decode cX8_count 148 = .ok (.iload_n 2, 1) := by decide +kernel
theorem dX8_count_149 : decode cX8_count 149 = .ok (.ireturn, 1) := by decide +kernel
theorem dX8_count_150 : decode cX8_count 150 = .ok (.aload_n 0, 1) := by decide +kernel
theorem dX8_count_151 : decode cX8_count 151 = .ok (.getfield 169, 3) := by decide +kernel
theorem dX8_count_154 : decode cX8_count 154 = .ok (.ireturn, 1) := by decide +kernel
theorem dX8_count_155 : decode cX8_count 155 = .ok (.aload_n 0, 1) := by decide +kernel
theorem dX8_count_156 : decode cX8_count 156 = .ok (.getfield 175, 3) := by decide +kernel
theorem dX8_count_159 : decode cX8_count 159 = .ok (.ireturn, 1) := by decide +kernel
theorem dX8_count_160 : decode cX8_count 160 = .ok (.aload_n 0, 1) := by decide +kernel
theorem dX8_count_161 : decode cX8_count 161 = .ok (.getfield 178, 3) := by decide +kernel
theorem dX8_count_164 : decode cX8_count 164 = .ok (.ireturn, 1) := by decide +kernel
theorem dX8_count_165 : decode cX8_count 165 = .ok (.aload_n 0, 1) := by decide +kernel
theorem dX8_count_166 : decode cX8_count 166 = .ok (.getfield 122, 3) := by decide +kernel
theorem dX8_count_169 : decode cX8_count 169 = .ok (.ireturn, 1) := by decide +kernel
theorem dX8_count_170 : decode cX8_count 170 = .ok (.iconst (-1), 1) := by decide +kernel
theorem dX8_count_171 : decode cX8_count 171 = .ok (.ireturn, 1) := by decide +kernel
