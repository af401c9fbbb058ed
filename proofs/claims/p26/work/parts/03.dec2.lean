theorem dX5_init_0 : decode cX5_init 0 = .ok (.aload_n 0, 1) := by decide +kernel
theorem dX5_init_1 : decode cX5_init 1 = .ok (.invokespecial 3, 3) := by decide +kernel
theorem dX5_init_4 : decode cX5_init 4 = .ok (.aload_n 0, 1) := by decide +kernel
theorem dX5_init_5 : decode cX5_init 5 = .ok (.sipush 200, 3) := by decide +kernel
theorem dX5_init_8 : decode cX5_init 8 = .ok (.newarray .int, 2) := by decide +kernel
theorem dX5_init_10 : decode cX5_init 10 = .ok (.putfield 9, 3) := by decide +kernel
theorem dX5_init_13 : decode cX5_init 13 = .ok (.aload_n 0, 1) := by decide +kernel
theorem dX5_init_14 : decode cX5_init 14 = .ok (.new 15, 3) := by decide +kernel
theorem dX5_init_17 : decode cX5_init 17 = .ok (.dup, 1) := by decide +kernel
theorem dX5_init_18 : decode cX5_init 18 = .ok (.invokespecial 17, 3) := by decide +kernel
theorem dX5_init_21 : decode cX5_init 21 = .ok (.putfield 18, 3) := by decide +kernel
theorem dX5_init_24 : decode cX5_init 24 = .ok (.aload_n 0, 1) := by decide +kernel
theorem dX5_init_25 : decode cX5_init 25 = .ok (.new 22, 3) := by decide +kernel
theorem dX5_init_28 : decode cX5_init 28 = .ok (.dup, 1) := by decide +kernel
theorem dX5_init_29 : decode cX5_init 29 = .ok (.aload_n 0, 1) := by decide +kernel
theorem dX5_init_30 : decode cX5_init 30 = .ok (.getfield 18, 3) := by decide +kernel
theorem dX5_init_33 : decode cX5_init 33 = .ok (.invokespecial 24, 3) := by decide +kernel
theorem dX5_init_36 : decode cX5_init 36 = .ok (.putfield 27, 3) := by decide +kernel
theorem dX5_init_39 : decode cX5_init 39 = .ok (.aload_n 0, 1) := by decide +kernel
theorem dX5_init_40 : decode cX5_init 40 = .ok (.iconst 0, 1) := by decide +kernel
theorem dX5_init_41 : decode cX5_init 41 = .ok (.putfield 31, 3) := by decide +kernel
theorem dX5_init_44 : decode cX5_init 44 = .ok (.aload_n 0, 1) := by decide +kernel
theorem dX5_init_45 : decode cX5_init 45 = .ok (.iconst 0, 1) := by decide +kernel
theorem dX5_init_46 : decode cX5_init 46 = .ok (.putfield 35, 3) := by decide +kernel
theorem dX5_init_49 : decode cX5_init 49 = .ok (.return_, 1) := by decide +kernel
theorem dX5_add_0 : decode cX5_add 0 = .ok (.aload_n 0, 1) := by decide +kernel
theorem dX5_add_1 : decode cX5_add 1 = .ok (.getfield 31, 3) := by decide +kernel
theorem dX5_add_4 : decode cX5_add 4 = .ok (.ifCond .lt 13, 3) := by decide +kernel
theorem dX5_add_7 : decode cX5_add 7 = .ok (.aload_n 0, 1) := by decide +kernel
theorem dX5_add_8 : decode cX5_add 8 = .ok (.getfield 31, 3) := by decide +kernel
theorem dX5_add_11 : decode cX5_add 11 = .ok (.sipush 200, 3) := by decide +kernel
theorem dX5_add_14 : decode cX5_add 14 = .ok (.if_icmp .lt 5, 3) := by decide +kernel
theorem dX5_add_17 : decode cX5_add 17 = .ok (.iconst 0, 1) := by decide +kernel
theorem dX5_add_18 : decode cX5_add 18 = .ok (.ireturn, 1) := by decide +kernel
theorem dX5_add_19 : decode cX5_add 19 = .ok (.aload_n 0, 1) := by decide +kernel
theorem dX5_add_20 : decode cX5_add 20 = .ok (.getfield 9, 3) := by decide +kernel
theorem dX5_add_23 : decode cX5_add 23 = .ok (.aload_n 0, 1) := by decide +kernel
theorem dX5_add_24 : decode cX5_add 24 = .ok (.getfield 31, 3) := by decide +kernel
theorem dX5_add_27 : decode cX5_add 27 = .ok (.iload_n 1, 1) := by decide +kernel
theorem dX5_add_28 : decode cX5_add 28 = .ok (.iastore, 1) := by decide +kernel
theorem dX5_add_29 : decode cX5_add 29 = .ok (.aload_n 0, 1) := by decide +kernel
theorem dX5_add_30 : decode cX5_add 30 = .ok (.dup, 1) := by decide +kernel
theorem dX5_add_31 : decode cX5_add 31 = .ok (.getfield 31, 3) := by decide +kernel
theorem dX5_add_34 : decode cX5_add 34 = .ok (.iconst 1, 1) := by decide +kernel
theorem dX5_add_35 : decode cX5_add 35 = .ok (.iadd, 1) := by decide +kernel
theorem dX5_add_36 : decode cX5_add 36 = .ok (.putfield 31, 3) := by decide +kernel
theorem dX5_add_39 : decode cX5_add 39 = .ok (.iconst 1, 1) := by decide +kernel
theorem dX5_add_40 : decode cX5_add 40 = .ok (.ireturn, 1) := by decide +kernel
theorem dX5_firstFault_0 : decode cX5_firstFault 0 = .ok (.aload_n 0, 1) := by decide +kernel
theorem dX5_firstFault_1 : decode cX5_firstFault 1 = .ok (.getfield 18, 3) := by decide +kernel
theorem dX5_firstFault_4 : decode cX5_firstFault 4 = .ok (.invokevirtual 38, 3) := by decide +kernel
theorem dX5_firstFault_7 : decode cX5_firstFault 7 = .ok (.aload_n 0, 1) := by decide +kernel
theorem dX5_firstFault_8 : decode cX5_firstFault 8 = .ok (.getfield 27, 3) := by decide +kernel
theorem dX5_firstFault_11 : decode cX5_firstFault 11 = .ok (.iconst 0, 1) := by decide +kernel
theorem dX5_firstFault_12 : decode cX5_firstFault 12 = .ok (.putfield 41, 3) := by decide +kernel
theorem dX5_firstFault_15 : decode cX5_firstFault 15 = .ok (.aload_n 0, 1) := by decide +kernel
theorem dX5_firstFault_16 : decode cX5_firstFault 16 = .ok (.iconst 0, 1) := by decide +kernel
theorem dX5_firstFault_17 : decode cX5_firstFault 17 = .ok (.putfield 35, 3) := by decide +kernel
theorem dX5_firstFault_20 : decode cX5_firstFault 20 = .ok (.iconst 0, 1) := by decide +kernel
theorem dX5_firstFault_21 : decode cX5_firstFault 21 = .ok (.istore_n 1, 1) := by decide +kernel
theorem dX5_firstFault_22 : decode cX5_firstFault 22 = .ok (.iload_n 1, 1) := by decide +kernel
theorem dX5_firstFault_23 : decode cX5_firstFault 23 = .ok (.sipush 200, 3) := by decide +kernel
theorem dX5_firstFault_26 : decode cX5_firstFault 26 = .ok (.if_icmp .ge 34, 3) := by decide +kernel
theorem dX5_firstFault_29 : decode cX5_firstFault 29 = .ok (.aload_n 0, 1) := by decide +kernel
theorem dX5_firstFault_30 : decode cX5_firstFault 30 = .ok (.getfield 35, 3) := by decide +kernel
theorem dX5_firstFault_33 : decode cX5_firstFault 33 = .ok (.aload_n 0, 1) := by decide +kernel
theorem dX5_firstFault_34 : decode cX5_firstFault 34 = .ok (.getfield 31, 3) := by decide +kernel
theorem dX5_firstFault_37 : decode cX5_firstFault 37 = .ok (.if_icmp .ge 23, 3) := by decide +kernel
theorem dX5_firstFault_40 : decode cX5_firstFault 40 = .ok (.aload_n 0, 1) := by decide +kernel
theorem dX5_firstFault_41 : decode cX5_firstFault 41 = .ok (.getfield 35, 3) := by decide +kernel
theorem dX5_firstFault_44 : decode cX5_firstFault 44 = .ok (.istore_n 2, 1) := by decide +kernel
theorem dX5_firstFault_45 : decode cX5_firstFault 45 = .ok (.aload_n 0, 1) := by decide +kernel
theorem dX5_firstFault_46 : decode cX5_firstFault 46 = .ok (.invokevirtual 44, 3) := by decide +kernel
theorem dX5_firstFault_49 : decode cX5_firstFault 49 = .ok (.ifCond .ne 5, 3) := by decide +kernel
theorem dX5_firstFault_52 : decode cX5_firstFault 52 = .ok (.iload_n 2, 1) := by decide +kernel
theorem dX5_firstFault_53 : decode cX5_firstFault 53 = .ok (.ireturn, 1) := by decide +kernel
theorem dX5_firstFault_54 : decode cX5_firstFault 54 = .ok (.iinc 1 1, 3) := by decide +kernel
theorem dX5_firstFault_57 : decode cX5_firstFault 57 = .ok (.goto (-35), 3) := by decide +kernel
theorem dX5_firstFault_60 : decode cX5_firstFault 60 = .ok (.bipush (-4), 2) := by decide +kernel
theorem dX5_firstFault_62 : decode cX5_firstFault 62 = .ok (.ireturn, 1) := by decide +kernel
theorem dX5_readItem_0 : decode cX5_readItem 0 = .ok (.aload_n 0, 1) := by decide +kernel
theorem dX5_readItem_1 : decode cX5_readItem 1 = .ok (.invokevirtual 48, 3) := by decide +kernel
theorem dX5_readItem_4 : decode cX5_readItem 4 = .ok (.istore_n 1, 1) := by decide +kernel
theorem dX5_readItem_5 : decode cX5_readItem 5 = .ok (.aload_n 0, 1) := by decide +kernel
theorem dX5_readItem_6 : decode cX5_readItem 6 = .ok (.dup, 1) := by decide +kernel
theorem dX5_readItem_7 : decode cX5_readItem 7 = .ok (.getfield 35, 3) := by decide +kernel
theorem dX5_readItem_10 : decode cX5_readItem 10 = .ok (.iconst 1, 1) := by decide +kernel
theorem dX5_readItem_11 : decode cX5_readItem 11 = .ok (.iadd, 1) := by decide +kernel
theorem dX5_readItem_12 : decode cX5_readItem 12 = .ok (.putfield 35, 3) := by decide +kernel
theorem dX5_readItem_15 : decode cX5_readItem 15 = .ok (.iload_n 1, 1) := by decide +kernel
theorem dX5_readItem_16 : decode cX5_readItem 16 = .ok (.lookupswitch 77 #[(98, 57), (104, 67), (114, 52), (115, 72), (119, 62)], 52) := by decide +kernel
theorem dX5_readItem_68 : decode cX5_readItem 68 = .ok (.aload_n 0, 1) := by decide +kernel
theorem dX5_readItem_69 : decode cX5_readItem 69 = .ok (.invokevirtual 52, 3) := by decide +kernel
theorem dX5_readItem_72 : decode cX5_readItem 72 = .ok (.ireturn, 1) := by decide +kernel
theorem dX5_readItem_73 : decode cX5_readItem 73 = .ok (.aload_n 0, 1) := by decide +kernel
theorem dX5_readItem_74 : decode cX5_readItem 74 = .ok (.invokevirtual 55, 3) := by decide +kernel
theorem dX5_readItem_77 : decode cX5_readItem 77 = .ok (.ireturn, 1) := by decide +kernel
theorem dX5_readItem_78 : decode cX5_readItem 78 = .ok (.aload_n 0, 1) := by decide +kernel
theorem dX5_readItem_79 : decode cX5_readItem 79 = .ok (.invokevirtual 58, 3) := by decide +kernel
theorem dX5_readItem_82 : decode cX5_readItem 82 = .ok (.ireturn, 1) := by decide +kernel
theorem dX5_readItem_83 : decode cX5_readItem 83 = .ok (.aload_n 0, 1) := by decide +kernel
theorem dX5_readItem_84 : decode cX5_readItem 84 = .ok (.invokevirtual 61, 3) := by decide +kernel
theorem dX5_readItem_87 : decode cX5_readItem 87 = .ok (.ireturn, 1) := by decide +kernel
theorem dX5_readItem_88 : decode cX5_readItem 88 = .ok (.aload_n 0, 1) := by decide +kernel
theorem dX5_readItem_89 : decode cX5_readItem 89 = .ok (.invokevirtual 64, 3) := by decide +kernel
theorem dX5_readItem_92 : decode cX5_readItem 92 = .ok (.ireturn, 1) := by decide +kernel
theorem dX5_readItem_93 : decode cX5_readItem 93 = .ok (.iconst 0, 1) := by decide +kernel
theorem dX5_readItem_94 : decode cX5_readItem 94 = .ok (.ireturn, 1) := by decide +kernel
theorem dX5_letterAtHead_0 : decode cX5_letterAtHead 0 = .ok (.aload_n 0, 1) := by decide +kernel
theorem dX5_letterAtHead_1 : decode cX5_letterAtHead 1 = .ok (.getfield 35, 3) := by decide +kernel
theorem dX5_letterAtHead_4 : decode cX5_letterAtHead 4 = .ok (.ifCond .lt 36, 3) := by decide +kernel
theorem dX5_letterAtHead_7 : decode cX5_letterAtHead 7 = .ok (.aload_n 0, 1) := by decide +kernel
theorem dX5_letterAtHead_8 : decode cX5_letterAtHead 8 = .ok (.getfield 35, 3) := by decide +kernel
theorem dX5_letterAtHead_11 : decode cX5_letterAtHead 11 = .ok (.aload_n 0, 1) := by decide +kernel
theorem dX5_letterAtHead_12 : decode cX5_letterAtHead 12 = .ok (.getfield 31, 3) := by decide +kernel
theorem dX5_letterAtHead_15 : decode cX5_letterAtHead 15 = .ok (.if_icmp .ge 25, 3) := by decide +kernel
theorem dX5_letterAtHead_18 : decode cX5_letterAtHead 18 = .ok (.aload_n 0, 1) := by decide +kernel
theorem dX5_letterAtHead_19 : decode cX5_letterAtHead 19 = .ok (.getfield 35, 3) := by decide +kernel
theorem dX5_letterAtHead_22 : decode cX5_letterAtHead 22 = .ok (.sipush 200, 3) := by decide +kernel
theorem dX5_letterAtHead_25 : decode cX5_letterAtHead 25 = .ok (.if_icmp .ge 15, 3) := by decide +kernel
theorem dX5_letterAtHead_28 : decode cX5_letterAtHead 28 = .ok (.aload_n 0, 1) := by decide +kernel
theorem dX5_letterAtHead_29 : decode cX5_letterAtHead 29 = .ok (.getfield 9, 3) := by decide +kernel
theorem dX5_letterAtHead_32 : decode cX5_letterAtHead 32 = .ok (.aload_n 0, 1) := by decide +kernel
theorem dX5_letterAtHead_33 : decode cX5_letterAtHead 33 = .ok (.getfield 35, 3) := by decide +kernel
theorem dX5_letterAtHead_36 : decode cX5_letterAtHead 36 = .ok (.iaload, 1) := by decide +kernel
theorem dX5_letterAtHead_37 : decode cX5_letterAtHead 37 = .ok (.goto 4, 3) := by decide +kernel
theorem dX5_letterAtHead_40 : decode cX5_letterAtHead 40 = .ok (.iconst 0, 1) := by decide +kernel
theorem dX5_letterAtHead_41 : decode cX5_letterAtHead 41 = .ok (.ireturn, 1) := by decide +kernel
theorem dX5_passes_0 : decode cX5_passes 0 = .ok (.aload_n 0, 1) := by decide +kernel
theorem dX5_passes_1 : decode cX5_passes 1 = .ok (.invokevirtual 48, 3) := by decide +kernel
theorem dX5_passes_4 : decode cX5_passes 4 = .ok (.iload_n 1, 1) := by decide +kernel
theorem dX5_passes_5 : decode cX5_passes 5 = .ok (.if_icmp .eq 5, 3) := by decide +kernel
theorem dX5_passes_8 : decode cX5_passes 8 = .ok (.iconst 0, 1) := by decide +kernel
theorem dX5_passes_9 : decode cX5_passes 9 = .ok (.ireturn, 1) := by decide +kernel
theorem dX5_passes_10 : decode cX5_passes 10 = .ok (.aload_n 0, 1) := by decide +kernel
theorem dX5_passes_11 : decode cX5_passes 11 = .ok (.dup, 1) := by decide +kernel
theorem dX5_passes_12 : decode cX5_passes 12 = .ok (.getfield 35, 3) := by decide +kernel
theorem dX5_passes_15 : decode cX5_passes 15 = .ok (.iconst 1, 1) := by decide +kernel
theorem dX5_passes_16 : decode cX5_passes 16 = .ok (.iadd, 1) := by decide +kernel
theorem dX5_passes_17 : decode cX5_passes 17 = .ok (.putfield 35, 3) := by decide +kernel
theorem dX5_passes_20 : decode cX5_passes 20 = .ok (.iconst 1, 1) := by decide +kernel
theorem dX5_passes_21 : decode cX5_passes 21 = .ok (.ireturn, 1) := by decide +kernel
theorem dX5_readFigure_0 : decode cX5_readFigure 0 = .ok (.aload_n 0, 1) := by decide +kernel
theorem dX5_readFigure_1 : decode cX5_readFigure 1 = .ok (.getfield 35, 3) := by decide +kernel
theorem dX5_readFigure_4 : decode cX5_readFigure 4 = .ok (.ifCond .lt 36, 3) := by decide +kernel
theorem dX5_readFigure_7 : decode cX5_readFigure 7 = .ok (.aload_n 0, 1) := by decide +kernel
theorem dX5_readFigure_8 : decode cX5_readFigure 8 = .ok (.getfield 35, 3) := by decide +kernel
theorem dX5_readFigure_11 : decode cX5_readFigure 11 = .ok (.aload_n 0, 1) := by decide +kernel
theorem dX5_readFigure_12 : decode cX5_readFigure 12 = .ok (.getfield 31, 3) := by decide +kernel
theorem dX5_readFigure_15 : decode cX5_readFigure 15 = .ok (.if_icmp .ge 25, 3) := by decide +kernel
theorem dX5_readFigure_18 : decode cX5_readFigure 18 = .ok (.aload_n 0, 1) := by decide +kernel
theorem dX5_readFigure_19 : decode cX5_readFigure 19 = .ok (.getfield 35, 3) := by decide +kernel
theorem dX5_readFigure_22 : decode cX5_readFigure 22 = .ok (.sipush 200, 3) := by decide +kernel
theorem dX5_readFigure_25 : decode cX5_readFigure 25 = .ok (.if_icmp .ge 15, 3) := by decide +kernel
theorem dX5_readFigure_28 : decode cX5_readFigure 28 = .ok (.aload_n 0, 1) := by decide +kernel
theorem dX5_readFigure_29 : decode cX5_readFigure 29 = .ok (.getfield 9, 3) := by decide +kernel
theorem dX5_readFigure_32 : decode cX5_readFigure 32 = .ok (.aload_n 0, 1) := by decide +kernel
theorem dX5_readFigure_33 : decode cX5_readFigure 33 = .ok (.getfield 35, 3) := by decide +kernel
theorem dX5_readFigure_36 : decode cX5_readFigure 36 = .ok (.iaload, 1) := by decide +kernel
theorem dX5_readFigure_37 : decode cX5_readFigure 37 = .ok (.goto 4, 3) := by decide +kernel
theorem dX5_readFigure_40 : decode cX5_readFigure 40 = .ok (.iconst 0, 1) := by decide +kernel
theorem dX5_readFigure_41 : decode cX5_readFigure 41 = .ok (.istore_n 1, 1) := by decide +kernel
theorem dX5_readFigure_42 : decode cX5_readFigure 42 = .ok (.iload_n 1, 1) := by decide +kernel
theorem dX5_readFigure_43 : decode cX5_readFigure 43 = .ok (.bipush 48, 2) := by decide +kernel
theorem dX5_readFigure_45 : decode cX5_readFigure 45 = .ok (.if_icmp .lt 9, 3) := by decide +kernel
theorem dX5_readFigure_48 : decode cX5_readFigure 48 = .ok (.iload_n 1, 1) := by decide +kernel
theorem dX5_readFigure_49 : decode cX5_readFigure 49 = .ok (.bipush 57, 2) := by decide +kernel
theorem dX5_readFigure_51 : decode cX5_readFigure 51 = .ok (.if_icmp .le 6, 3) := by decide +kernel
theorem dX5_readFigure_54 : decode cX5_readFigure 54 = .ok (.bipush (-4), 2) := by decide +kernel
theorem dX5_readFigure_56 : decode cX5_readFigure 56 = .ok (.ireturn, 1) := by decide +kernel
theorem dX5_readFigure_57 : decode cX5_readFigure 57 = .ok (.aload_n 0, 1) := by decide +kernel
theorem dX5_readFigure_58 : decode cX5_readFigure 58 = .ok (.dup, 1) := by decide +kernel
theorem dX5_readFigure_59 : decode cX5_readFigure 59 = .ok (.getfield 35, 3) := by decide +kernel
theorem dX5_readFigure_62 : decode cX5_readFigure 62 = .ok (.iconst 1, 1) := by decide +kernel
theorem dX5_readFigure_63 : decode cX5_readFigure 63 = .ok (.iadd, 1) := by decide +kernel
theorem dX5_readFigure_64 : decode cX5_readFigure 64 = .ok (.putfield 35, 3) := by decide +kernel
theorem dX5_readFigure_67 : decode cX5_readFigure 67 = .ok (.iload_n 1, 1) := by decide +kernel
theorem dX5_readFigure_68 : decode cX5_readFigure 68 = .ok (.bipush 48, 2) := by decide +kernel
theorem dX5_readFigure_70 : decode cX5_readFigure 70 = .ok (.isub, 1) := by decide +kernel
theorem dX5_readFigure_71 : decode cX5_readFigure 71 = .ok (.ireturn, 1) := by decide +kernel
theorem dX5_readNumber_0 : decode cX5_readNumber 0 = .ok (.aload_n 0, 1) := by decide +kernel
theorem dX5_readNumber_1 : decode cX5_readNumber 1 = .ok (.invokevirtual 67, 3) := by decide +kernel
theorem dX5_readNumber_4 : decode cX5_readNumber 4 = .ok (.istore_n 1, 1) := by decide +kernel
theorem dX5_readNumber_5 : decode cX5_readNumber 5 = .ok (.iload_n 1, 1) := by decide +kernel
theorem dX5_readNumber_6 : decode cX5_readNumber 6 = .ok (.bipush (-4), 2) := by decide +kernel
theorem dX5_readNumber_8 : decode cX5_readNumber 8 = .ok (.if_icmp .ne 8, 3) := by decide +kernel
theorem dX5_readNumber_11 : decode cX5_readNumber 11 = .ok (.bipush (-4), 2) := by decide +kernel
theorem dX5_readNumber_13 : decode cX5_readNumber 13 = .ok (.goto 7, 3) := by decide +kernel
theorem dX5_readNumber_16 : decode cX5_readNumber 16 = .ok (.aload_n 0, 1) := by decide +kernel
theorem dX5_readNumber_17 : decode cX5_readNumber 17 = .ok (.invokevirtual 67, 3) := by decide +kernel
theorem dX5_readNumber_20 : decode cX5_readNumber 20 = .ok (.istore_n 2, 1) := by decide +kernel
theorem dX5_readNumber_21 : decode cX5_readNumber 21 = .ok (.iload_n 2, 1) := by decide +kernel
theorem dX5_readNumber_22 : decode cX5_readNumber 22 = .ok (.bipush (-4), 2) := by decide +kernel
theorem dX5_readNumber_24 : decode cX5_readNumber 24 = .ok (.if_icmp .ne 7, 3) := by decide +kernel
theorem dX5_readNumber_27 : decode cX5_readNumber 27 = .ok (.iload_n 1, 1) := by decide +kernel
theorem dX5_readNumber_28 : decode cX5_readNumber 28 = .ok (.goto 9, 3) := by decide +kernel
theorem dX5_readNumber_31 : decode cX5_readNumber 31 = .ok (.bipush 10, 2) := by decide +kernel
theorem dX5_readNumber_33 : decode cX5_readNumber 33 = .ok (.iload_n 1, 1) := by decide +kernel
theorem dX5_readNumber_34 : decode cX5_readNumber 34 = .ok (.imul, 1) := by decide +kernel
theorem dX5_readNumber_35 : decode cX5_readNumber 35 = .ok (.iload_n 2, 1) := by decide +kernel
theorem dX5_readNumber_36 : decode cX5_readNumber 36 = .ok (.iadd, 1) := by decide +kernel
theorem dX5_readNumber_37 : decode cX5_readNumber 37 = .ok (.ireturn, 1) := by decide +kernel
theorem dX5_readRow_0 : decode cX5_readRow 0 = .ok (.aload_n 0, 1) := by decide +kernel
theorem dX5_readRow_1 : decode cX5_readRow 1 = .ok (.getfield 18, 3) := by decide +kernel
theorem dX5_readRow_4 : decode cX5_readRow 4 = .ok (.getfield 70, 3) := by decide +kernel
theorem dX5_readRow_7 : decode cX5_readRow 7 = .ok (.bipush 6, 2) := by decide +kernel
theorem dX5_readRow_9 : decode cX5_readRow 9 = .ok (.if_icmp .lt 5, 3) := by decide +kernel
theorem dX5_readRow_12 : decode cX5_readRow 12 = .ok (.iconst 0, 1) := by decide +kernel
theorem dX5_readRow_13 : decode cX5_readRow 13 = .ok (.ireturn, 1) := by decide +kernel
theorem dX5_readRow_14 : decode cX5_readRow 14 = .ok (.iconst 0, 1) := by decide +kernel
theorem dX5_readRow_15 : decode cX5_readRow 15 = .ok (.istore_n 1, 1) := by decide +kernel
theorem dX5_readRow_16 : decode cX5_readRow 16 = .ok (.iconst 0, 1) := by decide +kernel
theorem dX5_readRow_17 : decode cX5_readRow 17 = .ok (.istore_n 2, 1) := by decide +kernel
theorem dX5_readRow_18 : decode cX5_readRow 18 = .ok (.iload_n 2, 1) := by decide +kernel
theorem dX5_readRow_19 : decode cX5_readRow 19 = .ok (.bipush 6, 2) := by decide +kernel
theorem dX5_readRow_21 : decode cX5_readRow 21 = .ok (.if_icmp .ge 60, 3) := by decide +kernel
theorem dX5_readRow_24 : decode cX5_readRow 24 = .ok (.aload_n 0, 1) := by decide +kernel
theorem dX5_readRow_25 : decode cX5_readRow 25 = .ok (.invokevirtual 67, 3) := by decide +kernel
theorem dX5_readRow_28 : decode cX5_readRow 28 = .ok (.istore_n 3, 1) := by decide +kernel
theorem dX5_readRow_29 : decode cX5_readRow 29 = .ok (.aload_n 0, 1) := by decide +kernel
theorem dX5_readRow_30 : decode cX5_readRow 30 = .ok (.getfield 18, 3) := by decide +kernel
theorem dX5_readRow_33 : decode cX5_readRow 33 = .ok (.getfield 73, 3) := by decide +kernel
theorem dX5_readRow_36 : decode cX5_readRow 36 = .ok (.iload_n 1, 1) := by decide +kernel
theorem dX5_readRow_37 : decode cX5_readRow 37 = .ok (.iadd, 1) := by decide +kernel
theorem dX5_readRow_38 : decode cX5_readRow 38 = .ok (.istore 4, 2) := by decide +kernel
theorem dX5_readRow_40 : decode cX5_readRow 40 = .ok (.iload_n 3, 1) := by decide +kernel
theorem dX5_readRow_41 : decode cX5_readRow 41 = .ok (.bipush (-4), 2) := by decide +kernel
theorem dX5_readRow_43 : decode cX5_readRow 43 = .ok (.if_icmp .eq 38, 3) := by decide +kernel
theorem dX5_readRow_46 : decode cX5_readRow 46 = .ok (.iload 4, 2) := by decide +kernel
theorem dX5_readRow_48 : decode cX5_readRow 48 = .ok (.ifCond .lt 33, 3) := by decide +kernel
theorem dX5_readRow_51 : decode cX5_readRow 51 = .ok (.iload 4, 2) := by decide +kernel
theorem dX5_readRow_53 : decode cX5_readRow 53 = .ok (.bipush 36, 2) := by decide +kernel
theorem dX5_readRow_55 : decode cX5_readRow 55 = .ok (.if_icmp .lt 6, 3) := by decide +kernel
theorem dX5_readRow_58 : decode cX5_readRow 58 = .ok (.goto 23, 3) := by decide +kernel
theorem dX5_readRow_61 : decode cX5_readRow 61 = .ok (.aload_n 0, 1) := by decide +kernel
theorem dX5_readRow_62 : decode cX5_readRow 62 = .ok (.getfield 27, 3) := by decide +kernel
theorem dX5_readRow_65 : decode cX5_readRow 65 = .ok (.getfield 76, 3) := by decide +kernel
theorem dX5_readRow_68 : decode cX5_readRow 68 = .ok (.iload 4, 2) := by decide +kernel
theorem dX5_readRow_70 : decode cX5_readRow 70 = .ok (.iload_n 3, 1) := by decide +kernel
theorem dX5_readRow_71 : decode cX5_readRow 71 = .ok (.iastore, 1) := by decide +kernel
theorem dX5_readRow_72 : decode cX5_readRow 72 = .ok (.iinc 1 1, 3) := by decide +kernel
theorem dX5_readRow_75 : decode cX5_readRow 75 = .ok (.iinc 2 1, 3) := by decide +kernel
theorem dX5_readRow_78 : decode cX5_readRow 78 = .ok (.goto (-60), 3) := by decide +kernel
theorem dX5_readRow_81 : decode cX5_readRow 81 = .ok (.iload_n 1, 1) := by decide +kernel
theorem dX5_readRow_82 : decode cX5_readRow 82 = .ok (.iconst 1, 1) := by decide +kernel
theorem dX5_readRow_83 : decode cX5_readRow 83 = .ok (.if_icmp .lt 33, 3) := by decide +kernel
theorem dX5_readRow_86 : decode cX5_readRow 86 = .ok (.aload_n 0, 1) := by decide +kernel
theorem dX5_readRow_87 : decode cX5_readRow 87 = .ok (.getfield 18, 3) := by decide +kernel
theorem dX5_readRow_90 : decode cX5_readRow 90 = .ok (.getfield 70, 3) := by decide +kernel
theorem dX5_readRow_93 : decode cX5_readRow 93 = .ok (.ifCond .le 14, 3) := by decide +kernel
theorem dX5_readRow_96 : decode cX5_readRow 96 = .ok (.iload_n 1, 1) := by decide +kernel
theorem dX5_readRow_97 : decode cX5_readRow 97 = .ok (.aload_n 0, 1) := by decide +kernel
theorem dX5_readRow_98 : decode cX5_readRow 98 = .ok (.getfield 18, 3) := by decide +kernel
theorem dX5_readRow_101 : decode cX5_readRow 101 = .ok (.getfield 79, 3) := by decide +kernel
theorem dX5_readRow_104 : decode cX5_readRow 104 = .ok (.if_icmp .ne 12, 3) := by decide +kernel
theorem dX5_readRow_107 : decode cX5_readRow 107 = .ok (.aload_n 0, 1) := by decide +kernel
theorem dX5_readRow_108 : decode cX5_readRow 108 = .ok (.bipush 59, 2) := by decide +kernel
theorem dX5_readRow_110 : decode cX5_readRow 110 = .ok (.invokevirtual 82, 3) := by decide +kernel
theorem dX5_readRow_113 : decode cX5_readRow 113 = .ok (.ifCond .ne 5, 3) := by decide +kernel
theorem dX5_readRow_116 : decode cX5_readRow 116 = .ok (.iconst 0, 1) := by decide +kernel
theorem dX5_readRow_117 : decode cX5_readRow 117 = .ok (.ireturn, 1) := by decide +kernel
theorem dX5_readRow_118 : decode cX5_readRow 118 = .ok (.aload_n 0, 1) := by decide +kernel
theorem dX5_readRow_119 : decode cX5_readRow 119 = .ok (.getfield 18, 3) := by decide +kernel
theorem dX5_readRow_122 : decode cX5_readRow 122 = .ok (.iload_n 1, 1) := by decide +kernel
theorem dX5_readRow_123 : decode cX5_readRow 123 = .ok (.putfield 79, 3) := by decide +kernel
theorem dX5_readRow_126 : decode cX5_readRow 126 = .ok (.aload_n 0, 1) := by decide +kernel
theorem dX5_readRow_127 : decode cX5_readRow 127 = .ok (.getfield 18, 3) := by decide +kernel
theorem dX5_readRow_130 : decode cX5_readRow 130 = .ok (.dup, 1) := by decide +kernel
theorem dX5_readRow_131 : decode cX5_readRow 131 = .ok (.getfield 70, 3) := by decide +kernel
theorem dX5_readRow_134 : decode cX5_readRow 134 = .ok (.iconst 1, 1) := by decide +kernel
theorem dX5_readRow_135 : decode cX5_readRow 135 = .ok (.iadd, 1) := by decide +kernel
theorem dX5_readRow_136 : decode cX5_readRow 136 = .ok (.putfield 70, 3) := by decide +kernel
theorem dX5_readRow_139 : decode cX5_readRow 139 = .ok (.aload_n 0, 1) := by decide +kernel
theorem dX5_readRow_140 : decode cX5_readRow 140 = .ok (.getfield 18, 3) := by decide +kernel
theorem dX5_readRow_143 : decode cX5_readRow 143 = .ok (.dup, 1) := by decide +kernel
theorem dX5_readRow_144 : decode cX5_readRow 144 = .ok (.getfield 73, 3) := by decide +kernel
theorem dX5_readRow_147 : decode cX5_readRow 147 = .ok (.iload_n 1, 1) := by decide +kernel
theorem dX5_readRow_148 : decode cX5_readRow 148 = .ok (.iadd, 1) := by decide +kernel
theorem dX5_readRow_149 : decode cX5_readRow 149 = .ok (.putfield 73, 3) := by decide +kernel
theorem dX5_readRow_152 : decode cX5_readRow 152 = .ok (.iconst 1, 1) := by decide +kernel
theorem dX5_readRow_153 : decode cX5_readRow 153 = .ok (.ireturn, 1) := by decide +kernel
theorem dX5_readBeast_0 : decode cX5_readBeast 0 = .ok (.aload_n 0, 1) := by decide +kernel
theorem dX5_readBeast_1 : decode cX5_readBeast 1 = .ok (.invokevirtual 86, 3) := by decide +kernel
theorem dX5_readBeast_4 : decode cX5_readBeast 4 = .ok (.istore_n 1, 1) := by decide +kernel
theorem dX5_readBeast_5 : decode cX5_readBeast 5 = .ok (.aload_n 0, 1) := by decide +kernel
theorem dX5_readBeast_6 : decode cX5_readBeast 6 = .ok (.bipush 44, 2) := by decide +kernel
theorem dX5_readBeast_8 : decode cX5_readBeast 8 = .ok (.invokevirtual 82, 3) := by decide +kernel
theorem dX5_readBeast_11 : decode cX5_readBeast 11 = .ok (.istore_n 2, 1) := by decide +kernel
theorem dX5_readBeast_12 : decode cX5_readBeast 12 = .ok (.aload_n 0, 1) := by decide +kernel
theorem dX5_readBeast_13 : decode cX5_readBeast 13 = .ok (.invokevirtual 86, 3) := by decide +kernel
theorem dX5_readBeast_16 : decode cX5_readBeast 16 = .ok (.istore_n 3, 1) := by decide +kernel
theorem dX5_readBeast_17 : decode cX5_readBeast 17 = .ok (.iload_n 2, 1) := by decide +kernel
theorem dX5_readBeast_18 : decode cX5_readBeast 18 = .ok (.ifCond .eq 16, 3) := by decide +kernel
theorem dX5_readBeast_21 : decode cX5_readBeast 21 = .ok (.aload_n 0, 1) := by decide +kernel
theorem dX5_readBeast_22 : decode cX5_readBeast 22 = .ok (.bipush 44, 2) := by decide +kernel
theorem dX5_readBeast_24 : decode cX5_readBeast 24 = .ok (.invokevirtual 82, 3) := by decide +kernel
theorem dX5_readBeast_27 : decode cX5_readBeast 27 = .ok (.ifCond .eq 7, 3) := by decide +kernel
theorem dX5_readBeast_30 : decode cX5_readBeast 30 = .ok (.iconst 1, 1) := by decide +kernel
theorem dX5_readBeast_31 : decode cX5_readBeast 31 = .ok (.goto 4, 3) := by decide +kernel
theorem dX5_readBeast_34 : decode cX5_readBeast 34 = .ok (.iconst 0, 1) := by decide +kernel
theorem dX5_readBeast_35 : decode cX5_readBeast 35 = .ok (.istore_n 2, 1) := by decide +kernel
theorem dX5_readBeast_36 : decode cX5_readBeast 36 = .ok (.aload_n 0, 1) := by decide +kernel
theorem dX5_readBeast_37 : decode cX5_readBeast 37 = .ok (.invokevirtual 86, 3) := by decide +kernel
theorem dX5_readBeast_40 : decode cX5_readBeast 40 = .ok (.istore 4, 2) := by decide +kernel
theorem dX5_readBeast_42 : decode cX5_readBeast 42 = .ok (.iload_n 2, 1) := by decide +kernel
theorem dX5_readBeast_43 : decode cX5_readBeast 43 = .ok (.ifCond .eq 28, 3) := by decide +kernel
theorem dX5_readBeast_46 : decode cX5_readBeast 46 = .ok (.aload_n 0, 1) := by decide +kernel
theorem dX5_readBeast_47 : decode cX5_readBeast 47 = .ok (.bipush 59, 2) := by decide +kernel
theorem dX5_readBeast_49 : decode cX5_readBeast 49 = .ok (.invokevirtual 82, 3) := by decide +kernel
theorem dX5_readBeast_52 : decode cX5_readBeast 52 = .ok (.ifCond .eq 19, 3) := by decide +kernel
theorem dX5_readBeast_55 : decode cX5_readBeast 55 = .ok (.iload_n 1, 1) := by decide +kernel
theorem dX5_readBeast_56 : decode cX5_readBeast 56 = .ok (.ifCond .lt 15, 3) := by decide +kernel
theorem dX5_readBeast_59 : decode cX5_readBeast 59 = .ok (.iload_n 1, 1) := by decide +kernel
theorem dX5_readBeast_60 : decode cX5_readBeast 60 = .ok (.iconst 3, 1) := by decide +kernel
theorem dX5_readBeast_61 : decode cX5_readBeast 61 = .ok (.if_icmp .gt 10, 3) := by decide +kernel
theorem dX5_readBeast_64 : decode cX5_readBeast 64 = .ok (.iload_n 3, 1) := by decide +kernel
theorem dX5_readBeast_65 : decode cX5_readBeast 65 = .ok (.invokestatic 89, 3) := by decide +kernel
theorem dX5_readBeast_68 : decode cX5_readBeast 68 = .ok (.ifCond .ne 5, 3) := by decide +kernel
theorem dX5_readBeast_71 : decode cX5_readBeast 71 = .ok (.iconst 0, 1) := by decide +kernel
theorem dX5_readBeast_72 : decode cX5_readBeast 72 = .ok (.ireturn, 1) := by decide +kernel
theorem dX5_readBeast_73 : decode cX5_readBeast 73 = .ok (.aload_n 0, 1) := by decide +kernel
theorem dX5_readBeast_74 : decode cX5_readBeast 74 = .ok (.getfield 18, 3) := by decide +kernel
theorem dX5_readBeast_77 : decode cX5_readBeast 77 = .ok (.getfield 92, 3) := by decide +kernel
theorem dX5_readBeast_80 : decode cX5_readBeast 80 = .ok (.istore 5, 2) := by decide +kernel
theorem dX5_readBeast_82 : decode cX5_readBeast 82 = .ok (.iload 5, 2) := by decide +kernel
theorem dX5_readBeast_84 : decode cX5_readBeast 84 = .ok (.ifCond .lt 38, 3) := by decide +kernel
theorem dX5_readBeast_87 : decode cX5_readBeast 87 = .ok (.iload 5, 2) := by decide +kernel
theorem dX5_readBeast_89 : decode cX5_readBeast 89 = .ok (.bipush 8, 2) := by decide +kernel
theorem dX5_readBeast_91 : decode cX5_readBeast 91 = .ok (.if_icmp .ge 31, 3) := by decide +kernel
theorem dX5_readBeast_94 : decode cX5_readBeast 94 = .ok (.aload_n 0, 1) := by decide +kernel
theorem dX5_readBeast_95 : decode cX5_readBeast 95 = .ok (.getfield 27, 3) := by decide +kernel
theorem dX5_readBeast_98 : decode cX5_readBeast 98 = .ok (.iload 4, 2) := by decide +kernel
theorem dX5_readBeast_100 : decode cX5_readBeast 100 = .ok (.invokevirtual 95, 3) := by decide +kernel
theorem dX5_readBeast_103 : decode cX5_readBeast 103 = .ok (.bipush 9, 2) := by decide +kernel
theorem dX5_readBeast_105 : decode cX5_readBeast 105 = .ok (.if_icmp .eq 17, 3) := by decide +kernel
theorem dX5_readBeast_108 : decode cX5_readBeast 108 = .ok (.aload_n 0, 1) := by decide +kernel
theorem dX5_readBeast_109 : decode cX5_readBeast 109 = .ok (.getfield 27, 3) := by decide +kernel
theorem dX5_readBeast_112 : decode cX5_readBeast 112 = .ok (.iload 4, 2) := by decide +kernel
theorem dX5_readBeast_114 : decode cX5_readBeast 114 = .ok (.invokevirtual 99, 3) := by decide +kernel
theorem dX5_readBeast_117 : decode cX5_readBeast 117 = .ok (.bipush (-4), 2) := by decide +kernel
theorem dX5_readBeast_119 : decode cX5_readBeast 119 = .ok (.if_icmp .eq 5, 3) := by decide +kernel
theorem dX5_readBeast_122 : decode cX5_readBeast 122 = .ok (.iconst 0, 1) := by decide +kernel
theorem dX5_readBeast_123 : decode cX5_readBeast 123 = .ok (.ireturn, 1) := by decide +kernel
theorem dX5_readBeast_124 : decode cX5_readBeast 124 = .ok (.aload_n 0, 1) := by decide +kernel
theorem dX5_readBeast_125 : decode cX5_readBeast 125 = .ok (.getfield 18, 3) := by decide +kernel
theorem dX5_readBeast_128 : decode cX5_readBeast 128 = .ok (.dup, 1) := by decide +kernel
theorem dX5_readBeast_129 : decode cX5_readBeast 129 = .ok (.getfield 92, 3) := by decide +kernel
theorem dX5_readBeast_132 : decode cX5_readBeast 132 = .ok (.iconst 1, 1) := by decide +kernel
theorem dX5_readBeast_133 : decode cX5_readBeast 133 = .ok (.iadd, 1) := by decide +kernel
theorem dX5_readBeast_134 : decode cX5_readBeast 134 = .ok (.putfield 92, 3) := by decide +kernel
theorem dX5_readBeast_137 : decode cX5_readBeast 137 = .ok (.aload_n 0, 1) := by decide +kernel
theorem dX5_readBeast_138 : decode cX5_readBeast 138 = .ok (.getfield 18, 3) := by decide +kernel
theorem dX5_readBeast_141 : decode cX5_readBeast 141 = .ok (.getfield 102, 3) := by decide +kernel
theorem dX5_readBeast_144 : decode cX5_readBeast 144 = .ok (.iload 5, 2) := by decide +kernel
theorem dX5_readBeast_146 : decode cX5_readBeast 146 = .ok (.iload_n 3, 1) := by decide +kernel
theorem dX5_readBeast_147 : decode cX5_readBeast 147 = .ok (.iastore, 1) := by decide +kernel
theorem dX5_readBeast_148 : decode cX5_readBeast 148 = .ok (.aload_n 0, 1) := by decide +kernel
theorem dX5_readBeast_149 : decode cX5_readBeast 149 = .ok (.getfield 27, 3) := by decide +kernel
theorem dX5_readBeast_152 : decode cX5_readBeast 152 = .ok (.getfield 105, 3) := by decide +kernel
theorem dX5_readBeast_155 : decode cX5_readBeast 155 = .ok (.iload 5, 2) := by decide +kernel
theorem dX5_readBeast_157 : decode cX5_readBeast 157 = .ok (.iconst 0, 1) := by decide +kernel
theorem dX5_readBeast_158 : decode cX5_readBeast 158 = .ok (.iastore, 1) := by decide +kernel
theorem dX5_readBeast_159 : decode cX5_readBeast 159 = .ok (.aload_n 0, 1) := by decide +kernel
theorem dX5_readBeast_160 : decode cX5_readBeast 160 = .ok (.getfield 27, 3) := by decide +kernel
theorem dX5_readBeast_163 : decode cX5_readBeast 163 = .ok (.iload 5, 2) := by decide +kernel
theorem dX5_readBeast_165 : decode cX5_readBeast 165 = .ok (.iload 4, 2) := by decide +kernel
theorem dX5_readBeast_167 : decode cX5_readBeast 167 = .ok (.iload_n 1, 1) := by decide +kernel
theorem dX5_readBeast_168 : decode cX5_readBeast 168 = .ok (.invokevirtual 108, 3) := by decide +kernel
theorem dX5_readBeast_171 : decode cX5_readBeast 171 = .ok (.iconst 1, 1) := by decide +kernel
theorem dX5_readBeast_172 : decode cX5_readBeast 172 = .ok (.ireturn, 1) := by decide +kernel
theorem dX5_readWell_0 : decode cX5_readWell 0 = .ok (.aload_n 0, 1) := by decide +kernel
theorem dX5_readWell_1 : decode cX5_readWell 1 = .ok (.invokevirtual 86, 3) := by decide +kernel
theorem dX5_readWell_4 : decode cX5_readWell 4 = .ok (.istore_n 1, 1) := by decide +kernel
theorem dX5_readWell_5 : decode cX5_readWell 5 = .ok (.aload_n 0, 1) := by decide +kernel
theorem dX5_readWell_6 : decode cX5_readWell 6 = .ok (.bipush 59, 2) := by decide +kernel
theorem dX5_readWell_8 : decode cX5_readWell 8 = .ok (.invokevirtual 82, 3) := by decide +kernel
theorem dX5_readWell_11 : decode cX5_readWell 11 = .ok (.ifCond .eq 16, 3) := by decide +kernel
theorem dX5_readWell_14 : decode cX5_readWell 14 = .ok (.aload_n 0, 1) := by decide +kernel
theorem dX5_readWell_15 : decode cX5_readWell 15 = .ok (.getfield 27, 3) := by decide +kernel
theorem dX5_readWell_18 : decode cX5_readWell 18 = .ok (.iload_n 1, 1) := by decide +kernel
theorem dX5_readWell_19 : decode cX5_readWell 19 = .ok (.invokevirtual 95, 3) := by decide +kernel
theorem dX5_readWell_22 : decode cX5_readWell 22 = .ok (.bipush 9, 2) := by decide +kernel
theorem dX5_readWell_24 : decode cX5_readWell 24 = .ok (.if_icmp .ne 5, 3) := by decide +kernel
theorem dX5_readWell_27 : decode cX5_readWell 27 = .ok (.iconst 0, 1) := by decide +kernel
theorem dX5_readWell_28 : decode cX5_readWell 28 = .ok (.ireturn, 1) := by decide +kernel
theorem dX5_readWell_29 : decode cX5_readWell 29 = .ok (.aload_n 0, 1) := by decide +kernel
theorem dX5_readWell_30 : decode cX5_readWell 30 = .ok (.getfield 18, 3) := by decide +kernel
theorem dX5_readWell_33 : decode cX5_readWell 33 = .ok (.iload_n 1, 1) := by decide +kernel
theorem dX5_readWell_34 : decode cX5_readWell 34 = .ok (.putfield 112, 3) := by decide +kernel
theorem dX5_readWell_37 : decode cX5_readWell 37 = .ok (.iconst 1, 1) := by decide +kernel
theorem dX5_readWell_38 : decode cX5_readWell 38 = .ok (.ireturn, 1) := by decide +kernel
theorem dX5_readHunger_0 : decode cX5_readHunger 0 = .ok (.aload_n 0, 1) := by decide +kernel
theorem dX5_readHunger_1 : decode cX5_readHunger 1 = .ok (.invokevirtual 86, 3) := by decide +kernel
theorem dX5_readHunger_4 : decode cX5_readHunger 4 = .ok (.istore_n 1, 1) := by decide +kernel
theorem dX5_readHunger_5 : decode cX5_readHunger 5 = .ok (.aload_n 0, 1) := by decide +kernel
theorem dX5_readHunger_6 : decode cX5_readHunger 6 = .ok (.bipush 59, 2) := by decide +kernel
theorem dX5_readHunger_8 : decode cX5_readHunger 8 = .ok (.invokevirtual 82, 3) := by decide +kernel
theorem dX5_readHunger_11 : decode cX5_readHunger 11 = .ok (.ifCond .eq 14, 3) := by decide +kernel
theorem dX5_readHunger_14 : decode cX5_readHunger 14 = .ok (.iload_n 1, 1) := by decide +kernel
theorem dX5_readHunger_15 : decode cX5_readHunger 15 = .ok (.iconst 1, 1) := by decide +kernel
theorem dX5_readHunger_16 : decode cX5_readHunger 16 = .ok (.if_icmp .lt 9, 3) := by decide +kernel
theorem dX5_readHunger_19 : decode cX5_readHunger 19 = .ok (.iload_n 1, 1) := by decide +kernel
theorem dX5_readHunger_20 : decode cX5_readHunger 20 = .ok (.bipush 9, 2) := by decide +kernel
theorem dX5_readHunger_22 : decode cX5_readHunger 22 = .ok (.if_icmp .le 5, 3) := by decide +kernel
theorem dX5_readHunger_25 : decode cX5_readHunger 25 = .ok (.iconst 0, 1) := by decide +kernel
theorem dX5_readHunger_26 : decode cX5_readHunger 26 = .ok (.ireturn, 1) := by decide +kernel
theorem dX5_readHunger_27 : decode cX5_readHunger 27 = .ok (.aload_n 0, 1) := by decide +kernel
theorem dX5_readHunger_28 : decode cX5_readHunger 28 = .ok (.getfield 18, 3) := by decide +kernel
theorem dX5_readHunger_31 : decode cX5_readHunger 31 = .ok (.iload_n 1, 1) := by decide +kernel
theorem dX5_readHunger_32 : decode cX5_readHunger 32 = .ok (.putfield 115, 3) := by decide +kernel
theorem dX5_readHunger_35 : decode cX5_readHunger 35 = .ok (.iconst 1, 1) := by decide +kernel
theorem dX5_readHunger_36 : decode cX5_readHunger 36 = .ok (.ireturn, 1) := by decide +kernel
theorem dX5_readSnow_0 : decode cX5_readSnow 0 = .ok (.aload_n 0, 1) := by decide +kernel
theorem dX5_readSnow_1 : decode cX5_readSnow 1 = .ok (.invokevirtual 86, 3) := by decide +kernel
theorem dX5_readSnow_4 : decode cX5_readSnow 4 = .ok (.istore_n 1, 1) := by decide +kernel
theorem dX5_readSnow_5 : decode cX5_readSnow 5 = .ok (.aload_n 0, 1) := by decide +kernel
theorem dX5_readSnow_6 : decode cX5_readSnow 6 = .ok (.bipush 59, 2) := by decide +kernel
theorem dX5_readSnow_8 : decode cX5_readSnow 8 = .ok (.invokevirtual 82, 3) := by decide +kernel
theorem dX5_readSnow_11 : decode cX5_readSnow 11 = .ok (.ifCond .eq 34, 3) := by decide +kernel
theorem dX5_readSnow_14 : decode cX5_readSnow 14 = .ok (.iload_n 1, 1) := by decide +kernel
theorem dX5_readSnow_15 : decode cX5_readSnow 15 = .ok (.ifCond .lt 30, 3) := by decide +kernel
theorem dX5_readSnow_18 : decode cX5_readSnow 18 = .ok (.iload_n 1, 1) := by decide +kernel
theorem dX5_readSnow_19 : decode cX5_readSnow 19 = .ok (.iconst 1, 1) := by decide +kernel
theorem dX5_readSnow_20 : decode cX5_readSnow 20 = .ok (.if_icmp .gt 25, 3) := by decide +kernel
theorem dX5_readSnow_23 : decode cX5_readSnow 23 = .ok (.aload_n 0, 1) := by decide +kernel
theorem dX5_readSnow_24 : decode cX5_readSnow 24 = .ok (.getfield 18, 3) := by decide +kernel
theorem dX5_readSnow_27 : decode cX5_readSnow 27 = .ok (.getfield 118, 3) := by decide +kernel
theorem dX5_readSnow_30 : decode cX5_readSnow 30 = .ok (.ifCond .lt 15, 3) := by decide +kernel
theorem dX5_readSnow_33 : decode cX5_readSnow 33 = .ok (.aload_n 0, 1) := by decide +kernel
theorem dX5_readSnow_34 : decode cX5_readSnow 34 = .ok (.getfield 18, 3) := by decide +kernel
theorem dX5_readSnow_37 : decode cX5_readSnow 37 = .ok (.getfield 118, 3) := by decide +kernel
theorem dX5_readSnow_40 : decode cX5_readSnow 40 = .ok (.bipush 9, 2) := by decide +kernel
theorem dX5_readSnow_42 : decode cX5_readSnow 42 = .ok (.if_icmp .lt 5, 3) := by decide +kernel
theorem dX5_readSnow_45 : decode cX5_readSnow 45 = .ok (.iconst 0, 1) := by decide +kernel
theorem dX5_readSnow_46 : decode cX5_readSnow 46 = .ok (.ireturn, 1) := by decide +kernel
theorem dX5_readSnow_47 : decode cX5_readSnow 47 = .ok (.aload_n 0, 1) := by decide +kernel
theorem dX5_readSnow_48 : decode cX5_readSnow 48 = .ok (.getfield 18, 3) := by decide +kernel
theorem dX5_readSnow_51 : decode cX5_readSnow 51 = .ok (.getfield 121, 3) := by decide +kernel
theorem dX5_readSnow_54 : decode cX5_readSnow 54 = .ok (.aload_n 0, 1) := by decide +kernel
theorem dX5_readSnow_55 : decode cX5_readSnow 55 = .ok (.getfield 18, 3) := by decide +kernel
theorem dX5_readSnow_58 : decode cX5_readSnow 58 = .ok (.getfield 118, 3) := by decide +kernel
theorem dX5_readSnow_61 : decode cX5_readSnow 61 = .ok (.iload_n 1, 1) := by decide +kernel
theorem dX5_readSnow_62 : decode cX5_readSnow 62 = .ok (.iastore, 1) := by decide +kernel
theorem dX5_readSnow_63 : decode cX5_readSnow 63 = .ok (.aload_n 0, 1) := by decide +kernel
theorem dX5_readSnow_64 : decode cX5_readSnow 64 = .ok (.getfield 18, 3) := by decide +kernel
theorem dX5_readSnow_67 : decode cX5_readSnow 67 = .ok (.dup, 1) := by decide +kernel
theorem dX5_readSnow_68 : decode cX5_readSnow 68 = .ok (.getfield 118, 3) := by decide +kernel
theorem dX5_readSnow_71 : decode cX5_readSnow 71 = .ok (.iconst 1, 1) := by decide +kernel
theorem dX5_readSnow_72 : decode cX5_readSnow 72 = .ok (.iadd, 1) := by decide +kernel
theorem dX5_readSnow_73 : decode cX5_readSnow 73 = .ok (.putfield 118, 3) := by decide +kernel
theorem dX5_readSnow_76 : decode cX5_readSnow 76 = .ok (.iconst 1, 1) := by decide +kernel
theorem dX5_readSnow_77 : decode cX5_readSnow 77 = .ok (.ireturn, 1) := by decide +kernel
theorem dX6_init_0 : decode cX6_init 0 = .ok (.aload_n 0, 1) := by decide +kernel
theorem dX6_init_1 : decode cX6_init 1 = .ok (.invokespecial 3, 3) := by decide +kernel
theorem dX6_init_4 : decode cX6_init 4 = .ok (.aload_n 0, 1) := by decide +kernel
theorem dX6_init_5 : decode cX6_init 5 = .ok (.bipush 72, 2) := by decide +kernel
theorem dX6_init_7 : decode cX6_init 7 = .ok (.newarray .int, 2) := by decide +kernel
theorem dX6_init_9 : decode cX6_init 9 = .ok (.putfield 11, 3) := by decide +kernel
theorem dX6_init_12 : decode cX6_init 12 = .ok (.aload_n 0, 1) := by decide +kernel
theorem dX6_init_13 : decode cX6_init 13 = .ok (.bipush 72, 2) := by decide +kernel
theorem dX6_init_15 : decode cX6_init 15 = .ok (.newarray .int, 2) := by decide +kernel
theorem dX6_init_17 : decode cX6_init 17 = .ok (.putfield 15, 3) := by decide +kernel
theorem dX6_init_20 : decode cX6_init 20 = .ok (.aload_n 0, 1) := by decide +kernel
theorem dX6_init_21 : decode cX6_init 21 = .ok (.bipush 72, 2) := by decide +kernel
theorem dX6_init_23 : decode cX6_init 23 = .ok (.newarray .int, 2) := by decide +kernel
theorem dX6_init_25 : decode cX6_init 25 = .ok (.putfield 18, 3) := by decide +kernel
theorem dX6_init_28 : decode cX6_init 28 = .ok (.aload_n 0, 1) := by decide +kernel
theorem dX6_init_29 : decode cX6_init 29 = .ok (.bipush 72, 2) := by decide +kernel
theorem dX6_init_31 : decode cX6_init 31 = .ok (.newarray .int, 2) := by decide +kernel
theorem dX6_init_33 : decode cX6_init 33 = .ok (.putfield 21, 3) := by decide +kernel
theorem dX6_init_36 : decode cX6_init 36 = .ok (.aload_n 0, 1) := by decide +kernel
theorem dX6_init_37 : decode cX6_init 37 = .ok (.bipush 72, 2) := by decide +kernel
theorem dX6_init_39 : decode cX6_init 39 = .ok (.newarray .int, 2) := by decide +kernel
theorem dX6_init_41 : decode cX6_init 41 = .ok (.putfield 24, 3) := by decide +kernel
theorem dX6_init_44 : decode cX6_init 44 = .ok (.aload_n 0, 1) := by decide +kernel
theorem dX6_init_45 : decode cX6_init 45 = .ok (.bipush 72, 2) := by decide +kernel
theorem dX6_init_47 : decode cX6_init 47 = .ok (.newarray .boolean, 2) := by decide +kernel
theorem dX6_init_49 : decode cX6_init 49 = .ok (.putfield 27, 3) := by decide +kernel
theorem dX6_init_52 : decode cX6_init 52 = .ok (.aload_n 0, 1) := by decide +kernel
theorem dX6_init_53 : decode cX6_init 53 = .ok (.iconst 0, 1) := by decide +kernel
theorem dX6_init_54 : decode cX6_init 54 = .ok (.putfield 31, 3) := by decide +kernel
theorem dX6_init_57 : decode cX6_init 57 = .ok (.aload_n 0, 1) := by decide +kernel
theorem dX6_init_58 : decode cX6_init 58 = .ok (.new 35, 3) := by decide +kernel
theorem dX6_init_61 : decode cX6_init 61 = .ok (.dup, 1) := by decide +kernel
theorem dX6_init_62 : decode cX6_init 62 = .ok (.aload_n 1, 1) := by decide +kernel
theorem dX6_init_63 : decode cX6_init 63 = .ok (.invokespecial 37, 3) := by decide +kernel
theorem dX6_init_66 : decode cX6_init 66 = .ok (.putfield 40, 3) := by decide +kernel
theorem dX6_init_69 : decode cX6_init 69 = .ok (.return_, 1) := by decide +kernel
theorem dX6_from_0 : decode cX6_from 0 = .ok (.aload_n 0, 1) := by decide +kernel
theorem dX6_from_1 : decode cX6_from 1 = .ok (.getfield 40, 3) := by decide +kernel
theorem dX6_from_4 : decode cX6_from 4 = .ok (.aload_n 1, 1) := by decide +kernel
theorem dX6_from_5 : decode cX6_from 5 = .ok (.invokevirtual 44, 3) := by decide +kernel
theorem dX6_from_8 : decode cX6_from 8 = .ok (.aload_n 0, 1) := by decide +kernel
theorem dX6_from_9 : decode cX6_from 9 = .ok (.iconst 0, 1) := by decide +kernel
theorem dX6_from_10 : decode cX6_from 10 = .ok (.putfield 31, 3) := by decide +kernel
theorem dX6_from_13 : decode cX6_from 13 = .ok (.iconst 0, 1) := by decide +kernel
theorem dX6_from_14 : decode cX6_from 14 = .ok (.istore_n 3, 1) := by decide +kernel
theorem dX6_from_15 : decode cX6_from 15 = .ok (.iload_n 3, 1) := by decide +kernel
theorem dX6_from_16 : decode cX6_from 16 = .ok (.bipush 72, 2) := by decide +kernel
theorem dX6_from_18 : decode cX6_from 18 = .ok (.if_icmp .ge 16, 3) := by decide +kernel
theorem dX6_from_21 : decode cX6_from 21 = .ok (.aload_n 0, 1) := by decide +kernel
theorem dX6_from_22 : decode cX6_from 22 = .ok (.getfield 27, 3) := by decide +kernel
theorem dX6_from_25 : decode cX6_from 25 = .ok (.iload_n 3, 1) := by decide +kernel
theorem dX6_from_26 : decode cX6_from 26 = .ok (.iconst 0, 1) := by decide +kernel
theorem dX6_from_27 : decode cX6_from 27 = .ok (.bastore, 1) := by decide +kernel
theorem dX6_from_28 : decode cX6_from 28 = .ok (.iinc 3 1, 3) := by decide +kernel
theorem dX6_from_31 : decode cX6_from 31 = .ok (.goto (-16), 3) := by decide +kernel
theorem dX6_from_34 : decode cX6_from 34 = .ok (.aload_n 0, 1) := by decide +kernel
theorem dX6_from_35 : decode cX6_from 35 = .ok (.iload_n 2, 1) := by decide +kernel
theorem dX6_from_36 : decode cX6_from 36 = .ok (.iconst 0, 1) := by decide +kernel
theorem dX6_from_37 : decode cX6_from 37 = .ok (.bipush (-4), 2) := by decide +kernel
theorem dX6_from_39 : decode cX6_from 39 = .ok (.bipush (-4), 2) := by decide +kernel
theorem dX6_from_41 : decode cX6_from 41 = .ok (.invokevirtual 48, 3) := by decide +kernel
theorem dX6_from_44 : decode cX6_from 44 = .ok (.iconst 0, 1) := by decide +kernel
theorem dX6_from_45 : decode cX6_from 45 = .ok (.istore_n 3, 1) := by decide +kernel
theorem dX6_from_46 : decode cX6_from 46 = .ok (.iload_n 3, 1) := by decide +kernel
theorem dX6_from_47 : decode cX6_from 47 = .ok (.aload_n 0, 1) := by decide +kernel
theorem dX6_from_48 : decode cX6_from 48 = .ok (.getfield 31, 3) := by decide +kernel
theorem dX6_from_51 : decode cX6_from 51 = .ok (.if_icmp .ge 96, 3) := by decide +kernel
theorem dX6_from_54 : decode cX6_from 54 = .ok (.iload_n 3, 1) := by decide +kernel
theorem dX6_from_55 : decode cX6_from 55 = .ok (.bipush 72, 2) := by decide +kernel
theorem dX6_from_57 : decode cX6_from 57 = .ok (.if_icmp .ge 90, 3) := by decide +kernel
theorem dX6_from_60 : decode cX6_from 60 = .ok (.iconst 0, 1) := by decide +kernel
theorem dX6_from_61 : decode cX6_from 61 = .ok (.istore 4, 2) := by decide +kernel
theorem dX6_from_63 : decode cX6_from 63 = .ok (.iload 4, 2) := by decide +kernel
theorem dX6_from_65 : decode cX6_from 65 = .ok (.iconst 4, 1) := by decide +kernel
theorem dX6_from_66 : decode cX6_from 66 = .ok (.if_icmp .ge 75, 3) := by decide +kernel
theorem dX6_from_69 : decode cX6_from 69 = .ok (.aload_n 0, 1) := by decide +kernel
theorem dX6_from_70 : decode cX6_from 70 = .ok (.getfield 40, 3) := by decide +kernel
theorem dX6_from_73 : decode cX6_from 73 = .ok (.iload_n 2, 1) := by decide +kernel
theorem dX6_from_74 : decode cX6_from 74 = .ok (.aload_n 0, 1) := by decide +kernel
theorem dX6_from_75 : decode cX6_from 75 = .ok (.getfield 11, 3) := by decide +kernel
theorem dX6_from_78 : decode cX6_from 78 = .ok (.iload_n 3, 1) := by decide +kernel
theorem dX6_from_79 : decode cX6_from 79 = .ok (.iaload, 1) := by decide +kernel
theorem dX6_from_80 : decode cX6_from 80 = .ok (.aload_n 0, 1) := by decide +kernel
theorem dX6_from_81 : decode cX6_from 81 = .ok (.getfield 15, 3) := by decide +kernel
theorem dX6_from_84 : decode cX6_from 84 = .ok (.iload_n 3, 1) := by decide +kernel
theorem dX6_from_85 : decode cX6_from 85 = .ok (.iaload, 1) := by decide +kernel
theorem dX6_from_86 : decode cX6_from 86 = .ok (.invokevirtual 52, 3) := by decide +kernel
theorem dX6_from_89 : decode cX6_from 89 = .ok (.aload_n 0, 1) := by decide +kernel
theorem dX6_from_90 : decode cX6_from 90 = .ok (.getfield 40, 3) := by decide +kernel
theorem dX6_from_93 : decode cX6_from 93 = .ok (.iload_n 2, 1) := by decide +kernel
theorem dX6_from_94 : decode cX6_from 94 = .ok (.iload 4, 2) := by decide +kernel
theorem dX6_from_96 : decode cX6_from 96 = .ok (.iconst 1, 1) := by decide +kernel
theorem dX6_from_97 : decode cX6_from 97 = .ok (.invokevirtual 56, 3) := by decide +kernel
theorem dX6_from_100 : decode cX6_from 100 = .ok (.istore 5, 2) := by decide +kernel
theorem dX6_from_102 : decode cX6_from 102 = .ok (.iload 5, 2) := by decide +kernel
theorem dX6_from_104 : decode cX6_from 104 = .ok (.bipush (-4), 2) := by decide +kernel
theorem dX6_from_106 : decode cX6_from 106 = .ok (.if_icmp .eq 29, 3) := by decide +kernel
theorem dX6_from_109 : decode cX6_from 109 = .ok (.aload_n 0, 1) := by decide +kernel
theorem dX6_from_110 : decode cX6_from 110 = .ok (.getfield 40, 3) := by decide +kernel
theorem dX6_from_113 : decode cX6_from 113 = .ok (.iload_n 2, 1) := by decide +kernel
theorem dX6_from_114 : decode cX6_from 114 = .ok (.iload 5, 2) := by decide +kernel
theorem dX6_from_116 : decode cX6_from 116 = .ok (.invokevirtual 60, 3) := by decide +kernel
theorem dX6_from_119 : decode cX6_from 119 = .ok (.aload_n 0, 1) := by decide +kernel
theorem dX6_from_120 : decode cX6_from 120 = .ok (.iload_n 2, 1) := by decide +kernel
theorem dX6_from_121 : decode cX6_from 121 = .ok (.aload_n 0, 1) := by decide +kernel
theorem dX6_from_122 : decode cX6_from 122 = .ok (.getfield 18, 3) := by decide +kernel
theorem dX6_from_125 : decode cX6_from 125 = .ok (.iload_n 3, 1) := by decide +kernel
theorem dX6_from_126 : decode cX6_from 126 = .ok (.iaload, 1) := by decide +kernel
theorem dX6_from_127 : decode cX6_from 127 = .ok (.iconst 1, 1) := by decide +kernel
theorem dX6_from_128 : decode cX6_from 128 = .ok (.iadd, 1) := by decide +kernel
theorem dX6_from_129 : decode cX6_from 129 = .ok (.iload_n 3, 1) := by decide +kernel
theorem dX6_from_130 : decode cX6_from 130 = .ok (.iload 4, 2) := by decide +kernel
theorem dX6_from_132 : decode cX6_from 132 = .ok (.invokevirtual 48, 3) := by decide +kernel
theorem dX6_from_135 : decode cX6_from 135 = .ok (.iinc 4 1, 3) := by decide +kernel
theorem dX6_from_138 : decode cX6_from 138 = .ok (.goto (-75), 3) := by decide +kernel
theorem dX6_from_141 : decode cX6_from 141 = .ok (.iinc 3 1, 3) := by decide +kernel
theorem dX6_from_144 : decode cX6_from 144 = .ok (.goto (-98), 3) := by decide +kernel
theorem dX6_from_147 : decode cX6_from 147 = .ok (.return_, 1) := by decide +kernel
theorem dX6_add_0 : decode cX6_add 0 = .ok (.aload_n 0, 1) := by decide +kernel
theorem dX6_add_1 : decode cX6_add 1 = .ok (.getfield 40, 3) := by decide +kernel
theorem dX6_add_4 : decode cX6_add 4 = .ok (.iload_n 1, 1) := by decide +kernel
theorem dX6_add_5 : decode cX6_add 5 = .ok (.invokevirtual 64, 3) := by decide +kernel
theorem dX6_add_8 : decode cX6_add 8 = .ok (.istore 5, 2) := by decide +kernel
theorem dX6_add_10 : decode cX6_add 10 = .ok (.aload_n 0, 1) := by decide +kernel
theorem dX6_add_11 : decode cX6_add 11 = .ok (.getfield 40, 3) := by decide +kernel
theorem dX6_add_14 : decode cX6_add 14 = .ok (.iload_n 1, 1) := by decide +kernel
theorem dX6_add_15 : decode cX6_add 15 = .ok (.invokevirtual 68, 3) := by decide +kernel
theorem dX6_add_18 : decode cX6_add 18 = .ok (.iconst 2, 1) := by decide +kernel
theorem dX6_add_19 : decode cX6_add 19 = .ok (.if_icmp .ne 11, 3) := by decide +kernel
theorem dX6_add_22 : decode cX6_add 22 = .ok (.iload 5, 2) := by decide +kernel
theorem dX6_add_24 : decode cX6_add 24 = .ok (.bipush 36, 2) := by decide +kernel
theorem dX6_add_26 : decode cX6_add 26 = .ok (.iadd, 1) := by decide +kernel
theorem dX6_add_27 : decode cX6_add 27 = .ok (.goto 5, 3) := by decide +kernel
theorem dX6_add_30 : decode cX6_add 30 = .ok (.iload 5, 2) := by decide +kernel
theorem dX6_add_32 : decode cX6_add 32 = .ok (.istore 6, 2) := by decide +kernel
theorem dX6_add_34 : decode cX6_add 34 = .ok (.iload 6, 2) := by decide +kernel
theorem dX6_add_36 : decode cX6_add 36 = .ok (.ifCond .lt 36, 3) := by decide +kernel
theorem dX6_add_39 : decode cX6_add 39 = .ok (.iload 6, 2) := by decide +kernel
theorem dX6_add_41 : decode cX6_add 41 = .ok (.bipush 72, 2) := by decide +kernel
theorem dX6_add_43 : decode cX6_add 43 = .ok (.if_icmp .ge 29, 3) := by decide +kernel
theorem dX6_add_46 : decode cX6_add 46 = .ok (.aload_n 0, 1) := by decide +kernel
theorem dX6_add_47 : decode cX6_add 47 = .ok (.getfield 27, 3) := by decide +kernel
theorem dX6_add_50 : decode cX6_add 50 = .ok (.iload 6, 2) := by decide +kernel
theorem dX6_add_52 : decode cX6_add 52 = .ok (.baload, 1) := by decide +kernel
theorem dX6_add_53 : decode cX6_add 53 = .ok (.ifCond .ne 19, 3) := by decide +kernel
theorem dX6_add_56 : decode cX6_add 56 = .ok (.aload_n 0, 1) := by decide +kernel
theorem dX6_add_57 : decode cX6_add 57 = .ok (.getfield 31, 3) := by decide +kernel
theorem dX6_add_60 : decode cX6_add 60 = .ok (.ifCond .lt 12, 3) := by decide +kernel
theorem dX6_add_63 : decode cX6_add 63 = .ok (.aload_n 0, 1) := by decide +kernel
theorem dX6_add_64 : decode cX6_add 64 = .ok (.getfield 31, 3) := by decide +kernel
theorem dX6_add_67 : decode cX6_add 67 = .ok (.bipush 72, 2) := by decide +kernel
theorem dX6_add_69 : decode cX6_add 69 = .ok (.if_icmp .lt 4, 3) := by decide +kernel
theorem dX6_add_72 : decode cX6_add 72 = .ok (.return_, 1) := by decide +kernel
theorem dX6_add_73 : decode cX6_add 73 = .ok (.aload_n 0, 1) := by decide +kernel
theorem dX6_add_74 : decode cX6_add 74 = .ok (.getfield 27, 3) := by decide +kernel
theorem dX6_add_77 : decode cX6_add 77 = .ok (.iload 6, 2) := by decide +kernel
theorem dX6_add_79 : decode cX6_add 79 = .ok (.iconst 1, 1) := by decide +kernel
theorem dX6_add_80 : decode cX6_add 80 = .ok (.bastore, 1) := by decide +kernel
theorem dX6_add_81 : decode cX6_add 81 = .ok (.aload_n 0, 1) := by decide +kernel
theorem dX6_add_82 : decode cX6_add 82 = .ok (.getfield 11, 3) := by decide +kernel
theorem dX6_add_85 : decode cX6_add 85 = .ok (.aload_n 0, 1) := by decide +kernel
theorem dX6_add_86 : decode cX6_add 86 = .ok (.getfield 31, 3) := by decide +kernel
theorem dX6_add_89 : decode cX6_add 89 = .ok (.iload 5, 2) := by decide +kernel
theorem dX6_add_91 : decode cX6_add 91 = .ok (.iastore, 1) := by decide +kernel
theorem dX6_add_92 : decode cX6_add 92 = .ok (.aload_n 0, 1) := by decide +kernel
theorem dX6_add_93 : decode cX6_add 93 = .ok (.getfield 15, 3) := by decide +kernel
theorem dX6_add_96 : decode cX6_add 96 = .ok (.aload_n 0, 1) := by decide +kernel
theorem dX6_add_97 : decode cX6_add 97 = .ok (.getfield 31, 3) := by decide +kernel
theorem dX6_add_100 : decode cX6_add 100 = .ok (.aload_n 0, 1) := by decide +kernel
theorem dX6_add_101 : decode cX6_add 101 = .ok (.getfield 40, 3) := by decide +kernel
theorem dX6_add_104 : decode cX6_add 104 = .ok (.iload_n 1, 1) := by decide +kernel
theorem dX6_add_105 : decode cX6_add 105 = .ok (.invokevirtual 68, 3) := by decide +kernel
theorem dX6_add_108 : decode cX6_add 108 = .ok (.iastore, 1) := by decide +kernel
theorem dX6_add_109 : decode cX6_add 109 = .ok (.aload_n 0, 1) := by decide +kernel
theorem dX6_add_110 : decode cX6_add 110 = .ok (.getfield 18, 3) := by decide +kernel
theorem dX6_add_113 : decode cX6_add 113 = .ok (.aload_n 0, 1) := by decide +kernel
theorem dX6_add_114 : decode cX6_add 114 = .ok (.getfield 31, 3) := by decide +kernel
theorem dX6_add_117 : decode cX6_add 117 = .ok (.iload_n 2, 1) := by decide +kernel
theorem dX6_add_118 : decode cX6_add 118 = .ok (.iastore, 1) := by decide +kernel
theorem dX6_add_119 : decode cX6_add 119 = .ok (.aload_n 0, 1) := by decide +kernel
theorem dX6_add_120 : decode cX6_add 120 = .ok (.getfield 21, 3) := by decide +kernel
theorem dX6_add_123 : decode cX6_add 123 = .ok (.aload_n 0, 1) := by decide +kernel
theorem dX6_add_124 : decode cX6_add 124 = .ok (.getfield 31, 3) := by decide +kernel
theorem dX6_add_127 : decode cX6_add 127 = .ok (.iload_n 3, 1) := by decide +kernel
theorem dX6_add_128 : decode cX6_add 128 = .ok (.iastore, 1) := by decide +kernel
theorem dX6_add_129 : decode cX6_add 129 = .ok (.aload_n 0, 1) := by decide +kernel
theorem dX6_add_130 : decode cX6_add 130 = .ok (.getfield 24, 3) := by decide +kernel
theorem dX6_add_133 : decode cX6_add 133 = .ok (.aload_n 0, 1) := by decide +kernel
theorem dX6_add_134 : decode cX6_add 134 = .ok (.getfield 31, 3) := by decide +kernel
theorem dX6_add_137 : decode cX6_add 137 = .ok (.iload 4, 2) := by decide +kernel
theorem dX6_add_139 : decode cX6_add 139 = .ok (.iastore, 1) := by decide +kernel
theorem dX6_add_140 : decode cX6_add 140 = .ok (.aload_n 0, 1) := by decide +kernel
theorem dX6_add_141 : decode cX6_add 141 = .ok (.dup, 1) := by decide +kernel
theorem dX6_add_142 : decode cX6_add 142 = .ok (.getfield 31, 3) := by decide +kernel
theorem dX6_add_145 : decode cX6_add 145 = .ok (.iconst 1, 1) := by decide +kernel
theorem dX6_add_146 : decode cX6_add 146 = .ok (.iadd, 1) := by decide +kernel
theorem dX6_add_147 : decode cX6_add 147 = .ok (.putfield 31, 3) := by decide +kernel
theorem dX6_add_150 : decode cX6_add 150 = .ok (.return_, 1) := by decide +kernel
theorem dX6_first_0 : decode cX6_first 0 = .ok (.iconst 0, 1) := by decide +kernel
theorem dX6_first_1 : decode cX6_first 1 = .ok (.istore_n 2, 1) := by decide +kernel
theorem dX6_first_2 : decode cX6_first 2 = .ok (.iload_n 2, 1) := by decide +kernel
theorem dX6_first_3 : decode cX6_first 3 = .ok (.aload_n 0, 1) := by decide +kernel
theorem dX6_first_4 : decode cX6_first 4 = .ok (.getfield 31, 3) := by decide +kernel
theorem dX6_first_7 : decode cX6_first 7 = .ok (.if_icmp .ge 43, 3) := by decide +kernel
theorem dX6_first_10 : decode cX6_first 10 = .ok (.iload_n 2, 1) := by decide +kernel
theorem dX6_first_11 : decode cX6_first 11 = .ok (.bipush 72, 2) := by decide +kernel
theorem dX6_first_13 : decode cX6_first 13 = .ok (.if_icmp .ge 37, 3) := by decide +kernel
theorem dX6_first_16 : decode cX6_first 16 = .ok (.aload_n 0, 1) := by decide +kernel
theorem dX6_first_17 : decode cX6_first 17 = .ok (.getfield 11, 3) := by decide +kernel
theorem dX6_first_20 : decode cX6_first 20 = .ok (.iload_n 2, 1) := by decide +kernel
theorem dX6_first_21 : decode cX6_first 21 = .ok (.iaload, 1) := by decide +kernel
theorem dX6_first_22 : decode cX6_first 22 = .ok (.iload_n 1, 1) := by decide +kernel
theorem dX6_first_23 : decode cX6_first 23 = .ok (.if_icmp .ne 21, 3) := by decide +kernel
theorem dX6_first_26 : decode cX6_first 26 = .ok (.aload_n 0, 1) := by decide +kernel
theorem dX6_first_27 : decode cX6_first 27 = .ok (.getfield 18, 3) := by decide +kernel
theorem dX6_first_30 : decode cX6_first 30 = .ok (.iload_n 2, 1) := by decide +kernel
theorem dX6_first_31 : decode cX6_first 31 = .ok (.iaload, 1) := by decide +kernel
theorem dX6_first_32 : decode cX6_first 32 = .ok (.bipush 12, 2) := by decide +kernel
theorem dX6_first_34 : decode cX6_first 34 = .ok (.if_icmp .gt 7, 3) := by decide +kernel
theorem dX6_first_37 : decode cX6_first 37 = .ok (.iload_n 2, 1) := by decide +kernel
theorem dX6_first_38 : decode cX6_first 38 = .ok (.goto 5, 3) := by decide +kernel
theorem dX6_first_41 : decode cX6_first 41 = .ok (.bipush (-4), 2) := by decide +kernel
theorem dX6_first_43 : decode cX6_first 43 = .ok (.ireturn, 1) := by decide +kernel
theorem dX6_first_44 : decode cX6_first 44 = .ok (.iinc 2 1, 3) := by decide +kernel
theorem dX6_first_47 : decode cX6_first 47 = .ok (.goto (-45), 3) := by decide +kernel
theorem dX6_first_50 : decode cX6_first 50 = .ok (.bipush (-4), 2) := by decide +kernel
theorem dX6_first_52 : decode cX6_first 52 = .ok (.ireturn, 1) := by decide +kernel
theorem dX6_drivesTo_0 : decode cX6_drivesTo 0 = .ok (.iload_n 1, 1) := by decide +kernel
theorem dX6_drivesTo_1 : decode cX6_drivesTo 1 = .ok (.ifCond .lt 18, 3) := by decide +kernel
theorem dX6_drivesTo_4 : decode cX6_drivesTo 4 = .ok (.iload_n 1, 1) := by decide +kernel
theorem dX6_drivesTo_5 : decode cX6_drivesTo 5 = .ok (.bipush 72, 2) := by decide +kernel
theorem dX6_drivesTo_7 : decode cX6_drivesTo 7 = .ok (.if_icmp .ge 12, 3) := by decide +kernel
theorem dX6_drivesTo_10 : decode cX6_drivesTo 10 = .ok (.aload_n 0, 1) := by decide +kernel
theorem dX6_drivesTo_11 : decode cX6_drivesTo 11 = .ok (.getfield 18, 3) := by decide +kernel
theorem dX6_drivesTo_14 : decode cX6_drivesTo 14 = .ok (.iload_n 1, 1) := by decide +kernel
theorem dX6_drivesTo_15 : decode cX6_drivesTo 15 = .ok (.iaload, 1) := by decide +kernel
theorem dX6_drivesTo_16 : decode cX6_drivesTo 16 = .ok (.goto 5, 3) := by decide +kernel
theorem dX6_drivesTo_19 : decode cX6_drivesTo 19 = .ok (.bipush (-4), 2) := by decide +kernel
theorem dX6_drivesTo_21 : decode cX6_drivesTo 21 = .ok (.ireturn, 1) := by decide +kernel
theorem dX6_wayTo_0 : decode cX6_wayTo 0 = .ok (.iload_n 1, 1) := by decide +kernel
theorem dX6_wayTo_1 : decode cX6_wayTo 1 = .ok (.istore_n 3, 1) := by decide +kernel
theorem dX6_wayTo_2 : decode cX6_wayTo 2 = .ok (.iconst 0, 1) := by decide +kernel
theorem dX6_wayTo_3 : decode cX6_wayTo 3 = .ok (.istore 4, 2) := by decide +kernel
theorem dX6_wayTo_5 : decode cX6_wayTo 5 = .ok (.iload 4, 2) := by decide +kernel
theorem dX6_wayTo_7 : decode cX6_wayTo 7 = .ok (.bipush 72, 2) := by decide +kernel
theorem dX6_wayTo_9 : decode cX6_wayTo 9 = .ok (.if_icmp .ge 45, 3) := by decide +kernel
theorem dX6_wayTo_12 : decode cX6_wayTo 12 = .ok (.iload_n 3, 1) := by decide +kernel
theorem dX6_wayTo_13 : decode cX6_wayTo 13 = .ok (.ifCond .lt 41, 3) := by decide +kernel
theorem dX6_wayTo_16 : decode cX6_wayTo 16 = .ok (.iload_n 3, 1) := by decide +kernel
theorem dX6_wayTo_17 : decode cX6_wayTo 17 = .ok (.bipush 72, 2) := by decide +kernel
theorem dX6_wayTo_19 : decode cX6_wayTo 19 = .ok (.if_icmp .ge 35, 3) := by decide +kernel
theorem dX6_wayTo_22 : decode cX6_wayTo 22 = .ok (.aload_n 0, 1) := by decide +kernel
theorem dX6_wayTo_23 : decode cX6_wayTo 23 = .ok (.getfield 18, 3) := by decide +kernel
theorem dX6_wayTo_26 : decode cX6_wayTo 26 = .ok (.iload_n 3, 1) := by decide +kernel
theorem dX6_wayTo_27 : decode cX6_wayTo 27 = .ok (.iaload, 1) := by decide +kernel
theorem dX6_wayTo_28 : decode cX6_wayTo 28 = .ok (.iload_n 2, 1) := by decide +kernel
theorem dX6_wayTo_29 : decode cX6_wayTo 29 = .ok (.iconst 1, 1) := by decide +kernel
theorem dX6_wayTo_30 : decode cX6_wayTo 30 = .ok (.iadd, 1) := by decide +kernel
theorem dX6_wayTo_31 : decode cX6_wayTo 31 = .ok (.if_icmp .ne 10, 3) := by decide +kernel
theorem dX6_wayTo_34 : decode cX6_wayTo 34 = .ok (.aload_n 0, 1) := by decide +kernel
theorem dX6_wayTo_35 : decode cX6_wayTo 35 = .ok (.getfield 24, 3) := by decide +kernel
theorem dX6_wayTo_38 : decode cX6_wayTo 38 = .ok (.iload_n 3, 1) := by decide +kernel
theorem dX6_wayTo_39 : decode cX6_wayTo 39 = .ok (.iaload, 1) := by decide +kernel
theorem dX6_wayTo_40 : decode cX6_wayTo 40 = .ok (.ireturn, 1) := by decide +kernel
theorem dX6_wayTo_41 : decode cX6_wayTo 41 = .ok (.aload_n 0, 1) := by decide +kernel
theorem dX6_wayTo_42 : decode cX6_wayTo 42 = .ok (.getfield 21, 3) := by decide +kernel
theorem dX6_wayTo_45 : decode cX6_wayTo 45 = .ok (.iload_n 3, 1) := by decide +kernel
theorem dX6_wayTo_46 : decode cX6_wayTo 46 = .ok (.iaload, 1) := by decide +kernel
theorem dX6_wayTo_47 : decode cX6_wayTo 47 = .ok (.istore_n 3, 1) := by decide +kernel
theorem dX6_wayTo_48 : decode cX6_wayTo 48 = .ok (.iinc 4 1, 3) := by decide +kernel
theorem dX6_wayTo_51 : decode cX6_wayTo 51 = .ok (.goto (-46), 3) := by decide +kernel
theorem dX6_wayTo_54 : decode cX6_wayTo 54 = .ok (.bipush (-4), 2) := by decide +kernel
theorem dX6_wayTo_56 : decode cX6_wayTo 56 = .ok (.ireturn, 1) := by decide +kernel
theorem dX6_squaresWithin_0 : decode cX6_squaresWithin 0 = .ok (.iconst 0, 1) := by decide +kernel
theorem dX6_squaresWithin_1 : decode cX6_squaresWithin 1 = .ok (.istore_n 2, 1) := by decide +kernel
theorem dX6_squaresWithin_2 : decode cX6_squaresWithin 2 = .ok (.iconst 0, 1) := by decide +kernel
theorem dX6_squaresWithin_3 : decode cX6_squaresWithin 3 = .ok (.istore_n 3, 1) := by decide +kernel
theorem dX6_squaresWithin_4 : decode cX6_squaresWithin 4 = .ok (.iload_n 3, 1) := by decide +kernel
theorem dX6_squaresWithin_5 : decode cX6_squaresWithin 5 = .ok (.bipush 36, 2) := by decide +kernel
theorem dX6_squaresWithin_7 : decode cX6_squaresWithin 7 = .ok (.if_icmp .ge 36, 3) := by decide +kernel
theorem dX6_squaresWithin_10 : decode cX6_squaresWithin 10 = .ok (.aload_n 0, 1) := by decide +kernel
theorem dX6_squaresWithin_11 : decode cX6_squaresWithin 11 = .ok (.iload_n 3, 1) := by decide +kernel
theorem dX6_squaresWithin_12 : decode cX6_squaresWithin 12 = .ok (.invokevirtual 71, 3) := by decide +kernel
theorem dX6_squaresWithin_15 : decode cX6_squaresWithin 15 = .ok (.istore 4, 2) := by decide +kernel
theorem dX6_squaresWithin_17 : decode cX6_squaresWithin 17 = .ok (.iload 4, 2) := by decide +kernel
theorem dX6_squaresWithin_19 : decode cX6_squaresWithin 19 = .ok (.bipush (-4), 2) := by decide +kernel
theorem dX6_squaresWithin_21 : decode cX6_squaresWithin 21 = .ok (.if_icmp .eq 16, 3) := by decide +kernel
theorem dX6_squaresWithin_24 : decode cX6_squaresWithin 24 = .ok (.aload_n 0, 1) := by decide +kernel
theorem dX6_squaresWithin_25 : decode cX6_squaresWithin 25 = .ok (.iload 4, 2) := by decide +kernel
theorem dX6_squaresWithin_27 : decode cX6_squaresWithin 27 = .ok (.invokevirtual 74, 3) := by decide +kernel
theorem dX6_squaresWithin_30 : decode cX6_squaresWithin 30 = .ok (.iload_n 1, 1) := by decide +kernel
theorem dX6_squaresWithin_31 : decode cX6_squaresWithin 31 = .ok (.if_icmp .gt 6, 3) := by decide +kernel
theorem dX6_squaresWithin_34 : decode cX6_squaresWithin 34 = .ok (.iinc 2 1, 3) := by decide +kernel
theorem dX6_squaresWithin_37 : decode cX6_squaresWithin 37 = .ok (.iinc 3 1, 3) := by decide +kernel
theorem dX6_squaresWithin_40 : decode cX6_squaresWithin 40 = .ok (.goto (-36), 3) := by decide +kernel
theorem dX6_squaresWithin_43 : decode cX6_squaresWithin 43 = .ok (.iload_n 2, 1) := by decide +kernel
theorem dX6_squaresWithin_44 : decode cX6_squaresWithin 44 = .ok (.ireturn, 1) := by decide +kernel
theorem dX7_init_0 : decode cX7_init 0 = .ok (.aload_n 0, 1) := by decide +kernel
theorem dX7_init_1 : decode cX7_init 1 = .ok (.invokespecial 1, 3) := by decide +kernel
theorem dX7_init_4 : decode cX7_init 4 = .ok (.aload_n 0, 1) := by decide +kernel
theorem dX7_init_5 : decode cX7_init 5 = .ok (.new 7, 3) := by decide +kernel
theorem dX7_init_8 : decode cX7_init 8 = .ok (.dup, 1) := by decide +kernel
theorem dX7_init_9 : decode cX7_init 9 = .ok (.invokespecial 9, 3) := by decide +kernel
theorem dX7_init_12 : decode cX7_init 12 = .ok (.putfield 10, 3) := by decide +kernel
theorem dX7_init_15 : decode cX7_init 15 = .ok (.aload_n 0, 1) := by decide +kernel
theorem dX7_init_16 : decode cX7_init 16 = .ok (.new 16, 3) := by decide +kernel
theorem dX7_init_19 : decode cX7_init 19 = .ok (.dup, 1) := by decide +kernel
theorem dX7_init_20 : decode cX7_init 20 = .ok (.invokespecial 18, 3) := by decide +kernel
theorem dX7_init_23 : decode cX7_init 23 = .ok (.putfield 19, 3) := by decide +kernel
theorem dX7_init_26 : decode cX7_init 26 = .ok (.aload_n 0, 1) := by decide +kernel
theorem dX7_init_27 : decode cX7_init 27 = .ok (.new 23, 3) := by decide +kernel
theorem dX7_init_30 : decode cX7_init 30 = .ok (.dup, 1) := by decide +kernel
theorem dX7_init_31 : decode cX7_init 31 = .ok (.aload_n 0, 1) := by decide +kernel
theorem dX7_init_32 : decode cX7_init 32 = .ok (.getfield 10, 3) := by decide +kernel
theorem dX7_init_35 : decode cX7_init 35 = .ok (.invokespecial 25, 3) := by decide +kernel
theorem dX7_init_38 : decode cX7_init 38 = .ok (.putfield 28, 3) := by decide +kernel
theorem dX7_init_41 : decode cX7_init 41 = .ok (.aload_n 0, 1) := by decide +kernel
theorem dX7_init_42 : decode cX7_init 42 = .ok (.new 23, 3) := by decide +kernel
theorem dX7_init_45 : decode cX7_init 45 = .ok (.dup, 1) := by decide +kernel
theorem dX7_init_46 : decode cX7_init 46 = .ok (.aload_n 0, 1) := by decide +kernel
theorem dX7_init_47 : decode cX7_init 47 = .ok (.getfield 10, 3) := by decide +kernel
theorem dX7_init_50 : decode cX7_init 50 = .ok (.invokespecial 25, 3) := by decide +kernel
theorem dX7_init_53 : decode cX7_init 53 = .ok (.putfield 32, 3) := by decide +kernel
theorem dX7_init_56 : decode cX7_init 56 = .ok (.aload_n 0, 1) := by decide +kernel
theorem dX7_init_57 : decode cX7_init 57 = .ok (.new 35, 3) := by decide +kernel
theorem dX7_init_60 : decode cX7_init 60 = .ok (.dup, 1) := by decide +kernel
theorem dX7_init_61 : decode cX7_init 61 = .ok (.aload_n 0, 1) := by decide +kernel
theorem dX7_init_62 : decode cX7_init 62 = .ok (.getfield 10, 3) := by decide +kernel
theorem dX7_init_65 : decode cX7_init 65 = .ok (.invokespecial 37, 3) := by decide +kernel
theorem dX7_init_68 : decode cX7_init 68 = .ok (.putfield 38, 3) := by decide +kernel
theorem dX7_init_71 : decode cX7_init 71 = .ok (.aload_n 0, 1) := by decide +kernel
theorem dX7_init_72 : decode cX7_init 72 = .ok (.new 42, 3) := by decide +kernel
theorem dX7_init_75 : decode cX7_init 75 = .ok (.dup, 1) := by decide +kernel
theorem dX7_init_76 : decode cX7_init 76 = .ok (.aload_n 0, 1) := by decide +kernel
theorem dX7_init_77 : decode cX7_init 77 = .ok (.getfield 10, 3) := by decide +kernel
theorem dX7_init_80 : decode cX7_init 80 = .ok (.iconst 2, 1) := by decide +kernel
theorem dX7_init_81 : decode cX7_init 81 = .ok (.invokespecial 44, 3) := by decide +kernel
theorem dX7_init_84 : decode cX7_init 84 = .ok (.putfield 47, 3) := by decide +kernel
theorem dX7_init_87 : decode cX7_init 87 = .ok (.aload_n 0, 1) := by decide +kernel
theorem dX7_init_88 : decode cX7_init 88 = .ok (.new 51, 3) := by decide +kernel
theorem dX7_init_91 : decode cX7_init 91 = .ok (.dup, 1) := by decide +kernel
theorem dX7_init_92 : decode cX7_init 92 = .ok (.aload_n 0, 1) := by decide +kernel
theorem dX7_init_93 : decode cX7_init 93 = .ok (.getfield 10, 3) := by decide +kernel
theorem dX7_init_96 : decode cX7_init 96 = .ok (.invokespecial 53, 3) := by decide +kernel
theorem dX7_init_99 : decode cX7_init 99 = .ok (.putfield 54, 3) := by decide +kernel
theorem dX7_init_102 : decode cX7_init 102 = .ok (.aload_n 0, 1) := by decide +kernel
theorem dX7_init_103 : decode cX7_init 103 = .ok (.new 58, 3) := by decide +kernel
theorem dX7_init_106 : decode cX7_init 106 = .ok (.dup, 1) := by decide +kernel
theorem dX7_init_107 : decode cX7_init 107 = .ok (.aload_n 0, 1) := by decide +kernel
theorem dX7_init_108 : decode cX7_init 108 = .ok (.getfield 10, 3) := by decide +kernel
theorem dX7_init_111 : decode cX7_init 111 = .ok (.invokespecial 60, 3) := by decide +kernel
theorem dX7_init_114 : decode cX7_init 114 = .ok (.putfield 61, 3) := by decide +kernel
theorem dX7_init_117 : decode cX7_init 117 = .ok (.aload_n 0, 1) := by decide +kernel
theorem dX7_init_118 : decode cX7_init 118 = .ok (.iconst 0, 1) := by decide +kernel
theorem dX7_init_119 : decode cX7_init 119 = .ok (.putfield 65, 3) := by decide +kernel
theorem dX7_init_122 : decode cX7_init 122 = .ok (.iconst 0, 1) := by decide +kernel
theorem dX7_init_123 : decode cX7_init 123 = .ok (.istore_n 1, 1) := by decide +kernel
theorem dX7_init_124 : decode cX7_init 124 = .ok (.iload_n 1, 1) := by decide +kernel
theorem dX7_init_125 : decode cX7_init 125 = .ok (.ldc 69, 2) := by decide +kernel
theorem dX7_init_127 : decode cX7_init 127 = .ok (.invokevirtual 71, 3) := by decide +kernel
theorem dX7_init_130 : decode cX7_init 130 = .ok (.if_icmp .ge 23, 3) := by decide +kernel
theorem dX7_init_133 : decode cX7_init 133 = .ok (.aload_n 0, 1) := by decide +kernel
theorem dX7_init_134 : decode cX7_init 134 = .ok (.getfield 19, 3) := by decide +kernel
theorem dX7_init_137 : decode cX7_init 137 = .ok (.ldc 69, 2) := by decide +kernel
theorem dX7_init_139 : decode cX7_init 139 = .ok (.iload_n 1, 1) := by decide +kernel
theorem dX7_init_140 : decode cX7_init 140 = .ok (.invokevirtual 77, 3) := by decide +kernel
theorem dX7_init_143 : decode cX7_init 143 = .ok (.invokevirtual 81, 3) := by decide +kernel
theorem dX7_init_146 : decode cX7_init 146 = .ok (.pop, 1) := by decide +kernel
theorem dX7_init_147 : decode cX7_init 147 = .ok (.iinc 1 1, 3) := by decide +kernel
theorem dX7_init_150 : decode cX7_init 150 = .ok (.goto (-26), 3) := by decide +kernel
theorem dX7_init_153 : decode cX7_init 153 = .ok (.aload_n 0, 1) := by decide +kernel
theorem dX7_init_154 : decode cX7_init 154 = .ok (.invokevirtual 85, 3) := by decide +kernel
theorem dX7_init_157 : decode cX7_init 157 = .ok (.pop, 1) := by decide +kernel
theorem dX7_init_158 : decode cX7_init 158 = .ok (.aload_n 0, 1) := by decide +kernel
theorem dX7_init_159 : decode cX7_init 159 = .ok (.getfield 19, 3) := by decide +kernel
theorem dX7_init_162 : decode cX7_init 162 = .ok (.iconst 0, 1) := by decide +kernel
theorem dX7_init_163 : decode cX7_init 163 = .ok (.putfield 89, 3) := by decide +kernel
theorem dX7_init_166 : decode cX7_init 166 = .ok (.return_, 1) := by decide +kernel
theorem dX7_write_0 : decode cX7_write 0 = .ok (.iload_n 1, 1) := by decide +kernel
theorem dX7_write_1 : decode cX7_write 1 = .ok (.bipush 32, 2) := by decide +kernel
theorem dX7_write_3 : decode cX7_write 3 = .ok (.if_icmp .lt 9, 3) := by decide +kernel
theorem dX7_write_6 : decode cX7_write 6 = .ok (.iload_n 1, 1) := by decide +kernel
theorem dX7_write_7 : decode cX7_write 7 = .ok (.bipush 126, 2) := by decide +kernel
theorem dX7_write_9 : decode cX7_write 9 = .ok (.if_icmp .le 5, 3) := by decide +kernel
theorem dX7_write_12 : decode cX7_write 12 = .ok (.iconst (-1), 1) := by decide +kernel
theorem dX7_write_13 : decode cX7_write 13 = .ok (.ireturn, 1) := by decide +kernel
theorem dX7_write_14 : decode cX7_write 14 = .ok (.aload_n 0, 1) := by decide +kernel
theorem dX7_write_15 : decode cX7_write 15 = .ok (.getfield 19, 3) := by decide +kernel
theorem dX7_write_18 : decode cX7_write 18 = .ok (.iload_n 1, 1) := by decide +kernel
theorem dX7_write_19 : decode cX7_write 19 = .ok (.invokevirtual 81, 3) := by decide +kernel
theorem dX7_write_22 : decode cX7_write 22 = .ok (.ifCond .eq 13, 3) := by decide +kernel
theorem dX7_write_25 : decode cX7_write 25 = .ok (.aload_n 0, 1) := by decide +kernel
theorem dX7_write_26 : decode cX7_write 26 = .ok (.getfield 19, 3) := by decide +kernel
theorem dX7_write_29 : decode cX7_write 29 = .ok (.getfield 89, 3) := by decide +kernel
theorem dX7_write_32 : decode cX7_write 32 = .ok (.goto 5, 3) := by decide +kernel
theorem dX7_write_35 : decode cX7_write 35 = .ok (.bipush (-3), 2) := by decide +kernel
theorem dX7_write_37 : decode cX7_write 37 = .ok (.ireturn, 1) := by decide +kernel
theorem dX7_wipe_0 : decode cX7_wipe 0 = .ok (.aload_n 0, 1) := by decide +kernel
theorem dX7_wipe_1 : decode cX7_wipe 1 = .ok (.getfield 19, 3) := by decide +kernel
theorem dX7_wipe_4 : decode cX7_wipe 4 = .ok (.getfield 89, 3) := by decide +kernel
theorem dX7_wipe_7 : decode cX7_wipe 7 = .ok (.istore_n 1, 1) := by decide +kernel
theorem dX7_wipe_8 : decode cX7_wipe 8 = .ok (.aload_n 0, 1) := by decide +kernel
theorem dX7_wipe_9 : decode cX7_wipe 9 = .ok (.getfield 19, 3) := by decide +kernel
theorem dX7_wipe_12 : decode cX7_wipe 12 = .ok (.iconst 0, 1) := by decide +kernel
theorem dX7_wipe_13 : decode cX7_wipe 13 = .ok (.putfield 89, 3) := by decide +kernel
theorem dX7_wipe_16 : decode cX7_wipe 16 = .ok (.iload_n 1, 1) := by decide +kernel
theorem dX7_wipe_17 : decode cX7_wipe 17 = .ok (.ireturn, 1) := by decide +kernel
theorem dX7_fault_0 : decode cX7_fault 0 = .ok (.aload_n 0, 1) := by decide +kernel
theorem dX7_fault_1 : decode cX7_fault 1 = .ok (.getfield 19, 3) := by decide +kernel
theorem dX7_fault_4 : decode cX7_fault 4 = .ok (.invokevirtual 91, 3) := by decide +kernel
theorem dX7_fault_7 : decode cX7_fault 7 = .ok (.ireturn, 1) := by decide +kernel
theorem dX7_lay_0 : decode cX7_lay 0 = .ok (.aload_n 0, 1) := by decide +kernel
theorem dX7_lay_1 : decode cX7_lay 1 = .ok (.invokevirtual 85, 3) := by decide +kernel
theorem dX7_lay_4 : decode cX7_lay 4 = .ok (.ifCond .eq 13, 3) := by decide +kernel
theorem dX7_lay_7 : decode cX7_lay 7 = .ok (.aload_n 0, 1) := by decide +kernel
theorem dX7_lay_8 : decode cX7_lay 8 = .ok (.getfield 10, 3) := by decide +kernel
theorem dX7_lay_11 : decode cX7_lay 11 = .ok (.getfield 94, 3) := by decide +kernel
theorem dX7_lay_14 : decode cX7_lay 14 = .ok (.goto 5, 3) := by decide +kernel
theorem dX7_lay_17 : decode cX7_lay 17 = .ok (.bipush (-2), 2) := by decide +kernel
theorem dX7_lay_19 : decode cX7_lay 19 = .ok (.ireturn, 1) := by decide +kernel
theorem dX7_square_0 : decode cX7_square 0 = .ok (.aload_n 0, 1) := by decide +kernel
theorem dX7_square_1 : decode cX7_square 1 = .ok (.getfield 10, 3) := by decide +kernel
theorem dX7_square_4 : decode cX7_square 4 = .ok (.iload_n 1, 1) := by decide +kernel
theorem dX7_square_5 : decode cX7_square 5 = .ok (.invokevirtual 97, 3) := by decide +kernel
theorem dX7_square_8 : decode cX7_square 8 = .ok (.ifCond .eq 12, 3) := by decide +kernel
theorem dX7_square_11 : decode cX7_square 11 = .ok (.iload_n 2, 1) := by decide +kernel
theorem dX7_square_12 : decode cX7_square 12 = .ok (.ifCond .lt 8, 3) := by decide +kernel
theorem dX7_square_15 : decode cX7_square 15 = .ok (.iload_n 2, 1) := by decide +kernel
theorem dX7_square_16 : decode cX7_square 16 = .ok (.iconst 1, 1) := by decide +kernel
theorem dX7_square_17 : decode cX7_square 17 = .ok (.if_icmp .le 5, 3) := by decide +kernel
theorem dX7_square_20 : decode cX7_square 20 = .ok (.iconst (-1), 1) := by decide +kernel
theorem dX7_square_21 : decode cX7_square 21 = .ok (.ireturn, 1) := by decide +kernel
theorem dX7_square_22 : decode cX7_square 22 = .ok (.iload_n 2, 1) := by decide +kernel
theorem dX7_square_23 : decode cX7_square 23 = .ok (.ifCond .ne 14, 3) := by decide +kernel
theorem dX7_square_26 : decode cX7_square 26 = .ok (.aload_n 0, 1) := by decide +kernel
theorem dX7_square_27 : decode cX7_square 27 = .ok (.getfield 28, 3) := by decide +kernel
theorem dX7_square_30 : decode cX7_square 30 = .ok (.iload_n 1, 1) := by decide +kernel
theorem dX7_square_31 : decode cX7_square 31 = .ok (.invokevirtual 100, 3) := by decide +kernel
theorem dX7_square_34 : decode cX7_square 34 = .ok (.goto 11, 3) := by decide +kernel
theorem dX7_square_37 : decode cX7_square 37 = .ok (.aload_n 0, 1) := by decide +kernel
theorem dX7_square_38 : decode cX7_square 38 = .ok (.getfield 28, 3) := by decide +kernel
theorem dX7_square_41 : decode cX7_square 41 = .ok (.iload_n 1, 1) := by decide +kernel
theorem dX7_square_42 : decode cX7_square 42 = .ok (.invokevirtual 104, 3) := by decide +kernel
theorem dX7_square_45 : decode cX7_square 45 = .ok (.ireturn, 1) := by decide +kernel
theorem dX7_beast_0 : decode cX7_beast 0 = .ok (.aload_n 0, 1) := by decide +kernel
theorem dX7_beast_1 : decode cX7_beast 1 = .ok (.getfield 10, 3) := by decide +kernel
theorem dX7_beast_4 : decode cX7_beast 4 = .ok (.iload_n 1, 1) := by decide +kernel
theorem dX7_beast_5 : decode cX7_beast 5 = .ok (.invokevirtual 107, 3) := by decide +kernel
theorem dX7_beast_8 : decode cX7_beast 8 = .ok (.ifCond .ne 5, 3) := by decide +kernel
theorem dX7_beast_11 : decode cX7_beast 11 = .ok (.iconst (-1), 1) := by decide +kernel
theorem dX7_beast_12 : decode cX7_beast 12 = .ok (.ireturn, 1) := by decide +kernel
theorem dX7_beast_13 : decode cX7_beast 13 = .ok (.iload_n 2, 1) := by decide +kernel
theorem dX7_beast_14 : decode cX7_beast 14 = .ok (.tableswitch 66 0 3 #[30, 39, 48, 57], 30) := by decide +kernel
theorem dX7_beast_44 : decode cX7_beast 44 = .ok (.aload_n 0, 1) := by decide +kernel
theorem dX7_beast_45 : decode cX7_beast 45 = .ok (.getfield 28, 3) := by decide +kernel
theorem dX7_beast_48 : decode cX7_beast 48 = .ok (.iload_n 1, 1) := by decide +kernel
theorem dX7_beast_49 : decode cX7_beast 49 = .ok (.invokevirtual 110, 3) := by decide +kernel
theorem dX7_beast_52 : decode cX7_beast 52 = .ok (.ireturn, 1) := by decide +kernel
theorem dX7_beast_53 : decode cX7_beast 53 = .ok (.aload_n 0, 1) := by decide +kernel
theorem dX7_beast_54 : decode cX7_beast 54 = .ok (.getfield 10, 3) := by decide +kernel
theorem dX7_beast_57 : decode cX7_beast 57 = .ok (.iload_n 1, 1) := by decide +kernel
theorem dX7_beast_58 : decode cX7_beast 58 = .ok (.invokevirtual 113, 3) := by decide +kernel
theorem dX7_beast_61 : decode cX7_beast 61 = .ok (.ireturn, 1) := by decide +kernel
theorem dX7_beast_62 : decode cX7_beast 62 = .ok (.aload_n 0, 1) := by decide +kernel
theorem dX7_beast_63 : decode cX7_beast 63 = .ok (.getfield 28, 3) := by decide +kernel
theorem dX7_beast_66 : decode cX7_beast 66 = .ok (.iload_n 1, 1) := by decide +kernel
theorem dX7_beast_67 : decode cX7_beast 67 = .ok (.invokevirtual 116, 3) := by decide +kernel
theorem dX7_beast_70 : decode cX7_beast 70 = .ok (.ireturn, 1) := by decide +kernel
theorem dX7_beast_71 : decode cX7_beast 71 = .ok (.aload_n 0, 1) := by decide +kernel
theorem dX7_beast_72 : decode cX7_beast 72 = .ok (.getfield 28, 3) := by decide +kernel
theorem dX7_beast_75 : decode cX7_beast 75 = .ok (.iload_n 1, 1) := by decide +kernel
theorem dX7_beast_76 : decode cX7_beast 76 = .ok (.invokevirtual 119, 3) := by decide +kernel
theorem dX7_beast_79 : decode cX7_beast 79 = .ok (.ireturn, 1) := by decide +kernel
theorem dX7_beast_80 : decode cX7_beast 80 = .ok (.iconst (-1), 1) := by decide +kernel
theorem dX7_beast_81 : decode cX7_beast 81 = .ok (.ireturn, 1) := by decide +kernel
theorem dX7_goes_0 : decode cX7_goes 0 = .ok (.aload_n 0, 1) := by decide +kernel
theorem dX7_goes_1 : decode cX7_goes 1 = .ok (.getfield 10, 3) := by decide +kernel
theorem dX7_goes_4 : decode cX7_goes 4 = .ok (.iload_n 1, 1) := by decide +kernel
theorem dX7_goes_5 : decode cX7_goes 5 = .ok (.invokevirtual 107, 3) := by decide +kernel
theorem dX7_goes_8 : decode cX7_goes 8 = .ok (.ifCond .eq 10, 3) := by decide +kernel
theorem dX7_goes_11 : decode cX7_goes 11 = .ok (.iload_n 2, 1) := by decide +kernel
theorem dX7_goes_12 : decode cX7_goes 12 = .ok (.invokestatic 122, 3) := by decide +kernel
theorem dX7_goes_15 : decode cX7_goes 15 = .ok (.ifCond .ne 5, 3) := by decide +kernel
theorem dX7_goes_18 : decode cX7_goes 18 = .ok (.iconst (-1), 1) := by decide +kernel
theorem dX7_goes_19 : decode cX7_goes 19 = .ok (.ireturn, 1) := by decide +kernel
theorem dX7_goes_20 : decode cX7_goes 20 = .ok (.aload_n 0, 1) := by decide +kernel
theorem dX7_goes_21 : decode cX7_goes 21 = .ok (.getfield 28, 3) := by decide +kernel
theorem dX7_goes_24 : decode cX7_goes 24 = .ok (.iload_n 1, 1) := by decide +kernel
theorem dX7_goes_25 : decode cX7_goes 25 = .ok (.invokevirtual 125, 3) := by decide +kernel
theorem dX7_goes_28 : decode cX7_goes 28 = .ok (.ifCond .eq 8, 3) := by decide +kernel
theorem dX7_goes_31 : decode cX7_goes 31 = .ok (.bipush (-2), 2) := by decide +kernel
theorem dX7_goes_33 : decode cX7_goes 33 = .ok (.goto 19, 3) := by decide +kernel
theorem dX7_goes_36 : decode cX7_goes 36 = .ok (.aload_n 0, 1) := by decide +kernel
theorem dX7_goes_37 : decode cX7_goes 37 = .ok (.getfield 28, 3) := by decide +kernel
theorem dX7_goes_40 : decode cX7_goes 40 = .ok (.iload_n 1, 1) := by decide +kernel
theorem dX7_goes_41 : decode cX7_goes 41 = .ok (.iload_n 2, 1) := by decide +kernel
theorem dX7_goes_42 : decode cX7_goes 42 = .ok (.aload_n 0, 1) := by decide +kernel
theorem dX7_goes_43 : decode cX7_goes 43 = .ok (.getfield 28, 3) := by decide +kernel
theorem dX7_goes_46 : decode cX7_goes 46 = .ok (.invokevirtual 128, 3) := by decide +kernel
theorem dX7_goes_49 : decode cX7_goes 49 = .ok (.invokevirtual 131, 3) := by decide +kernel
theorem dX7_goes_52 : decode cX7_goes 52 = .ok (.ireturn, 1) := by decide +kernel
theorem dX7_takes_0 : decode cX7_takes 0 = .ok (.aload_n 0, 1) := by decide +kernel
theorem dX7_takes_1 : decode cX7_takes 1 = .ok (.getfield 10, 3) := by decide +kernel
theorem dX7_takes_4 : decode cX7_takes 4 = .ok (.iload_n 1, 1) := by decide +kernel
theorem dX7_takes_5 : decode cX7_takes 5 = .ok (.invokevirtual 107, 3) := by decide +kernel
theorem dX7_takes_8 : decode cX7_takes 8 = .ok (.ifCond .eq 10, 3) := by decide +kernel
theorem dX7_takes_11 : decode cX7_takes 11 = .ok (.iload_n 2, 1) := by decide +kernel
theorem dX7_takes_12 : decode cX7_takes 12 = .ok (.invokestatic 122, 3) := by decide +kernel
theorem dX7_takes_15 : decode cX7_takes 15 = .ok (.ifCond .ne 5, 3) := by decide +kernel
theorem dX7_takes_18 : decode cX7_takes 18 = .ok (.iconst (-1), 1) := by decide +kernel
theorem dX7_takes_19 : decode cX7_takes 19 = .ok (.ireturn, 1) := by decide +kernel
theorem dX7_takes_20 : decode cX7_takes 20 = .ok (.aload_n 0, 1) := by decide +kernel
theorem dX7_takes_21 : decode cX7_takes 21 = .ok (.getfield 28, 3) := by decide +kernel
theorem dX7_takes_24 : decode cX7_takes 24 = .ok (.iload_n 1, 1) := by decide +kernel
theorem dX7_takes_25 : decode cX7_takes 25 = .ok (.invokevirtual 125, 3) := by decide +kernel
theorem dX7_takes_28 : decode cX7_takes 28 = .ok (.ifCond .eq 8, 3) := by decide +kernel
theorem dX7_takes_31 : decode cX7_takes 31 = .ok (.bipush (-2), 2) := by decide +kernel
theorem dX7_takes_33 : decode cX7_takes 33 = .ok (.goto 26, 3) := by decide +kernel
theorem dX7_takes_36 : decode cX7_takes 36 = .ok (.aload_n 0, 1) := by decide +kernel
theorem dX7_takes_37 : decode cX7_takes 37 = .ok (.getfield 28, 3) := by decide +kernel
theorem dX7_takes_40 : decode cX7_takes 40 = .ok (.aload_n 0, 1) := by decide +kernel
theorem dX7_takes_41 : decode cX7_takes 41 = .ok (.getfield 28, 3) := by decide +kernel
theorem dX7_takes_44 : decode cX7_takes 44 = .ok (.iload_n 1, 1) := by decide +kernel
theorem dX7_takes_45 : decode cX7_takes 45 = .ok (.iload_n 2, 1) := by decide +kernel
theorem dX7_takes_46 : decode cX7_takes 46 = .ok (.aload_n 0, 1) := by decide +kernel
theorem dX7_takes_47 : decode cX7_takes 47 = .ok (.getfield 28, 3) := by decide +kernel
theorem dX7_takes_50 : decode cX7_takes 50 = .ok (.invokevirtual 128, 3) := by decide +kernel
theorem dX7_takes_53 : decode cX7_takes 53 = .ok (.invokevirtual 131, 3) := by decide +kernel
theorem dX7_takes_56 : decode cX7_takes 56 = .ok (.invokevirtual 104, 3) := by decide +kernel
theorem dX7_takes_59 : decode cX7_takes 59 = .ok (.ireturn, 1) := by decide +kernel
theorem dX7_drive_0 : decode cX7_drive 0 = .ok (.aload_n 0, 1) := by decide +kernel
theorem dX7_drive_1 : decode cX7_drive 1 = .ok (.getfield 10, 3) := by decide +kernel
theorem dX7_drive_4 : decode cX7_drive 4 = .ok (.iload_n 1, 1) := by decide +kernel
theorem dX7_drive_5 : decode cX7_drive 5 = .ok (.invokevirtual 107, 3) := by decide +kernel
theorem dX7_drive_8 : decode cX7_drive 8 = .ok (.ifCond .eq 10, 3) := by decide +kernel
theorem dX7_drive_11 : decode cX7_drive 11 = .ok (.iload_n 2, 1) := by decide +kernel
theorem dX7_drive_12 : decode cX7_drive 12 = .ok (.invokestatic 122, 3) := by decide +kernel
theorem dX7_drive_15 : decode cX7_drive 15 = .ok (.ifCond .ne 5, 3) := by decide +kernel
theorem dX7_drive_18 : decode cX7_drive 18 = .ok (.iconst (-1), 1) := by decide +kernel
theorem dX7_drive_19 : decode cX7_drive 19 = .ok (.ireturn, 1) := by decide +kernel
theorem dX7_drive_20 : decode cX7_drive 20 = .ok (.aload_n 0, 1) := by decide +kernel
theorem dX7_drive_21 : decode cX7_drive 21 = .ok (.getfield 28, 3) := by decide +kernel
theorem dX7_drive_24 : decode cX7_drive 24 = .ok (.iload_n 1, 1) := by decide +kernel
theorem dX7_drive_25 : decode cX7_drive 25 = .ok (.iload_n 2, 1) := by decide +kernel
theorem dX7_drive_26 : decode cX7_drive 26 = .ok (.invokevirtual 135, 3) := by decide +kernel
theorem dX7_drive_29 : decode cX7_drive 29 = .ok (.istore_n 3, 1) := by decide +kernel
theorem dX7_drive_30 : decode cX7_drive 30 = .ok (.iload_n 3, 1) := by decide +kernel
theorem dX7_drive_31 : decode cX7_drive 31 = .ok (.bipush (-4), 2) := by decide +kernel
theorem dX7_drive_33 : decode cX7_drive 33 = .ok (.if_icmp .eq 13, 3) := by decide +kernel
theorem dX7_drive_36 : decode cX7_drive 36 = .ok (.aload_n 0, 1) := by decide +kernel
theorem dX7_drive_37 : decode cX7_drive 37 = .ok (.getfield 28, 3) := by decide +kernel
theorem dX7_drive_40 : decode cX7_drive 40 = .ok (.invokevirtual 139, 3) := by decide +kernel
theorem dX7_drive_43 : decode cX7_drive 43 = .ok (.ifCond .eq 6, 3) := by decide +kernel
theorem dX7_drive_46 : decode cX7_drive 46 = .ok (.bipush (-2), 2) := by decide +kernel
theorem dX7_drive_48 : decode cX7_drive 48 = .ok (.ireturn, 1) := by decide +kernel
theorem dX7_drive_49 : decode cX7_drive 49 = .ok (.aload_n 0, 1) := by decide +kernel
theorem dX7_drive_50 : decode cX7_drive 50 = .ok (.getfield 38, 3) := by decide +kernel
theorem dX7_drive_53 : decode cX7_drive 53 = .ok (.aload_n 0, 1) := by decide +kernel
theorem dX7_drive_54 : decode cX7_drive 54 = .ok (.getfield 28, 3) := by decide +kernel
theorem dX7_drive_57 : decode cX7_drive 57 = .ok (.bipush 10, 2) := by decide +kernel
theorem dX7_drive_59 : decode cX7_drive 59 = .ok (.iload_n 1, 1) := by decide +kernel
theorem dX7_drive_60 : decode cX7_drive 60 = .ok (.imul, 1) := by decide +kernel
theorem dX7_drive_61 : decode cX7_drive 61 = .ok (.iload_n 2, 1) := by decide +kernel
theorem dX7_drive_62 : decode cX7_drive 62 = .ok (.iadd, 1) := by decide +kernel
theorem dX7_drive_63 : decode cX7_drive 63 = .ok (.invokevirtual 142, 3) := by decide +kernel
theorem dX7_drive_66 : decode cX7_drive 66 = .ok (.aload_n 0, 1) := by decide +kernel
theorem dX7_drive_67 : decode cX7_drive 67 = .ok (.getfield 28, 3) := by decide +kernel
theorem dX7_drive_70 : decode cX7_drive 70 = .ok (.iload_n 1, 1) := by decide +kernel
theorem dX7_drive_71 : decode cX7_drive 71 = .ok (.iload_n 3, 1) := by decide +kernel
theorem dX7_drive_72 : decode cX7_drive 72 = .ok (.invokevirtual 145, 3) := by decide +kernel
theorem dX7_drive_75 : decode cX7_drive 75 = .ok (.aload_n 0, 1) := by decide +kernel
theorem dX7_drive_76 : decode cX7_drive 76 = .ok (.getfield 28, 3) := by decide +kernel
theorem dX7_drive_79 : decode cX7_drive 79 = .ok (.invokevirtual 149, 3) := by decide +kernel
theorem dX7_drive_82 : decode cX7_drive 82 = .ok (.iload_n 3, 1) := by decide +kernel
theorem dX7_drive_83 : decode cX7_drive 83 = .ok (.ireturn, 1) := by decide +kernel
theorem dX7_rest_0 : decode cX7_rest 0 = .ok (.aload_n 0, 1) := by decide +kernel
theorem dX7_rest_1 : decode cX7_rest 1 = .ok (.getfield 28, 3) := by decide +kernel
theorem dX7_rest_4 : decode cX7_rest 4 = .ok (.invokevirtual 139, 3) := by decide +kernel
theorem dX7_rest_7 : decode cX7_rest 7 = .ok (.ifCond .eq 6, 3) := by decide +kernel
theorem dX7_rest_10 : decode cX7_rest 10 = .ok (.bipush (-2), 2) := by decide +kernel
theorem dX7_rest_12 : decode cX7_rest 12 = .ok (.ireturn, 1) := by decide +kernel
theorem dX7_rest_13 : decode cX7_rest 13 = .ok (.aload_n 0, 1) := by decide +kernel
theorem dX7_rest_14 : decode cX7_rest 14 = .ok (.getfield 38, 3) := by decide +kernel
theorem dX7_rest_17 : decode cX7_rest 17 = .ok (.aload_n 0, 1) := by decide +kernel
theorem dX7_rest_18 : decode cX7_rest 18 = .ok (.getfield 28, 3) := by decide +kernel
theorem dX7_rest_21 : decode cX7_rest 21 = .ok (.bipush 99, 2) := by decide +kernel
theorem dX7_rest_23 : decode cX7_rest 23 = .ok (.invokevirtual 142, 3) := by decide +kernel
theorem dX7_rest_26 : decode cX7_rest 26 = .ok (.aload_n 0, 1) := by decide +kernel
theorem dX7_rest_27 : decode cX7_rest 27 = .ok (.getfield 28, 3) := by decide +kernel
theorem dX7_rest_30 : decode cX7_rest 30 = .ok (.invokevirtual 149, 3) := by decide +kernel
theorem dX7_rest_33 : decode cX7_rest 33 = .ok (.aload_n 0, 1) := by decide +kernel
theorem dX7_rest_34 : decode cX7_rest 34 = .ok (.getfield 28, 3) := by decide +kernel
theorem dX7_rest_37 : decode cX7_rest 37 = .ok (.getfield 152, 3) := by decide +kernel
theorem dX7_rest_40 : decode cX7_rest 40 = .ok (.ireturn, 1) := by decide +kernel
theorem dX7_undo_0 : decode cX7_undo 0 = .ok (.aload_n 0, 1) := by decide +kernel
theorem dX7_undo_1 : decode cX7_undo 1 = .ok (.getfield 38, 3) := by decide +kernel
theorem dX7_undo_4 : decode cX7_undo 4 = .ok (.getfield 155, 3) := by decide +kernel
theorem dX7_undo_7 : decode cX7_undo 7 = .ok (.iconst 1, 1) := by decide +kernel
theorem dX7_undo_8 : decode cX7_undo 8 = .ok (.if_icmp .ge 6, 3) := by decide +kernel
theorem dX7_undo_11 : decode cX7_undo 11 = .ok (.bipush (-2), 2) := by decide +kernel
theorem dX7_undo_13 : decode cX7_undo 13 = .ok (.ireturn, 1) := by decide +kernel
theorem dX7_undo_14 : decode cX7_undo 14 = .ok (.aload_n 0, 1) := by decide +kernel
theorem dX7_undo_15 : decode cX7_undo 15 = .ok (.getfield 38, 3) := by decide +kernel
theorem dX7_undo_18 : decode cX7_undo 18 = .ok (.dup, 1) := by decide +kernel
theorem dX7_undo_19 : decode cX7_undo 19 = .ok (.getfield 155, 3) := by decide +kernel
theorem dX7_undo_22 : decode cX7_undo 22 = .ok (.iconst 1, 1) := by decide +kernel
theorem dX7_undo_23 : decode cX7_undo 23 = .ok (.isub, 1) := by decide +kernel
theorem dX7_undo_24 : decode cX7_undo 24 = .ok (.putfield 155, 3) := by decide +kernel
theorem dX7_undo_27 : decode cX7_undo 27 = .ok (.aload_n 0, 1) := by decide +kernel
theorem dX7_undo_28 : decode cX7_undo 28 = .ok (.getfield 28, 3) := by decide +kernel
theorem dX7_undo_31 : decode cX7_undo 31 = .ok (.aload_n 0, 1) := by decide +kernel
theorem dX7_undo_32 : decode cX7_undo 32 = .ok (.getfield 38, 3) := by decide +kernel
theorem dX7_undo_35 : decode cX7_undo 35 = .ok (.aload_n 0, 1) := by decide +kernel
theorem dX7_undo_36 : decode cX7_undo 36 = .ok (.getfield 38, 3) := by decide +kernel
theorem dX7_undo_39 : decode cX7_undo 39 = .ok (.getfield 155, 3) := by decide +kernel
theorem dX7_undo_42 : decode cX7_undo 42 = .ok (.invokevirtual 158, 3) := by decide +kernel
theorem dX7_undo_45 : decode cX7_undo 45 = .ok (.invokevirtual 162, 3) := by decide +kernel
theorem dX7_undo_48 : decode cX7_undo 48 = .ok (.aload_n 0, 1) := by decide +kernel
theorem dX7_undo_49 : decode cX7_undo 49 = .ok (.getfield 38, 3) := by decide +kernel
theorem dX7_undo_52 : decode cX7_undo 52 = .ok (.getfield 155, 3) := by decide +kernel
theorem dX7_undo_55 : decode cX7_undo 55 = .ok (.ireturn, 1) := by decide +kernel
theorem dX7_fewest_0 : decode cX7_fewest 0 = .ok (.aload_n 0, 1) := by decide +kernel
theorem dX7_fewest_1 : decode cX7_fewest 1 = .ok (.getfield 10, 3) := by decide +kernel
theorem dX7_fewest_4 : decode cX7_fewest 4 = .ok (.iload_n 1, 1) := by decide +kernel
theorem dX7_fewest_5 : decode cX7_fewest 5 = .ok (.invokevirtual 107, 3) := by decide +kernel
theorem dX7_fewest_8 : decode cX7_fewest 8 = .ok (.ifCond .eq 19, 3) := by decide +kernel
theorem dX7_fewest_11 : decode cX7_fewest 11 = .ok (.aload_n 0, 1) := by decide +kernel
theorem dX7_fewest_12 : decode cX7_fewest 12 = .ok (.getfield 10, 3) := by decide +kernel
theorem dX7_fewest_15 : decode cX7_fewest 15 = .ok (.iload_n 2, 1) := by decide +kernel
theorem dX7_fewest_16 : decode cX7_fewest 16 = .ok (.invokevirtual 97, 3) := by decide +kernel
theorem dX7_fewest_19 : decode cX7_fewest 19 = .ok (.ifCond .eq 8, 3) := by decide +kernel
theorem dX7_fewest_22 : decode cX7_fewest 22 = .ok (.iload_n 3, 1) := by decide +kernel
theorem dX7_fewest_23 : decode cX7_fewest 23 = .ok (.iconst (-1), 1) := by decide +kernel
theorem dX7_fewest_24 : decode cX7_fewest 24 = .ok (.if_icmp .ge 5, 3) := by decide +kernel
theorem dX7_fewest_27 : decode cX7_fewest 27 = .ok (.iconst (-1), 1) := by decide +kernel
theorem dX7_fewest_28 : decode cX7_fewest 28 = .ok (.ireturn, 1) := by decide +kernel
theorem dX7_fewest_29 : decode cX7_fewest 29 = .ok (.aload_n 0, 1) := by decide +kernel
theorem dX7_fewest_30 : decode cX7_fewest 30 = .ok (.getfield 28, 3) := by decide +kernel
theorem dX7_fewest_33 : decode cX7_fewest 33 = .ok (.iload_n 1, 1) := by decide +kernel
theorem dX7_fewest_34 : decode cX7_fewest 34 = .ok (.invokevirtual 125, 3) := by decide +kernel
theorem dX7_fewest_37 : decode cX7_fewest 37 = .ok (.ifCond .eq 6, 3) := by decide +kernel
theorem dX7_fewest_40 : decode cX7_fewest 40 = .ok (.bipush (-2), 2) := by decide +kernel
theorem dX7_fewest_42 : decode cX7_fewest 42 = .ok (.ireturn, 1) := by decide +kernel
theorem dX7_fewest_43 : decode cX7_fewest 43 = .ok (.aload_n 0, 1) := by decide +kernel
theorem dX7_fewest_44 : decode cX7_fewest 44 = .ok (.getfield 54, 3) := by decide +kernel
theorem dX7_fewest_47 : decode cX7_fewest 47 = .ok (.aload_n 0, 1) := by decide +kernel
theorem dX7_fewest_48 : decode cX7_fewest 48 = .ok (.getfield 28, 3) := by decide +kernel
theorem dX7_fewest_51 : decode cX7_fewest 51 = .ok (.iload_n 1, 1) := by decide +kernel
theorem dX7_fewest_52 : decode cX7_fewest 52 = .ok (.invokevirtual 166, 3) := by decide +kernel
theorem dX7_fewest_55 : decode cX7_fewest 55 = .ok (.aload_n 0, 1) := by decide +kernel
theorem dX7_fewest_56 : decode cX7_fewest 56 = .ok (.getfield 54, 3) := by decide +kernel
theorem dX7_fewest_59 : decode cX7_fewest 59 = .ok (.iload_n 2, 1) := by decide +kernel
theorem dX7_fewest_60 : decode cX7_fewest 60 = .ok (.invokevirtual 169, 3) := by decide +kernel
theorem dX7_fewest_63 : decode cX7_fewest 63 = .ok (.istore 4, 2) := by decide +kernel
theorem dX7_fewest_65 : decode cX7_fewest 65 = .ok (.iload_n 3, 1) := by decide +kernel
theorem dX7_fewest_66 : decode cX7_fewest 66 = .ok (.iconst (-1), 1) := by decide +kernel
theorem dX7_fewest_67 : decode cX7_fewest 67 = .ok (.if_icmp .ne 15, 3) := by decide +kernel
theorem dX7_fewest_70 : decode cX7_fewest 70 = .ok (.aload_n 0, 1) := by decide +kernel
theorem dX7_fewest_71 : decode cX7_fewest 71 = .ok (.getfield 54, 3) := by decide +kernel
theorem dX7_fewest_74 : decode cX7_fewest 74 = .ok (.iload 4, 2) := by decide +kernel
theorem dX7_fewest_76 : decode cX7_fewest 76 = .ok (.invokevirtual 172, 3) := by decide +kernel
theorem dX7_fewest_79 : decode cX7_fewest 79 = .ok (.goto 13, 3) := by decide +kernel
theorem dX7_fewest_82 : decode cX7_fewest 82 = .ok (.aload_n 0, 1) := by decide +kernel
theorem dX7_fewest_83 : decode cX7_fewest 83 = .ok (.getfield 54, 3) := by decide +kernel
theorem dX7_fewest_86 : decode cX7_fewest 86 = .ok (.iload 4, 2) := by decide +kernel
theorem dX7_fewest_88 : decode cX7_fewest 88 = .ok (.iload_n 3, 1) := by decide +kernel
theorem dX7_fewest_89 : decode cX7_fewest 89 = .ok (.invokevirtual 175, 3) := by decide +kernel
theorem dX7_fewest_92 : decode cX7_fewest 92 = .ok (.ireturn, 1) := by decide +kernel
theorem dX7_stray_0 : decode cX7_stray 0 = .ok (.aload_n 0, 1) := by decide +kernel
theorem dX7_stray_1 : decode cX7_stray 1 = .ok (.getfield 10, 3) := by decide +kernel
theorem dX7_stray_4 : decode cX7_stray 4 = .ok (.iload_n 1, 1) := by decide +kernel
theorem dX7_stray_5 : decode cX7_stray 5 = .ok (.invokevirtual 107, 3) := by decide +kernel
theorem dX7_stray_8 : decode cX7_stray 8 = .ok (.ifCond .eq 13, 3) := by decide +kernel
theorem dX7_stray_11 : decode cX7_stray 11 = .ok (.iload_n 2, 1) := by decide +kernel
theorem dX7_stray_12 : decode cX7_stray 12 = .ok (.ifCond .lt 9, 3) := by decide +kernel
theorem dX7_stray_15 : decode cX7_stray 15 = .ok (.iload_n 2, 1) := by decide +kernel
theorem dX7_stray_16 : decode cX7_stray 16 = .ok (.bipush 6, 2) := by decide +kernel
theorem dX7_stray_18 : decode cX7_stray 18 = .ok (.if_icmp .le 5, 3) := by decide +kernel
theorem dX7_stray_21 : decode cX7_stray 21 = .ok (.iconst (-1), 1) := by decide +kernel
theorem dX7_stray_22 : decode cX7_stray 22 = .ok (.ireturn, 1) := by decide +kernel
theorem dX7_stray_23 : decode cX7_stray 23 = .ok (.aload_n 0, 1) := by decide +kernel
theorem dX7_stray_24 : decode cX7_stray 24 = .ok (.getfield 28, 3) := by decide +kernel
theorem dX7_stray_27 : decode cX7_stray 27 = .ok (.iload_n 1, 1) := by decide +kernel
theorem dX7_stray_28 : decode cX7_stray 28 = .ok (.invokevirtual 125, 3) := by decide +kernel
theorem dX7_stray_31 : decode cX7_stray 31 = .ok (.ifCond .eq 6, 3) := by decide +kernel
theorem dX7_stray_34 : decode cX7_stray 34 = .ok (.bipush (-2), 2) := by decide +kernel
theorem dX7_stray_36 : decode cX7_stray 36 = .ok (.ireturn, 1) := by decide +kernel
theorem dX7_stray_37 : decode cX7_stray 37 = .ok (.aload_n 0, 1) := by decide +kernel
theorem dX7_stray_38 : decode cX7_stray 38 = .ok (.getfield 54, 3) := by decide +kernel
theorem dX7_stray_41 : decode cX7_stray 41 = .ok (.aload_n 0, 1) := by decide +kernel
theorem dX7_stray_42 : decode cX7_stray 42 = .ok (.getfield 28, 3) := by decide +kernel
theorem dX7_stray_45 : decode cX7_stray 45 = .ok (.iload_n 1, 1) := by decide +kernel
theorem dX7_stray_46 : decode cX7_stray 46 = .ok (.invokevirtual 166, 3) := by decide +kernel
theorem dX7_stray_49 : decode cX7_stray 49 = .ok (.aload_n 0, 1) := by decide +kernel
theorem dX7_stray_50 : decode cX7_stray 50 = .ok (.getfield 54, 3) := by decide +kernel
theorem dX7_stray_53 : decode cX7_stray 53 = .ok (.iload_n 2, 1) := by decide +kernel
theorem dX7_stray_54 : decode cX7_stray 54 = .ok (.invokevirtual 178, 3) := by decide +kernel
theorem dX7_stray_57 : decode cX7_stray 57 = .ok (.ireturn, 1) := by decide +kernel
theorem dX7_summer_0 : decode cX7_summer 0 = .ok (.iload_n 1, 1) := by decide +kernel
theorem dX7_summer_1 : decode cX7_summer 1 = .ok (.invokestatic 181, 3) := by decide +kernel
theorem dX7_summer_4 : decode cX7_summer 4 = .ok (.ifCond .eq 8, 3) := by decide +kernel
theorem dX7_summer_7 : decode cX7_summer 7 = .ok (.iload_n 2, 1) := by decide +kernel
theorem dX7_summer_8 : decode cX7_summer 8 = .ok (.iconst (-1), 1) := by decide +kernel
theorem dX7_summer_9 : decode cX7_summer 9 = .ok (.if_icmp .ge 5, 3) := by decide +kernel
theorem dX7_summer_12 : decode cX7_summer 12 = .ok (.iconst (-1), 1) := by decide +kernel
theorem dX7_summer_13 : decode cX7_summer 13 = .ok (.ireturn, 1) := by decide +kernel
theorem dX7_summer_14 : decode cX7_summer 14 = .ok (.aload_n 0, 1) := by decide +kernel
theorem dX7_summer_15 : decode cX7_summer 15 = .ok (.getfield 10, 3) := by decide +kernel
theorem dX7_summer_18 : decode cX7_summer 18 = .ok (.getfield 184, 3) := by decide +kernel
theorem dX7_summer_21 : decode cX7_summer 21 = .ok (.bipush (-4), 2) := by decide +kernel
theorem dX7_summer_23 : decode cX7_summer 23 = .ok (.if_icmp .ne 6, 3) := by decide +kernel
theorem dX7_summer_26 : decode cX7_summer 26 = .ok (.bipush (-2), 2) := by decide +kernel
theorem dX7_summer_28 : decode cX7_summer 28 = .ok (.ireturn, 1) := by decide +kernel
theorem dX7_summer_29 : decode cX7_summer 29 = .ok (.aload_n 0, 1) := by decide +kernel
theorem dX7_summer_30 : decode cX7_summer 30 = .ok (.getfield 61, 3) := by decide +kernel
theorem dX7_summer_33 : decode cX7_summer 33 = .ok (.aload_n 0, 1) := by decide +kernel
theorem dX7_summer_34 : decode cX7_summer 34 = .ok (.getfield 28, 3) := by decide +kernel
theorem dX7_summer_37 : decode cX7_summer 37 = .ok (.iload_n 1, 1) := by decide +kernel
theorem dX7_summer_38 : decode cX7_summer 38 = .ok (.invokevirtual 187, 3) := by decide +kernel
theorem dX7_summer_41 : decode cX7_summer 41 = .ok (.istore_n 3, 1) := by decide +kernel
theorem dX7_summer_42 : decode cX7_summer 42 = .ok (.iload_n 3, 1) := by decide +kernel
theorem dX7_summer_43 : decode cX7_summer 43 = .ok (.bipush (-4), 2) := by decide +kernel
theorem dX7_summer_45 : decode cX7_summer 45 = .ok (.if_icmp .eq 8, 3) := by decide +kernel
theorem dX7_summer_48 : decode cX7_summer 48 = .ok (.iload_n 2, 1) := by decide +kernel
theorem dX7_summer_49 : decode cX7_summer 49 = .ok (.iconst (-1), 1) := by decide +kernel
theorem dX7_summer_50 : decode cX7_summer 50 = .ok (.if_icmp .ne 7, 3) := by decide +kernel
theorem dX7_summer_53 : decode cX7_summer 53 = .ok (.iload_n 3, 1) := by decide +kernel
theorem dX7_summer_54 : decode cX7_summer 54 = .ok (.goto 11, 3) := by decide +kernel
theorem dX7_summer_57 : decode cX7_summer 57 = .ok (.aload_n 0, 1) := by decide +kernel
theorem dX7_summer_58 : decode cX7_summer 58 = .ok (.getfield 61, 3) := by decide +kernel
theorem dX7_summer_61 : decode cX7_summer 61 = .ok (.iload_n 2, 1) := by decide +kernel
theorem dX7_summer_62 : decode cX7_summer 62 = .ok (.invokevirtual 191, 3) := by decide +kernel
theorem dX7_summer_65 : decode cX7_summer 65 = .ok (.ireturn, 1) := by decide +kernel
theorem dX7_game_0 : decode cX7_game 0 = .ok (.iload_n 1, 1) := by decide +kernel
theorem dX7_game_1 : decode cX7_game 1 = .ok (.iconst 1, 1) := by decide +kernel
theorem dX7_game_2 : decode cX7_game 2 = .ok (.if_icmp .lt 17, 3) := by decide +kernel
theorem dX7_game_5 : decode cX7_game 5 = .ok (.iload_n 1, 1) := by decide +kernel
theorem dX7_game_6 : decode cX7_game 6 = .ok (.iconst 3, 1) := by decide +kernel
theorem dX7_game_7 : decode cX7_game 7 = .ok (.if_icmp .gt 12, 3) := by decide +kernel
theorem dX7_game_10 : decode cX7_game 10 = .ok (.iload_n 2, 1) := by decide +kernel
theorem dX7_game_11 : decode cX7_game 11 = .ok (.ifCond .lt 8, 3) := by decide +kernel
theorem dX7_game_14 : decode cX7_game 14 = .ok (.iload_n 2, 1) := by decide +kernel
theorem dX7_game_15 : decode cX7_game 15 = .ok (.iconst 1, 1) := by decide +kernel
theorem dX7_game_16 : decode cX7_game 16 = .ok (.if_icmp .le 5, 3) := by decide +kernel
theorem dX7_game_19 : decode cX7_game 19 = .ok (.iconst (-1), 1) := by decide +kernel
theorem dX7_game_20 : decode cX7_game 20 = .ok (.ireturn, 1) := by decide +kernel
theorem dX7_game_21 : decode cX7_game 21 = .ok (.aload_n 0, 1) := by decide +kernel
theorem dX7_game_22 : decode cX7_game 22 = .ok (.getfield 28, 3) := by decide +kernel
theorem dX7_game_25 : decode cX7_game 25 = .ok (.invokevirtual 139, 3) := by decide +kernel
theorem dX7_game_28 : decode cX7_game 28 = .ok (.ifCond .eq 6, 3) := by decide +kernel
theorem dX7_game_31 : decode cX7_game 31 = .ok (.bipush (-2), 2) := by decide +kernel
theorem dX7_game_33 : decode cX7_game 33 = .ok (.ireturn, 1) := by decide +kernel
theorem dX7_game_34 : decode cX7_game 34 = .ok (.aload_n 0, 1) := by decide +kernel
theorem dX7_game_35 : decode cX7_game 35 = .ok (.getfield 61, 3) := by decide +kernel
theorem dX7_game_38 : decode cX7_game 38 = .ok (.aload_n 0, 1) := by decide +kernel
theorem dX7_game_39 : decode cX7_game 39 = .ok (.getfield 28, 3) := by decide +kernel
theorem dX7_game_42 : decode cX7_game 42 = .ok (.iload_n 1, 1) := by decide +kernel
theorem dX7_game_43 : decode cX7_game 43 = .ok (.invokevirtual 194, 3) := by decide +kernel
theorem dX7_game_46 : decode cX7_game 46 = .ok (.istore_n 3, 1) := by decide +kernel
theorem dX7_game_47 : decode cX7_game 47 = .ok (.iload_n 2, 1) := by decide +kernel
theorem dX7_game_48 : decode cX7_game 48 = .ok (.ifCond .ne 10, 3) := by decide +kernel
theorem dX7_game_51 : decode cX7_game 51 = .ok (.iload_n 3, 1) := by decide +kernel
theorem dX7_game_52 : decode cX7_game 52 = .ok (.bipush 100, 2) := by decide +kernel
theorem dX7_game_54 : decode cX7_game 54 = .ok (.iadd, 1) := by decide +kernel
theorem dX7_game_55 : decode cX7_game 55 = .ok (.goto 10, 3) := by decide +kernel
theorem dX7_game_58 : decode cX7_game 58 = .ok (.aload_n 0, 1) := by decide +kernel
theorem dX7_game_59 : decode cX7_game 59 = .ok (.getfield 61, 3) := by decide +kernel
theorem dX7_game_62 : decode cX7_game 62 = .ok (.getfield 197, 3) := by decide +kernel
theorem dX7_game_65 : decode cX7_game 65 = .ok (.ireturn, 1) := by decide +kernel
theorem dX7_again_0 : decode cX7_again 0 = .ok (.aload_n 0, 1) := by decide +kernel
theorem dX7_again_1 : decode cX7_again 1 = .ok (.getfield 10, 3) := by decide +kernel
theorem dX7_again_4 : decode cX7_again 4 = .ok (.iload_n 1, 1) := by decide +kernel
theorem dX7_again_5 : decode cX7_again 5 = .ok (.invokevirtual 97, 3) := by decide +kernel
theorem dX7_again_8 : decode cX7_again 8 = .ok (.ifCond .ne 5, 3) := by decide +kernel
theorem dX7_again_11 : decode cX7_again 11 = .ok (.iconst (-1), 1) := by decide +kernel
theorem dX7_again_12 : decode cX7_again 12 = .ok (.ireturn, 1) := by decide +kernel
theorem dX7_again_13 : decode cX7_again 13 = .ok (.aload_n 0, 1) := by decide +kernel
theorem dX7_again_14 : decode cX7_again 14 = .ok (.getfield 28, 3) := by decide +kernel
theorem dX7_again_17 : decode cX7_again 17 = .ok (.iload_n 1, 1) := by decide +kernel
theorem dX7_again_18 : decode cX7_again 18 = .ok (.invokevirtual 100, 3) := by decide +kernel
theorem dX7_again_21 : decode cX7_again 21 = .ok (.bipush 9, 2) := by decide +kernel
theorem dX7_again_23 : decode cX7_again 23 = .ok (.if_icmp .ne 6, 3) := by decide +kernel
theorem dX7_again_26 : decode cX7_again 26 = .ok (.bipush (-2), 2) := by decide +kernel
theorem dX7_again_28 : decode cX7_again 28 = .ok (.ireturn, 1) := by decide +kernel
theorem dX7_again_29 : decode cX7_again 29 = .ok (.aload_n 0, 1) := by decide +kernel
theorem dX7_again_30 : decode cX7_again 30 = .ok (.getfield 32, 3) := by decide +kernel
theorem dX7_again_33 : decode cX7_again 33 = .ok (.aload_n 0, 1) := by decide +kernel
theorem dX7_again_34 : decode cX7_again 34 = .ok (.getfield 28, 3) := by decide +kernel
theorem dX7_again_37 : decode cX7_again 37 = .ok (.invokevirtual 162, 3) := by decide +kernel
theorem dX7_again_40 : decode cX7_again 40 = .ok (.iconst 0, 1) := by decide +kernel
theorem dX7_again_41 : decode cX7_again 41 = .ok (.istore_n 2, 1) := by decide +kernel
theorem dX7_again_42 : decode cX7_again 42 = .ok (.iload_n 2, 1) := by decide +kernel
theorem dX7_again_43 : decode cX7_again 43 = .ok (.bipush 60, 2) := by decide +kernel
theorem dX7_again_45 : decode cX7_again 45 = .ok (.if_icmp .gt 29, 3) := by decide +kernel
theorem dX7_again_48 : decode cX7_again 48 = .ok (.aload_n 0, 1) := by decide +kernel
theorem dX7_again_49 : decode cX7_again 49 = .ok (.getfield 32, 3) := by decide +kernel
theorem dX7_again_52 : decode cX7_again 52 = .ok (.iload_n 1, 1) := by decide +kernel
theorem dX7_again_53 : decode cX7_again 53 = .ok (.invokevirtual 100, 3) := by decide +kernel
theorem dX7_again_56 : decode cX7_again 56 = .ok (.ifCond .le 5, 3) := by decide +kernel
theorem dX7_again_59 : decode cX7_again 59 = .ok (.iload_n 2, 1) := by decide +kernel
theorem dX7_again_60 : decode cX7_again 60 = .ok (.ireturn, 1) := by decide +kernel
theorem dX7_again_61 : decode cX7_again 61 = .ok (.aload_n 0, 1) := by decide +kernel
theorem dX7_again_62 : decode cX7_again 62 = .ok (.getfield 32, 3) := by decide +kernel
theorem dX7_again_65 : decode cX7_again 65 = .ok (.invokevirtual 149, 3) := by decide +kernel
theorem dX7_again_68 : decode cX7_again 68 = .ok (.iinc 2 1, 3) := by decide +kernel
theorem dX7_again_71 : decode cX7_again 71 = .ok (.goto (-29), 3) := by decide +kernel
theorem dX7_again_74 : decode cX7_again 74 = .ok (.bipush (-4), 2) := by decide +kernel
theorem dX7_again_76 : decode cX7_again 76 = .ok (.ireturn, 1) := by decide +kernel
theorem dX7_starves_0 : decode cX7_starves 0 = .ok (.aload_n 0, 1) := by decide +kernel
theorem dX7_starves_1 : decode cX7_starves 1 = .ok (.getfield 10, 3) := by decide +kernel
theorem dX7_starves_4 : decode cX7_starves 4 = .ok (.iload_n 1, 1) := by decide +kernel
theorem dX7_starves_5 : decode cX7_starves 5 = .ok (.invokevirtual 107, 3) := by decide +kernel
theorem dX7_starves_8 : decode cX7_starves 8 = .ok (.ifCond .ne 5, 3) := by decide +kernel
theorem dX7_starves_11 : decode cX7_starves 11 = .ok (.iconst (-1), 1) := by decide +kernel
theorem dX7_starves_12 : decode cX7_starves 12 = .ok (.ireturn, 1) := by decide +kernel
theorem dX7_starves_13 : decode cX7_starves 13 = .ok (.aload_n 0, 1) := by decide +kernel
theorem dX7_starves_14 : decode cX7_starves 14 = .ok (.getfield 28, 3) := by decide +kernel
theorem dX7_starves_17 : decode cX7_starves 17 = .ok (.iload_n 1, 1) := by decide +kernel
theorem dX7_starves_18 : decode cX7_starves 18 = .ok (.invokevirtual 125, 3) := by decide +kernel
theorem dX7_starves_21 : decode cX7_starves 21 = .ok (.ifCond .eq 6, 3) := by decide +kernel
theorem dX7_starves_24 : decode cX7_starves 24 = .ok (.bipush (-2), 2) := by decide +kernel
theorem dX7_starves_26 : decode cX7_starves 26 = .ok (.ireturn, 1) := by decide +kernel
theorem dX7_starves_27 : decode cX7_starves 27 = .ok (.aload_n 0, 1) := by decide +kernel
theorem dX7_starves_28 : decode cX7_starves 28 = .ok (.getfield 32, 3) := by decide +kernel
theorem dX7_starves_31 : decode cX7_starves 31 = .ok (.aload_n 0, 1) := by decide +kernel
theorem dX7_starves_32 : decode cX7_starves 32 = .ok (.getfield 28, 3) := by decide +kernel
theorem dX7_starves_35 : decode cX7_starves 35 = .ok (.invokevirtual 162, 3) := by decide +kernel
theorem dX7_starves_38 : decode cX7_starves 38 = .ok (.iconst 1, 1) := by decide +kernel
theorem dX7_starves_39 : decode cX7_starves 39 = .ok (.istore_n 2, 1) := by decide +kernel
theorem dX7_starves_40 : decode cX7_starves 40 = .ok (.iload_n 2, 1) := by decide +kernel
theorem dX7_starves_41 : decode cX7_starves 41 = .ok (.bipush 60, 2) := by decide +kernel
theorem dX7_starves_43 : decode cX7_starves 43 = .ok (.if_icmp .gt 29, 3) := by decide +kernel
theorem dX7_starves_46 : decode cX7_starves 46 = .ok (.aload_n 0, 1) := by decide +kernel
theorem dX7_starves_47 : decode cX7_starves 47 = .ok (.getfield 32, 3) := by decide +kernel
theorem dX7_starves_50 : decode cX7_starves 50 = .ok (.invokevirtual 149, 3) := by decide +kernel
theorem dX7_starves_53 : decode cX7_starves 53 = .ok (.aload_n 0, 1) := by decide +kernel
theorem dX7_starves_54 : decode cX7_starves 54 = .ok (.getfield 32, 3) := by decide +kernel
theorem dX7_starves_57 : decode cX7_starves 57 = .ok (.iload_n 1, 1) := by decide +kernel
theorem dX7_starves_58 : decode cX7_starves 58 = .ok (.invokevirtual 125, 3) := by decide +kernel
theorem dX7_starves_61 : decode cX7_starves 61 = .ok (.ifCond .eq 5, 3) := by decide +kernel
theorem dX7_starves_64 : decode cX7_starves 64 = .ok (.iload_n 2, 1) := by decide +kernel
theorem dX7_starves_65 : decode cX7_starves 65 = .ok (.ireturn, 1) := by decide +kernel
theorem dX7_starves_66 : decode cX7_starves 66 = .ok (.iinc 2 1, 3) := by decide +kernel
theorem dX7_starves_69 : decode cX7_starves 69 = .ok (.goto (-29), 3) := by decide +kernel
theorem dX7_starves_72 : decode cX7_starves 72 = .ok (.bipush (-4), 2) := by decide +kernel
theorem dX7_starves_74 : decode cX7_starves 74 = .ok (.ireturn, 1) := by decide +kernel
theorem dX7_otherwise_0 : decode cX7_otherwise 0 = .ok (.aload_n 0, 1) := by decide +kernel
theorem dX7_otherwise_1 : decode cX7_otherwise 1 = .ok (.getfield 10, 3) := by decide +kernel
theorem dX7_otherwise_4 : decode cX7_otherwise 4 = .ok (.iload_n 1, 1) := by decide +kernel
theorem dX7_otherwise_5 : decode cX7_otherwise 5 = .ok (.invokevirtual 107, 3) := by decide +kernel
theorem dX7_otherwise_8 : decode cX7_otherwise 8 = .ok (.ifCond .eq 23, 3) := by decide +kernel
theorem dX7_otherwise_11 : decode cX7_otherwise 11 = .ok (.aload_n 0, 1) := by decide +kernel
theorem dX7_otherwise_12 : decode cX7_otherwise 12 = .ok (.getfield 10, 3) := by decide +kernel
theorem dX7_otherwise_15 : decode cX7_otherwise 15 = .ok (.iload_n 2, 1) := by decide +kernel
theorem dX7_otherwise_16 : decode cX7_otherwise 16 = .ok (.invokevirtual 97, 3) := by decide +kernel
theorem dX7_otherwise_19 : decode cX7_otherwise 19 = .ok (.ifCond .eq 12, 3) := by decide +kernel
theorem dX7_otherwise_22 : decode cX7_otherwise 22 = .ok (.iload_n 3, 1) := by decide +kernel
theorem dX7_otherwise_23 : decode cX7_otherwise 23 = .ok (.ifCond .lt 8, 3) := by decide +kernel
theorem dX7_otherwise_26 : decode cX7_otherwise 26 = .ok (.iload_n 3, 1) := by decide +kernel
theorem dX7_otherwise_27 : decode cX7_otherwise 27 = .ok (.iconst 1, 1) := by decide +kernel
theorem dX7_otherwise_28 : decode cX7_otherwise 28 = .ok (.if_icmp .le 5, 3) := by decide +kernel
theorem dX7_otherwise_31 : decode cX7_otherwise 31 = .ok (.iconst (-1), 1) := by decide +kernel
theorem dX7_otherwise_32 : decode cX7_otherwise 32 = .ok (.ireturn, 1) := by decide +kernel
theorem dX7_otherwise_33 : decode cX7_otherwise 33 = .ok (.iconst 0, 1) := by decide +kernel
theorem dX7_otherwise_34 : decode cX7_otherwise 34 = .ok (.istore 4, 2) := by decide +kernel
theorem dX7_otherwise_36 : decode cX7_otherwise 36 = .ok (.bipush (-4), 2) := by decide +kernel
theorem dX7_otherwise_38 : decode cX7_otherwise 38 = .ok (.istore 5, 2) := by decide +kernel
theorem dX7_otherwise_40 : decode cX7_otherwise 40 = .ok (.iconst 0, 1) := by decide +kernel
theorem dX7_otherwise_41 : decode cX7_otherwise 41 = .ok (.istore 6, 2) := by decide +kernel
theorem dX7_otherwise_43 : decode cX7_otherwise 43 = .ok (.iload 6, 2) := by decide +kernel
theorem dX7_otherwise_45 : decode cX7_otherwise 45 = .ok (.aload_n 0, 1) := by decide +kernel
theorem dX7_otherwise_46 : decode cX7_otherwise 46 = .ok (.getfield 38, 3) := by decide +kernel
theorem dX7_otherwise_49 : decode cX7_otherwise 49 = .ok (.getfield 155, 3) := by decide +kernel
theorem dX7_otherwise_52 : decode cX7_otherwise 52 = .ok (.if_icmp .ge 80, 3) := by decide +kernel
theorem dX7_otherwise_55 : decode cX7_otherwise 55 = .ok (.iconst 0, 1) := by decide +kernel
theorem dX7_otherwise_56 : decode cX7_otherwise 56 = .ok (.istore 7, 2) := by decide +kernel
theorem dX7_otherwise_58 : decode cX7_otherwise 58 = .ok (.iload 7, 2) := by decide +kernel
theorem dX7_otherwise_60 : decode cX7_otherwise 60 = .ok (.bipush 99, 2) := by decide +kernel
theorem dX7_otherwise_62 : decode cX7_otherwise 62 = .ok (.if_icmp .gt 64, 3) := by decide +kernel
theorem dX7_otherwise_65 : decode cX7_otherwise 65 = .ok (.aload_n 0, 1) := by decide +kernel
theorem dX7_otherwise_66 : decode cX7_otherwise 66 = .ok (.getfield 38, 3) := by decide +kernel
theorem dX7_otherwise_69 : decode cX7_otherwise 69 = .ok (.iload 6, 2) := by decide +kernel
theorem dX7_otherwise_71 : decode cX7_otherwise 71 = .ok (.iload 7, 2) := by decide +kernel
theorem dX7_otherwise_73 : decode cX7_otherwise 73 = .ok (.aload_n 0, 1) := by decide +kernel
theorem dX7_otherwise_74 : decode cX7_otherwise 74 = .ok (.getfield 32, 3) := by decide +kernel
theorem dX7_otherwise_77 : decode cX7_otherwise 77 = .ok (.invokevirtual 200, 3) := by decide +kernel
theorem dX7_otherwise_80 : decode cX7_otherwise 80 = .ok (.ifCond .eq 40, 3) := by decide +kernel
theorem dX7_otherwise_83 : decode cX7_otherwise 83 = .ok (.aload_n 0, 1) := by decide +kernel
theorem dX7_otherwise_84 : decode cX7_otherwise 84 = .ok (.getfield 32, 3) := by decide +kernel
theorem dX7_otherwise_87 : decode cX7_otherwise 87 = .ok (.iload_n 1, 1) := by decide +kernel
theorem dX7_otherwise_88 : decode cX7_otherwise 88 = .ok (.invokevirtual 116, 3) := by decide +kernel
theorem dX7_otherwise_91 : decode cX7_otherwise 91 = .ok (.iload_n 2, 1) := by decide +kernel
theorem dX7_otherwise_92 : decode cX7_otherwise 92 = .ok (.if_icmp .ne 28, 3) := by decide +kernel
theorem dX7_otherwise_95 : decode cX7_otherwise 95 = .ok (.iinc 4 1, 3) := by decide +kernel
theorem dX7_otherwise_98 : decode cX7_otherwise 98 = .ok (.iload 5, 2) := by decide +kernel
theorem dX7_otherwise_100 : decode cX7_otherwise 100 = .ok (.bipush (-4), 2) := by decide +kernel
theorem dX7_otherwise_102 : decode cX7_otherwise 102 = .ok (.if_icmp .ne 14, 3) := by decide +kernel
theorem dX7_otherwise_105 : decode cX7_otherwise 105 = .ok (.bipush 100, 2) := by decide +kernel
theorem dX7_otherwise_107 : decode cX7_otherwise 107 = .ok (.iload 6, 2) := by decide +kernel
theorem dX7_otherwise_109 : decode cX7_otherwise 109 = .ok (.imul, 1) := by decide +kernel
theorem dX7_otherwise_110 : decode cX7_otherwise 110 = .ok (.iload 7, 2) := by decide +kernel
theorem dX7_otherwise_112 : decode cX7_otherwise 112 = .ok (.iadd, 1) := by decide +kernel
theorem dX7_otherwise_113 : decode cX7_otherwise 113 = .ok (.goto 5, 3) := by decide +kernel
theorem dX7_otherwise_116 : decode cX7_otherwise 116 = .ok (.iload 5, 2) := by decide +kernel
theorem dX7_otherwise_118 : decode cX7_otherwise 118 = .ok (.istore 5, 2) := by decide +kernel
theorem dX7_otherwise_120 : decode cX7_otherwise 120 = .ok (.iinc 7 1, 3) := by decide +kernel
theorem dX7_otherwise_123 : decode cX7_otherwise 123 = .ok (.goto (-65), 3) := by decide +kernel
theorem dX7_otherwise_126 : decode cX7_otherwise 126 = .ok (.iinc 6 1, 3) := by decide +kernel
theorem dX7_otherwise_129 : decode cX7_otherwise 129 = .ok (.goto (-86), 3) := by decide +kernel
theorem dX7_otherwise_132 : decode cX7_otherwise 132 = .ok (.iload_n 3, 1) := by decide +kernel
theorem dX7_otherwise_133 : decode cX7_otherwise 133 = .ok (.ifCond .ne 8, 3) := by decide +kernel
theorem dX7_otherwise_136 : decode cX7_otherwise 136 = .ok (.iload 4, 2) := by decide +kernel
theorem dX7_otherwise_138 : decode cX7_otherwise 138 = .ok (.goto 5, 3) := by decide +kernel
theorem dX7_otherwise_141 : decode cX7_otherwise 141 = .ok (.iload 5, 2) := by decide +kernel
theorem dX7_otherwise_143 : decode cX7_otherwise 143 = .ok (.ireturn, 1) := by decide +kernel
theorem dX7_wolves_0 : decode cX7_wolves 0 = .ok (.aload_n 0, 1) := by decide +kernel
theorem dX7_wolves_1 : decode cX7_wolves 1 = .ok (.getfield 10, 3) := by decide +kernel
theorem dX7_wolves_4 : decode cX7_wolves 4 = .ok (.iload_n 1, 1) := by decide +kernel
theorem dX7_wolves_5 : decode cX7_wolves 5 = .ok (.invokevirtual 107, 3) := by decide +kernel
theorem dX7_wolves_8 : decode cX7_wolves 8 = .ok (.ifCond .eq 27, 3) := by decide +kernel
theorem dX7_wolves_11 : decode cX7_wolves 11 = .ok (.iload_n 2, 1) := by decide +kernel
theorem dX7_wolves_12 : decode cX7_wolves 12 = .ok (.ifCond .lt 23, 3) := by decide +kernel
theorem dX7_wolves_15 : decode cX7_wolves 15 = .ok (.iload_n 2, 1) := by decide +kernel
theorem dX7_wolves_16 : decode cX7_wolves 16 = .ok (.bipush 8, 2) := by decide +kernel
theorem dX7_wolves_18 : decode cX7_wolves 18 = .ok (.if_icmp .gt 17, 3) := by decide +kernel
theorem dX7_wolves_21 : decode cX7_wolves 21 = .ok (.iload_n 3, 1) := by decide +kernel
theorem dX7_wolves_22 : decode cX7_wolves 22 = .ok (.ifCond .lt 13, 3) := by decide +kernel
theorem dX7_wolves_25 : decode cX7_wolves 25 = .ok (.iload_n 3, 1) := by decide +kernel
theorem dX7_wolves_26 : decode cX7_wolves 26 = .ok (.bipush 10, 2) := by decide +kernel
theorem dX7_wolves_28 : decode cX7_wolves 28 = .ok (.if_icmp .gt 7, 3) := by decide +kernel
theorem dX7_wolves_31 : decode cX7_wolves 31 = .ok (.iconst 1, 1) := by decide +kernel
theorem dX7_wolves_32 : decode cX7_wolves 32 = .ok (.goto 4, 3) := by decide +kernel
theorem dX7_wolves_35 : decode cX7_wolves 35 = .ok (.iconst 0, 1) := by decide +kernel
theorem dX7_wolves_36 : decode cX7_wolves 36 = .ok (.istore 5, 2) := by decide +kernel
theorem dX7_wolves_38 : decode cX7_wolves 38 = .ok (.iload 5, 2) := by decide +kernel
theorem dX7_wolves_40 : decode cX7_wolves 40 = .ok (.ifCond .eq 14, 3) := by decide +kernel
theorem dX7_wolves_43 : decode cX7_wolves 43 = .ok (.iload 4, 2) := by decide +kernel
theorem dX7_wolves_45 : decode cX7_wolves 45 = .ok (.ifCond .lt 9, 3) := by decide +kernel
theorem dX7_wolves_48 : decode cX7_wolves 48 = .ok (.iload 4, 2) := by decide +kernel
theorem dX7_wolves_50 : decode cX7_wolves 50 = .ok (.iconst 1, 1) := by decide +kernel
theorem dX7_wolves_51 : decode cX7_wolves 51 = .ok (.if_icmp .le 5, 3) := by decide +kernel
theorem dX7_wolves_54 : decode cX7_wolves 54 = .ok (.iconst (-1), 1) := by decide +kernel
theorem dX7_wolves_55 : decode cX7_wolves 55 = .ok (.ireturn, 1) := by decide +kernel
theorem dX7_wolves_56 : decode cX7_wolves 56 = .ok (.aload_n 0, 1) := by decide +kernel
theorem dX7_wolves_57 : decode cX7_wolves 57 = .ok (.getfield 28, 3) := by decide +kernel
theorem dX7_wolves_60 : decode cX7_wolves 60 = .ok (.iload_n 1, 1) := by decide +kernel
theorem dX7_wolves_61 : decode cX7_wolves 61 = .ok (.invokevirtual 125, 3) := by decide +kernel
theorem dX7_wolves_64 : decode cX7_wolves 64 = .ok (.ifCond .eq 6, 3) := by decide +kernel
theorem dX7_wolves_67 : decode cX7_wolves 67 = .ok (.bipush (-2), 2) := by decide +kernel
theorem dX7_wolves_69 : decode cX7_wolves 69 = .ok (.ireturn, 1) := by decide +kernel
theorem dX7_wolves_70 : decode cX7_wolves 70 = .ok (.lconst 1, 1) := by decide +kernel
theorem dX7_wolves_71 : decode cX7_wolves 71 = .ok (.lstore 6, 2) := by decide +kernel
theorem dX7_wolves_73 : decode cX7_wolves 73 = .ok (.iconst 0, 1) := by decide +kernel
theorem dX7_wolves_74 : decode cX7_wolves 74 = .ok (.istore 8, 2) := by decide +kernel
theorem dX7_wolves_76 : decode cX7_wolves 76 = .ok (.iload 8, 2) := by decide +kernel
theorem dX7_wolves_78 : decode cX7_wolves 78 = .ok (.iload_n 2, 1) := by decide +kernel
theorem dX7_wolves_79 : decode cX7_wolves 79 = .ok (.if_icmp .ge 17, 3) := by decide +kernel
theorem dX7_wolves_82 : decode cX7_wolves 82 = .ok (.lload 6, 2) := by decide +kernel
theorem dX7_wolves_84 : decode cX7_wolves 84 = .ok (.ldc2_w 204, 3) := by decide +kernel
theorem dX7_wolves_87 : decode cX7_wolves 87 = .ok (.lmul, 1) := by decide +kernel
theorem dX7_wolves_88 : decode cX7_wolves 88 = .ok (.lstore 6, 2) := by decide +kernel
theorem dX7_wolves_90 : decode cX7_wolves 90 = .ok (.iinc 8 1, 3) := by decide +kernel
theorem dX7_wolves_93 : decode cX7_wolves 93 = .ok (.goto (-17), 3) := by decide +kernel
theorem dX7_wolves_96 : decode cX7_wolves 96 = .ok (.aload_n 0, 1) := by decide +kernel
theorem dX7_wolves_97 : decode cX7_wolves 97 = .ok (.getfield 61, 3) := by decide +kernel
theorem dX7_wolves_100 : decode cX7_wolves 100 = .ok (.aload_n 0, 1) := by decide +kernel
theorem dX7_wolves_101 : decode cX7_wolves 101 = .ok (.getfield 28, 3) := by decide +kernel
theorem dX7_wolves_104 : decode cX7_wolves 104 = .ok (.iload_n 1, 1) := by decide +kernel
theorem dX7_wolves_105 : decode cX7_wolves 105 = .ok (.iload_n 2, 1) := by decide +kernel
theorem dX7_wolves_106 : decode cX7_wolves 106 = .ok (.iload_n 3, 1) := by decide +kernel
theorem dX7_wolves_107 : decode cX7_wolves 107 = .ok (.invokevirtual 206, 3) := by decide +kernel
theorem dX7_wolves_110 : decode cX7_wolves 110 = .ok (.lstore 8, 2) := by decide +kernel
theorem dX7_wolves_112 : decode cX7_wolves 112 = .ok (.lload 8, 2) := by decide +kernel
theorem dX7_wolves_114 : decode cX7_wolves 114 = .ok (.lload 6, 2) := by decide +kernel
theorem dX7_wolves_116 : decode cX7_wolves 116 = .ok (.invokestatic 210, 3) := by decide +kernel
theorem dX7_wolves_119 : decode cX7_wolves 119 = .ok (.lstore 10, 2) := by decide +kernel
theorem dX7_wolves_121 : decode cX7_wolves 121 = .ok (.lload 10, 2) := by decide +kernel
theorem dX7_wolves_123 : decode cX7_wolves 123 = .ok (.lconst 1, 1) := by decide +kernel
theorem dX7_wolves_124 : decode cX7_wolves 124 = .ok (.lcmp, 1) := by decide +kernel
theorem dX7_wolves_125 : decode cX7_wolves 125 = .ok (.ifCond .ge 8, 3) := by decide +kernel
theorem dX7_wolves_128 : decode cX7_wolves 128 = .ok (.bipush (-4), 2) := by decide +kernel
theorem dX7_wolves_130 : decode cX7_wolves 130 = .ok (.goto 19, 3) := by decide +kernel
theorem dX7_wolves_133 : decode cX7_wolves 133 = .ok (.iload 4, 2) := by decide +kernel
theorem dX7_wolves_135 : decode cX7_wolves 135 = .ok (.ifCond .ne 8, 3) := by decide +kernel
theorem dX7_wolves_138 : decode cX7_wolves 138 = .ok (.lload 8, 2) := by decide +kernel
theorem dX7_wolves_140 : decode cX7_wolves 140 = .ok (.goto 5, 3) := by decide +kernel
theorem dX7_wolves_143 : decode cX7_wolves 143 = .ok (.lload 6, 2) := by decide +kernel
theorem dX7_wolves_145 : decode cX7_wolves 145 = .ok (.lload 10, 2) := by decide +kernel
theorem dX7_wolves_147 : decode cX7_wolves 147 = .ok (.ldiv, 1) := by decide +kernel
theorem dX7_wolves_148 : decode cX7_wolves 148 = .ok (.l2i, 1) := by decide +kernel
theorem dX7_wolves_149 : decode cX7_wolves 149 = .ok (.ireturn, 1) := by decide +kernel
theorem dX7_season_0 : decode cX7_season 0 = .ok (.iload_n 1, 1) := by decide +kernel
theorem dX7_season_1 : decode cX7_season 1 = .ok (.ifCond .lt 30, 3) := by decide +kernel
theorem dX7_season_4 : decode cX7_season 4 = .ok (.iload_n 1, 1) := by decide +kernel
theorem dX7_season_5 : decode cX7_season 5 = .ok (.sipush 9999, 3) := by decide +kernel
theorem dX7_season_8 : decode cX7_season 8 = .ok (.if_icmp .gt 23, 3) := by decide +kernel
theorem dX7_season_11 : decode cX7_season 11 = .ok (.iload_n 2, 1) := by decide +kernel
theorem dX7_season_12 : decode cX7_season 12 = .ok (.iconst 1, 1) := by decide +kernel
theorem dX7_season_13 : decode cX7_season 13 = .ok (.if_icmp .lt 18, 3) := by decide +kernel
theorem dX7_season_16 : decode cX7_season 16 = .ok (.iload_n 2, 1) := by decide +kernel
theorem dX7_season_17 : decode cX7_season 17 = .ok (.bipush 60, 2) := by decide +kernel
theorem dX7_season_19 : decode cX7_season 19 = .ok (.if_icmp .gt 12, 3) := by decide +kernel
theorem dX7_season_22 : decode cX7_season 22 = .ok (.iload_n 3, 1) := by decide +kernel
theorem dX7_season_23 : decode cX7_season 23 = .ok (.ifCond .lt 8, 3) := by decide +kernel
theorem dX7_season_26 : decode cX7_season 26 = .ok (.iload_n 3, 1) := by decide +kernel
theorem dX7_season_27 : decode cX7_season 27 = .ok (.iconst 1, 1) := by decide +kernel
theorem dX7_season_28 : decode cX7_season 28 = .ok (.if_icmp .le 5, 3) := by decide +kernel
theorem dX7_season_31 : decode cX7_season 31 = .ok (.iconst (-1), 1) := by decide +kernel
theorem dX7_season_32 : decode cX7_season 32 = .ok (.ireturn, 1) := by decide +kernel
theorem dX7_season_33 : decode cX7_season 33 = .ok (.aload_n 0, 1) := by decide +kernel
theorem dX7_season_34 : decode cX7_season 34 = .ok (.getfield 32, 3) := by decide +kernel
theorem dX7_season_37 : decode cX7_season 37 = .ok (.aload_n 0, 1) := by decide +kernel
theorem dX7_season_38 : decode cX7_season 38 = .ok (.getfield 28, 3) := by decide +kernel
theorem dX7_season_41 : decode cX7_season 41 = .ok (.invokevirtual 162, 3) := by decide +kernel
theorem dX7_season_44 : decode cX7_season 44 = .ok (.iconst 0, 1) := by decide +kernel
theorem dX7_season_45 : decode cX7_season 45 = .ok (.istore 4, 2) := by decide +kernel
theorem dX7_season_47 : decode cX7_season 47 = .ok (.iload 4, 2) := by decide +kernel
theorem dX7_season_49 : decode cX7_season 49 = .ok (.iload_n 2, 1) := by decide +kernel
theorem dX7_season_50 : decode cX7_season 50 = .ok (.if_icmp .ge 77, 3) := by decide +kernel
theorem dX7_season_53 : decode cX7_season 53 = .ok (.aload_n 0, 1) := by decide +kernel
theorem dX7_season_54 : decode cX7_season 54 = .ok (.getfield 32, 3) := by decide +kernel
theorem dX7_season_57 : decode cX7_season 57 = .ok (.invokevirtual 139, 3) := by decide +kernel
theorem dX7_season_60 : decode cX7_season 60 = .ok (.ifCond .ne 67, 3) := by decide +kernel
theorem dX7_season_63 : decode cX7_season 63 = .ok (.iload_n 1, 1) := by decide +kernel
theorem dX7_season_64 : decode cX7_season 64 = .ok (.iload 4, 2) := by decide +kernel
theorem dX7_season_66 : decode cX7_season 66 = .ok (.invokestatic 214, 3) := by decide +kernel
theorem dX7_season_69 : decode cX7_season 69 = .ok (.istore 5, 2) := by decide +kernel
theorem dX7_season_71 : decode cX7_season 71 = .ok (.aload_n 0, 1) := by decide +kernel
theorem dX7_season_72 : decode cX7_season 72 = .ok (.getfield 10, 3) := by decide +kernel
theorem dX7_season_75 : decode cX7_season 75 = .ok (.getfield 94, 3) := by decide +kernel
theorem dX7_season_78 : decode cX7_season 78 = .ok (.iconst 1, 1) := by decide +kernel
theorem dX7_season_79 : decode cX7_season 79 = .ok (.if_icmp .ge 7, 3) := by decide +kernel
theorem dX7_season_82 : decode cX7_season 82 = .ok (.iconst 0, 1) := by decide +kernel
theorem dX7_season_83 : decode cX7_season 83 = .ok (.goto 16, 3) := by decide +kernel
theorem dX7_season_86 : decode cX7_season 86 = .ok (.iload 5, 2) := by decide +kernel
theorem dX7_season_88 : decode cX7_season 88 = .ok (.bipush 8, 2) := by decide +kernel
theorem dX7_season_90 : decode cX7_season 90 = .ok (.idiv, 1) := by decide +kernel
theorem dX7_season_91 : decode cX7_season 91 = .ok (.aload_n 0, 1) := by decide +kernel
theorem dX7_season_92 : decode cX7_season 92 = .ok (.getfield 10, 3) := by decide +kernel
theorem dX7_season_95 : decode cX7_season 95 = .ok (.getfield 94, 3) := by decide +kernel
theorem dX7_season_98 : decode cX7_season 98 = .ok (.irem, 1) := by decide +kernel
theorem dX7_season_99 : decode cX7_season 99 = .ok (.istore 6, 2) := by decide +kernel
theorem dX7_season_101 : decode cX7_season 101 = .ok (.aload_n 0, 1) := by decide +kernel
theorem dX7_season_102 : decode cX7_season 102 = .ok (.getfield 32, 3) := by decide +kernel
theorem dX7_season_105 : decode cX7_season 105 = .ok (.bipush 10, 2) := by decide +kernel
theorem dX7_season_107 : decode cX7_season 107 = .ok (.iload 6, 2) := by decide +kernel
theorem dX7_season_109 : decode cX7_season 109 = .ok (.imul, 1) := by decide +kernel
theorem dX7_season_110 : decode cX7_season 110 = .ok (.iload 5, 2) := by decide +kernel
theorem dX7_season_112 : decode cX7_season 112 = .ok (.bipush 64, 2) := by decide +kernel
theorem dX7_season_114 : decode cX7_season 114 = .ok (.idiv, 1) := by decide +kernel
theorem dX7_season_115 : decode cX7_season 115 = .ok (.iconst 4, 1) := by decide +kernel
theorem dX7_season_116 : decode cX7_season 116 = .ok (.irem, 1) := by decide +kernel
theorem dX7_season_117 : decode cX7_season 117 = .ok (.iadd, 1) := by decide +kernel
theorem dX7_season_118 : decode cX7_season 118 = .ok (.invokevirtual 217, 3) := by decide +kernel
theorem dX7_season_121 : decode cX7_season 121 = .ok (.iinc 4 1, 3) := by decide +kernel
theorem dX7_season_124 : decode cX7_season 124 = .ok (.goto (-77), 3) := by decide +kernel
theorem dX7_season_127 : decode cX7_season 127 = .ok (.iload_n 3, 1) := by decide +kernel
theorem dX7_season_128 : decode cX7_season 128 = .ok (.ifCond .ne 16, 3) := by decide +kernel
theorem dX7_season_131 : decode cX7_season 131 = .ok (.aload_n 0, 1) := by decide +kernel
theorem dX7_season_132 : decode cX7_season 132 = .ok (.getfield 32, 3) := by decide +kernel
theorem dX7_season_135 : decode cX7_season 135 = .ok (.invokevirtual 221, 3) := by decide +kernel
theorem dX7_season_138 : decode cX7_season 138 = .ok (.bipush 100, 2) := by decide +kernel
theorem dX7_season_140 : decode cX7_season 140 = .ok (.iadd, 1) := by decide +kernel
theorem dX7_season_141 : decode cX7_season 141 = .ok (.goto 20, 3) := by decide +kernel
theorem dX7_season_144 : decode cX7_season 144 = .ok (.aload_n 0, 1) := by decide +kernel
theorem dX7_season_145 : decode cX7_season 145 = .ok (.getfield 32, 3) := by decide +kernel
theorem dX7_season_148 : decode cX7_season 148 = .ok (.iconst 0, 1) := by decide +kernel
theorem dX7_season_149 : decode cX7_season 149 = .ok (.invokevirtual 224, 3) := by decide +kernel
theorem dX7_season_152 : decode cX7_season 152 = .ok (.aload_n 0, 1) := by decide +kernel
theorem dX7_season_153 : decode cX7_season 153 = .ok (.getfield 32, 3) := by decide +kernel
theorem dX7_season_156 : decode cX7_season 156 = .ok (.iconst 1, 1) := by decide +kernel
theorem dX7_season_157 : decode cX7_season 157 = .ok (.invokevirtual 224, 3) := by decide +kernel
theorem dX7_season_160 : decode cX7_season 160 = .ok (.iadd, 1) := by decide +kernel
theorem dX7_season_161 : decode cX7_season 161 = .ok (.ireturn, 1) := by decide +kernel
theorem dX7_keep_0 : decode cX7_keep 0 = .ok (.aload_n 0, 1) := by decide +kernel
theorem dX7_keep_1 : decode cX7_keep 1 = .ok (.getfield 65, 3) := by decide +kernel
theorem dX7_keep_4 : decode cX7_keep 4 = .ok (.iconst 2, 1) := by decide +kernel
theorem dX7_keep_5 : decode cX7_keep 5 = .ok (.if_icmp .lt 6, 3) := by decide +kernel
theorem dX7_keep_8 : decode cX7_keep 8 = .ok (.bipush (-3), 2) := by decide +kernel
theorem dX7_keep_10 : decode cX7_keep 10 = .ok (.ireturn, 1) := by decide +kernel
theorem dX7_keep_11 : decode cX7_keep 11 = .ok (.aload_n 0, 1) := by decide +kernel
theorem dX7_keep_12 : decode cX7_keep 12 = .ok (.getfield 47, 3) := by decide +kernel
theorem dX7_keep_15 : decode cX7_keep 15 = .ok (.aload_n 0, 1) := by decide +kernel
theorem dX7_keep_16 : decode cX7_keep 16 = .ok (.getfield 65, 3) := by decide +kernel
theorem dX7_keep_19 : decode cX7_keep 19 = .ok (.invokevirtual 226, 3) := by decide +kernel
theorem dX7_keep_22 : decode cX7_keep 22 = .ok (.aload_n 0, 1) := by decide +kernel
theorem dX7_keep_23 : decode cX7_keep 23 = .ok (.getfield 28, 3) := by decide +kernel
theorem dX7_keep_26 : decode cX7_keep 26 = .ok (.invokevirtual 162, 3) := by decide +kernel
theorem dX7_keep_29 : decode cX7_keep 29 = .ok (.aload_n 0, 1) := by decide +kernel
theorem dX7_keep_30 : decode cX7_keep 30 = .ok (.dup, 1) := by decide +kernel
theorem dX7_keep_31 : decode cX7_keep 31 = .ok (.getfield 65, 3) := by decide +kernel
theorem dX7_keep_34 : decode cX7_keep 34 = .ok (.iconst 1, 1) := by decide +kernel
theorem dX7_keep_35 : decode cX7_keep 35 = .ok (.iadd, 1) := by decide +kernel
theorem dX7_keep_36 : decode cX7_keep 36 = .ok (.putfield 65, 3) := by decide +kernel
theorem dX7_keep_39 : decode cX7_keep 39 = .ok (.aload_n 0, 1) := by decide +kernel
theorem dX7_keep_40 : decode cX7_keep 40 = .ok (.getfield 65, 3) := by decide +kernel
theorem dX7_keep_43 : decode cX7_keep 43 = .ok (.ireturn, 1) := by decide +kernel
theorem dX7_back_0 : decode cX7_back 0 = .ok (.aload_n 0, 1) := by decide +kernel
theorem dX7_back_1 : decode cX7_back 1 = .ok (.getfield 65, 3) := by decide +kernel
theorem dX7_back_4 : decode cX7_back 4 = .ok (.iconst 1, 1) := by decide +kernel
theorem dX7_back_5 : decode cX7_back 5 = .ok (.if_icmp .ge 6, 3) := by decide +kernel
theorem dX7_back_8 : decode cX7_back 8 = .ok (.bipush (-2), 2) := by decide +kernel
theorem dX7_back_10 : decode cX7_back 10 = .ok (.ireturn, 1) := by decide +kernel
theorem dX7_back_11 : decode cX7_back 11 = .ok (.aload_n 0, 1) := by decide +kernel
theorem dX7_back_12 : decode cX7_back 12 = .ok (.dup, 1) := by decide +kernel
theorem dX7_back_13 : decode cX7_back 13 = .ok (.getfield 65, 3) := by decide +kernel
theorem dX7_back_16 : decode cX7_back 16 = .ok (.iconst 1, 1) := by decide +kernel
theorem dX7_back_17 : decode cX7_back 17 = .ok (.isub, 1) := by decide +kernel
theorem dX7_back_18 : decode cX7_back 18 = .ok (.putfield 65, 3) := by decide +kernel
theorem dX7_back_21 : decode cX7_back 21 = .ok (.aload_n 0, 1) := by decide +kernel
theorem dX7_back_22 : decode cX7_back 22 = .ok (.getfield 28, 3) := by decide +kernel
theorem dX7_back_25 : decode cX7_back 25 = .ok (.aload_n 0, 1) := by decide +kernel
theorem dX7_back_26 : decode cX7_back 26 = .ok (.getfield 47, 3) := by decide +kernel
theorem dX7_back_29 : decode cX7_back 29 = .ok (.aload_n 0, 1) := by decide +kernel
theorem dX7_back_30 : decode cX7_back 30 = .ok (.getfield 65, 3) := by decide +kernel
theorem dX7_back_33 : decode cX7_back 33 = .ok (.invokevirtual 226, 3) := by decide +kernel
theorem dX7_back_36 : decode cX7_back 36 = .ok (.invokevirtual 162, 3) := by decide +kernel
theorem dX7_back_39 : decode cX7_back 39 = .ok (.aload_n 0, 1) := by decide +kernel
theorem dX7_back_40 : decode cX7_back 40 = .ok (.getfield 38, 3) := by decide +kernel
theorem dX7_back_43 : decode cX7_back 43 = .ok (.iconst 0, 1) := by decide +kernel
theorem dX7_back_44 : decode cX7_back 44 = .ok (.putfield 155, 3) := by decide +kernel
theorem dX7_back_47 : decode cX7_back 47 = .ok (.aload_n 0, 1) := by decide +kernel
theorem dX7_back_48 : decode cX7_back 48 = .ok (.getfield 65, 3) := by decide +kernel
theorem dX7_back_51 : decode cX7_back 51 = .ok (.ireturn, 1) := by decide +kernel
theorem dX7_count_0 : decode cX7_count 0 = .ok (.iload_n 1, 1) := by decide +kernel
theorem dX7_count_1 : decode cX7_count 1 = .ok (.tableswitch 173 0 12 #[67, 75, 83, 91, 99, 108, 117, 128, 136, 144, 152, 160, 165], 67) := by decide +kernel
theorem dX7_count_68 : decode cX7_count 68 = .ok (.aload_n 0, 1) := by decide +kernel
theorem dX7_count_69 : decode cX7_count 69 = .ok (.getfield 10, 3) := by decide +kernel
theorem dX7_count_72 : decode cX7_count 72 = .ok (.getfield 229, 3) := by decide +kernel
theorem dX7_count_75 : decode cX7_count 75 = .ok (.ireturn, 1) := by decide +kernel
theorem dX7_count_76 : decode cX7_count 76 = .ok (.aload_n 0, 1) := by decide +kernel
theorem dX7_count_77 : decode cX7_count 77 = .ok (.getfield 10, 3) := by decide +kernel
theorem dX7_count_80 : decode cX7_count 80 = .ok (.getfield 232, 3) := by decide +kernel
theorem dX7_count_83 : decode cX7_count 83 = .ok (.ireturn, 1) := by decide +kernel
theorem dX7_count_84 : decode cX7_count 84 = .ok (.aload_n 0, 1) := by decide +kernel
theorem dX7_count_85 : decode cX7_count 85 = .ok (.getfield 10, 3) := by decide +kernel
theorem dX7_count_88 : decode cX7_count 88 = .ok (.getfield 94, 3) := by decide +kernel
theorem dX7_count_91 : decode cX7_count 91 = .ok (.ireturn, 1) := by decide +kernel
theorem dX7_count_92 : decode cX7_count 92 = .ok (.aload_n 0, 1) := by decide +kernel
theorem dX7_count_93 : decode cX7_count 93 = .ok (.getfield 28, 3) := by decide +kernel
theorem dX7_count_96 : decode cX7_count 96 = .ok (.getfield 152, 3) := by decide +kernel
theorem dX7_count_99 : decode cX7_count 99 = .ok (.ireturn, 1) := by decide +kernel
theorem dX7_count_100 : decode cX7_count 100 = .ok (.aload_n 0, 1) := by decide +kernel
theorem dX7_count_101 : decode cX7_count 101 = .ok (.getfield 28, 3) := by decide +kernel
theorem dX7_count_104 : decode cX7_count 104 = .ok (.iconst 0, 1) := by decide +kernel
theorem dX7_count_105 : decode cX7_count 105 = .ok (.invokevirtual 224, 3) := by decide +kernel
theorem dX7_count_108 : decode cX7_count 108 = .ok (.ireturn, 1) := by decide +kernel
theorem dX7_count_109 : decode cX7_count 109 = .ok (.aload_n 0, 1) := by decide +kernel
theorem dX7_count_110 : decode cX7_count 110 = .ok (.getfield 28, 3) := by decide +kernel
theorem dX7_count_113 : decode cX7_count 113 = .ok (.iconst 1, 1) := by decide +kernel
theorem dX7_count_114 : decode cX7_count 114 = .ok (.invokevirtual 224, 3) := by decide +kernel
theorem dX7_count_117 : decode cX7_count 117 = .ok (.ireturn, 1) := by decide +kernel
theorem dX7_count_118 : decode cX7_count 118 = .ok (.aload_n 0, 1) := by decide +kernel
theorem dX7_count_119 : decode cX7_count 119 = .ok (.getfield 28, 3) := by decide +kernel
theorem dX7_count_122 : decode cX7_count 122 = .ok (.invokevirtual 221, 3) := by decide +kernel
theorem dX7_count_125 : decode cX7_count 125 = .ok (.bipush 100, 2) := by decide +kernel
theorem dX7_count_127 : decode cX7_count 127 = .ok (.iadd, 1) := by decide +kernel
theorem dX7_count_128 : decode cX7_count 128 = .ok (.ireturn, 1) := by decide +kernel
theorem dX7_count_129 : decode cX7_count 129 = .ok (.aload_n 0, 1) := by decide +kernel
theorem dX7_count_130 : decode cX7_count 130 = .ok (.getfield 28, 3) := by decide +kernel
theorem dX7_count_133 : decode cX7_count 133 = .ok (.invokevirtual 139, 3) := by decide +kernel
theorem dX7_count_136 : decode cX7_count 136 = .ok (.ireturn, 1) := by decide +kernel
theorem dX7_count_137 : decode cX7_count 137 = .ok (.aload_n 0, 1) := by decide +kernel
theorem dX7_count_138 : decode cX7_count 138 = .ok (.getfield 28, 3) := by decide +kernel
theorem dX7_count_141 : decode cX7_count 141 = .ok (.invokevirtual 235, 3) := by decide +kernel
theorem dX7_count_144 : decode cX7_count 144 = .ok (.ireturn, 1) := by decide +kernel
theorem dX7_count_145 : decode cX7_count 145 = .ok (.aload_n 0, 1) := by decide +kernel
theorem dX7_count_146 : decode cX7_count 146 = .ok (.getfield 10, 3) := by decide +kernel
theorem dX7_count_149 : decode cX7_count 149 = .ok (.getfield 238, 3) := by decide +kernel
theorem dX7_count_152 : decode cX7_count 152 = .ok (.ireturn, 1) := by decide +kernel
theorem dX7_count_153 : decode cX7_count 153 = .ok (.aload_n 0, 1) := by decide +kernel
theorem dX7_count_154 : decode cX7_count 154 = .ok (.getfield 38, 3) := by decide +kernel
theorem dX7_count_157 : decode cX7_count 157 = .ok (.getfield 155, 3) := by decide +kernel
theorem dX7_count_160 : decode cX7_count 160 = .ok (.ireturn, 1) := by decide +kernel
theorem dX7_count_161 : decode cX7_count 161 = .ok (.aload_n 0, 1) := by decide +kernel
theorem dX7_count_162 : decode cX7_count 162 = .ok (.getfield 65, 3) := by decide +kernel
theorem dX7_count_165 : decode cX7_count 165 = .ok (.ireturn, 1) := by decide +kernel
theorem dX7_count_166 : decode cX7_count 166 = .ok (.aload_n 0, 1) := by decide +kernel
theorem dX7_count_167 : decode cX7_count 167 = .ok (.getfield 19, 3) := by decide +kernel
theorem dX7_count_170 : decode cX7_count 170 = .ok (.getfield 89, 3) := by decide +kernel
theorem dX7_count_173 : decode cX7_count 173 = .ok (.ireturn, 1) := by decide +kernel
theorem dX7_count_174 : decode cX7_count 174 = .ok (.iconst (-1), 1) := by decide +kernel
theorem dX7_count_175 : decode cX7_count 175 = .ok (.ireturn, 1) := by decide +kernel
theorem dX7_begin_0 : decode cX7_begin 0 = .ok (.aload_n 0, 1) := by decide +kernel
theorem dX7_begin_1 : decode cX7_begin 1 = .ok (.getfield 19, 3) := by decide +kernel
theorem dX7_begin_4 : decode cX7_begin 4 = .ok (.invokevirtual 91, 3) := by decide +kernel
theorem dX7_begin_7 : decode cX7_begin 7 = .ok (.bipush (-4), 2) := by decide +kernel
theorem dX7_begin_9 : decode cX7_begin 9 = .ok (.if_icmp .ne 17, 3) := by decide +kernel
theorem dX7_begin_12 : decode cX7_begin 12 = .ok (.aload_n 0, 1) := by decide +kernel
theorem dX7_begin_13 : decode cX7_begin 13 = .ok (.getfield 19, 3) := by decide +kernel
theorem dX7_begin_16 : decode cX7_begin 16 = .ok (.getfield 241, 3) := by decide +kernel
theorem dX7_begin_19 : decode cX7_begin 19 = .ok (.getfield 94, 3) := by decide +kernel
theorem dX7_begin_22 : decode cX7_begin 22 = .ok (.iconst 1, 1) := by decide +kernel
theorem dX7_begin_23 : decode cX7_begin 23 = .ok (.if_icmp .ge 5, 3) := by decide +kernel
theorem dX7_begin_26 : decode cX7_begin 26 = .ok (.iconst 0, 1) := by decide +kernel
theorem dX7_begin_27 : decode cX7_begin 27 = .ok (.ireturn, 1) := by decide +kernel
theorem dX7_begin_28 : decode cX7_begin 28 = .ok (.aload_n 0, 1) := by decide +kernel
theorem dX7_begin_29 : decode cX7_begin 29 = .ok (.getfield 10, 3) := by decide +kernel
theorem dX7_begin_32 : decode cX7_begin 32 = .ok (.aload_n 0, 1) := by decide +kernel
theorem dX7_begin_33 : decode cX7_begin 33 = .ok (.getfield 19, 3) := by decide +kernel
theorem dX7_begin_36 : decode cX7_begin 36 = .ok (.getfield 241, 3) := by decide +kernel
theorem dX7_begin_39 : decode cX7_begin 39 = .ok (.invokevirtual 242, 3) := by decide +kernel
theorem dX7_begin_42 : decode cX7_begin 42 = .ok (.aload_n 0, 1) := by decide +kernel
theorem dX7_begin_43 : decode cX7_begin 43 = .ok (.getfield 28, 3) := by decide +kernel
theorem dX7_begin_46 : decode cX7_begin 46 = .ok (.aload_n 0, 1) := by decide +kernel
theorem dX7_begin_47 : decode cX7_begin 47 = .ok (.getfield 19, 3) := by decide +kernel
theorem dX7_begin_50 : decode cX7_begin 50 = .ok (.getfield 244, 3) := by decide +kernel
theorem dX7_begin_53 : decode cX7_begin 53 = .ok (.invokevirtual 162, 3) := by decide +kernel
theorem dX7_begin_56 : decode cX7_begin 56 = .ok (.aload_n 0, 1) := by decide +kernel
theorem dX7_begin_57 : decode cX7_begin 57 = .ok (.getfield 38, 3) := by decide +kernel
theorem dX7_begin_60 : decode cX7_begin 60 = .ok (.iconst 0, 1) := by decide +kernel
theorem dX7_begin_61 : decode cX7_begin 61 = .ok (.putfield 155, 3) := by decide +kernel
theorem dX7_begin_64 : decode cX7_begin 64 = .ok (.aload_n 0, 1) := by decide +kernel
theorem dX7_begin_65 : decode cX7_begin 65 = .ok (.iconst 0, 1) := by decide +kernel
theorem dX7_begin_66 : decode cX7_begin 66 = .ok (.putfield 65, 3) := by decide +kernel
theorem dX7_begin_69 : decode cX7_begin 69 = .ok (.iconst 1, 1) := by decide +kernel
theorem dX7_begin_70 : decode cX7_begin 70 = .ok (.ireturn, 1) := by decide +kernel
theorem dX7_isWay_0 : decode cX7_isWay 0 = .ok (.iload_n 0, 1) := by decide +kernel
theorem dX7_isWay_1 : decode cX7_isWay 1 = .ok (.ifCond .lt 12, 3) := by decide +kernel
theorem dX7_isWay_4 : decode cX7_isWay 4 = .ok (.iload_n 0, 1) := by decide +kernel
theorem dX7_isWay_5 : decode cX7_isWay 5 = .ok (.iconst 4, 1) := by decide +kernel
theorem dX7_isWay_6 : decode cX7_isWay 6 = .ok (.if_icmp .ge 7, 3) := by decide +kernel
theorem dX7_isWay_9 : decode cX7_isWay 9 = .ok (.iconst 1, 1) := by decide +kernel
theorem dX7_isWay_10 : decode cX7_isWay 10 = .ok (.goto 4, 3) := by decide +kernel
theorem dX7_isWay_13 : decode cX7_isWay 13 = .ok (.iconst 0, 1) := by decide +kernel
theorem dX7_isWay_14 : decode cX7_isWay 14 = .ok (.ireturn, 1) := by decide +kernel
theorem dX7_isVillage_0 : decode cX7_isVillage 0 = .ok (.iload_n 0, 1) := by decide +kernel
theorem dX7_isVillage_1 : decode cX7_isVillage 1 = .ok (.ifCond .eq 8, 3) := by decide +kernel
theorem dX7_isVillage_4 : decode cX7_isVillage 4 = .ok (.iload_n 0, 1) := by decide +kernel
theorem dX7_isVillage_5 : decode cX7_isVillage 5 = .ok (.iconst 1, 1) := by decide +kernel
theorem dX7_isVillage_6 : decode cX7_isVillage 6 = .ok (.if_icmp .ne 7, 3) := by decide +kernel
theorem dX7_isVillage_9 : decode cX7_isVillage 9 = .ok (.iconst 1, 1) := by decide +kernel
theorem dX7_isVillage_10 : decode cX7_isVillage 10 = .ok (.goto 4, 3) := by decide +kernel
theorem dX7_isVillage_13 : decode cX7_isVillage 13 = .ok (.iconst 0, 1) := by decide +kernel
theorem dX7_isVillage_14 : decode cX7_isVillage 14 = .ok (.ireturn, 1) := by decide +kernel
theorem dX7_draw_0 : decode cX7_draw 0 = .ok (.ldc2_w 247, 3) := by decide +kernel
theorem dX7_draw_3 : decode cX7_draw 3 = .ok (.iload_n 0, 1) := by decide +kernel
theorem dX7_draw_4 : decode cX7_draw 4 = .ok (.i2l, 1) := by decide +kernel
theorem dX7_draw_5 : decode cX7_draw 5 = .ok (.lmul, 1) := by decide +kernel
theorem dX7_draw_6 : decode cX7_draw 6 = .ok (.ldc2_w 249, 3) := by decide +kernel
theorem dX7_draw_9 : decode cX7_draw 9 = .ok (.iload_n 1, 1) := by decide +kernel
theorem dX7_draw_10 : decode cX7_draw 10 = .ok (.i2l, 1) := by decide +kernel
theorem dX7_draw_11 : decode cX7_draw 11 = .ok (.lmul, 1) := by decide +kernel
theorem dX7_draw_12 : decode cX7_draw 12 = .ok (.ladd, 1) := by decide +kernel
theorem dX7_draw_13 : decode cX7_draw 13 = .ok (.lconst 1, 1) := by decide +kernel
theorem dX7_draw_14 : decode cX7_draw 14 = .ok (.ladd, 1) := by decide +kernel
theorem dX7_draw_15 : decode cX7_draw 15 = .ok (.lstore_n 2, 1) := by decide +kernel
theorem dX7_draw_16 : decode cX7_draw 16 = .ok (.lload_n 2, 1) := by decide +kernel
theorem dX7_draw_17 : decode cX7_draw 17 = .ok (.lload_n 2, 1) := by decide +kernel
theorem dX7_draw_18 : decode cX7_draw 18 = .ok (.lmul, 1) := by decide +kernel
theorem dX7_draw_19 : decode cX7_draw 19 = .ok (.ldc2_w 251, 3) := by decide +kernel
theorem dX7_draw_22 : decode cX7_draw 22 = .ok (.lrem, 1) := by decide +kernel
theorem dX7_draw_23 : decode cX7_draw 23 = .ok (.l2i, 1) := by decide +kernel
theorem dX7_draw_24 : decode cX7_draw 24 = .ok (.ireturn, 1) := by decide +kernel
theorem dX7_commonPart_0 : decode cX7_commonPart 0 = .ok (.lload_n 0, 1) := by decide +kernel
theorem dX7_commonPart_1 : decode cX7_commonPart 1 = .ok (.lstore 4, 2) := by decide +kernel
theorem dX7_commonPart_3 : decode cX7_commonPart 3 = .ok (.lload_n 2, 1) := by decide +kernel
theorem dX7_commonPart_4 : decode cX7_commonPart 4 = .ok (.lstore 6, 2) := by decide +kernel
theorem dX7_commonPart_6 : decode cX7_commonPart 6 = .ok (.iconst 0, 1) := by decide +kernel
theorem dX7_commonPart_7 : decode cX7_commonPart 7 = .ok (.istore 8, 2) := by decide +kernel
theorem dX7_commonPart_9 : decode cX7_commonPart 9 = .ok (.iload 8, 2) := by decide +kernel
theorem dX7_commonPart_11 : decode cX7_commonPart 11 = .ok (.bipush 100, 2) := by decide +kernel
theorem dX7_commonPart_13 : decode cX7_commonPart 13 = .ok (.if_icmp .ge 31, 3) := by decide +kernel
theorem dX7_commonPart_16 : decode cX7_commonPart 16 = .ok (.lload 6, 2) := by decide +kernel
theorem dX7_commonPart_18 : decode cX7_commonPart 18 = .ok (.lconst 0, 1) := by decide +kernel
theorem dX7_commonPart_19 : decode cX7_commonPart 19 = .ok (.lcmp, 1) := by decide +kernel
theorem dX7_commonPart_20 : decode cX7_commonPart 20 = .ok (.ifCond .eq 24, 3) := by decide +kernel
theorem dX7_commonPart_23 : decode cX7_commonPart 23 = .ok (.lload 4, 2) := by decide +kernel
theorem dX7_commonPart_25 : decode cX7_commonPart 25 = .ok (.lload 6, 2) := by decide +kernel
theorem dX7_commonPart_27 : decode cX7_commonPart 27 = .ok (.lrem, 1) := by decide +kernel
theorem dX7_commonPart_28 : decode cX7_commonPart 28 = .ok (.lstore 9, 2) := by decide +kernel
theorem dX7_commonPart_30 : decode cX7_commonPart 30 = .ok (.lload 6, 2) := by decide +kernel
theorem dX7_commonPart_32 : decode cX7_commonPart 32 = .ok (.lstore 4, 2) := by decide +kernel
theorem dX7_commonPart_34 : decode cX7_commonPart 34 = .ok (.lload 9, 2) := by decide +kernel
theorem dX7_commonPart_36 : decode cX7_commonPart 36 = .ok (.lstore 6, 2) := by decide +kernel
theorem dX7_commonPart_38 : decode cX7_commonPart 38 = .ok (.iinc 8 1, 3) := by decide +kernel
theorem dX7_commonPart_41 : decode cX7_commonPart 41 = .ok (.goto (-32), 3) := by decide +kernel
theorem dX7_commonPart_44 : decode cX7_commonPart 44 = .ok (.lload 4, 2) := by decide +kernel
theorem dX7_commonPart_46 : decode cX7_commonPart 46 = .ok (.lreturn, 1) := by decide +kernel
