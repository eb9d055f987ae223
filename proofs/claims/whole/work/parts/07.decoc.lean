theorem dX0_init_0 : decode cX0_init 0 = .ok (.aload_n 0, 1) := by decide +kernel
theorem dX0_init_1 : decode cX0_init 1 = .ok (.invokespecial 3, 3) := by decide +kernel
theorem dX0_init_4 : decode cX0_init 4 = .ok (.aload_n 0, 1) := by decide +kernel
theorem dX0_init_5 : decode cX0_init 5 = .ok (.bipush 8, 2) := by decide +kernel
theorem dX0_init_7 : decode cX0_init 7 = .ok (.newarray .int, 2) := by decide +kernel
theorem dX0_init_9 : decode cX0_init 9 = .ok (.putfield 9, 3) := by decide +kernel
theorem dX0_init_12 : decode cX0_init 12 = .ok (.aload_n 0, 1) := by decide +kernel
theorem dX0_init_13 : decode cX0_init 13 = .ok (.bipush 8, 2) := by decide +kernel
theorem dX0_init_15 : decode cX0_init 15 = .ok (.newarray .long, 2) := by decide +kernel
theorem dX0_init_17 : decode cX0_init 17 = .ok (.putfield 15, 3) := by decide +kernel
theorem dX0_init_20 : decode cX0_init 20 = .ok (.aload_n 0, 1) := by decide +kernel
theorem dX0_init_21 : decode cX0_init 21 = .ok (.bipush 8, 2) := by decide +kernel
theorem dX0_init_23 : decode cX0_init 23 = .ok (.newarray .int, 2) := by decide +kernel
theorem dX0_init_25 : decode cX0_init 25 = .ok (.putfield 19, 3) := by decide +kernel
theorem dX0_init_28 : decode cX0_init 28 = .ok (.return_, 1) := by decide +kernel
theorem dX0_choose_0 : decode cX0_choose 0 = .ok (.aload_n 0, 1) := by decide +kernel
theorem dX0_choose_1 : decode cX0_choose 1 = .ok (.iload_n 2, 1) := by decide +kernel
theorem dX0_choose_2 : decode cX0_choose 2 = .ok (.putfield 22, 3) := by decide +kernel
theorem dX0_choose_5 : decode cX0_choose 5 = .ok (.iconst 0, 1) := by decide +kernel
theorem dX0_choose_6 : decode cX0_choose 6 = .ok (.istore_n 3, 1) := by decide +kernel
theorem dX0_choose_7 : decode cX0_choose 7 = .ok (.iload_n 3, 1) := by decide +kernel
theorem dX0_choose_8 : decode cX0_choose 8 = .ok (.bipush 8, 2) := by decide +kernel
theorem dX0_choose_10 : decode cX0_choose 10 = .ok (.if_icmp .ge 28, 3) := by decide +kernel
theorem dX0_choose_13 : decode cX0_choose 13 = .ok (.aload_n 0, 1) := by decide +kernel
theorem dX0_choose_14 : decode cX0_choose 14 = .ok (.getfield 15, 3) := by decide +kernel
theorem dX0_choose_17 : decode cX0_choose 17 = .ok (.iload_n 3, 1) := by decide +kernel
theorem dX0_choose_18 : decode cX0_choose 18 = .ok (.aload_n 1, 1) := by decide +kernel
theorem dX0_choose_19 : decode cX0_choose 19 = .ok (.iload_n 3, 1) := by decide +kernel
theorem dX0_choose_20 : decode cX0_choose 20 = .ok (.invokevirtual 26, 3) := by decide +kernel
theorem dX0_choose_23 : decode cX0_choose 23 = .ok (.lastore, 1) := by decide +kernel
theorem dX0_choose_24 : decode cX0_choose 24 = .ok (.aload_n 0, 1) := by decide +kernel
theorem dX0_choose_25 : decode cX0_choose 25 = .ok (.getfield 9, 3) := by decide +kernel
theorem dX0_choose_28 : decode cX0_choose 28 = .ok (.iload_n 3, 1) := by decide +kernel
theorem dX0_choose_29 : decode cX0_choose 29 = .ok (.bipush (-6), 2) := by decide +kernel
theorem dX0_choose_31 : decode cX0_choose 31 = .ok (.iastore, 1) := by decide +kernel
theorem dX0_choose_32 : decode cX0_choose 32 = .ok (.iinc 3 1, 3) := by decide +kernel
theorem dX0_choose_35 : decode cX0_choose 35 = .ok (.goto (-28), 3) := by decide +kernel
theorem dX0_choose_38 : decode cX0_choose 38 = .ok (.iconst 0, 1) := by decide +kernel
theorem dX0_choose_39 : decode cX0_choose 39 = .ok (.istore_n 3, 1) := by decide +kernel
theorem dX0_choose_40 : decode cX0_choose 40 = .ok (.iload_n 3, 1) := by decide +kernel
theorem dX0_choose_41 : decode cX0_choose 41 = .ok (.bipush 8, 2) := by decide +kernel
theorem dX0_choose_43 : decode cX0_choose 43 = .ok (.if_icmp .ge 25, 3) := by decide +kernel
theorem dX0_choose_46 : decode cX0_choose 46 = .ok (.aload_n 0, 1) := by decide +kernel
theorem dX0_choose_47 : decode cX0_choose 47 = .ok (.getfield 19, 3) := by decide +kernel
theorem dX0_choose_50 : decode cX0_choose 50 = .ok (.iload_n 3, 1) := by decide +kernel
theorem dX0_choose_51 : decode cX0_choose 51 = .ok (.aload_n 0, 1) := by decide +kernel
theorem dX0_choose_52 : decode cX0_choose 52 = .ok (.aload_n 0, 1) := by decide +kernel
theorem dX0_choose_53 : decode cX0_choose 53 = .ok (.getfield 15, 3) := by decide +kernel
theorem dX0_choose_56 : decode cX0_choose 56 = .ok (.iload_n 3, 1) := by decide +kernel
theorem dX0_choose_57 : decode cX0_choose 57 = .ok (.laload, 1) := by decide +kernel
theorem dX0_choose_58 : decode cX0_choose 58 = .ok (.invokevirtual 31, 3) := by decide +kernel
theorem dX0_choose_61 : decode cX0_choose 61 = .ok (.iastore, 1) := by decide +kernel
theorem dX0_choose_62 : decode cX0_choose 62 = .ok (.iinc 3 1, 3) := by decide +kernel
theorem dX0_choose_65 : decode cX0_choose 65 = .ok (.goto (-25), 3) := by decide +kernel
theorem dX0_choose_68 : decode cX0_choose 68 = .ok (.iconst 0, 1) := by decide +kernel
theorem dX0_choose_69 : decode cX0_choose 69 = .ok (.istore_n 3, 1) := by decide +kernel
theorem dX0_choose_70 : decode cX0_choose 70 = .ok (.iconst 0, 1) := by decide +kernel
theorem dX0_choose_71 : decode cX0_choose 71 = .ok (.istore 4, 2) := by decide +kernel
theorem dX0_choose_73 : decode cX0_choose 73 = .ok (.iload 4, 2) := by decide +kernel
theorem dX0_choose_75 : decode cX0_choose 75 = .ok (.bipush 8, 2) := by decide +kernel
theorem dX0_choose_77 : decode cX0_choose 77 = .ok (.if_icmp .gt 26, 3) := by decide +kernel
theorem dX0_choose_80 : decode cX0_choose 80 = .ok (.iload_n 3, 1) := by decide +kernel
theorem dX0_choose_81 : decode cX0_choose 81 = .ok (.ifCond .ne 22, 3) := by decide +kernel
theorem dX0_choose_84 : decode cX0_choose 84 = .ok (.aload_n 0, 1) := by decide +kernel
theorem dX0_choose_85 : decode cX0_choose 85 = .ok (.iload 4, 2) := by decide +kernel
theorem dX0_choose_87 : decode cX0_choose 87 = .ok (.putfield 35, 3) := by decide +kernel
theorem dX0_choose_90 : decode cX0_choose 90 = .ok (.aload_n 0, 1) := by decide +kernel
theorem dX0_choose_91 : decode cX0_choose 91 = .ok (.iconst 0, 1) := by decide +kernel
theorem dX0_choose_92 : decode cX0_choose 92 = .ok (.iconst 0, 1) := by decide +kernel
theorem dX0_choose_93 : decode cX0_choose 93 = .ok (.invokestatic 38, 3) := by decide +kernel
theorem dX0_choose_96 : decode cX0_choose 96 = .ok (.istore_n 3, 1) := by decide +kernel
theorem dX0_choose_97 : decode cX0_choose 97 = .ok (.iinc 4 1, 3) := by decide +kernel
theorem dX0_choose_100 : decode cX0_choose 100 = .ok (.goto (-27), 3) := by decide +kernel
theorem dX0_choose_103 : decode cX0_choose 103 = .ok (.return_, 1) := by decide +kernel
theorem dX0_clashesOf_0 : decode cX0_clashesOf 0 = .ok (.lload_n 1, 1) := by decide +kernel
theorem dX0_clashesOf_1 : decode cX0_clashesOf 1 = .ok (.lstore_n 3, 1) := by decide +kernel
theorem dX0_clashesOf_2 : decode cX0_clashesOf 2 = .ok (.iconst 1, 1) := by decide +kernel
theorem dX0_clashesOf_3 : decode cX0_clashesOf 3 = .ok (.istore 5, 2) := by decide +kernel
theorem dX0_clashesOf_5 : decode cX0_clashesOf 5 = .ok (.iload 5, 2) := by decide +kernel
theorem dX0_clashesOf_7 : decode cX0_clashesOf 7 = .ok (.aload_n 0, 1) := by decide +kernel
theorem dX0_clashesOf_8 : decode cX0_clashesOf 8 = .ok (.getfield 22, 3) := by decide +kernel
theorem dX0_clashesOf_11 : decode cX0_clashesOf 11 = .ok (.if_icmp .gt 21, 3) := by decide +kernel
theorem dX0_clashesOf_14 : decode cX0_clashesOf 14 = .ok (.lload_n 3, 1) := by decide +kernel
theorem dX0_clashesOf_15 : decode cX0_clashesOf 15 = .ok (.lload_n 1, 1) := by decide +kernel
theorem dX0_clashesOf_16 : decode cX0_clashesOf 16 = .ok (.iload 5, 2) := by decide +kernel
theorem dX0_clashesOf_18 : decode cX0_clashesOf 18 = .ok (.lshl, 1) := by decide +kernel
theorem dX0_clashesOf_19 : decode cX0_clashesOf 19 = .ok (.lload_n 1, 1) := by decide +kernel
theorem dX0_clashesOf_20 : decode cX0_clashesOf 20 = .ok (.iload 5, 2) := by decide +kernel
theorem dX0_clashesOf_22 : decode cX0_clashesOf 22 = .ok (.lushr, 1) := by decide +kernel
theorem dX0_clashesOf_23 : decode cX0_clashesOf 23 = .ok (.lor, 1) := by decide +kernel
theorem dX0_clashesOf_24 : decode cX0_clashesOf 24 = .ok (.lor, 1) := by decide +kernel
theorem dX0_clashesOf_25 : decode cX0_clashesOf 25 = .ok (.lstore_n 3, 1) := by decide +kernel
theorem dX0_clashesOf_26 : decode cX0_clashesOf 26 = .ok (.iinc 5 1, 3) := by decide +kernel
theorem dX0_clashesOf_29 : decode cX0_clashesOf 29 = .ok (.goto (-24), 3) := by decide +kernel
theorem dX0_clashesOf_32 : decode cX0_clashesOf 32 = .ok (.iconst 0, 1) := by decide +kernel
theorem dX0_clashesOf_33 : decode cX0_clashesOf 33 = .ok (.istore 5, 2) := by decide +kernel
theorem dX0_clashesOf_35 : decode cX0_clashesOf 35 = .ok (.iconst 0, 1) := by decide +kernel
theorem dX0_clashesOf_36 : decode cX0_clashesOf 36 = .ok (.istore 6, 2) := by decide +kernel
theorem dX0_clashesOf_38 : decode cX0_clashesOf 38 = .ok (.iload 6, 2) := by decide +kernel
theorem dX0_clashesOf_40 : decode cX0_clashesOf 40 = .ok (.bipush 8, 2) := by decide +kernel
theorem dX0_clashesOf_42 : decode cX0_clashesOf 42 = .ok (.if_icmp .ge 32, 3) := by decide +kernel
theorem dX0_clashesOf_45 : decode cX0_clashesOf 45 = .ok (.lload_n 3, 1) := by decide +kernel
theorem dX0_clashesOf_46 : decode cX0_clashesOf 46 = .ok (.aload_n 0, 1) := by decide +kernel
theorem dX0_clashesOf_47 : decode cX0_clashesOf 47 = .ok (.getfield 15, 3) := by decide +kernel
theorem dX0_clashesOf_50 : decode cX0_clashesOf 50 = .ok (.iload 6, 2) := by decide +kernel
theorem dX0_clashesOf_52 : decode cX0_clashesOf 52 = .ok (.laload, 1) := by decide +kernel
theorem dX0_clashesOf_53 : decode cX0_clashesOf 53 = .ok (.land, 1) := by decide +kernel
theorem dX0_clashesOf_54 : decode cX0_clashesOf 54 = .ok (.lconst 0, 1) := by decide +kernel
theorem dX0_clashesOf_55 : decode cX0_clashesOf 55 = .ok (.lcmp, 1) := by decide +kernel
theorem dX0_clashesOf_56 : decode cX0_clashesOf 56 = .ok (.ifCond .eq 12, 3) := by decide +kernel
theorem dX0_clashesOf_59 : decode cX0_clashesOf 59 = .ok (.iload 5, 2) := by decide +kernel
theorem dX0_clashesOf_61 : decode cX0_clashesOf 61 = .ok (.iconst 1, 1) := by decide +kernel
theorem dX0_clashesOf_62 : decode cX0_clashesOf 62 = .ok (.iload 6, 2) := by decide +kernel
theorem dX0_clashesOf_64 : decode cX0_clashesOf 64 = .ok (.ishl, 1) := by decide +kernel
theorem dX0_clashesOf_65 : decode cX0_clashesOf 65 = .ok (.ior, 1) := by decide +kernel
theorem dX0_clashesOf_66 : decode cX0_clashesOf 66 = .ok (.istore 5, 2) := by decide +kernel
theorem dX0_clashesOf_68 : decode cX0_clashesOf 68 = .ok (.iinc 6 1, 3) := by decide +kernel
theorem dX0_clashesOf_71 : decode cX0_clashesOf 71 = .ok (.goto (-33), 3) := by decide +kernel
theorem dX0_clashesOf_74 : decode cX0_clashesOf 74 = .ok (.iload 5, 2) := by decide +kernel
theorem dX0_clashesOf_76 : decode cX0_clashesOf 76 = .ok (.ireturn, 1) := by decide +kernel
theorem dX0_isCast_0 : decode cX0_isCast 0 = .ok (.iload_n 1, 1) := by decide +kernel
theorem dX0_isCast_1 : decode cX0_isCast 1 = .ok (.bipush 8, 2) := by decide +kernel
theorem dX0_isCast_3 : decode cX0_isCast 3 = .ok (.if_icmp .lt 5, 3) := by decide +kernel
theorem dX0_isCast_6 : decode cX0_isCast 6 = .ok (.iconst 1, 1) := by decide +kernel
theorem dX0_isCast_7 : decode cX0_isCast 7 = .ok (.ireturn, 1) := by decide +kernel
theorem dX0_isCast_8 : decode cX0_isCast 8 = .ok (.aload_n 0, 1) := by decide +kernel
theorem dX0_isCast_9 : decode cX0_isCast 9 = .ok (.getfield 15, 3) := by decide +kernel
theorem dX0_isCast_12 : decode cX0_isCast 12 = .ok (.iload_n 1, 1) := by decide +kernel
theorem dX0_isCast_13 : decode cX0_isCast 13 = .ok (.laload, 1) := by decide +kernel
theorem dX0_isCast_14 : decode cX0_isCast 14 = .ok (.lconst 0, 1) := by decide +kernel
theorem dX0_isCast_15 : decode cX0_isCast 15 = .ok (.lcmp, 1) := by decide +kernel
theorem dX0_isCast_16 : decode cX0_isCast 16 = .ok (.ifCond .ne 12, 3) := by decide +kernel
theorem dX0_isCast_19 : decode cX0_isCast 19 = .ok (.aload_n 0, 1) := by decide +kernel
theorem dX0_isCast_20 : decode cX0_isCast 20 = .ok (.iload_n 1, 1) := by decide +kernel
theorem dX0_isCast_21 : decode cX0_isCast 21 = .ok (.iconst 1, 1) := by decide +kernel
theorem dX0_isCast_22 : decode cX0_isCast 22 = .ok (.iadd, 1) := by decide +kernel
theorem dX0_isCast_23 : decode cX0_isCast 23 = .ok (.iload_n 2, 1) := by decide +kernel
theorem dX0_isCast_24 : decode cX0_isCast 24 = .ok (.invokestatic 38, 3) := by decide +kernel
theorem dX0_isCast_27 : decode cX0_isCast 27 = .ok (.ireturn, 1) := by decide +kernel
theorem dX0_isCast_28 : decode cX0_isCast 28 = .ok (.iconst 0, 1) := by decide +kernel
theorem dX0_isCast_29 : decode cX0_isCast 29 = .ok (.istore_n 3, 1) := by decide +kernel
theorem dX0_isCast_30 : decode cX0_isCast 30 = .ok (.iload_n 3, 1) := by decide +kernel
theorem dX0_isCast_31 : decode cX0_isCast 31 = .ok (.iload_n 2, 1) := by decide +kernel
theorem dX0_isCast_32 : decode cX0_isCast 32 = .ok (.if_icmp .gt 66, 3) := by decide +kernel
theorem dX0_isCast_35 : decode cX0_isCast 35 = .ok (.iload_n 3, 1) := by decide +kernel
theorem dX0_isCast_36 : decode cX0_isCast 36 = .ok (.aload_n 0, 1) := by decide +kernel
theorem dX0_isCast_37 : decode cX0_isCast 37 = .ok (.getfield 35, 3) := by decide +kernel
theorem dX0_isCast_40 : decode cX0_isCast 40 = .ok (.if_icmp .ge 58, 3) := by decide +kernel
theorem dX0_isCast_43 : decode cX0_isCast 43 = .ok (.aload_n 0, 1) := by decide +kernel
theorem dX0_isCast_44 : decode cX0_isCast 44 = .ok (.getfield 19, 3) := by decide +kernel
theorem dX0_isCast_47 : decode cX0_isCast 47 = .ok (.iload_n 1, 1) := by decide +kernel
theorem dX0_isCast_48 : decode cX0_isCast 48 = .ok (.iaload, 1) := by decide +kernel
theorem dX0_isCast_49 : decode cX0_isCast 49 = .ok (.aload_n 0, 1) := by decide +kernel
theorem dX0_isCast_50 : decode cX0_isCast 50 = .ok (.iload_n 3, 1) := by decide +kernel
theorem dX0_isCast_51 : decode cX0_isCast 51 = .ok (.invokevirtual 42, 3) := by decide +kernel
theorem dX0_isCast_54 : decode cX0_isCast 54 = .ok (.iand, 1) := by decide +kernel
theorem dX0_isCast_55 : decode cX0_isCast 55 = .ok (.ifCond .ne 37, 3) := by decide +kernel
theorem dX0_isCast_58 : decode cX0_isCast 58 = .ok (.aload_n 0, 1) := by decide +kernel
theorem dX0_isCast_59 : decode cX0_isCast 59 = .ok (.getfield 9, 3) := by decide +kernel
theorem dX0_isCast_62 : decode cX0_isCast 62 = .ok (.iload_n 1, 1) := by decide +kernel
theorem dX0_isCast_63 : decode cX0_isCast 63 = .ok (.iload_n 3, 1) := by decide +kernel
theorem dX0_isCast_64 : decode cX0_isCast 64 = .ok (.iastore, 1) := by decide +kernel
theorem dX0_isCast_65 : decode cX0_isCast 65 = .ok (.aload_n 0, 1) := by decide +kernel
theorem dX0_isCast_66 : decode cX0_isCast 66 = .ok (.iload_n 1, 1) := by decide +kernel
theorem dX0_isCast_67 : decode cX0_isCast 67 = .ok (.iconst 1, 1) := by decide +kernel
theorem dX0_isCast_68 : decode cX0_isCast 68 = .ok (.iadd, 1) := by decide +kernel
theorem dX0_isCast_69 : decode cX0_isCast 69 = .ok (.iload_n 2, 1) := by decide +kernel
theorem dX0_isCast_70 : decode cX0_isCast 70 = .ok (.iload_n 3, 1) := by decide +kernel
theorem dX0_isCast_71 : decode cX0_isCast 71 = .ok (.iconst 1, 1) := by decide +kernel
theorem dX0_isCast_72 : decode cX0_isCast 72 = .ok (.iadd, 1) := by decide +kernel
theorem dX0_isCast_73 : decode cX0_isCast 73 = .ok (.invokestatic 46, 3) := by decide +kernel
theorem dX0_isCast_76 : decode cX0_isCast 76 = .ok (.invokestatic 38, 3) := by decide +kernel
theorem dX0_isCast_79 : decode cX0_isCast 79 = .ok (.ifCond .eq 5, 3) := by decide +kernel
theorem dX0_isCast_82 : decode cX0_isCast 82 = .ok (.iconst 1, 1) := by decide +kernel
theorem dX0_isCast_83 : decode cX0_isCast 83 = .ok (.ireturn, 1) := by decide +kernel
theorem dX0_isCast_84 : decode cX0_isCast 84 = .ok (.aload_n 0, 1) := by decide +kernel
theorem dX0_isCast_85 : decode cX0_isCast 85 = .ok (.getfield 9, 3) := by decide +kernel
theorem dX0_isCast_88 : decode cX0_isCast 88 = .ok (.iload_n 1, 1) := by decide +kernel
theorem dX0_isCast_89 : decode cX0_isCast 89 = .ok (.bipush (-6), 2) := by decide +kernel
theorem dX0_isCast_91 : decode cX0_isCast 91 = .ok (.iastore, 1) := by decide +kernel
theorem dX0_isCast_92 : decode cX0_isCast 92 = .ok (.iinc 3 1, 3) := by decide +kernel
theorem dX0_isCast_95 : decode cX0_isCast 95 = .ok (.goto (-65), 3) := by decide +kernel
theorem dX0_isCast_98 : decode cX0_isCast 98 = .ok (.iconst 0, 1) := by decide +kernel
theorem dX0_isCast_99 : decode cX0_isCast 99 = .ok (.ireturn, 1) := by decide +kernel
theorem dX0_partsOf_0 : decode cX0_partsOf 0 = .ok (.iconst 0, 1) := by decide +kernel
theorem dX0_partsOf_1 : decode cX0_partsOf 1 = .ok (.istore_n 2, 1) := by decide +kernel
theorem dX0_partsOf_2 : decode cX0_partsOf 2 = .ok (.iconst 0, 1) := by decide +kernel
theorem dX0_partsOf_3 : decode cX0_partsOf 3 = .ok (.istore_n 3, 1) := by decide +kernel
theorem dX0_partsOf_4 : decode cX0_partsOf 4 = .ok (.iload_n 3, 1) := by decide +kernel
theorem dX0_partsOf_5 : decode cX0_partsOf 5 = .ok (.bipush 8, 2) := by decide +kernel
theorem dX0_partsOf_7 : decode cX0_partsOf 7 = .ok (.if_icmp .ge 25, 3) := by decide +kernel
theorem dX0_partsOf_10 : decode cX0_partsOf 10 = .ok (.aload_n 0, 1) := by decide +kernel
theorem dX0_partsOf_11 : decode cX0_partsOf 11 = .ok (.getfield 9, 3) := by decide +kernel
theorem dX0_partsOf_14 : decode cX0_partsOf 14 = .ok (.iload_n 3, 1) := by decide +kernel
theorem dX0_partsOf_15 : decode cX0_partsOf 15 = .ok (.iaload, 1) := by decide +kernel
theorem dX0_partsOf_16 : decode cX0_partsOf 16 = .ok (.iload_n 1, 1) := by decide +kernel
theorem dX0_partsOf_17 : decode cX0_partsOf 17 = .ok (.if_icmp .ne 9, 3) := by decide +kernel
theorem dX0_partsOf_20 : decode cX0_partsOf 20 = .ok (.iload_n 2, 1) := by decide +kernel
theorem dX0_partsOf_21 : decode cX0_partsOf 21 = .ok (.iconst 1, 1) := by decide +kernel
theorem dX0_partsOf_22 : decode cX0_partsOf 22 = .ok (.iload_n 3, 1) := by decide +kernel
theorem dX0_partsOf_23 : decode cX0_partsOf 23 = .ok (.ishl, 1) := by decide +kernel
theorem dX0_partsOf_24 : decode cX0_partsOf 24 = .ok (.ior, 1) := by decide +kernel
theorem dX0_partsOf_25 : decode cX0_partsOf 25 = .ok (.istore_n 2, 1) := by decide +kernel
theorem dX0_partsOf_26 : decode cX0_partsOf 26 = .ok (.iinc 3 1, 3) := by decide +kernel
theorem dX0_partsOf_29 : decode cX0_partsOf 29 = .ok (.goto (-25), 3) := by decide +kernel
theorem dX0_partsOf_32 : decode cX0_partsOf 32 = .ok (.iload_n 2, 1) := by decide +kernel
theorem dX0_partsOf_33 : decode cX0_partsOf 33 = .ok (.ireturn, 1) := by decide +kernel
theorem dX0_notTakenOver_0 : decode cX0_notTakenOver 0 = .ok (.iload_n 1, 1) := by decide +kernel
theorem dX0_notTakenOver_1 : decode cX0_notTakenOver 1 = .ok (.bipush (-6), 2) := by decide +kernel
theorem dX0_notTakenOver_3 : decode cX0_notTakenOver 3 = .ok (.if_icmp .ne 5, 3) := by decide +kernel
theorem dX0_notTakenOver_6 : decode cX0_notTakenOver 6 = .ok (.iconst 0, 1) := by decide +kernel
theorem dX0_notTakenOver_7 : decode cX0_notTakenOver 7 = .ok (.ireturn, 1) := by decide +kernel
theorem dX0_notTakenOver_8 : decode cX0_notTakenOver 8 = .ok (.iconst 0, 1) := by decide +kernel
theorem dX0_notTakenOver_9 : decode cX0_notTakenOver 9 = .ok (.istore_n 3, 1) := by decide +kernel
theorem dX0_notTakenOver_10 : decode cX0_notTakenOver 10 = .ok (.iconst 0, 1) := by decide +kernel
theorem dX0_notTakenOver_11 : decode cX0_notTakenOver 11 = .ok (.istore 4, 2) := by decide +kernel
theorem dX0_notTakenOver_13 : decode cX0_notTakenOver 13 = .ok (.iload 4, 2) := by decide +kernel
theorem dX0_notTakenOver_15 : decode cX0_notTakenOver 15 = .ok (.bipush 8, 2) := by decide +kernel
theorem dX0_notTakenOver_17 : decode cX0_notTakenOver 17 = .ok (.if_icmp .ge 53, 3) := by decide +kernel
theorem dX0_notTakenOver_20 : decode cX0_notTakenOver 20 = .ok (.aload_n 0, 1) := by decide +kernel
theorem dX0_notTakenOver_21 : decode cX0_notTakenOver 21 = .ok (.getfield 15, 3) := by decide +kernel
theorem dX0_notTakenOver_24 : decode cX0_notTakenOver 24 = .ok (.iload 4, 2) := by decide +kernel
theorem dX0_notTakenOver_26 : decode cX0_notTakenOver 26 = .ok (.laload, 1) := by decide +kernel
theorem dX0_notTakenOver_27 : decode cX0_notTakenOver 27 = .ok (.iload_n 2, 1) := by decide +kernel
theorem dX0_notTakenOver_28 : decode cX0_notTakenOver 28 = .ok (.lushr, 1) := by decide +kernel
theorem dX0_notTakenOver_29 : decode cX0_notTakenOver 29 = .ok (.iload_n 2, 1) := by decide +kernel
theorem dX0_notTakenOver_30 : decode cX0_notTakenOver 30 = .ok (.lshl, 1) := by decide +kernel
theorem dX0_notTakenOver_31 : decode cX0_notTakenOver 31 = .ok (.lstore 5, 2) := by decide +kernel
theorem dX0_notTakenOver_33 : decode cX0_notTakenOver 33 = .ok (.aload_n 0, 1) := by decide +kernel
theorem dX0_notTakenOver_34 : decode cX0_notTakenOver 34 = .ok (.getfield 9, 3) := by decide +kernel
theorem dX0_notTakenOver_37 : decode cX0_notTakenOver 37 = .ok (.iload 4, 2) := by decide +kernel
theorem dX0_notTakenOver_39 : decode cX0_notTakenOver 39 = .ok (.iaload, 1) := by decide +kernel
theorem dX0_notTakenOver_40 : decode cX0_notTakenOver 40 = .ok (.iload_n 1, 1) := by decide +kernel
theorem dX0_notTakenOver_41 : decode cX0_notTakenOver 41 = .ok (.if_icmp .ne 23, 3) := by decide +kernel
theorem dX0_notTakenOver_44 : decode cX0_notTakenOver 44 = .ok (.lload 5, 2) := by decide +kernel
theorem dX0_notTakenOver_46 : decode cX0_notTakenOver 46 = .ok (.lconst 0, 1) := by decide +kernel
theorem dX0_notTakenOver_47 : decode cX0_notTakenOver 47 = .ok (.lcmp, 1) := by decide +kernel
theorem dX0_notTakenOver_48 : decode cX0_notTakenOver 48 = .ok (.ifCond .eq 16, 3) := by decide +kernel
theorem dX0_notTakenOver_51 : decode cX0_notTakenOver 51 = .ok (.aload_n 0, 1) := by decide +kernel
theorem dX0_notTakenOver_52 : decode cX0_notTakenOver 52 = .ok (.lload 5, 2) := by decide +kernel
theorem dX0_notTakenOver_54 : decode cX0_notTakenOver 54 = .ok (.iload_n 1, 1) := by decide +kernel
theorem dX0_notTakenOver_55 : decode cX0_notTakenOver 55 = .ok (.invokevirtual 52, 3) := by decide +kernel
theorem dX0_notTakenOver_58 : decode cX0_notTakenOver 58 = .ok (.ifCond .ne 6, 3) := by decide +kernel
theorem dX0_notTakenOver_61 : decode cX0_notTakenOver 61 = .ok (.iinc 3 1, 3) := by decide +kernel
theorem dX0_notTakenOver_64 : decode cX0_notTakenOver 64 = .ok (.iinc 4 1, 3) := by decide +kernel
theorem dX0_notTakenOver_67 : decode cX0_notTakenOver 67 = .ok (.goto (-54), 3) := by decide +kernel
theorem dX0_notTakenOver_70 : decode cX0_notTakenOver 70 = .ok (.iload_n 3, 1) := by decide +kernel
theorem dX0_notTakenOver_71 : decode cX0_notTakenOver 71 = .ok (.ireturn, 1) := by decide +kernel
theorem dX0_canTakeOver_0 : decode cX0_canTakeOver 0 = .ok (.aload_n 0, 1) := by decide +kernel
theorem dX0_canTakeOver_1 : decode cX0_canTakeOver 1 = .ok (.lload_n 1, 1) := by decide +kernel
theorem dX0_canTakeOver_2 : decode cX0_canTakeOver 2 = .ok (.invokevirtual 31, 3) := by decide +kernel
theorem dX0_canTakeOver_5 : decode cX0_canTakeOver 5 = .ok (.istore 4, 2) := by decide +kernel
theorem dX0_canTakeOver_7 : decode cX0_canTakeOver 7 = .ok (.iconst 0, 1) := by decide +kernel
theorem dX0_canTakeOver_8 : decode cX0_canTakeOver 8 = .ok (.istore 5, 2) := by decide +kernel
theorem dX0_canTakeOver_10 : decode cX0_canTakeOver 10 = .ok (.iload 5, 2) := by decide +kernel
theorem dX0_canTakeOver_12 : decode cX0_canTakeOver 12 = .ok (.aload_n 0, 1) := by decide +kernel
theorem dX0_canTakeOver_13 : decode cX0_canTakeOver 13 = .ok (.getfield 35, 3) := by decide +kernel
theorem dX0_canTakeOver_16 : decode cX0_canTakeOver 16 = .ok (.if_icmp .ge 29, 3) := by decide +kernel
theorem dX0_canTakeOver_19 : decode cX0_canTakeOver 19 = .ok (.iload 5, 2) := by decide +kernel
theorem dX0_canTakeOver_21 : decode cX0_canTakeOver 21 = .ok (.iload_n 3, 1) := by decide +kernel
theorem dX0_canTakeOver_22 : decode cX0_canTakeOver 22 = .ok (.if_icmp .eq 17, 3) := by decide +kernel
theorem dX0_canTakeOver_25 : decode cX0_canTakeOver 25 = .ok (.iload 4, 2) := by decide +kernel
theorem dX0_canTakeOver_27 : decode cX0_canTakeOver 27 = .ok (.aload_n 0, 1) := by decide +kernel
theorem dX0_canTakeOver_28 : decode cX0_canTakeOver 28 = .ok (.iload 5, 2) := by decide +kernel
theorem dX0_canTakeOver_30 : decode cX0_canTakeOver 30 = .ok (.invokevirtual 42, 3) := by decide +kernel
theorem dX0_canTakeOver_33 : decode cX0_canTakeOver 33 = .ok (.iand, 1) := by decide +kernel
theorem dX0_canTakeOver_34 : decode cX0_canTakeOver 34 = .ok (.ifCond .ne 5, 3) := by decide +kernel
theorem dX0_canTakeOver_37 : decode cX0_canTakeOver 37 = .ok (.iconst 1, 1) := by decide +kernel
theorem dX0_canTakeOver_38 : decode cX0_canTakeOver 38 = .ok (.ireturn, 1) := by decide +kernel
theorem dX0_canTakeOver_39 : decode cX0_canTakeOver 39 = .ok (.iinc 5 1, 3) := by decide +kernel
theorem dX0_canTakeOver_42 : decode cX0_canTakeOver 42 = .ok (.goto (-32), 3) := by decide +kernel
theorem dX0_canTakeOver_45 : decode cX0_canTakeOver 45 = .ok (.iconst 0, 1) := by decide +kernel
theorem dX0_canTakeOver_46 : decode cX0_canTakeOver 46 = .ok (.ireturn, 1) := by decide +kernel
theorem dX1_init_0 : decode cX1_init 0 = .ok (.aload_n 0, 1) := by decide +kernel
theorem dX1_init_1 : decode cX1_init 1 = .ok (.invokespecial 3, 3) := by decide +kernel
theorem dX1_init_4 : decode cX1_init 4 = .ok (.aload_n 0, 1) := by decide +kernel
theorem dX1_init_5 : decode cX1_init 5 = .ok (.iconst 3, 1) := by decide +kernel
theorem dX1_init_6 : decode cX1_init 6 = .ok (.newarray .int, 2) := by decide +kernel
theorem dX1_init_8 : decode cX1_init 8 = .ok (.putfield 9, 3) := by decide +kernel
theorem dX1_init_11 : decode cX1_init 11 = .ok (.return_, 1) := by decide +kernel
theorem dX1_tryAll_0 : decode cX1_tryAll 0 = .ok (.aload_n 0, 1) := by decide +kernel
theorem dX1_tryAll_1 : decode cX1_tryAll 1 = .ok (.iconst 0, 1) := by decide +kernel
theorem dX1_tryAll_2 : decode cX1_tryAll 2 = .ok (.putfield 15, 3) := by decide +kernel
theorem dX1_tryAll_5 : decode cX1_tryAll 5 = .ok (.aload_n 0, 1) := by decide +kernel
theorem dX1_tryAll_6 : decode cX1_tryAll 6 = .ok (.bipush (-6), 2) := by decide +kernel
theorem dX1_tryAll_8 : decode cX1_tryAll 8 = .ok (.putfield 19, 3) := by decide +kernel
theorem dX1_tryAll_11 : decode cX1_tryAll 11 = .ok (.aload_n 0, 1) := by decide +kernel
theorem dX1_tryAll_12 : decode cX1_tryAll 12 = .ok (.getfield 9, 3) := by decide +kernel
theorem dX1_tryAll_15 : decode cX1_tryAll 15 = .ok (.iconst 0, 1) := by decide +kernel
theorem dX1_tryAll_16 : decode cX1_tryAll 16 = .ok (.invokestatic 22, 3) := by decide +kernel
theorem dX1_tryAll_19 : decode cX1_tryAll 19 = .ok (.aload_n 2, 1) := by decide +kernel
theorem dX1_tryAll_20 : decode cX1_tryAll 20 = .ok (.aload_n 1, 1) := by decide +kernel
theorem dX1_tryAll_21 : decode cX1_tryAll 21 = .ok (.invokevirtual 28, 3) := by decide +kernel
theorem dX1_tryAll_24 : decode cX1_tryAll 24 = .ok (.ifCond .ne 4, 3) := by decide +kernel
theorem dX1_tryAll_27 : decode cX1_tryAll 27 = .ok (.return_, 1) := by decide +kernel
theorem dX1_tryAll_28 : decode cX1_tryAll 28 = .ok (.iconst 1, 1) := by decide +kernel
theorem dX1_tryAll_29 : decode cX1_tryAll 29 = .ok (.iconst 3, 1) := by decide +kernel
theorem dX1_tryAll_30 : decode cX1_tryAll 30 = .ok (.aload_n 1, 1) := by decide +kernel
theorem dX1_tryAll_31 : decode cX1_tryAll 31 = .ok (.getfield 34, 3) := by decide +kernel
theorem dX1_tryAll_34 : decode cX1_tryAll 34 = .ok (.imul, 1) := by decide +kernel
theorem dX1_tryAll_35 : decode cX1_tryAll 35 = .ok (.ishl, 1) := by decide +kernel
theorem dX1_tryAll_36 : decode cX1_tryAll 36 = .ok (.istore_n 3, 1) := by decide +kernel
theorem dX1_tryAll_37 : decode cX1_tryAll 37 = .ok (.iconst 0, 1) := by decide +kernel
theorem dX1_tryAll_38 : decode cX1_tryAll 38 = .ok (.istore 4, 2) := by decide +kernel
theorem dX1_tryAll_40 : decode cX1_tryAll 40 = .ok (.iconst 0, 1) := by decide +kernel
theorem dX1_tryAll_41 : decode cX1_tryAll 41 = .ok (.istore 5, 2) := by decide +kernel
theorem dX1_tryAll_43 : decode cX1_tryAll 43 = .ok (.iload 5, 2) := by decide +kernel
theorem dX1_tryAll_45 : decode cX1_tryAll 45 = .ok (.iload_n 3, 1) := by decide +kernel
theorem dX1_tryAll_46 : decode cX1_tryAll 46 = .ok (.if_icmp .ge 56, 3) := by decide +kernel
theorem dX1_tryAll_49 : decode cX1_tryAll 49 = .ok (.iload 5, 2) := by decide +kernel
theorem dX1_tryAll_51 : decode cX1_tryAll 51 = .ok (.iload 4, 2) := by decide +kernel
theorem dX1_tryAll_53 : decode cX1_tryAll 53 = .ok (.if_icmp .lt 43, 3) := by decide +kernel
theorem dX1_tryAll_56 : decode cX1_tryAll 56 = .ok (.aload_n 1, 1) := by decide +kernel
theorem dX1_tryAll_57 : decode cX1_tryAll 57 = .ok (.iload 5, 2) := by decide +kernel
theorem dX1_tryAll_59 : decode cX1_tryAll 59 = .ok (.invokevirtual 39, 3) := by decide +kernel
theorem dX1_tryAll_62 : decode cX1_tryAll 62 = .ok (.aload_n 1, 1) := by decide +kernel
theorem dX1_tryAll_63 : decode cX1_tryAll 63 = .ok (.getfield 43, 3) := by decide +kernel
theorem dX1_tryAll_66 : decode cX1_tryAll 66 = .ok (.bipush (-6), 2) := by decide +kernel
theorem dX1_tryAll_68 : decode cX1_tryAll 68 = .ok (.if_icmp .ne 10, 3) := by decide +kernel
theorem dX1_tryAll_71 : decode cX1_tryAll 71 = .ok (.aload_n 0, 1) := by decide +kernel
theorem dX1_tryAll_72 : decode cX1_tryAll 72 = .ok (.aload_n 1, 1) := by decide +kernel
theorem dX1_tryAll_73 : decode cX1_tryAll 73 = .ok (.iload 5, 2) := by decide +kernel
theorem dX1_tryAll_75 : decode cX1_tryAll 75 = .ok (.invokevirtual 46, 3) := by decide +kernel
theorem dX1_tryAll_78 : decode cX1_tryAll 78 = .ok (.iload 5, 2) := by decide +kernel
theorem dX1_tryAll_80 : decode cX1_tryAll 80 = .ok (.iconst 1, 1) := by decide +kernel
theorem dX1_tryAll_81 : decode cX1_tryAll 81 = .ok (.iconst 3, 1) := by decide +kernel
theorem dX1_tryAll_82 : decode cX1_tryAll 82 = .ok (.aload_n 1, 1) := by decide +kernel
theorem dX1_tryAll_83 : decode cX1_tryAll 83 = .ok (.getfield 34, 3) := by decide +kernel
theorem dX1_tryAll_86 : decode cX1_tryAll 86 = .ok (.aload_n 1, 1) := by decide +kernel
theorem dX1_tryAll_87 : decode cX1_tryAll 87 = .ok (.getfield 50, 3) := by decide +kernel
theorem dX1_tryAll_90 : decode cX1_tryAll 90 = .ok (.isub, 1) := by decide +kernel
theorem dX1_tryAll_91 : decode cX1_tryAll 91 = .ok (.imul, 1) := by decide +kernel
theorem dX1_tryAll_92 : decode cX1_tryAll 92 = .ok (.ishl, 1) := by decide +kernel
theorem dX1_tryAll_93 : decode cX1_tryAll 93 = .ok (.iadd, 1) := by decide +kernel
theorem dX1_tryAll_94 : decode cX1_tryAll 94 = .ok (.istore 4, 2) := by decide +kernel
theorem dX1_tryAll_96 : decode cX1_tryAll 96 = .ok (.iinc 5 1, 3) := by decide +kernel
theorem dX1_tryAll_99 : decode cX1_tryAll 99 = .ok (.goto (-56), 3) := by decide +kernel
theorem dX1_tryAll_102 : decode cX1_tryAll 102 = .ok (.return_, 1) := by decide +kernel
theorem dX1_keep_0 : decode cX1_keep 0 = .ok (.aload_n 0, 1) := by decide +kernel
theorem dX1_keep_1 : decode cX1_keep 1 = .ok (.getfield 15, 3) := by decide +kernel
theorem dX1_keep_4 : decode cX1_keep 4 = .ok (.ifCond .ne 8, 3) := by decide +kernel
theorem dX1_keep_7 : decode cX1_keep 7 = .ok (.aload_n 0, 1) := by decide +kernel
theorem dX1_keep_8 : decode cX1_keep 8 = .ok (.iload_n 2, 1) := by decide +kernel
theorem dX1_keep_9 : decode cX1_keep 9 = .ok (.putfield 19, 3) := by decide +kernel
theorem dX1_keep_12 : decode cX1_keep 12 = .ok (.aload_n 0, 1) := by decide +kernel
theorem dX1_keep_13 : decode cX1_keep 13 = .ok (.dup, 1) := by decide +kernel
theorem dX1_keep_14 : decode cX1_keep 14 = .ok (.getfield 15, 3) := by decide +kernel
theorem dX1_keep_17 : decode cX1_keep 17 = .ok (.iconst 1, 1) := by decide +kernel
theorem dX1_keep_18 : decode cX1_keep 18 = .ok (.iadd, 1) := by decide +kernel
theorem dX1_keep_19 : decode cX1_keep 19 = .ok (.putfield 15, 3) := by decide +kernel
theorem dX1_keep_22 : decode cX1_keep 22 = .ok (.iconst 0, 1) := by decide +kernel
theorem dX1_keep_23 : decode cX1_keep 23 = .ok (.istore_n 3, 1) := by decide +kernel
theorem dX1_keep_24 : decode cX1_keep 24 = .ok (.iload_n 3, 1) := by decide +kernel
theorem dX1_keep_25 : decode cX1_keep 25 = .ok (.aload_n 1, 1) := by decide +kernel
theorem dX1_keep_26 : decode cX1_keep 26 = .ok (.getfield 34, 3) := by decide +kernel
theorem dX1_keep_29 : decode cX1_keep 29 = .ok (.if_icmp .ge 26, 3) := by decide +kernel
theorem dX1_keep_32 : decode cX1_keep 32 = .ok (.aload_n 0, 1) := by decide +kernel
theorem dX1_keep_33 : decode cX1_keep 33 = .ok (.getfield 9, 3) := by decide +kernel
theorem dX1_keep_36 : decode cX1_keep 36 = .ok (.iload_n 3, 1) := by decide +kernel
theorem dX1_keep_37 : decode cX1_keep 37 = .ok (.dup2, 1) := by decide +kernel
theorem dX1_keep_38 : decode cX1_keep 38 = .ok (.iaload, 1) := by decide +kernel
theorem dX1_keep_39 : decode cX1_keep 39 = .ok (.iconst 1, 1) := by decide +kernel
theorem dX1_keep_40 : decode cX1_keep 40 = .ok (.aload_n 1, 1) := by decide +kernel
theorem dX1_keep_41 : decode cX1_keep 41 = .ok (.iload_n 2, 1) := by decide +kernel
theorem dX1_keep_42 : decode cX1_keep 42 = .ok (.iload_n 3, 1) := by decide +kernel
theorem dX1_keep_43 : decode cX1_keep 43 = .ok (.invokevirtual 53, 3) := by decide +kernel
theorem dX1_keep_46 : decode cX1_keep 46 = .ok (.ishl, 1) := by decide +kernel
theorem dX1_keep_47 : decode cX1_keep 47 = .ok (.ior, 1) := by decide +kernel
theorem dX1_keep_48 : decode cX1_keep 48 = .ok (.iastore, 1) := by decide +kernel
theorem dX1_keep_49 : decode cX1_keep 49 = .ok (.iinc 3 1, 3) := by decide +kernel
theorem dX1_keep_52 : decode cX1_keep 52 = .ok (.goto (-28), 3) := by decide +kernel
theorem dX1_keep_55 : decode cX1_keep 55 = .ok (.return_, 1) := by decide +kernel
theorem dX2_init_0 : decode cX2_init 0 = .ok (.aload_n 0, 1) := by decide +kernel
theorem dX2_init_1 : decode cX2_init 1 = .ok (.invokespecial 3, 3) := by decide +kernel
theorem dX2_init_4 : decode cX2_init 4 = .ok (.aload_n 0, 1) := by decide +kernel
theorem dX2_init_5 : decode cX2_init 5 = .ok (.bipush 40, 2) := by decide +kernel
theorem dX2_init_7 : decode cX2_init 7 = .ok (.newarray .int, 2) := by decide +kernel
theorem dX2_init_9 : decode cX2_init 9 = .ok (.putfield 9, 3) := by decide +kernel
theorem dX2_init_12 : decode cX2_init 12 = .ok (.aload_n 0, 1) := by decide +kernel
theorem dX2_init_13 : decode cX2_init 13 = .ok (.bipush 40, 2) := by decide +kernel
theorem dX2_init_15 : decode cX2_init 15 = .ok (.newarray .int, 2) := by decide +kernel
theorem dX2_init_17 : decode cX2_init 17 = .ok (.putfield 15, 3) := by decide +kernel
theorem dX2_init_20 : decode cX2_init 20 = .ok (.aload_n 0, 1) := by decide +kernel
theorem dX2_init_21 : decode cX2_init 21 = .ok (.bipush 40, 2) := by decide +kernel
theorem dX2_init_23 : decode cX2_init 23 = .ok (.newarray .int, 2) := by decide +kernel
theorem dX2_init_25 : decode cX2_init 25 = .ok (.putfield 18, 3) := by decide +kernel
theorem dX2_init_28 : decode cX2_init 28 = .ok (.return_, 1) := by decide +kernel
theorem dX2_add_0 : decode cX2_add 0 = .ok (.aload_n 0, 1) := by decide +kernel
theorem dX2_add_1 : decode cX2_add 1 = .ok (.getfield 21, 3) := by decide +kernel
theorem dX2_add_4 : decode cX2_add 4 = .ok (.bipush 40, 2) := by decide +kernel
theorem dX2_add_6 : decode cX2_add 6 = .ok (.if_icmp .lt 6, 3) := by decide +kernel
theorem dX2_add_9 : decode cX2_add 9 = .ok (.bipush (-4), 2) := by decide +kernel
theorem dX2_add_11 : decode cX2_add 11 = .ok (.ireturn, 1) := by decide +kernel
theorem dX2_add_12 : decode cX2_add 12 = .ok (.aload_n 0, 1) := by decide +kernel
theorem dX2_add_13 : decode cX2_add 13 = .ok (.getfield 9, 3) := by decide +kernel
theorem dX2_add_16 : decode cX2_add 16 = .ok (.aload_n 0, 1) := by decide +kernel
theorem dX2_add_17 : decode cX2_add 17 = .ok (.getfield 21, 3) := by decide +kernel
theorem dX2_add_20 : decode cX2_add 20 = .ok (.iload_n 1, 1) := by decide +kernel
theorem dX2_add_21 : decode cX2_add 21 = .ok (.iastore, 1) := by decide +kernel
theorem dX2_add_22 : decode cX2_add 22 = .ok (.aload_n 0, 1) := by decide +kernel
theorem dX2_add_23 : decode cX2_add 23 = .ok (.dup, 1) := by decide +kernel
theorem dX2_add_24 : decode cX2_add 24 = .ok (.getfield 21, 3) := by decide +kernel
theorem dX2_add_27 : decode cX2_add 27 = .ok (.iconst 1, 1) := by decide +kernel
theorem dX2_add_28 : decode cX2_add 28 = .ok (.iadd, 1) := by decide +kernel
theorem dX2_add_29 : decode cX2_add 29 = .ok (.putfield 21, 3) := by decide +kernel
theorem dX2_add_32 : decode cX2_add 32 = .ok (.aload_n 0, 1) := by decide +kernel
theorem dX2_add_33 : decode cX2_add 33 = .ok (.getfield 21, 3) := by decide +kernel
theorem dX2_add_36 : decode cX2_add 36 = .ok (.ireturn, 1) := by decide +kernel
theorem dX2_isComing_0 : decode cX2_isComing 0 = .ok (.iload_n 0, 1) := by decide +kernel
theorem dX2_isComing_1 : decode cX2_isComing 1 = .ok (.bipush 65, 2) := by decide +kernel
theorem dX2_isComing_3 : decode cX2_isComing 3 = .ok (.if_icmp .lt 13, 3) := by decide +kernel
theorem dX2_isComing_6 : decode cX2_isComing 6 = .ok (.iload_n 0, 1) := by decide +kernel
theorem dX2_isComing_7 : decode cX2_isComing 7 = .ok (.bipush 72, 2) := by decide +kernel
theorem dX2_isComing_9 : decode cX2_isComing 9 = .ok (.if_icmp .gt 7, 3) := by decide +kernel
theorem dX2_isComing_12 : decode cX2_isComing 12 = .ok (.iconst 1, 1) := by decide +kernel
theorem dX2_isComing_13 : decode cX2_isComing 13 = .ok (.goto 4, 3) := by decide +kernel
theorem dX2_isComing_16 : decode cX2_isComing 16 = .ok (.iconst 0, 1) := by decide +kernel
theorem dX2_isComing_17 : decode cX2_isComing 17 = .ok (.ireturn, 1) := by decide +kernel
theorem dX2_isGoing_0 : decode cX2_isGoing 0 = .ok (.iload_n 0, 1) := by decide +kernel
theorem dX2_isGoing_1 : decode cX2_isGoing 1 = .ok (.bipush 97, 2) := by decide +kernel
theorem dX2_isGoing_3 : decode cX2_isGoing 3 = .ok (.if_icmp .lt 13, 3) := by decide +kernel
theorem dX2_isGoing_6 : decode cX2_isGoing 6 = .ok (.iload_n 0, 1) := by decide +kernel
theorem dX2_isGoing_7 : decode cX2_isGoing 7 = .ok (.bipush 104, 2) := by decide +kernel
theorem dX2_isGoing_9 : decode cX2_isGoing 9 = .ok (.if_icmp .gt 7, 3) := by decide +kernel
theorem dX2_isGoing_12 : decode cX2_isGoing 12 = .ok (.iconst 1, 1) := by decide +kernel
theorem dX2_isGoing_13 : decode cX2_isGoing 13 = .ok (.goto 4, 3) := by decide +kernel
theorem dX2_isGoing_16 : decode cX2_isGoing 16 = .ok (.iconst 0, 1) := by decide +kernel
theorem dX2_isGoing_17 : decode cX2_isGoing 17 = .ok (.ireturn, 1) := by decide +kernel
theorem dX2_survey_0 : decode cX2_survey 0 = .ok (.aload_n 0, 1) := by decide +kernel
theorem dX2_survey_1 : decode cX2_survey 1 = .ok (.bipush (-6), 2) := by decide +kernel
theorem dX2_survey_3 : decode cX2_survey 3 = .ok (.putfield 25, 3) := by decide +kernel
theorem dX2_survey_6 : decode cX2_survey 6 = .ok (.aload_n 0, 1) := by decide +kernel
theorem dX2_survey_7 : decode cX2_survey 7 = .ok (.iconst 0, 1) := by decide +kernel
theorem dX2_survey_8 : decode cX2_survey 8 = .ok (.putfield 28, 3) := by decide +kernel
theorem dX2_survey_11 : decode cX2_survey 11 = .ok (.aload_n 0, 1) := by decide +kernel
theorem dX2_survey_12 : decode cX2_survey 12 = .ok (.iconst 0, 1) := by decide +kernel
theorem dX2_survey_13 : decode cX2_survey 13 = .ok (.putfield 31, 3) := by decide +kernel
theorem dX2_survey_16 : decode cX2_survey 16 = .ok (.aload_n 0, 1) := by decide +kernel
theorem dX2_survey_17 : decode cX2_survey 17 = .ok (.iconst 0, 1) := by decide +kernel
theorem dX2_survey_18 : decode cX2_survey 18 = .ok (.putfield 34, 3) := by decide +kernel
theorem dX2_survey_21 : decode cX2_survey 21 = .ok (.iconst 0, 1) := by decide +kernel
theorem dX2_survey_22 : decode cX2_survey 22 = .ok (.istore_n 1, 1) := by decide +kernel
theorem dX2_survey_23 : decode cX2_survey 23 = .ok (.iconst 0, 1) := by decide +kernel
theorem dX2_survey_24 : decode cX2_survey 24 = .ok (.istore_n 2, 1) := by decide +kernel
theorem dX2_survey_25 : decode cX2_survey 25 = .ok (.iload_n 2, 1) := by decide +kernel
theorem dX2_survey_26 : decode cX2_survey 26 = .ok (.aload_n 0, 1) := by decide +kernel
theorem dX2_survey_27 : decode cX2_survey 27 = .ok (.getfield 21, 3) := by decide +kernel
theorem dX2_survey_30 : decode cX2_survey 30 = .ok (.if_icmp .ge 125, 3) := by decide +kernel
theorem dX2_survey_33 : decode cX2_survey 33 = .ok (.aload_n 0, 1) := by decide +kernel
theorem dX2_survey_34 : decode cX2_survey 34 = .ok (.getfield 25, 3) := by decide +kernel
theorem dX2_survey_37 : decode cX2_survey 37 = .ok (.bipush (-6), 2) := by decide +kernel
theorem dX2_survey_39 : decode cX2_survey 39 = .ok (.if_icmp .ne 116, 3) := by decide +kernel
theorem dX2_survey_42 : decode cX2_survey 42 = .ok (.aload_n 0, 1) := by decide +kernel
theorem dX2_survey_43 : decode cX2_survey 43 = .ok (.getfield 9, 3) := by decide +kernel
theorem dX2_survey_46 : decode cX2_survey 46 = .ok (.iload_n 2, 1) := by decide +kernel
theorem dX2_survey_47 : decode cX2_survey 47 = .ok (.iaload, 1) := by decide +kernel
theorem dX2_survey_48 : decode cX2_survey 48 = .ok (.istore_n 3, 1) := by decide +kernel
theorem dX2_survey_49 : decode cX2_survey 49 = .ok (.iload_n 3, 1) := by decide +kernel
theorem dX2_survey_50 : decode cX2_survey 50 = .ok (.invokestatic 37, 3) := by decide +kernel
theorem dX2_survey_53 : decode cX2_survey 53 = .ok (.ifCond .eq 19, 3) := by decide +kernel
theorem dX2_survey_56 : decode cX2_survey 56 = .ok (.aload_n 0, 1) := by decide +kernel
theorem dX2_survey_57 : decode cX2_survey 57 = .ok (.dup, 1) := by decide +kernel
theorem dX2_survey_58 : decode cX2_survey 58 = .ok (.getfield 31, 3) := by decide +kernel
theorem dX2_survey_61 : decode cX2_survey 61 = .ok (.iconst 1, 1) := by decide +kernel
theorem dX2_survey_62 : decode cX2_survey 62 = .ok (.iadd, 1) := by decide +kernel
theorem dX2_survey_63 : decode cX2_survey 63 = .ok (.putfield 31, 3) := by decide +kernel
theorem dX2_survey_66 : decode cX2_survey 66 = .ok (.iinc 1 1, 3) := by decide +kernel
theorem dX2_survey_69 : decode cX2_survey 69 = .ok (.goto 80, 3) := by decide +kernel
theorem dX2_survey_72 : decode cX2_survey 72 = .ok (.iload_n 3, 1) := by decide +kernel
theorem dX2_survey_73 : decode cX2_survey 73 = .ok (.invokestatic 41, 3) := by decide +kernel
theorem dX2_survey_76 : decode cX2_survey 76 = .ok (.ifCond .eq 9, 3) := by decide +kernel
theorem dX2_survey_79 : decode cX2_survey 79 = .ok (.iinc 1 (-1), 3) := by decide +kernel
theorem dX2_survey_82 : decode cX2_survey 82 = .ok (.goto 67, 3) := by decide +kernel
theorem dX2_survey_85 : decode cX2_survey 85 = .ok (.iload_n 3, 1) := by decide +kernel
theorem dX2_survey_86 : decode cX2_survey 86 = .ok (.bipush 46, 2) := by decide +kernel
theorem dX2_survey_88 : decode cX2_survey 88 = .ok (.if_icmp .ne 26, 3) := by decide +kernel
theorem dX2_survey_91 : decode cX2_survey 91 = .ok (.aload_n 0, 1) := by decide +kernel
theorem dX2_survey_92 : decode cX2_survey 92 = .ok (.getfield 15, 3) := by decide +kernel
theorem dX2_survey_95 : decode cX2_survey 95 = .ok (.aload_n 0, 1) := by decide +kernel
theorem dX2_survey_96 : decode cX2_survey 96 = .ok (.getfield 34, 3) := by decide +kernel
theorem dX2_survey_99 : decode cX2_survey 99 = .ok (.iload_n 1, 1) := by decide +kernel
theorem dX2_survey_100 : decode cX2_survey 100 = .ok (.iastore, 1) := by decide +kernel
theorem dX2_survey_101 : decode cX2_survey 101 = .ok (.aload_n 0, 1) := by decide +kernel
theorem dX2_survey_102 : decode cX2_survey 102 = .ok (.dup, 1) := by decide +kernel
theorem dX2_survey_103 : decode cX2_survey 103 = .ok (.getfield 34, 3) := by decide +kernel
theorem dX2_survey_106 : decode cX2_survey 106 = .ok (.iconst 1, 1) := by decide +kernel
theorem dX2_survey_107 : decode cX2_survey 107 = .ok (.iadd, 1) := by decide +kernel
theorem dX2_survey_108 : decode cX2_survey 108 = .ok (.putfield 34, 3) := by decide +kernel
theorem dX2_survey_111 : decode cX2_survey 111 = .ok (.goto 38, 3) := by decide +kernel
theorem dX2_survey_114 : decode cX2_survey 114 = .ok (.iload_n 3, 1) := by decide +kernel
theorem dX2_survey_115 : decode cX2_survey 115 = .ok (.bipush 63, 2) := by decide +kernel
theorem dX2_survey_117 : decode cX2_survey 117 = .ok (.if_icmp .ne 27, 3) := by decide +kernel
theorem dX2_survey_120 : decode cX2_survey 120 = .ok (.aload_n 0, 1) := by decide +kernel
theorem dX2_survey_121 : decode cX2_survey 121 = .ok (.getfield 28, 3) := by decide +kernel
theorem dX2_survey_124 : decode cX2_survey 124 = .ok (.iconst 3, 1) := by decide +kernel
theorem dX2_survey_125 : decode cX2_survey 125 = .ok (.if_icmp .ge 19, 3) := by decide +kernel
theorem dX2_survey_128 : decode cX2_survey 128 = .ok (.aload_n 0, 1) := by decide +kernel
theorem dX2_survey_129 : decode cX2_survey 129 = .ok (.dup, 1) := by decide +kernel
theorem dX2_survey_130 : decode cX2_survey 130 = .ok (.getfield 28, 3) := by decide +kernel
theorem dX2_survey_133 : decode cX2_survey 133 = .ok (.iconst 1, 1) := by decide +kernel
theorem dX2_survey_134 : decode cX2_survey 134 = .ok (.iadd, 1) := by decide +kernel
theorem dX2_survey_135 : decode cX2_survey 135 = .ok (.putfield 28, 3) := by decide +kernel
theorem dX2_survey_138 : decode cX2_survey 138 = .ok (.iinc 1 1, 3) := by decide +kernel
theorem dX2_survey_141 : decode cX2_survey 141 = .ok (.goto 8, 3) := by decide +kernel
theorem dX2_survey_144 : decode cX2_survey 144 = .ok (.aload_n 0, 1) := by decide +kernel
theorem dX2_survey_145 : decode cX2_survey 145 = .ok (.iload_n 2, 1) := by decide +kernel
theorem dX2_survey_146 : decode cX2_survey 146 = .ok (.putfield 25, 3) := by decide +kernel
theorem dX2_survey_149 : decode cX2_survey 149 = .ok (.iinc 2 1, 3) := by decide +kernel
theorem dX2_survey_152 : decode cX2_survey 152 = .ok (.goto (-127), 3) := by decide +kernel
theorem dX2_survey_155 : decode cX2_survey 155 = .ok (.return_, 1) := by decide +kernel
theorem dX2_guessed_0 : decode cX2_guessed 0 = .ok (.iload_n 1, 1) := by decide +kernel
theorem dX2_guessed_1 : decode cX2_guessed 1 = .ok (.iconst 3, 1) := by decide +kernel
theorem dX2_guessed_2 : decode cX2_guessed 2 = .ok (.aload_n 0, 1) := by decide +kernel
theorem dX2_guessed_3 : decode cX2_guessed 3 = .ok (.getfield 28, 3) := by decide +kernel
theorem dX2_guessed_6 : decode cX2_guessed 6 = .ok (.iconst 1, 1) := by decide +kernel
theorem dX2_guessed_7 : decode cX2_guessed 7 = .ok (.isub, 1) := by decide +kernel
theorem dX2_guessed_8 : decode cX2_guessed 8 = .ok (.iload_n 2, 1) := by decide +kernel
theorem dX2_guessed_9 : decode cX2_guessed 9 = .ok (.isub, 1) := by decide +kernel
theorem dX2_guessed_10 : decode cX2_guessed 10 = .ok (.imul, 1) := by decide +kernel
theorem dX2_guessed_11 : decode cX2_guessed 11 = .ok (.ishr, 1) := by decide +kernel
theorem dX2_guessed_12 : decode cX2_guessed 12 = .ok (.bipush 7, 2) := by decide +kernel
theorem dX2_guessed_14 : decode cX2_guessed 14 = .ok (.iand, 1) := by decide +kernel
theorem dX2_guessed_15 : decode cX2_guessed 15 = .ok (.ireturn, 1) := by decide +kernel
theorem dX2_perform_0 : decode cX2_perform 0 = .ok (.aload_n 0, 1) := by decide +kernel
theorem dX2_perform_1 : decode cX2_perform 1 = .ok (.bipush (-6), 2) := by decide +kernel
theorem dX2_perform_3 : decode cX2_perform 3 = .ok (.putfield 44, 3) := by decide +kernel
theorem dX2_perform_6 : decode cX2_perform 6 = .ok (.aload_n 0, 1) := by decide +kernel
theorem dX2_perform_7 : decode cX2_perform 7 = .ok (.bipush (-6), 2) := by decide +kernel
theorem dX2_perform_9 : decode cX2_perform 9 = .ok (.putfield 47, 3) := by decide +kernel
theorem dX2_perform_12 : decode cX2_perform 12 = .ok (.aload_n 0, 1) := by decide +kernel
theorem dX2_perform_13 : decode cX2_perform 13 = .ok (.iconst 0, 1) := by decide +kernel
theorem dX2_perform_14 : decode cX2_perform 14 = .ok (.putfield 50, 3) := by decide +kernel
theorem dX2_perform_17 : decode cX2_perform 17 = .ok (.iconst 0, 1) := by decide +kernel
theorem dX2_perform_18 : decode cX2_perform 18 = .ok (.istore_n 2, 1) := by decide +kernel
theorem dX2_perform_19 : decode cX2_perform 19 = .ok (.iconst 0, 1) := by decide +kernel
theorem dX2_perform_20 : decode cX2_perform 20 = .ok (.istore_n 3, 1) := by decide +kernel
theorem dX2_perform_21 : decode cX2_perform 21 = .ok (.iconst 0, 1) := by decide +kernel
theorem dX2_perform_22 : decode cX2_perform 22 = .ok (.istore 4, 2) := by decide +kernel
theorem dX2_perform_24 : decode cX2_perform 24 = .ok (.iload 4, 2) := by decide +kernel
theorem dX2_perform_26 : decode cX2_perform 26 = .ok (.aload_n 0, 1) := by decide +kernel
theorem dX2_perform_27 : decode cX2_perform 27 = .ok (.getfield 21, 3) := by decide +kernel
theorem dX2_perform_30 : decode cX2_perform 30 = .ok (.if_icmp .ge 128, 3) := by decide +kernel
theorem dX2_perform_33 : decode cX2_perform 33 = .ok (.aload_n 0, 1) := by decide +kernel
theorem dX2_perform_34 : decode cX2_perform 34 = .ok (.getfield 44, 3) := by decide +kernel
theorem dX2_perform_37 : decode cX2_perform 37 = .ok (.bipush (-6), 2) := by decide +kernel
theorem dX2_perform_39 : decode cX2_perform 39 = .ok (.if_icmp .ne 119, 3) := by decide +kernel
theorem dX2_perform_42 : decode cX2_perform 42 = .ok (.aload_n 0, 1) := by decide +kernel
theorem dX2_perform_43 : decode cX2_perform 43 = .ok (.getfield 9, 3) := by decide +kernel
theorem dX2_perform_46 : decode cX2_perform 46 = .ok (.iload 4, 2) := by decide +kernel
theorem dX2_perform_48 : decode cX2_perform 48 = .ok (.iaload, 1) := by decide +kernel
theorem dX2_perform_49 : decode cX2_perform 49 = .ok (.istore 5, 2) := by decide +kernel
theorem dX2_perform_51 : decode cX2_perform 51 = .ok (.iload 5, 2) := by decide +kernel
theorem dX2_perform_53 : decode cX2_perform 53 = .ok (.bipush 46, 2) := by decide +kernel
theorem dX2_perform_55 : decode cX2_perform 55 = .ok (.if_icmp .ne 16, 3) := by decide +kernel
theorem dX2_perform_58 : decode cX2_perform 58 = .ok (.aload_n 0, 1) := by decide +kernel
theorem dX2_perform_59 : decode cX2_perform 59 = .ok (.getfield 18, 3) := by decide +kernel
theorem dX2_perform_62 : decode cX2_perform 62 = .ok (.iload_n 3, 1) := by decide +kernel
theorem dX2_perform_63 : decode cX2_perform 63 = .ok (.iload_n 2, 1) := by decide +kernel
theorem dX2_perform_64 : decode cX2_perform 64 = .ok (.iastore, 1) := by decide +kernel
theorem dX2_perform_65 : decode cX2_perform 65 = .ok (.iinc 3 1, 3) := by decide +kernel
theorem dX2_perform_68 : decode cX2_perform 68 = .ok (.goto 84, 3) := by decide +kernel
theorem dX2_perform_71 : decode cX2_perform 71 = .ok (.iload 5, 2) := by decide +kernel
theorem dX2_perform_73 : decode cX2_perform 73 = .ok (.invokestatic 41, 3) := by decide +kernel
theorem dX2_perform_76 : decode cX2_perform 76 = .ok (.ifCond .eq 41, 3) := by decide +kernel
theorem dX2_perform_79 : decode cX2_perform 79 = .ok (.iconst 1, 1) := by decide +kernel
theorem dX2_perform_80 : decode cX2_perform 80 = .ok (.iload 5, 2) := by decide +kernel
theorem dX2_perform_82 : decode cX2_perform 82 = .ok (.bipush 97, 2) := by decide +kernel
theorem dX2_perform_84 : decode cX2_perform 84 = .ok (.isub, 1) := by decide +kernel
theorem dX2_perform_85 : decode cX2_perform 85 = .ok (.ishl, 1) := by decide +kernel
theorem dX2_perform_86 : decode cX2_perform 86 = .ok (.istore 6, 2) := by decide +kernel
theorem dX2_perform_88 : decode cX2_perform 88 = .ok (.aload_n 0, 1) := by decide +kernel
theorem dX2_perform_89 : decode cX2_perform 89 = .ok (.iload_n 2, 1) := by decide +kernel
theorem dX2_perform_90 : decode cX2_perform 90 = .ok (.iload 6, 2) := by decide +kernel
theorem dX2_perform_92 : decode cX2_perform 92 = .ok (.iand, 1) := by decide +kernel
theorem dX2_perform_93 : decode cX2_perform 93 = .ok (.ifCond .eq 7, 3) := by decide +kernel
theorem dX2_perform_96 : decode cX2_perform 96 = .ok (.iconst 1, 1) := by decide +kernel
theorem dX2_perform_97 : decode cX2_perform 97 = .ok (.goto 4, 3) := by decide +kernel
theorem dX2_perform_100 : decode cX2_perform 100 = .ok (.iconst 0, 1) := by decide +kernel
theorem dX2_perform_101 : decode cX2_perform 101 = .ok (.iload 4, 2) := by decide +kernel
theorem dX2_perform_103 : decode cX2_perform 103 = .ok (.iconst 2, 1) := by decide +kernel
theorem dX2_perform_104 : decode cX2_perform 104 = .ok (.invokevirtual 53, 3) := by decide +kernel
theorem dX2_perform_107 : decode cX2_perform 107 = .ok (.iload_n 2, 1) := by decide +kernel
theorem dX2_perform_108 : decode cX2_perform 108 = .ok (.iload 6, 2) := by decide +kernel
theorem dX2_perform_110 : decode cX2_perform 110 = .ok (.iconst (-1), 1) := by decide +kernel
theorem dX2_perform_111 : decode cX2_perform 111 = .ok (.ixor, 1) := by decide +kernel
theorem dX2_perform_112 : decode cX2_perform 112 = .ok (.iand, 1) := by decide +kernel
theorem dX2_perform_113 : decode cX2_perform 113 = .ok (.istore_n 2, 1) := by decide +kernel
theorem dX2_perform_114 : decode cX2_perform 114 = .ok (.goto 38, 3) := by decide +kernel
theorem dX2_perform_117 : decode cX2_perform 117 = .ok (.iconst 1, 1) := by decide +kernel
theorem dX2_perform_118 : decode cX2_perform 118 = .ok (.aload_n 0, 1) := by decide +kernel
theorem dX2_perform_119 : decode cX2_perform 119 = .ok (.iload 5, 2) := by decide +kernel
theorem dX2_perform_121 : decode cX2_perform 121 = .ok (.iload_n 1, 1) := by decide +kernel
theorem dX2_perform_122 : decode cX2_perform 122 = .ok (.invokevirtual 57, 3) := by decide +kernel
theorem dX2_perform_125 : decode cX2_perform 125 = .ok (.ishl, 1) := by decide +kernel
theorem dX2_perform_126 : decode cX2_perform 126 = .ok (.istore 6, 2) := by decide +kernel
theorem dX2_perform_128 : decode cX2_perform 128 = .ok (.aload_n 0, 1) := by decide +kernel
theorem dX2_perform_129 : decode cX2_perform 129 = .ok (.iload_n 2, 1) := by decide +kernel
theorem dX2_perform_130 : decode cX2_perform 130 = .ok (.iload 6, 2) := by decide +kernel
theorem dX2_perform_132 : decode cX2_perform 132 = .ok (.iand, 1) := by decide +kernel
theorem dX2_perform_133 : decode cX2_perform 133 = .ok (.ifCond .ne 7, 3) := by decide +kernel
theorem dX2_perform_136 : decode cX2_perform 136 = .ok (.iconst 1, 1) := by decide +kernel
theorem dX2_perform_137 : decode cX2_perform 137 = .ok (.goto 4, 3) := by decide +kernel
theorem dX2_perform_140 : decode cX2_perform 140 = .ok (.iconst 0, 1) := by decide +kernel
theorem dX2_perform_141 : decode cX2_perform 141 = .ok (.iload 4, 2) := by decide +kernel
theorem dX2_perform_143 : decode cX2_perform 143 = .ok (.iconst 1, 1) := by decide +kernel
theorem dX2_perform_144 : decode cX2_perform 144 = .ok (.invokevirtual 53, 3) := by decide +kernel
theorem dX2_perform_147 : decode cX2_perform 147 = .ok (.iload_n 2, 1) := by decide +kernel
theorem dX2_perform_148 : decode cX2_perform 148 = .ok (.iload 6, 2) := by decide +kernel
theorem dX2_perform_150 : decode cX2_perform 150 = .ok (.ior, 1) := by decide +kernel
theorem dX2_perform_151 : decode cX2_perform 151 = .ok (.istore_n 2, 1) := by decide +kernel
theorem dX2_perform_152 : decode cX2_perform 152 = .ok (.iinc 4 1, 3) := by decide +kernel
theorem dX2_perform_155 : decode cX2_perform 155 = .ok (.goto (-131), 3) := by decide +kernel
theorem dX2_perform_158 : decode cX2_perform 158 = .ok (.return_, 1) := by decide +kernel
theorem dX2_comer_0 : decode cX2_comer 0 = .ok (.iload_n 1, 1) := by decide +kernel
theorem dX2_comer_1 : decode cX2_comer 1 = .ok (.bipush 63, 2) := by decide +kernel
theorem dX2_comer_3 : decode cX2_comer 3 = .ok (.if_icmp .eq 8, 3) := by decide +kernel
theorem dX2_comer_6 : decode cX2_comer 6 = .ok (.iload_n 1, 1) := by decide +kernel
theorem dX2_comer_7 : decode cX2_comer 7 = .ok (.bipush 65, 2) := by decide +kernel
theorem dX2_comer_9 : decode cX2_comer 9 = .ok (.isub, 1) := by decide +kernel
theorem dX2_comer_10 : decode cX2_comer 10 = .ok (.ireturn, 1) := by decide +kernel
theorem dX2_comer_11 : decode cX2_comer 11 = .ok (.aload_n 0, 1) := by decide +kernel
theorem dX2_comer_12 : decode cX2_comer 12 = .ok (.dup, 1) := by decide +kernel
theorem dX2_comer_13 : decode cX2_comer 13 = .ok (.getfield 50, 3) := by decide +kernel
theorem dX2_comer_16 : decode cX2_comer 16 = .ok (.iconst 1, 1) := by decide +kernel
theorem dX2_comer_17 : decode cX2_comer 17 = .ok (.iadd, 1) := by decide +kernel
theorem dX2_comer_18 : decode cX2_comer 18 = .ok (.putfield 50, 3) := by decide +kernel
theorem dX2_comer_21 : decode cX2_comer 21 = .ok (.aload_n 0, 1) := by decide +kernel
theorem dX2_comer_22 : decode cX2_comer 22 = .ok (.iload_n 2, 1) := by decide +kernel
theorem dX2_comer_23 : decode cX2_comer 23 = .ok (.aload_n 0, 1) := by decide +kernel
theorem dX2_comer_24 : decode cX2_comer 24 = .ok (.getfield 50, 3) := by decide +kernel
theorem dX2_comer_27 : decode cX2_comer 27 = .ok (.iconst 1, 1) := by decide +kernel
theorem dX2_comer_28 : decode cX2_comer 28 = .ok (.isub, 1) := by decide +kernel
theorem dX2_comer_29 : decode cX2_comer 29 = .ok (.invokevirtual 61, 3) := by decide +kernel
theorem dX2_comer_32 : decode cX2_comer 32 = .ok (.ireturn, 1) := by decide +kernel
theorem dX2_refuseUnless_0 : decode cX2_refuseUnless 0 = .ok (.iload_n 1, 1) := by decide +kernel
theorem dX2_refuseUnless_1 : decode cX2_refuseUnless 1 = .ok (.ifCond .ne 13, 3) := by decide +kernel
theorem dX2_refuseUnless_4 : decode cX2_refuseUnless 4 = .ok (.aload_n 0, 1) := by decide +kernel
theorem dX2_refuseUnless_5 : decode cX2_refuseUnless 5 = .ok (.iload_n 2, 1) := by decide +kernel
theorem dX2_refuseUnless_6 : decode cX2_refuseUnless 6 = .ok (.putfield 44, 3) := by decide +kernel
theorem dX2_refuseUnless_9 : decode cX2_refuseUnless 9 = .ok (.aload_n 0, 1) := by decide +kernel
theorem dX2_refuseUnless_10 : decode cX2_refuseUnless 10 = .ok (.iload_n 3, 1) := by decide +kernel
theorem dX2_refuseUnless_11 : decode cX2_refuseUnless 11 = .ok (.putfield 47, 3) := by decide +kernel
theorem dX2_refuseUnless_14 : decode cX2_refuseUnless 14 = .ok (.return_, 1) := by decide +kernel
theorem dX2_linesOf_0 : decode cX2_linesOf 0 = .ok (.lconst 0, 1) := by decide +kernel
theorem dX2_linesOf_1 : decode cX2_linesOf 1 = .ok (.lstore_n 2, 1) := by decide +kernel
theorem dX2_linesOf_2 : decode cX2_linesOf 2 = .ok (.iconst 0, 1) := by decide +kernel
theorem dX2_linesOf_3 : decode cX2_linesOf 3 = .ok (.istore 4, 2) := by decide +kernel
theorem dX2_linesOf_5 : decode cX2_linesOf 5 = .ok (.iload 4, 2) := by decide +kernel
theorem dX2_linesOf_7 : decode cX2_linesOf 7 = .ok (.aload_n 0, 1) := by decide +kernel
theorem dX2_linesOf_8 : decode cX2_linesOf 8 = .ok (.getfield 34, 3) := by decide +kernel
theorem dX2_linesOf_11 : decode cX2_linesOf 11 = .ok (.if_icmp .ge 27, 3) := by decide +kernel
theorem dX2_linesOf_14 : decode cX2_linesOf 14 = .ok (.lload_n 2, 1) := by decide +kernel
theorem dX2_linesOf_15 : decode cX2_linesOf 15 = .ok (.aload_n 0, 1) := by decide +kernel
theorem dX2_linesOf_16 : decode cX2_linesOf 16 = .ok (.getfield 18, 3) := by decide +kernel
theorem dX2_linesOf_19 : decode cX2_linesOf 19 = .ok (.iload 4, 2) := by decide +kernel
theorem dX2_linesOf_21 : decode cX2_linesOf 21 = .ok (.iaload, 1) := by decide +kernel
theorem dX2_linesOf_22 : decode cX2_linesOf 22 = .ok (.iload_n 1, 1) := by decide +kernel
theorem dX2_linesOf_23 : decode cX2_linesOf 23 = .ok (.ishr, 1) := by decide +kernel
theorem dX2_linesOf_24 : decode cX2_linesOf 24 = .ok (.iconst 1, 1) := by decide +kernel
theorem dX2_linesOf_25 : decode cX2_linesOf 25 = .ok (.iand, 1) := by decide +kernel
theorem dX2_linesOf_26 : decode cX2_linesOf 26 = .ok (.i2l, 1) := by decide +kernel
theorem dX2_linesOf_27 : decode cX2_linesOf 27 = .ok (.iload 4, 2) := by decide +kernel
theorem dX2_linesOf_29 : decode cX2_linesOf 29 = .ok (.lshl, 1) := by decide +kernel
theorem dX2_linesOf_30 : decode cX2_linesOf 30 = .ok (.lor, 1) := by decide +kernel
theorem dX2_linesOf_31 : decode cX2_linesOf 31 = .ok (.lstore_n 2, 1) := by decide +kernel
theorem dX2_linesOf_32 : decode cX2_linesOf 32 = .ok (.iinc 4 1, 3) := by decide +kernel
theorem dX2_linesOf_35 : decode cX2_linesOf 35 = .ok (.goto (-30), 3) := by decide +kernel
theorem dX2_linesOf_38 : decode cX2_linesOf 38 = .ok (.lload_n 2, 1) := by decide +kernel
theorem dX2_linesOf_39 : decode cX2_linesOf 39 = .ok (.lreturn, 1) := by decide +kernel
theorem dX3_init_0 : decode cX3_init 0 = .ok (.aload_n 0, 1) := by decide +kernel
theorem dX3_init_1 : decode cX3_init 1 = .ok (.invokespecial 3, 3) := by decide +kernel
theorem dX3_init_4 : decode cX3_init 4 = .ok (.aload_n 0, 1) := by decide +kernel
theorem dX3_init_5 : decode cX3_init 5 = .ok (.iconst 0, 1) := by decide +kernel
theorem dX3_init_6 : decode cX3_init 6 = .ok (.putfield 9, 3) := by decide +kernel
theorem dX3_init_9 : decode cX3_init 9 = .ok (.aload_n 0, 1) := by decide +kernel
theorem dX3_init_10 : decode cX3_init 10 = .ok (.iconst 3, 1) := by decide +kernel
theorem dX3_init_11 : decode cX3_init 11 = .ok (.putfield 15, 3) := by decide +kernel
theorem dX3_init_14 : decode cX3_init 14 = .ok (.aload_n 0, 1) := by decide +kernel
theorem dX3_init_15 : decode cX3_init 15 = .ok (.bipush 8, 2) := by decide +kernel
theorem dX3_init_17 : decode cX3_init 17 = .ok (.newarray .int, 2) := by decide +kernel
theorem dX3_init_19 : decode cX3_init 19 = .ok (.putfield 18, 3) := by decide +kernel
theorem dX3_init_22 : decode cX3_init 22 = .ok (.aload_n 0, 1) := by decide +kernel
theorem dX3_init_23 : decode cX3_init 23 = .ok (.bipush 8, 2) := by decide +kernel
theorem dX3_init_25 : decode cX3_init 25 = .ok (.newarray .int, 2) := by decide +kernel
theorem dX3_init_27 : decode cX3_init 27 = .ok (.putfield 22, 3) := by decide +kernel
theorem dX3_init_30 : decode cX3_init 30 = .ok (.aload_n 0, 1) := by decide +kernel
theorem dX3_init_31 : decode cX3_init 31 = .ok (.bipush 6, 2) := by decide +kernel
theorem dX3_init_33 : decode cX3_init 33 = .ok (.newarray .int, 2) := by decide +kernel
theorem dX3_init_35 : decode cX3_init 35 = .ok (.putfield 25, 3) := by decide +kernel
theorem dX3_init_38 : decode cX3_init 38 = .ok (.aload_n 0, 1) := by decide +kernel
theorem dX3_init_39 : decode cX3_init 39 = .ok (.bipush 6, 2) := by decide +kernel
theorem dX3_init_41 : decode cX3_init 41 = .ok (.newarray .int, 2) := by decide +kernel
theorem dX3_init_43 : decode cX3_init 43 = .ok (.putfield 28, 3) := by decide +kernel
theorem dX3_init_46 : decode cX3_init 46 = .ok (.aload_n 0, 1) := by decide +kernel
theorem dX3_init_47 : decode cX3_init 47 = .ok (.bipush 6, 2) := by decide +kernel
theorem dX3_init_49 : decode cX3_init 49 = .ok (.newarray .int, 2) := by decide +kernel
theorem dX3_init_51 : decode cX3_init 51 = .ok (.putfield 31, 3) := by decide +kernel
theorem dX3_init_54 : decode cX3_init 54 = .ok (.return_, 1) := by decide +kernel
theorem dX3_become_0 : decode cX3_become 0 = .ok (.aload_n 0, 1) := by decide +kernel
theorem dX3_become_1 : decode cX3_become 1 = .ok (.aload_n 1, 1) := by decide +kernel
theorem dX3_become_2 : decode cX3_become 2 = .ok (.getfield 9, 3) := by decide +kernel
theorem dX3_become_5 : decode cX3_become 5 = .ok (.putfield 9, 3) := by decide +kernel
theorem dX3_become_8 : decode cX3_become 8 = .ok (.aload_n 0, 1) := by decide +kernel
theorem dX3_become_9 : decode cX3_become 9 = .ok (.aload_n 1, 1) := by decide +kernel
theorem dX3_become_10 : decode cX3_become 10 = .ok (.getfield 15, 3) := by decide +kernel
theorem dX3_become_13 : decode cX3_become 13 = .ok (.putfield 15, 3) := by decide +kernel
theorem dX3_become_16 : decode cX3_become 16 = .ok (.aload_n 0, 1) := by decide +kernel
theorem dX3_become_17 : decode cX3_become 17 = .ok (.aload_n 1, 1) := by decide +kernel
theorem dX3_become_18 : decode cX3_become 18 = .ok (.getfield 34, 3) := by decide +kernel
theorem dX3_become_21 : decode cX3_become 21 = .ok (.putfield 34, 3) := by decide +kernel
theorem dX3_become_24 : decode cX3_become 24 = .ok (.aload_n 0, 1) := by decide +kernel
theorem dX3_become_25 : decode cX3_become 25 = .ok (.aload_n 1, 1) := by decide +kernel
theorem dX3_become_26 : decode cX3_become 26 = .ok (.getfield 37, 3) := by decide +kernel
theorem dX3_become_29 : decode cX3_become 29 = .ok (.putfield 37, 3) := by decide +kernel
theorem dX3_become_32 : decode cX3_become 32 = .ok (.aload_n 0, 1) := by decide +kernel
theorem dX3_become_33 : decode cX3_become 33 = .ok (.aload_n 1, 1) := by decide +kernel
theorem dX3_become_34 : decode cX3_become 34 = .ok (.getfield 40, 3) := by decide +kernel
theorem dX3_become_37 : decode cX3_become 37 = .ok (.putfield 40, 3) := by decide +kernel
theorem dX3_become_40 : decode cX3_become 40 = .ok (.aload_n 1, 1) := by decide +kernel
theorem dX3_become_41 : decode cX3_become 41 = .ok (.getfield 18, 3) := by decide +kernel
theorem dX3_become_44 : decode cX3_become 44 = .ok (.iconst 0, 1) := by decide +kernel
theorem dX3_become_45 : decode cX3_become 45 = .ok (.aload_n 0, 1) := by decide +kernel
theorem dX3_become_46 : decode cX3_become 46 = .ok (.getfield 18, 3) := by decide +kernel
theorem dX3_become_49 : decode cX3_become 49 = .ok (.iconst 0, 1) := by decide +kernel
theorem dX3_become_50 : decode cX3_become 50 = .ok (.bipush 8, 2) := by decide +kernel
theorem dX3_become_52 : decode cX3_become 52 = .ok (.invokestatic 43, 3) := by decide +kernel
theorem dX3_become_55 : decode cX3_become 55 = .ok (.aload_n 1, 1) := by decide +kernel
theorem dX3_become_56 : decode cX3_become 56 = .ok (.getfield 22, 3) := by decide +kernel
theorem dX3_become_59 : decode cX3_become 59 = .ok (.iconst 0, 1) := by decide +kernel
theorem dX3_become_60 : decode cX3_become 60 = .ok (.aload_n 0, 1) := by decide +kernel
theorem dX3_become_61 : decode cX3_become 61 = .ok (.getfield 22, 3) := by decide +kernel
theorem dX3_become_64 : decode cX3_become 64 = .ok (.iconst 0, 1) := by decide +kernel
theorem dX3_become_65 : decode cX3_become 65 = .ok (.bipush 8, 2) := by decide +kernel
theorem dX3_become_67 : decode cX3_become 67 = .ok (.invokestatic 43, 3) := by decide +kernel
theorem dX3_become_70 : decode cX3_become 70 = .ok (.aload_n 1, 1) := by decide +kernel
theorem dX3_become_71 : decode cX3_become 71 = .ok (.getfield 25, 3) := by decide +kernel
theorem dX3_become_74 : decode cX3_become 74 = .ok (.iconst 0, 1) := by decide +kernel
theorem dX3_become_75 : decode cX3_become 75 = .ok (.aload_n 0, 1) := by decide +kernel
theorem dX3_become_76 : decode cX3_become 76 = .ok (.getfield 25, 3) := by decide +kernel
theorem dX3_become_79 : decode cX3_become 79 = .ok (.iconst 0, 1) := by decide +kernel
theorem dX3_become_80 : decode cX3_become 80 = .ok (.bipush 6, 2) := by decide +kernel
theorem dX3_become_82 : decode cX3_become 82 = .ok (.invokestatic 43, 3) := by decide +kernel
theorem dX3_become_85 : decode cX3_become 85 = .ok (.aload_n 1, 1) := by decide +kernel
theorem dX3_become_86 : decode cX3_become 86 = .ok (.getfield 28, 3) := by decide +kernel
theorem dX3_become_89 : decode cX3_become 89 = .ok (.iconst 0, 1) := by decide +kernel
theorem dX3_become_90 : decode cX3_become 90 = .ok (.aload_n 0, 1) := by decide +kernel
theorem dX3_become_91 : decode cX3_become 91 = .ok (.getfield 28, 3) := by decide +kernel
theorem dX3_become_94 : decode cX3_become 94 = .ok (.iconst 0, 1) := by decide +kernel
theorem dX3_become_95 : decode cX3_become 95 = .ok (.bipush 6, 2) := by decide +kernel
theorem dX3_become_97 : decode cX3_become 97 = .ok (.invokestatic 43, 3) := by decide +kernel
theorem dX3_become_100 : decode cX3_become 100 = .ok (.aload_n 1, 1) := by decide +kernel
theorem dX3_become_101 : decode cX3_become 101 = .ok (.getfield 31, 3) := by decide +kernel
theorem dX3_become_104 : decode cX3_become 104 = .ok (.iconst 0, 1) := by decide +kernel
theorem dX3_become_105 : decode cX3_become 105 = .ok (.aload_n 0, 1) := by decide +kernel
theorem dX3_become_106 : decode cX3_become 106 = .ok (.getfield 31, 3) := by decide +kernel
theorem dX3_become_109 : decode cX3_become 109 = .ok (.iconst 0, 1) := by decide +kernel
theorem dX3_become_110 : decode cX3_become 110 = .ok (.bipush 6, 2) := by decide +kernel
theorem dX3_become_112 : decode cX3_become 112 = .ok (.invokestatic 43, 3) := by decide +kernel
theorem dX3_become_115 : decode cX3_become 115 = .ok (.return_, 1) := by decide +kernel
theorem dX3_holds_0 : decode cX3_holds 0 = .ok (.aload_n 0, 1) := by decide +kernel
theorem dX3_holds_1 : decode cX3_holds 1 = .ok (.getfield 9, 3) := by decide +kernel
theorem dX3_holds_4 : decode cX3_holds 4 = .ok (.ifCond .ne 17, 3) := by decide +kernel
theorem dX3_holds_7 : decode cX3_holds 7 = .ok (.iload_n 1, 1) := by decide +kernel
theorem dX3_holds_8 : decode cX3_holds 8 = .ok (.aload_n 0, 1) := by decide +kernel
theorem dX3_holds_9 : decode cX3_holds 9 = .ok (.getfield 15, 3) := by decide +kernel
theorem dX3_holds_12 : decode cX3_holds 12 = .ok (.if_icmp .ne 7, 3) := by decide +kernel
theorem dX3_holds_15 : decode cX3_holds 15 = .ok (.iconst 1, 1) := by decide +kernel
theorem dX3_holds_16 : decode cX3_holds 16 = .ok (.goto 4, 3) := by decide +kernel
theorem dX3_holds_19 : decode cX3_holds 19 = .ok (.iconst 0, 1) := by decide +kernel
theorem dX3_holds_20 : decode cX3_holds 20 = .ok (.ireturn, 1) := by decide +kernel
theorem dX3_holds_21 : decode cX3_holds 21 = .ok (.aload_n 0, 1) := by decide +kernel
theorem dX3_holds_22 : decode cX3_holds 22 = .ok (.getfield 9, 3) := by decide +kernel
theorem dX3_holds_25 : decode cX3_holds 25 = .ok (.iconst 1, 1) := by decide +kernel
theorem dX3_holds_26 : decode cX3_holds 26 = .ok (.if_icmp .ne 18, 3) := by decide +kernel
theorem dX3_holds_29 : decode cX3_holds 29 = .ok (.iload_n 1, 1) := by decide +kernel
theorem dX3_holds_30 : decode cX3_holds 30 = .ok (.iconst 1, 1) := by decide +kernel
theorem dX3_holds_31 : decode cX3_holds 31 = .ok (.iand, 1) := by decide +kernel
theorem dX3_holds_32 : decode cX3_holds 32 = .ok (.iconst 1, 1) := by decide +kernel
theorem dX3_holds_33 : decode cX3_holds 33 = .ok (.if_icmp .ne 7, 3) := by decide +kernel
theorem dX3_holds_36 : decode cX3_holds 36 = .ok (.iconst 1, 1) := by decide +kernel
theorem dX3_holds_37 : decode cX3_holds 37 = .ok (.goto 17, 3) := by decide +kernel
theorem dX3_holds_40 : decode cX3_holds 40 = .ok (.iconst 0, 1) := by decide +kernel
theorem dX3_holds_41 : decode cX3_holds 41 = .ok (.goto 13, 3) := by decide +kernel
theorem dX3_holds_44 : decode cX3_holds 44 = .ok (.iload_n 1, 1) := by decide +kernel
theorem dX3_holds_45 : decode cX3_holds 45 = .ok (.iload_n 2, 1) := by decide +kernel
theorem dX3_holds_46 : decode cX3_holds 46 = .ok (.if_icmp .lt 7, 3) := by decide +kernel
theorem dX3_holds_49 : decode cX3_holds 49 = .ok (.iconst 1, 1) := by decide +kernel
theorem dX3_holds_50 : decode cX3_holds 50 = .ok (.goto 4, 3) := by decide +kernel
theorem dX3_holds_53 : decode cX3_holds 53 = .ok (.iconst 0, 1) := by decide +kernel
theorem dX3_holds_54 : decode cX3_holds 54 = .ok (.ireturn, 1) := by decide +kernel
theorem dX3_firstAgainstLaw_0 : decode cX3_firstAgainstLaw 0 = .ok (.aload_n 0, 1) := by decide +kernel
theorem dX3_firstAgainstLaw_1 : decode cX3_firstAgainstLaw 1 = .ok (.getfield 15, 3) := by decide +kernel
theorem dX3_firstAgainstLaw_4 : decode cX3_firstAgainstLaw 4 = .ok (.istore_n 2, 1) := by decide +kernel
theorem dX3_firstAgainstLaw_5 : decode cX3_firstAgainstLaw 5 = .ok (.iconst 0, 1) := by decide +kernel
theorem dX3_firstAgainstLaw_6 : decode cX3_firstAgainstLaw 6 = .ok (.istore_n 3, 1) := by decide +kernel
theorem dX3_firstAgainstLaw_7 : decode cX3_firstAgainstLaw 7 = .ok (.iload_n 3, 1) := by decide +kernel
theorem dX3_firstAgainstLaw_8 : decode cX3_firstAgainstLaw 8 = .ok (.aload_n 1, 1) := by decide +kernel
theorem dX3_firstAgainstLaw_9 : decode cX3_firstAgainstLaw 9 = .ok (.getfield 49, 3) := by decide +kernel
theorem dX3_firstAgainstLaw_12 : decode cX3_firstAgainstLaw 12 = .ok (.if_icmp .ge 32, 3) := by decide +kernel
theorem dX3_firstAgainstLaw_15 : decode cX3_firstAgainstLaw 15 = .ok (.aload_n 1, 1) := by decide +kernel
theorem dX3_firstAgainstLaw_16 : decode cX3_firstAgainstLaw 16 = .ok (.getfield 54, 3) := by decide +kernel
theorem dX3_firstAgainstLaw_19 : decode cX3_firstAgainstLaw 19 = .ok (.iload_n 3, 1) := by decide +kernel
theorem dX3_firstAgainstLaw_20 : decode cX3_firstAgainstLaw 20 = .ok (.iaload, 1) := by decide +kernel
theorem dX3_firstAgainstLaw_21 : decode cX3_firstAgainstLaw 21 = .ok (.istore 4, 2) := by decide +kernel
theorem dX3_firstAgainstLaw_23 : decode cX3_firstAgainstLaw 23 = .ok (.aload_n 0, 1) := by decide +kernel
theorem dX3_firstAgainstLaw_24 : decode cX3_firstAgainstLaw 24 = .ok (.iload 4, 2) := by decide +kernel
theorem dX3_firstAgainstLaw_26 : decode cX3_firstAgainstLaw 26 = .ok (.iload_n 2, 1) := by decide +kernel
theorem dX3_firstAgainstLaw_27 : decode cX3_firstAgainstLaw 27 = .ok (.invokevirtual 57, 3) := by decide +kernel
theorem dX3_firstAgainstLaw_30 : decode cX3_firstAgainstLaw 30 = .ok (.ifCond .ne 5, 3) := by decide +kernel
theorem dX3_firstAgainstLaw_33 : decode cX3_firstAgainstLaw 33 = .ok (.iload_n 3, 1) := by decide +kernel
theorem dX3_firstAgainstLaw_34 : decode cX3_firstAgainstLaw 34 = .ok (.ireturn, 1) := by decide +kernel
theorem dX3_firstAgainstLaw_35 : decode cX3_firstAgainstLaw 35 = .ok (.iload 4, 2) := by decide +kernel
theorem dX3_firstAgainstLaw_37 : decode cX3_firstAgainstLaw 37 = .ok (.istore_n 2, 1) := by decide +kernel
theorem dX3_firstAgainstLaw_38 : decode cX3_firstAgainstLaw 38 = .ok (.iinc 3 1, 3) := by decide +kernel
theorem dX3_firstAgainstLaw_41 : decode cX3_firstAgainstLaw 41 = .ok (.goto (-34), 3) := by decide +kernel
theorem dX3_firstAgainstLaw_44 : decode cX3_firstAgainstLaw 44 = .ok (.bipush (-6), 2) := by decide +kernel
theorem dX3_firstAgainstLaw_46 : decode cX3_firstAgainstLaw 46 = .ok (.ireturn, 1) := by decide +kernel
theorem dX3_setTogether_0 : decode cX3_setTogether 0 = .ok (.iconst 0, 1) := by decide +kernel
theorem dX3_setTogether_1 : decode cX3_setTogether 1 = .ok (.istore 4, 2) := by decide +kernel
theorem dX3_setTogether_3 : decode cX3_setTogether 3 = .ok (.aload_n 0, 1) := by decide +kernel
theorem dX3_setTogether_4 : decode cX3_setTogether 4 = .ok (.getfield 18, 3) := by decide +kernel
theorem dX3_setTogether_7 : decode cX3_setTogether 7 = .ok (.iload_n 1, 1) := by decide +kernel
theorem dX3_setTogether_8 : decode cX3_setTogether 8 = .ok (.iaload, 1) := by decide +kernel
theorem dX3_setTogether_9 : decode cX3_setTogether 9 = .ok (.iload_n 2, 1) := by decide +kernel
theorem dX3_setTogether_10 : decode cX3_setTogether 10 = .ok (.ishr, 1) := by decide +kernel
theorem dX3_setTogether_11 : decode cX3_setTogether 11 = .ok (.iconst 1, 1) := by decide +kernel
theorem dX3_setTogether_12 : decode cX3_setTogether 12 = .ok (.iand, 1) := by decide +kernel
theorem dX3_setTogether_13 : decode cX3_setTogether 13 = .ok (.iconst 1, 1) := by decide +kernel
theorem dX3_setTogether_14 : decode cX3_setTogether 14 = .ok (.if_icmp .ne 9, 3) := by decide +kernel
theorem dX3_setTogether_17 : decode cX3_setTogether 17 = .ok (.iconst 1, 1) := by decide +kernel
theorem dX3_setTogether_18 : decode cX3_setTogether 18 = .ok (.istore 4, 2) := by decide +kernel
theorem dX3_setTogether_20 : decode cX3_setTogether 20 = .ok (.goto 20, 3) := by decide +kernel
theorem dX3_setTogether_23 : decode cX3_setTogether 23 = .ok (.aload_n 0, 1) := by decide +kernel
theorem dX3_setTogether_24 : decode cX3_setTogether 24 = .ok (.getfield 22, 3) := by decide +kernel
theorem dX3_setTogether_27 : decode cX3_setTogether 27 = .ok (.iload_n 1, 1) := by decide +kernel
theorem dX3_setTogether_28 : decode cX3_setTogether 28 = .ok (.iaload, 1) := by decide +kernel
theorem dX3_setTogether_29 : decode cX3_setTogether 29 = .ok (.iload_n 2, 1) := by decide +kernel
theorem dX3_setTogether_30 : decode cX3_setTogether 30 = .ok (.ishr, 1) := by decide +kernel
theorem dX3_setTogether_31 : decode cX3_setTogether 31 = .ok (.iconst 1, 1) := by decide +kernel
theorem dX3_setTogether_32 : decode cX3_setTogether 32 = .ok (.iand, 1) := by decide +kernel
theorem dX3_setTogether_33 : decode cX3_setTogether 33 = .ok (.iconst 1, 1) := by decide +kernel
theorem dX3_setTogether_34 : decode cX3_setTogether 34 = .ok (.if_icmp .ne 6, 3) := by decide +kernel
theorem dX3_setTogether_37 : decode cX3_setTogether 37 = .ok (.iconst 2, 1) := by decide +kernel
theorem dX3_setTogether_38 : decode cX3_setTogether 38 = .ok (.istore 4, 2) := by decide +kernel
theorem dX3_setTogether_40 : decode cX3_setTogether 40 = .ok (.aload_n 0, 1) := by decide +kernel
theorem dX3_setTogether_41 : decode cX3_setTogether 41 = .ok (.getfield 18, 3) := by decide +kernel
theorem dX3_setTogether_44 : decode cX3_setTogether 44 = .ok (.iload_n 1, 1) := by decide +kernel
theorem dX3_setTogether_45 : decode cX3_setTogether 45 = .ok (.iload_n 2, 1) := by decide +kernel
theorem dX3_setTogether_46 : decode cX3_setTogether 46 = .ok (.iload_n 3, 1) := by decide +kernel
theorem dX3_setTogether_47 : decode cX3_setTogether 47 = .ok (.iconst 1, 1) := by decide +kernel
theorem dX3_setTogether_48 : decode cX3_setTogether 48 = .ok (.if_icmp .ne 7, 3) := by decide +kernel
theorem dX3_setTogether_51 : decode cX3_setTogether 51 = .ok (.iconst 1, 1) := by decide +kernel
theorem dX3_setTogether_52 : decode cX3_setTogether 52 = .ok (.goto 4, 3) := by decide +kernel
theorem dX3_setTogether_55 : decode cX3_setTogether 55 = .ok (.iconst 0, 1) := by decide +kernel
theorem dX3_setTogether_56 : decode cX3_setTogether 56 = .ok (.invokestatic 61, 3) := by decide +kernel
theorem dX3_setTogether_59 : decode cX3_setTogether 59 = .ok (.aload_n 0, 1) := by decide +kernel
theorem dX3_setTogether_60 : decode cX3_setTogether 60 = .ok (.getfield 22, 3) := by decide +kernel
theorem dX3_setTogether_63 : decode cX3_setTogether 63 = .ok (.iload_n 1, 1) := by decide +kernel
theorem dX3_setTogether_64 : decode cX3_setTogether 64 = .ok (.iload_n 2, 1) := by decide +kernel
theorem dX3_setTogether_65 : decode cX3_setTogether 65 = .ok (.iload_n 3, 1) := by decide +kernel
theorem dX3_setTogether_66 : decode cX3_setTogether 66 = .ok (.iconst 2, 1) := by decide +kernel
theorem dX3_setTogether_67 : decode cX3_setTogether 67 = .ok (.if_icmp .ne 7, 3) := by decide +kernel
theorem dX3_setTogether_70 : decode cX3_setTogether 70 = .ok (.iconst 1, 1) := by decide +kernel
theorem dX3_setTogether_71 : decode cX3_setTogether 71 = .ok (.goto 4, 3) := by decide +kernel
theorem dX3_setTogether_74 : decode cX3_setTogether 74 = .ok (.iconst 0, 1) := by decide +kernel
theorem dX3_setTogether_75 : decode cX3_setTogether 75 = .ok (.invokestatic 61, 3) := by decide +kernel
theorem dX3_setTogether_78 : decode cX3_setTogether 78 = .ok (.iload 4, 2) := by decide +kernel
theorem dX3_setTogether_80 : decode cX3_setTogether 80 = .ok (.ireturn, 1) := by decide +kernel
theorem dX3_setPair_0 : decode cX3_setPair 0 = .ok (.iconst 1, 1) := by decide +kernel
theorem dX3_setPair_1 : decode cX3_setPair 1 = .ok (.iload_n 1, 1) := by decide +kernel
theorem dX3_setPair_2 : decode cX3_setPair 2 = .ok (.ishl, 1) := by decide +kernel
theorem dX3_setPair_3 : decode cX3_setPair 3 = .ok (.istore 4, 2) := by decide +kernel
theorem dX3_setPair_5 : decode cX3_setPair 5 = .ok (.iconst 1, 1) := by decide +kernel
theorem dX3_setPair_6 : decode cX3_setPair 6 = .ok (.iload_n 2, 1) := by decide +kernel
theorem dX3_setPair_7 : decode cX3_setPair 7 = .ok (.ishl, 1) := by decide +kernel
theorem dX3_setPair_8 : decode cX3_setPair 8 = .ok (.istore 5, 2) := by decide +kernel
theorem dX3_setPair_10 : decode cX3_setPair 10 = .ok (.aload_n 0, 1) := by decide +kernel
theorem dX3_setPair_11 : decode cX3_setPair 11 = .ok (.iload_n 1, 1) := by decide +kernel
theorem dX3_setPair_12 : decode cX3_setPair 12 = .ok (.iload_n 3, 1) := by decide +kernel
theorem dX3_setPair_13 : decode cX3_setPair 13 = .ok (.ifCond .eq 12, 3) := by decide +kernel
theorem dX3_setPair_16 : decode cX3_setPair 16 = .ok (.aload_n 0, 1) := by decide +kernel
theorem dX3_setPair_17 : decode cX3_setPair 17 = .ok (.iload_n 1, 1) := by decide +kernel
theorem dX3_setPair_18 : decode cX3_setPair 18 = .ok (.iaload, 1) := by decide +kernel
theorem dX3_setPair_19 : decode cX3_setPair 19 = .ok (.iload 5, 2) := by decide +kernel
theorem dX3_setPair_21 : decode cX3_setPair 21 = .ok (.ior, 1) := by decide +kernel
theorem dX3_setPair_22 : decode cX3_setPair 22 = .ok (.goto 11, 3) := by decide +kernel
theorem dX3_setPair_25 : decode cX3_setPair 25 = .ok (.aload_n 0, 1) := by decide +kernel
theorem dX3_setPair_26 : decode cX3_setPair 26 = .ok (.iload_n 1, 1) := by decide +kernel
theorem dX3_setPair_27 : decode cX3_setPair 27 = .ok (.iaload, 1) := by decide +kernel
theorem dX3_setPair_28 : decode cX3_setPair 28 = .ok (.iload 5, 2) := by decide +kernel
theorem dX3_setPair_30 : decode cX3_setPair 30 = .ok (.iconst (-1), 1) := by decide +kernel
theorem dX3_setPair_31 : decode cX3_setPair 31 = .ok (.ixor, 1) := by decide +kernel
theorem dX3_setPair_32 : decode cX3_setPair 32 = .ok (.iand, 1) := by decide +kernel
theorem dX3_setPair_33 : decode cX3_setPair 33 = .ok (.iastore, 1) := by decide +kernel
theorem dX3_setPair_34 : decode cX3_setPair 34 = .ok (.aload_n 0, 1) := by decide +kernel
theorem dX3_setPair_35 : decode cX3_setPair 35 = .ok (.iload_n 2, 1) := by decide +kernel
theorem dX3_setPair_36 : decode cX3_setPair 36 = .ok (.iload_n 3, 1) := by decide +kernel
theorem dX3_setPair_37 : decode cX3_setPair 37 = .ok (.ifCond .eq 12, 3) := by decide +kernel
theorem dX3_setPair_40 : decode cX3_setPair 40 = .ok (.aload_n 0, 1) := by decide +kernel
theorem dX3_setPair_41 : decode cX3_setPair 41 = .ok (.iload_n 2, 1) := by decide +kernel
theorem dX3_setPair_42 : decode cX3_setPair 42 = .ok (.iaload, 1) := by decide +kernel
theorem dX3_setPair_43 : decode cX3_setPair 43 = .ok (.iload 4, 2) := by decide +kernel
theorem dX3_setPair_45 : decode cX3_setPair 45 = .ok (.ior, 1) := by decide +kernel
theorem dX3_setPair_46 : decode cX3_setPair 46 = .ok (.goto 11, 3) := by decide +kernel
theorem dX3_setPair_49 : decode cX3_setPair 49 = .ok (.aload_n 0, 1) := by decide +kernel
theorem dX3_setPair_50 : decode cX3_setPair 50 = .ok (.iload_n 2, 1) := by decide +kernel
theorem dX3_setPair_51 : decode cX3_setPair 51 = .ok (.iaload, 1) := by decide +kernel
theorem dX3_setPair_52 : decode cX3_setPair 52 = .ok (.iload 4, 2) := by decide +kernel
theorem dX3_setPair_54 : decode cX3_setPair 54 = .ok (.iconst (-1), 1) := by decide +kernel
theorem dX3_setPair_55 : decode cX3_setPair 55 = .ok (.ixor, 1) := by decide +kernel
theorem dX3_setPair_56 : decode cX3_setPair 56 = .ok (.iand, 1) := by decide +kernel
theorem dX3_setPair_57 : decode cX3_setPair 57 = .ok (.iastore, 1) := by decide +kernel
theorem dX3_setPair_58 : decode cX3_setPair 58 = .ok (.return_, 1) := by decide +kernel
theorem dX3_firstAgainstMay_0 : decode cX3_firstAgainstMay 0 = .ok (.iconst 0, 1) := by decide +kernel
theorem dX3_firstAgainstMay_1 : decode cX3_firstAgainstMay 1 = .ok (.istore_n 2, 1) := by decide +kernel
theorem dX3_firstAgainstMay_2 : decode cX3_firstAgainstMay 2 = .ok (.iload_n 2, 1) := by decide +kernel
theorem dX3_firstAgainstMay_3 : decode cX3_firstAgainstMay 3 = .ok (.aload_n 1, 1) := by decide +kernel
theorem dX3_firstAgainstMay_4 : decode cX3_firstAgainstMay 4 = .ok (.getfield 49, 3) := by decide +kernel
theorem dX3_firstAgainstMay_7 : decode cX3_firstAgainstMay 7 = .ok (.if_icmp .ge 24, 3) := by decide +kernel
theorem dX3_firstAgainstMay_10 : decode cX3_firstAgainstMay 10 = .ok (.aload_n 0, 1) := by decide +kernel
theorem dX3_firstAgainstMay_11 : decode cX3_firstAgainstMay 11 = .ok (.aload_n 1, 1) := by decide +kernel
theorem dX3_firstAgainstMay_12 : decode cX3_firstAgainstMay 12 = .ok (.getfield 65, 3) := by decide +kernel
theorem dX3_firstAgainstMay_15 : decode cX3_firstAgainstMay 15 = .ok (.iload_n 2, 1) := by decide +kernel
theorem dX3_firstAgainstMay_16 : decode cX3_firstAgainstMay 16 = .ok (.iaload, 1) := by decide +kernel
theorem dX3_firstAgainstMay_17 : decode cX3_firstAgainstMay 17 = .ok (.invokevirtual 68, 3) := by decide +kernel
theorem dX3_firstAgainstMay_20 : decode cX3_firstAgainstMay 20 = .ok (.ifCond .eq 5, 3) := by decide +kernel
theorem dX3_firstAgainstMay_23 : decode cX3_firstAgainstMay 23 = .ok (.iload_n 2, 1) := by decide +kernel
theorem dX3_firstAgainstMay_24 : decode cX3_firstAgainstMay 24 = .ok (.ireturn, 1) := by decide +kernel
theorem dX3_firstAgainstMay_25 : decode cX3_firstAgainstMay 25 = .ok (.iinc 2 1, 3) := by decide +kernel
theorem dX3_firstAgainstMay_28 : decode cX3_firstAgainstMay 28 = .ok (.goto (-26), 3) := by decide +kernel
theorem dX3_firstAgainstMay_31 : decode cX3_firstAgainstMay 31 = .ok (.bipush (-6), 2) := by decide +kernel
theorem dX3_firstAgainstMay_33 : decode cX3_firstAgainstMay 33 = .ok (.ireturn, 1) := by decide +kernel
theorem dX3_breaksMay_0 : decode cX3_breaksMay 0 = .ok (.iconst 0, 1) := by decide +kernel
theorem dX3_breaksMay_1 : decode cX3_breaksMay 1 = .ok (.istore_n 2, 1) := by decide +kernel
theorem dX3_breaksMay_2 : decode cX3_breaksMay 2 = .ok (.iload_n 2, 1) := by decide +kernel
theorem dX3_breaksMay_3 : decode cX3_breaksMay 3 = .ok (.bipush 8, 2) := by decide +kernel
theorem dX3_breaksMay_5 : decode cX3_breaksMay 5 = .ok (.if_icmp .ge 54, 3) := by decide +kernel
theorem dX3_breaksMay_8 : decode cX3_breaksMay 8 = .ok (.iload_n 1, 1) := by decide +kernel
theorem dX3_breaksMay_9 : decode cX3_breaksMay 9 = .ok (.iload_n 2, 1) := by decide +kernel
theorem dX3_breaksMay_10 : decode cX3_breaksMay 10 = .ok (.ishr, 1) := by decide +kernel
theorem dX3_breaksMay_11 : decode cX3_breaksMay 11 = .ok (.iconst 1, 1) := by decide +kernel
theorem dX3_breaksMay_12 : decode cX3_breaksMay 12 = .ok (.iand, 1) := by decide +kernel
theorem dX3_breaksMay_13 : decode cX3_breaksMay 13 = .ok (.iconst 1, 1) := by decide +kernel
theorem dX3_breaksMay_14 : decode cX3_breaksMay 14 = .ok (.if_icmp .ne 7, 3) := by decide +kernel
theorem dX3_breaksMay_17 : decode cX3_breaksMay 17 = .ok (.iconst 1, 1) := by decide +kernel
theorem dX3_breaksMay_18 : decode cX3_breaksMay 18 = .ok (.goto 4, 3) := by decide +kernel
theorem dX3_breaksMay_21 : decode cX3_breaksMay 21 = .ok (.iconst 0, 1) := by decide +kernel
theorem dX3_breaksMay_22 : decode cX3_breaksMay 22 = .ok (.istore_n 3, 1) := by decide +kernel
theorem dX3_breaksMay_23 : decode cX3_breaksMay 23 = .ok (.iload_n 3, 1) := by decide +kernel
theorem dX3_breaksMay_24 : decode cX3_breaksMay 24 = .ok (.ifCond .eq 29, 3) := by decide +kernel
theorem dX3_breaksMay_27 : decode cX3_breaksMay 27 = .ok (.aload_n 0, 1) := by decide +kernel
theorem dX3_breaksMay_28 : decode cX3_breaksMay 28 = .ok (.getfield 18, 3) := by decide +kernel
theorem dX3_breaksMay_31 : decode cX3_breaksMay 31 = .ok (.iload_n 2, 1) := by decide +kernel
theorem dX3_breaksMay_32 : decode cX3_breaksMay 32 = .ok (.iaload, 1) := by decide +kernel
theorem dX3_breaksMay_33 : decode cX3_breaksMay 33 = .ok (.iload_n 1, 1) := by decide +kernel
theorem dX3_breaksMay_34 : decode cX3_breaksMay 34 = .ok (.iand, 1) := by decide +kernel
theorem dX3_breaksMay_35 : decode cX3_breaksMay 35 = .ok (.ifCond .ne 16, 3) := by decide +kernel
theorem dX3_breaksMay_38 : decode cX3_breaksMay 38 = .ok (.aload_n 0, 1) := by decide +kernel
theorem dX3_breaksMay_39 : decode cX3_breaksMay 39 = .ok (.getfield 22, 3) := by decide +kernel
theorem dX3_breaksMay_42 : decode cX3_breaksMay 42 = .ok (.iload_n 2, 1) := by decide +kernel
theorem dX3_breaksMay_43 : decode cX3_breaksMay 43 = .ok (.iaload, 1) := by decide +kernel
theorem dX3_breaksMay_44 : decode cX3_breaksMay 44 = .ok (.iload_n 1, 1) := by decide +kernel
theorem dX3_breaksMay_45 : decode cX3_breaksMay 45 = .ok (.iconst (-1), 1) := by decide +kernel
theorem dX3_breaksMay_46 : decode cX3_breaksMay 46 = .ok (.ixor, 1) := by decide +kernel
theorem dX3_breaksMay_47 : decode cX3_breaksMay 47 = .ok (.iand, 1) := by decide +kernel
theorem dX3_breaksMay_48 : decode cX3_breaksMay 48 = .ok (.ifCond .eq 5, 3) := by decide +kernel
theorem dX3_breaksMay_51 : decode cX3_breaksMay 51 = .ok (.iconst 1, 1) := by decide +kernel
theorem dX3_breaksMay_52 : decode cX3_breaksMay 52 = .ok (.ireturn, 1) := by decide +kernel
theorem dX3_breaksMay_53 : decode cX3_breaksMay 53 = .ok (.iinc 2 1, 3) := by decide +kernel
theorem dX3_breaksMay_56 : decode cX3_breaksMay 56 = .ok (.goto (-54), 3) := by decide +kernel
theorem dX3_breaksMay_59 : decode cX3_breaksMay 59 = .ok (.iconst 0, 1) := by decide +kernel
theorem dX3_breaksMay_60 : decode cX3_breaksMay 60 = .ok (.ireturn, 1) := by decide +kernel
theorem dX3_addScene_0 : decode cX3_addScene 0 = .ok (.aload_n 0, 1) := by decide +kernel
theorem dX3_addScene_1 : decode cX3_addScene 1 = .ok (.getfield 37, 3) := by decide +kernel
theorem dX3_addScene_4 : decode cX3_addScene 4 = .ok (.bipush 6, 2) := by decide +kernel
theorem dX3_addScene_6 : decode cX3_addScene 6 = .ok (.if_icmp .lt 6, 3) := by decide +kernel
theorem dX3_addScene_9 : decode cX3_addScene 9 = .ok (.bipush (-4), 2) := by decide +kernel
theorem dX3_addScene_11 : decode cX3_addScene 11 = .ok (.ireturn, 1) := by decide +kernel
theorem dX3_addScene_12 : decode cX3_addScene 12 = .ok (.aload_n 0, 1) := by decide +kernel
theorem dX3_addScene_13 : decode cX3_addScene 13 = .ok (.getfield 25, 3) := by decide +kernel
theorem dX3_addScene_16 : decode cX3_addScene 16 = .ok (.aload_n 0, 1) := by decide +kernel
theorem dX3_addScene_17 : decode cX3_addScene 17 = .ok (.getfield 37, 3) := by decide +kernel
theorem dX3_addScene_20 : decode cX3_addScene 20 = .ok (.iload_n 1, 1) := by decide +kernel
theorem dX3_addScene_21 : decode cX3_addScene 21 = .ok (.iastore, 1) := by decide +kernel
theorem dX3_addScene_22 : decode cX3_addScene 22 = .ok (.aload_n 0, 1) := by decide +kernel
theorem dX3_addScene_23 : decode cX3_addScene 23 = .ok (.dup, 1) := by decide +kernel
theorem dX3_addScene_24 : decode cX3_addScene 24 = .ok (.getfield 37, 3) := by decide +kernel
theorem dX3_addScene_27 : decode cX3_addScene 27 = .ok (.iconst 1, 1) := by decide +kernel
theorem dX3_addScene_28 : decode cX3_addScene 28 = .ok (.iadd, 1) := by decide +kernel
theorem dX3_addScene_29 : decode cX3_addScene 29 = .ok (.putfield 37, 3) := by decide +kernel
theorem dX3_addScene_32 : decode cX3_addScene 32 = .ok (.aload_n 0, 1) := by decide +kernel
theorem dX3_addScene_33 : decode cX3_addScene 33 = .ok (.getfield 37, 3) := by decide +kernel
theorem dX3_addScene_36 : decode cX3_addScene 36 = .ok (.ireturn, 1) := by decide +kernel
theorem dX3_addSight_0 : decode cX3_addSight 0 = .ok (.aload_n 0, 1) := by decide +kernel
theorem dX3_addSight_1 : decode cX3_addSight 1 = .ok (.getfield 40, 3) := by decide +kernel
theorem dX3_addSight_4 : decode cX3_addSight 4 = .ok (.bipush 6, 2) := by decide +kernel
theorem dX3_addSight_6 : decode cX3_addSight 6 = .ok (.if_icmp .lt 6, 3) := by decide +kernel
theorem dX3_addSight_9 : decode cX3_addSight 9 = .ok (.bipush (-4), 2) := by decide +kernel
theorem dX3_addSight_11 : decode cX3_addSight 11 = .ok (.ireturn, 1) := by decide +kernel
theorem dX3_addSight_12 : decode cX3_addSight 12 = .ok (.aload_n 0, 1) := by decide +kernel
theorem dX3_addSight_13 : decode cX3_addSight 13 = .ok (.getfield 28, 3) := by decide +kernel
theorem dX3_addSight_16 : decode cX3_addSight 16 = .ok (.aload_n 0, 1) := by decide +kernel
theorem dX3_addSight_17 : decode cX3_addSight 17 = .ok (.getfield 40, 3) := by decide +kernel
theorem dX3_addSight_20 : decode cX3_addSight 20 = .ok (.iload_n 1, 1) := by decide +kernel
theorem dX3_addSight_21 : decode cX3_addSight 21 = .ok (.iastore, 1) := by decide +kernel
theorem dX3_addSight_22 : decode cX3_addSight 22 = .ok (.aload_n 0, 1) := by decide +kernel
theorem dX3_addSight_23 : decode cX3_addSight 23 = .ok (.getfield 31, 3) := by decide +kernel
theorem dX3_addSight_26 : decode cX3_addSight 26 = .ok (.aload_n 0, 1) := by decide +kernel
theorem dX3_addSight_27 : decode cX3_addSight 27 = .ok (.getfield 40, 3) := by decide +kernel
theorem dX3_addSight_30 : decode cX3_addSight 30 = .ok (.iload_n 2, 1) := by decide +kernel
theorem dX3_addSight_31 : decode cX3_addSight 31 = .ok (.iastore, 1) := by decide +kernel
theorem dX3_addSight_32 : decode cX3_addSight 32 = .ok (.aload_n 0, 1) := by decide +kernel
theorem dX3_addSight_33 : decode cX3_addSight 33 = .ok (.dup, 1) := by decide +kernel
theorem dX3_addSight_34 : decode cX3_addSight 34 = .ok (.getfield 40, 3) := by decide +kernel
theorem dX3_addSight_37 : decode cX3_addSight 37 = .ok (.iconst 1, 1) := by decide +kernel
theorem dX3_addSight_38 : decode cX3_addSight 38 = .ok (.iadd, 1) := by decide +kernel
theorem dX3_addSight_39 : decode cX3_addSight 39 = .ok (.putfield 40, 3) := by decide +kernel
theorem dX3_addSight_42 : decode cX3_addSight 42 = .ok (.aload_n 0, 1) := by decide +kernel
theorem dX3_addSight_43 : decode cX3_addSight 43 = .ok (.getfield 40, 3) := by decide +kernel
theorem dX3_addSight_46 : decode cX3_addSight 46 = .ok (.ireturn, 1) := by decide +kernel
theorem dX3_sightsHold_0 : decode cX3_sightsHold 0 = .ok (.iconst 0, 1) := by decide +kernel
theorem dX3_sightsHold_1 : decode cX3_sightsHold 1 = .ok (.istore_n 2, 1) := by decide +kernel
theorem dX3_sightsHold_2 : decode cX3_sightsHold 2 = .ok (.iload_n 2, 1) := by decide +kernel
theorem dX3_sightsHold_3 : decode cX3_sightsHold 3 = .ok (.aload_n 0, 1) := by decide +kernel
theorem dX3_sightsHold_4 : decode cX3_sightsHold 4 = .ok (.getfield 40, 3) := by decide +kernel
theorem dX3_sightsHold_7 : decode cX3_sightsHold 7 = .ok (.if_icmp .ge 41, 3) := by decide +kernel
theorem dX3_sightsHold_10 : decode cX3_sightsHold 10 = .ok (.aload_n 0, 1) := by decide +kernel
theorem dX3_sightsHold_11 : decode cX3_sightsHold 11 = .ok (.getfield 28, 3) := by decide +kernel
theorem dX3_sightsHold_14 : decode cX3_sightsHold 14 = .ok (.iload_n 2, 1) := by decide +kernel
theorem dX3_sightsHold_15 : decode cX3_sightsHold 15 = .ok (.iaload, 1) := by decide +kernel
theorem dX3_sightsHold_16 : decode cX3_sightsHold 16 = .ok (.istore_n 3, 1) := by decide +kernel
theorem dX3_sightsHold_17 : decode cX3_sightsHold 17 = .ok (.iload_n 3, 1) := by decide +kernel
theorem dX3_sightsHold_18 : decode cX3_sightsHold 18 = .ok (.aload_n 1, 1) := by decide +kernel
theorem dX3_sightsHold_19 : decode cX3_sightsHold 19 = .ok (.getfield 49, 3) := by decide +kernel
theorem dX3_sightsHold_22 : decode cX3_sightsHold 22 = .ok (.if_icmp .ge 18, 3) := by decide +kernel
theorem dX3_sightsHold_25 : decode cX3_sightsHold 25 = .ok (.aload_n 1, 1) := by decide +kernel
theorem dX3_sightsHold_26 : decode cX3_sightsHold 26 = .ok (.getfield 54, 3) := by decide +kernel
theorem dX3_sightsHold_29 : decode cX3_sightsHold 29 = .ok (.iload_n 3, 1) := by decide +kernel
theorem dX3_sightsHold_30 : decode cX3_sightsHold 30 = .ok (.iaload, 1) := by decide +kernel
theorem dX3_sightsHold_31 : decode cX3_sightsHold 31 = .ok (.aload_n 0, 1) := by decide +kernel
theorem dX3_sightsHold_32 : decode cX3_sightsHold 32 = .ok (.getfield 31, 3) := by decide +kernel
theorem dX3_sightsHold_35 : decode cX3_sightsHold 35 = .ok (.iload_n 2, 1) := by decide +kernel
theorem dX3_sightsHold_36 : decode cX3_sightsHold 36 = .ok (.iaload, 1) := by decide +kernel
theorem dX3_sightsHold_37 : decode cX3_sightsHold 37 = .ok (.if_icmp .eq 5, 3) := by decide +kernel
theorem dX3_sightsHold_40 : decode cX3_sightsHold 40 = .ok (.iconst 0, 1) := by decide +kernel
theorem dX3_sightsHold_41 : decode cX3_sightsHold 41 = .ok (.ireturn, 1) := by decide +kernel
theorem dX3_sightsHold_42 : decode cX3_sightsHold 42 = .ok (.iinc 2 1, 3) := by decide +kernel
theorem dX3_sightsHold_45 : decode cX3_sightsHold 45 = .ok (.goto (-43), 3) := by decide +kernel
theorem dX3_sightsHold_48 : decode cX3_sightsHold 48 = .ok (.iconst 1, 1) := by decide +kernel
theorem dX3_sightsHold_49 : decode cX3_sightsHold 49 = .ok (.ireturn, 1) := by decide +kernel
theorem dX4_init_0 : decode cX4_init 0 = .ok (.aload_n 0, 1) := by decide +kernel
theorem dX4_init_1 : decode cX4_init 1 = .ok (.invokespecial 3, 3) := by decide +kernel
theorem dX4_init_4 : decode cX4_init 4 = .ok (.aload_n 0, 1) := by decide +kernel
theorem dX4_init_5 : decode cX4_init 5 = .ok (.bipush 6, 2) := by decide +kernel
theorem dX4_init_7 : decode cX4_init 7 = .ok (.newarray .int, 2) := by decide +kernel
theorem dX4_init_9 : decode cX4_init 9 = .ok (.putfield 9, 3) := by decide +kernel
theorem dX4_init_12 : decode cX4_init 12 = .ok (.aload_n 0, 1) := by decide +kernel
theorem dX4_init_13 : decode cX4_init 13 = .ok (.bipush 6, 2) := by decide +kernel
theorem dX4_init_15 : decode cX4_init 15 = .ok (.newarray .int, 2) := by decide +kernel
theorem dX4_init_17 : decode cX4_init 17 = .ok (.putfield 15, 3) := by decide +kernel
theorem dX4_init_20 : decode cX4_init 20 = .ok (.aload_n 0, 1) := by decide +kernel
theorem dX4_init_21 : decode cX4_init 21 = .ok (.sipush 384, 3) := by decide +kernel
theorem dX4_init_24 : decode cX4_init 24 = .ok (.newarray .int, 2) := by decide +kernel
theorem dX4_init_26 : decode cX4_init 26 = .ok (.putfield 18, 3) := by decide +kernel
theorem dX4_init_29 : decode cX4_init 29 = .ok (.return_, 1) := by decide +kernel
theorem dX4_choose_0 : decode cX4_choose 0 = .ok (.aload_n 0, 1) := by decide +kernel
theorem dX4_choose_1 : decode cX4_choose 1 = .ok (.aload_n 1, 1) := by decide +kernel
theorem dX4_choose_2 : decode cX4_choose 2 = .ok (.getfield 21, 3) := by decide +kernel
theorem dX4_choose_5 : decode cX4_choose 5 = .ok (.putfield 27, 3) := by decide +kernel
theorem dX4_choose_8 : decode cX4_choose 8 = .ok (.aload_n 1, 1) := by decide +kernel
theorem dX4_choose_9 : decode cX4_choose 9 = .ok (.getfield 28, 3) := by decide +kernel
theorem dX4_choose_12 : decode cX4_choose 12 = .ok (.iconst 0, 1) := by decide +kernel
theorem dX4_choose_13 : decode cX4_choose 13 = .ok (.aload_n 0, 1) := by decide +kernel
theorem dX4_choose_14 : decode cX4_choose 14 = .ok (.getfield 15, 3) := by decide +kernel
theorem dX4_choose_17 : decode cX4_choose 17 = .ok (.iconst 0, 1) := by decide +kernel
theorem dX4_choose_18 : decode cX4_choose 18 = .ok (.bipush 6, 2) := by decide +kernel
theorem dX4_choose_20 : decode cX4_choose 20 = .ok (.invokestatic 29, 3) := by decide +kernel
theorem dX4_choose_23 : decode cX4_choose 23 = .ok (.iconst 1, 1) := by decide +kernel
theorem dX4_choose_24 : decode cX4_choose 24 = .ok (.aload_n 0, 1) := by decide +kernel
theorem dX4_choose_25 : decode cX4_choose 25 = .ok (.getfield 27, 3) := by decide +kernel
theorem dX4_choose_28 : decode cX4_choose 28 = .ok (.ishl, 1) := by decide +kernel
theorem dX4_choose_29 : decode cX4_choose 29 = .ok (.iconst 1, 1) := by decide +kernel
theorem dX4_choose_30 : decode cX4_choose 30 = .ok (.isub, 1) := by decide +kernel
theorem dX4_choose_31 : decode cX4_choose 31 = .ok (.istore_n 2, 1) := by decide +kernel
theorem dX4_choose_32 : decode cX4_choose 32 = .ok (.iload_n 2, 1) := by decide +kernel
theorem dX4_choose_33 : decode cX4_choose 33 = .ok (.ifCond .le 56, 3) := by decide +kernel
theorem dX4_choose_36 : decode cX4_choose 36 = .ok (.iconst 0, 1) := by decide +kernel
theorem dX4_choose_37 : decode cX4_choose 37 = .ok (.istore_n 3, 1) := by decide +kernel
theorem dX4_choose_38 : decode cX4_choose 38 = .ok (.iload_n 3, 1) := by decide +kernel
theorem dX4_choose_39 : decode cX4_choose 39 = .ok (.aload_n 0, 1) := by decide +kernel
theorem dX4_choose_40 : decode cX4_choose 40 = .ok (.getfield 27, 3) := by decide +kernel
theorem dX4_choose_43 : decode cX4_choose 43 = .ok (.if_icmp .ge 40, 3) := by decide +kernel
theorem dX4_choose_46 : decode cX4_choose 46 = .ok (.iload_n 2, 1) := by decide +kernel
theorem dX4_choose_47 : decode cX4_choose 47 = .ok (.iload_n 3, 1) := by decide +kernel
theorem dX4_choose_48 : decode cX4_choose 48 = .ok (.ishr, 1) := by decide +kernel
theorem dX4_choose_49 : decode cX4_choose 49 = .ok (.iconst 1, 1) := by decide +kernel
theorem dX4_choose_50 : decode cX4_choose 50 = .ok (.iand, 1) := by decide +kernel
theorem dX4_choose_51 : decode cX4_choose 51 = .ok (.iconst 1, 1) := by decide +kernel
theorem dX4_choose_52 : decode cX4_choose 52 = .ok (.if_icmp .ne 25, 3) := by decide +kernel
theorem dX4_choose_55 : decode cX4_choose 55 = .ok (.aload_n 0, 1) := by decide +kernel
theorem dX4_choose_56 : decode cX4_choose 56 = .ok (.getfield 18, 3) := by decide +kernel
theorem dX4_choose_59 : decode cX4_choose 59 = .ok (.iload_n 2, 1) := by decide +kernel
theorem dX4_choose_60 : decode cX4_choose 60 = .ok (.bipush 6, 2) := by decide +kernel
theorem dX4_choose_62 : decode cX4_choose 62 = .ok (.imul, 1) := by decide +kernel
theorem dX4_choose_63 : decode cX4_choose 63 = .ok (.iload_n 3, 1) := by decide +kernel
theorem dX4_choose_64 : decode cX4_choose 64 = .ok (.iadd, 1) := by decide +kernel
theorem dX4_choose_65 : decode cX4_choose 65 = .ok (.aload_n 0, 1) := by decide +kernel
theorem dX4_choose_66 : decode cX4_choose 66 = .ok (.iload_n 2, 1) := by decide +kernel
theorem dX4_choose_67 : decode cX4_choose 67 = .ok (.aload_n 0, 1) := by decide +kernel
theorem dX4_choose_68 : decode cX4_choose 68 = .ok (.getfield 15, 3) := by decide +kernel
theorem dX4_choose_71 : decode cX4_choose 71 = .ok (.iload_n 3, 1) := by decide +kernel
theorem dX4_choose_72 : decode cX4_choose 72 = .ok (.iaload, 1) := by decide +kernel
theorem dX4_choose_73 : decode cX4_choose 73 = .ok (.invokevirtual 35, 3) := by decide +kernel
theorem dX4_choose_76 : decode cX4_choose 76 = .ok (.iastore, 1) := by decide +kernel
theorem dX4_choose_77 : decode cX4_choose 77 = .ok (.iinc 3 1, 3) := by decide +kernel
theorem dX4_choose_80 : decode cX4_choose 80 = .ok (.goto (-42), 3) := by decide +kernel
theorem dX4_choose_83 : decode cX4_choose 83 = .ok (.iinc 2 (-1), 3) := by decide +kernel
theorem dX4_choose_86 : decode cX4_choose 86 = .ok (.goto (-54), 3) := by decide +kernel
theorem dX4_choose_89 : decode cX4_choose 89 = .ok (.aload_n 0, 1) := by decide +kernel
theorem dX4_choose_90 : decode cX4_choose 90 = .ok (.aload_n 0, 1) := by decide +kernel
theorem dX4_choose_91 : decode cX4_choose 91 = .ok (.iconst 0, 1) := by decide +kernel
theorem dX4_choose_92 : decode cX4_choose 92 = .ok (.iconst 0, 1) := by decide +kernel
theorem dX4_choose_93 : decode cX4_choose 93 = .ok (.invokevirtual 35, 3) := by decide +kernel
theorem dX4_choose_96 : decode cX4_choose 96 = .ok (.putfield 39, 3) := by decide +kernel
theorem dX4_choose_99 : decode cX4_choose 99 = .ok (.aload_n 0, 1) := by decide +kernel
theorem dX4_choose_100 : decode cX4_choose 100 = .ok (.invokevirtual 42, 3) := by decide +kernel
theorem dX4_choose_103 : decode cX4_choose 103 = .ok (.return_, 1) := by decide +kernel
theorem dX4_fewestBy_0 : decode cX4_fewestBy 0 = .ok (.iload_n 3, 1) := by decide +kernel
theorem dX4_fewestBy_1 : decode cX4_fewestBy 1 = .ok (.aload_n 0, 1) := by decide +kernel
theorem dX4_fewestBy_2 : decode cX4_fewestBy 2 = .ok (.getfield 15, 3) := by decide +kernel
theorem dX4_fewestBy_5 : decode cX4_fewestBy 5 = .ok (.iload_n 1, 1) := by decide +kernel
theorem dX4_fewestBy_6 : decode cX4_fewestBy 6 = .ok (.iaload, 1) := by decide +kernel
theorem dX4_fewestBy_7 : decode cX4_fewestBy 7 = .ok (.ixor, 1) := by decide +kernel
theorem dX4_fewestBy_8 : decode cX4_fewestBy 8 = .ok (.invokestatic 45, 3) := by decide +kernel
theorem dX4_fewestBy_11 : decode cX4_fewestBy 11 = .ok (.aload_n 0, 1) := by decide +kernel
theorem dX4_fewestBy_12 : decode cX4_fewestBy 12 = .ok (.getfield 18, 3) := by decide +kernel
theorem dX4_fewestBy_15 : decode cX4_fewestBy 15 = .ok (.iload_n 2, 1) := by decide +kernel
theorem dX4_fewestBy_16 : decode cX4_fewestBy 16 = .ok (.iconst 1, 1) := by decide +kernel
theorem dX4_fewestBy_17 : decode cX4_fewestBy 17 = .ok (.iload_n 1, 1) := by decide +kernel
theorem dX4_fewestBy_18 : decode cX4_fewestBy 18 = .ok (.ishl, 1) := by decide +kernel
theorem dX4_fewestBy_19 : decode cX4_fewestBy 19 = .ok (.ior, 1) := by decide +kernel
theorem dX4_fewestBy_20 : decode cX4_fewestBy 20 = .ok (.bipush 6, 2) := by decide +kernel
theorem dX4_fewestBy_22 : decode cX4_fewestBy 22 = .ok (.imul, 1) := by decide +kernel
theorem dX4_fewestBy_23 : decode cX4_fewestBy 23 = .ok (.iload_n 1, 1) := by decide +kernel
theorem dX4_fewestBy_24 : decode cX4_fewestBy 24 = .ok (.iadd, 1) := by decide +kernel
theorem dX4_fewestBy_25 : decode cX4_fewestBy 25 = .ok (.iaload, 1) := by decide +kernel
theorem dX4_fewestBy_26 : decode cX4_fewestBy 26 = .ok (.iadd, 1) := by decide +kernel
theorem dX4_fewestBy_27 : decode cX4_fewestBy 27 = .ok (.ireturn, 1) := by decide +kernel
theorem dX4_fewestFrom_0 : decode cX4_fewestFrom 0 = .ok (.iload_n 1, 1) := by decide +kernel
theorem dX4_fewestFrom_1 : decode cX4_fewestFrom 1 = .ok (.iconst 1, 1) := by decide +kernel
theorem dX4_fewestFrom_2 : decode cX4_fewestFrom 2 = .ok (.aload_n 0, 1) := by decide +kernel
theorem dX4_fewestFrom_3 : decode cX4_fewestFrom 3 = .ok (.getfield 27, 3) := by decide +kernel
theorem dX4_fewestFrom_6 : decode cX4_fewestFrom 6 = .ok (.ishl, 1) := by decide +kernel
theorem dX4_fewestFrom_7 : decode cX4_fewestFrom 7 = .ok (.iconst 1, 1) := by decide +kernel
theorem dX4_fewestFrom_8 : decode cX4_fewestFrom 8 = .ok (.isub, 1) := by decide +kernel
theorem dX4_fewestFrom_9 : decode cX4_fewestFrom 9 = .ok (.if_icmp .ne 8, 3) := by decide +kernel
theorem dX4_fewestFrom_12 : decode cX4_fewestFrom 12 = .ok (.iload_n 2, 1) := by decide +kernel
theorem dX4_fewestFrom_13 : decode cX4_fewestFrom 13 = .ok (.invokestatic 45, 3) := by decide +kernel
theorem dX4_fewestFrom_16 : decode cX4_fewestFrom 16 = .ok (.ireturn, 1) := by decide +kernel
theorem dX4_fewestFrom_17 : decode cX4_fewestFrom 17 = .ok (.bipush 57, 2) := by decide +kernel
theorem dX4_fewestFrom_19 : decode cX4_fewestFrom 19 = .ok (.istore_n 3, 1) := by decide +kernel
theorem dX4_fewestFrom_20 : decode cX4_fewestFrom 20 = .ok (.iconst 0, 1) := by decide +kernel
theorem dX4_fewestFrom_21 : decode cX4_fewestFrom 21 = .ok (.istore 4, 2) := by decide +kernel
theorem dX4_fewestFrom_23 : decode cX4_fewestFrom 23 = .ok (.iload 4, 2) := by decide +kernel
theorem dX4_fewestFrom_25 : decode cX4_fewestFrom 25 = .ok (.aload_n 0, 1) := by decide +kernel
theorem dX4_fewestFrom_26 : decode cX4_fewestFrom 26 = .ok (.getfield 27, 3) := by decide +kernel
theorem dX4_fewestFrom_29 : decode cX4_fewestFrom 29 = .ok (.if_icmp .ge 31, 3) := by decide +kernel
theorem dX4_fewestFrom_32 : decode cX4_fewestFrom 32 = .ok (.iload_n 1, 1) := by decide +kernel
theorem dX4_fewestFrom_33 : decode cX4_fewestFrom 33 = .ok (.iload 4, 2) := by decide +kernel
theorem dX4_fewestFrom_35 : decode cX4_fewestFrom 35 = .ok (.ishr, 1) := by decide +kernel
theorem dX4_fewestFrom_36 : decode cX4_fewestFrom 36 = .ok (.iconst 1, 1) := by decide +kernel
theorem dX4_fewestFrom_37 : decode cX4_fewestFrom 37 = .ok (.iand, 1) := by decide +kernel
theorem dX4_fewestFrom_38 : decode cX4_fewestFrom 38 = .ok (.ifCond .ne 16, 3) := by decide +kernel
theorem dX4_fewestFrom_41 : decode cX4_fewestFrom 41 = .ok (.iload_n 3, 1) := by decide +kernel
theorem dX4_fewestFrom_42 : decode cX4_fewestFrom 42 = .ok (.aload_n 0, 1) := by decide +kernel
theorem dX4_fewestFrom_43 : decode cX4_fewestFrom 43 = .ok (.iload 4, 2) := by decide +kernel
theorem dX4_fewestFrom_45 : decode cX4_fewestFrom 45 = .ok (.iload_n 1, 1) := by decide +kernel
theorem dX4_fewestFrom_46 : decode cX4_fewestFrom 46 = .ok (.iload_n 2, 1) := by decide +kernel
theorem dX4_fewestFrom_47 : decode cX4_fewestFrom 47 = .ok (.invokevirtual 51, 3) := by decide +kernel
theorem dX4_fewestFrom_50 : decode cX4_fewestFrom 50 = .ok (.invokestatic 55, 3) := by decide +kernel
theorem dX4_fewestFrom_53 : decode cX4_fewestFrom 53 = .ok (.istore_n 3, 1) := by decide +kernel
theorem dX4_fewestFrom_54 : decode cX4_fewestFrom 54 = .ok (.iinc 4 1, 3) := by decide +kernel
theorem dX4_fewestFrom_57 : decode cX4_fewestFrom 57 = .ok (.goto (-34), 3) := by decide +kernel
theorem dX4_fewestFrom_60 : decode cX4_fewestFrom 60 = .ok (.iload_n 3, 1) := by decide +kernel
theorem dX4_fewestFrom_61 : decode cX4_fewestFrom 61 = .ok (.ireturn, 1) := by decide +kernel
theorem dX4_fillRow_0 : decode cX4_fillRow 0 = .ok (.iconst 0, 1) := by decide +kernel
theorem dX4_fillRow_1 : decode cX4_fillRow 1 = .ok (.istore_n 1, 1) := by decide +kernel
theorem dX4_fillRow_2 : decode cX4_fillRow 2 = .ok (.iconst 0, 1) := by decide +kernel
theorem dX4_fillRow_3 : decode cX4_fillRow 3 = .ok (.istore_n 2, 1) := by decide +kernel
theorem dX4_fillRow_4 : decode cX4_fillRow 4 = .ok (.iconst 0, 1) := by decide +kernel
theorem dX4_fillRow_5 : decode cX4_fillRow 5 = .ok (.istore_n 3, 1) := by decide +kernel
theorem dX4_fillRow_6 : decode cX4_fillRow 6 = .ok (.iload_n 3, 1) := by decide +kernel
theorem dX4_fillRow_7 : decode cX4_fillRow 7 = .ok (.aload_n 0, 1) := by decide +kernel
theorem dX4_fillRow_8 : decode cX4_fillRow 8 = .ok (.getfield 27, 3) := by decide +kernel
theorem dX4_fillRow_11 : decode cX4_fillRow 11 = .ok (.if_icmp .ge 40, 3) := by decide +kernel
theorem dX4_fillRow_14 : decode cX4_fillRow 14 = .ok (.aload_n 0, 1) := by decide +kernel
theorem dX4_fillRow_15 : decode cX4_fillRow 15 = .ok (.iload_n 1, 1) := by decide +kernel
theorem dX4_fillRow_16 : decode cX4_fillRow 16 = .ok (.iload_n 2, 1) := by decide +kernel
theorem dX4_fillRow_17 : decode cX4_fillRow 17 = .ok (.invokevirtual 60, 3) := by decide +kernel
theorem dX4_fillRow_20 : decode cX4_fillRow 20 = .ok (.istore 4, 2) := by decide +kernel
theorem dX4_fillRow_22 : decode cX4_fillRow 22 = .ok (.aload_n 0, 1) := by decide +kernel
theorem dX4_fillRow_23 : decode cX4_fillRow 23 = .ok (.getfield 9, 3) := by decide +kernel
theorem dX4_fillRow_26 : decode cX4_fillRow 26 = .ok (.iload_n 3, 1) := by decide +kernel
theorem dX4_fillRow_27 : decode cX4_fillRow 27 = .ok (.iload 4, 2) := by decide +kernel
theorem dX4_fillRow_29 : decode cX4_fillRow 29 = .ok (.iastore, 1) := by decide +kernel
theorem dX4_fillRow_30 : decode cX4_fillRow 30 = .ok (.iload_n 1, 1) := by decide +kernel
theorem dX4_fillRow_31 : decode cX4_fillRow 31 = .ok (.iconst 1, 1) := by decide +kernel
theorem dX4_fillRow_32 : decode cX4_fillRow 32 = .ok (.iload 4, 2) := by decide +kernel
theorem dX4_fillRow_34 : decode cX4_fillRow 34 = .ok (.ishl, 1) := by decide +kernel
theorem dX4_fillRow_35 : decode cX4_fillRow 35 = .ok (.ior, 1) := by decide +kernel
theorem dX4_fillRow_36 : decode cX4_fillRow 36 = .ok (.istore_n 1, 1) := by decide +kernel
theorem dX4_fillRow_37 : decode cX4_fillRow 37 = .ok (.aload_n 0, 1) := by decide +kernel
theorem dX4_fillRow_38 : decode cX4_fillRow 38 = .ok (.getfield 15, 3) := by decide +kernel
theorem dX4_fillRow_41 : decode cX4_fillRow 41 = .ok (.iload 4, 2) := by decide +kernel
theorem dX4_fillRow_43 : decode cX4_fillRow 43 = .ok (.iaload, 1) := by decide +kernel
theorem dX4_fillRow_44 : decode cX4_fillRow 44 = .ok (.istore_n 2, 1) := by decide +kernel
theorem dX4_fillRow_45 : decode cX4_fillRow 45 = .ok (.iinc 3 1, 3) := by decide +kernel
theorem dX4_fillRow_48 : decode cX4_fillRow 48 = .ok (.goto (-42), 3) := by decide +kernel
theorem dX4_fillRow_51 : decode cX4_fillRow 51 = .ok (.return_, 1) := by decide +kernel
theorem dX4_firstBest_0 : decode cX4_firstBest 0 = .ok (.aload_n 0, 1) := by decide +kernel
theorem dX4_firstBest_1 : decode cX4_firstBest 1 = .ok (.iload_n 1, 1) := by decide +kernel
theorem dX4_firstBest_2 : decode cX4_firstBest 2 = .ok (.iload_n 2, 1) := by decide +kernel
theorem dX4_firstBest_3 : decode cX4_firstBest 3 = .ok (.invokevirtual 35, 3) := by decide +kernel
theorem dX4_firstBest_6 : decode cX4_firstBest 6 = .ok (.istore_n 3, 1) := by decide +kernel
theorem dX4_firstBest_7 : decode cX4_firstBest 7 = .ok (.iconst 0, 1) := by decide +kernel
theorem dX4_firstBest_8 : decode cX4_firstBest 8 = .ok (.istore 4, 2) := by decide +kernel
theorem dX4_firstBest_10 : decode cX4_firstBest 10 = .ok (.iload 4, 2) := by decide +kernel
theorem dX4_firstBest_12 : decode cX4_firstBest 12 = .ok (.aload_n 0, 1) := by decide +kernel
theorem dX4_firstBest_13 : decode cX4_firstBest 13 = .ok (.getfield 27, 3) := by decide +kernel
theorem dX4_firstBest_16 : decode cX4_firstBest 16 = .ok (.if_icmp .ge 33, 3) := by decide +kernel
theorem dX4_firstBest_19 : decode cX4_firstBest 19 = .ok (.iload_n 1, 1) := by decide +kernel
theorem dX4_firstBest_20 : decode cX4_firstBest 20 = .ok (.iload 4, 2) := by decide +kernel
theorem dX4_firstBest_22 : decode cX4_firstBest 22 = .ok (.ishr, 1) := by decide +kernel
theorem dX4_firstBest_23 : decode cX4_firstBest 23 = .ok (.iconst 1, 1) := by decide +kernel
theorem dX4_firstBest_24 : decode cX4_firstBest 24 = .ok (.iand, 1) := by decide +kernel
theorem dX4_firstBest_25 : decode cX4_firstBest 25 = .ok (.ifCond .ne 18, 3) := by decide +kernel
theorem dX4_firstBest_28 : decode cX4_firstBest 28 = .ok (.aload_n 0, 1) := by decide +kernel
theorem dX4_firstBest_29 : decode cX4_firstBest 29 = .ok (.iload 4, 2) := by decide +kernel
theorem dX4_firstBest_31 : decode cX4_firstBest 31 = .ok (.iload_n 1, 1) := by decide +kernel
theorem dX4_firstBest_32 : decode cX4_firstBest 32 = .ok (.iload_n 2, 1) := by decide +kernel
theorem dX4_firstBest_33 : decode cX4_firstBest 33 = .ok (.invokevirtual 51, 3) := by decide +kernel
theorem dX4_firstBest_36 : decode cX4_firstBest 36 = .ok (.iload_n 3, 1) := by decide +kernel
theorem dX4_firstBest_37 : decode cX4_firstBest 37 = .ok (.if_icmp .ne 6, 3) := by decide +kernel
theorem dX4_firstBest_40 : decode cX4_firstBest 40 = .ok (.iload 4, 2) := by decide +kernel
theorem dX4_firstBest_42 : decode cX4_firstBest 42 = .ok (.ireturn, 1) := by decide +kernel
theorem dX4_firstBest_43 : decode cX4_firstBest 43 = .ok (.iinc 4 1, 3) := by decide +kernel
theorem dX4_firstBest_46 : decode cX4_firstBest 46 = .ok (.goto (-36), 3) := by decide +kernel
theorem dX4_firstBest_49 : decode cX4_firstBest 49 = .ok (.iconst 0, 1) := by decide +kernel
theorem dX4_firstBest_50 : decode cX4_firstBest 50 = .ok (.ireturn, 1) := by decide +kernel
theorem dX5_init_0 : decode cX5_init 0 = .ok (.aload_n 0, 1) := by decide +kernel
theorem dX5_init_1 : decode cX5_init 1 = .ok (.invokespecial 1, 3) := by decide +kernel
theorem dX5_init_4 : decode cX5_init 4 = .ok (.aload_n 0, 1) := by decide +kernel
theorem dX5_init_5 : decode cX5_init 5 = .ok (.new 7, 3) := by decide +kernel
theorem dX5_init_8 : decode cX5_init 8 = .ok (.dup, 1) := by decide +kernel
theorem dX5_init_9 : decode cX5_init 9 = .ok (.invokespecial 9, 3) := by decide +kernel
theorem dX5_init_12 : decode cX5_init 12 = .ok (.putfield 10, 3) := by decide +kernel
theorem dX5_init_15 : decode cX5_init 15 = .ok (.aload_n 0, 1) := by decide +kernel
theorem dX5_init_16 : decode cX5_init 16 = .ok (.iconst 2, 1) := by decide +kernel
theorem dX5_init_17 : decode cX5_init 17 = .ok (.anewarray 7, 3) := by decide +kernel
theorem dX5_init_20 : decode cX5_init 20 = .ok (.putfield 16, 3) := by decide +kernel
theorem dX5_init_23 : decode cX5_init 23 = .ok (.iconst 0, 1) := by decide +kernel
theorem dX5_init_24 : decode cX5_init 24 = .ok (.istore_n 1, 1) := by decide +kernel
theorem dX5_init_25 : decode cX5_init 25 = .ok (.iload_n 1, 1) := by decide +kernel
theorem dX5_init_26 : decode cX5_init 26 = .ok (.aload_n 0, 1) := by decide +kernel
theorem dX5_init_27 : decode cX5_init 27 = .ok (.getfield 16, 3) := by decide +kernel
theorem dX5_init_30 : decode cX5_init 30 = .ok (.arraylength, 1) := by decide +kernel
theorem dX5_init_31 : decode cX5_init 31 = .ok (.if_icmp .ge 22, 3) := by decide +kernel
theorem dX5_init_34 : decode cX5_init 34 = .ok (.aload_n 0, 1) := by decide +kernel
theorem dX5_init_35 : decode cX5_init 35 = .ok (.getfield 16, 3) := by decide +kernel
theorem dX5_init_38 : decode cX5_init 38 = .ok (.iload_n 1, 1) := by decide +kernel
theorem dX5_init_39 : decode cX5_init 39 = .ok (.new 7, 3) := by decide +kernel
theorem dX5_init_42 : decode cX5_init 42 = .ok (.dup, 1) := by decide +kernel
theorem dX5_init_43 : decode cX5_init 43 = .ok (.invokespecial 9, 3) := by decide +kernel
theorem dX5_init_46 : decode cX5_init 46 = .ok (.aastore, 1) := by decide +kernel
theorem dX5_init_47 : decode cX5_init 47 = .ok (.iinc 1 1, 3) := by decide +kernel
theorem dX5_init_50 : decode cX5_init 50 = .ok (.goto (-25), 3) := by decide +kernel
theorem dX5_init_53 : decode cX5_init 53 = .ok (.aload_n 0, 1) := by decide +kernel
theorem dX5_init_54 : decode cX5_init 54 = .ok (.iconst 2, 1) := by decide +kernel
theorem dX5_init_55 : decode cX5_init 55 = .ok (.newarray .boolean, 2) := by decide +kernel
theorem dX5_init_57 : decode cX5_init 57 = .ok (.putfield 20, 3) := by decide +kernel
theorem dX5_init_60 : decode cX5_init 60 = .ok (.aload_n 0, 1) := by decide +kernel
theorem dX5_init_61 : decode cX5_init 61 = .ok (.new 24, 3) := by decide +kernel
theorem dX5_init_64 : decode cX5_init 64 = .ok (.dup, 1) := by decide +kernel
theorem dX5_init_65 : decode cX5_init 65 = .ok (.invokespecial 26, 3) := by decide +kernel
theorem dX5_init_68 : decode cX5_init 68 = .ok (.putfield 27, 3) := by decide +kernel
theorem dX5_init_71 : decode cX5_init 71 = .ok (.aload_n 0, 1) := by decide +kernel
theorem dX5_init_72 : decode cX5_init 72 = .ok (.new 31, 3) := by decide +kernel
theorem dX5_init_75 : decode cX5_init 75 = .ok (.dup, 1) := by decide +kernel
theorem dX5_init_76 : decode cX5_init 76 = .ok (.invokespecial 33, 3) := by decide +kernel
theorem dX5_init_79 : decode cX5_init 79 = .ok (.putfield 34, 3) := by decide +kernel
theorem dX5_init_82 : decode cX5_init 82 = .ok (.aload_n 0, 1) := by decide +kernel
theorem dX5_init_83 : decode cX5_init 83 = .ok (.new 38, 3) := by decide +kernel
theorem dX5_init_86 : decode cX5_init 86 = .ok (.dup, 1) := by decide +kernel
theorem dX5_init_87 : decode cX5_init 87 = .ok (.invokespecial 40, 3) := by decide +kernel
theorem dX5_init_90 : decode cX5_init 90 = .ok (.putfield 41, 3) := by decide +kernel
theorem dX5_init_93 : decode cX5_init 93 = .ok (.aload_n 0, 1) := by decide +kernel
theorem dX5_init_94 : decode cX5_init 94 = .ok (.new 45, 3) := by decide +kernel
theorem dX5_init_97 : decode cX5_init 97 = .ok (.dup, 1) := by decide +kernel
theorem dX5_init_98 : decode cX5_init 98 = .ok (.invokespecial 47, 3) := by decide +kernel
theorem dX5_init_101 : decode cX5_init 101 = .ok (.putfield 48, 3) := by decide +kernel
theorem dX5_init_104 : decode cX5_init 104 = .ok (.aload_n 0, 1) := by decide +kernel
theorem dX5_init_105 : decode cX5_init 105 = .ok (.bipush 9, 2) := by decide +kernel
theorem dX5_init_107 : decode cX5_init 107 = .ok (.newarray .int, 2) := by decide +kernel
theorem dX5_init_109 : decode cX5_init 109 = .ok (.putfield 52, 3) := by decide +kernel
theorem dX5_init_112 : decode cX5_init 112 = .ok (.return_, 1) := by decide +kernel
theorem dX5_set_0 : decode cX5_set 0 = .ok (.iload_n 1, 1) := by decide +kernel
theorem dX5_set_1 : decode cX5_set 1 = .ok (.ifCond .ne 30, 3) := by decide +kernel
theorem dX5_set_4 : decode cX5_set 4 = .ok (.iload_n 2, 1) := by decide +kernel
theorem dX5_set_5 : decode cX5_set 5 = .ok (.iconst 2, 1) := by decide +kernel
theorem dX5_set_6 : decode cX5_set 6 = .ok (.invokestatic 56, 3) := by decide +kernel
theorem dX5_set_9 : decode cX5_set 9 = .ok (.ifCond .eq 22, 3) := by decide +kernel
theorem dX5_set_12 : decode cX5_set 12 = .ok (.aload_n 0, 1) := by decide +kernel
theorem dX5_set_13 : decode cX5_set 13 = .ok (.getfield 10, 3) := by decide +kernel
theorem dX5_set_16 : decode cX5_set 16 = .ok (.getfield 60, 3) := by decide +kernel
theorem dX5_set_19 : decode cX5_set 19 = .ok (.istore_n 3, 1) := by decide +kernel
theorem dX5_set_20 : decode cX5_set 20 = .ok (.aload_n 0, 1) := by decide +kernel
theorem dX5_set_21 : decode cX5_set 21 = .ok (.getfield 10, 3) := by decide +kernel
theorem dX5_set_24 : decode cX5_set 24 = .ok (.iload_n 2, 1) := by decide +kernel
theorem dX5_set_25 : decode cX5_set 25 = .ok (.putfield 60, 3) := by decide +kernel
theorem dX5_set_28 : decode cX5_set 28 = .ok (.goto 72, 3) := by decide +kernel
theorem dX5_set_31 : decode cX5_set 31 = .ok (.iload_n 1, 1) := by decide +kernel
theorem dX5_set_32 : decode cX5_set 32 = .ok (.iconst 1, 1) := by decide +kernel
theorem dX5_set_33 : decode cX5_set 33 = .ok (.if_icmp .ne 31, 3) := by decide +kernel
theorem dX5_set_36 : decode cX5_set 36 = .ok (.iload_n 2, 1) := by decide +kernel
theorem dX5_set_37 : decode cX5_set 37 = .ok (.bipush 8, 2) := by decide +kernel
theorem dX5_set_39 : decode cX5_set 39 = .ok (.invokestatic 56, 3) := by decide +kernel
theorem dX5_set_42 : decode cX5_set 42 = .ok (.ifCond .eq 22, 3) := by decide +kernel
theorem dX5_set_45 : decode cX5_set 45 = .ok (.aload_n 0, 1) := by decide +kernel
theorem dX5_set_46 : decode cX5_set 46 = .ok (.getfield 10, 3) := by decide +kernel
theorem dX5_set_49 : decode cX5_set 49 = .ok (.getfield 64, 3) := by decide +kernel
theorem dX5_set_52 : decode cX5_set 52 = .ok (.istore_n 3, 1) := by decide +kernel
theorem dX5_set_53 : decode cX5_set 53 = .ok (.aload_n 0, 1) := by decide +kernel
theorem dX5_set_54 : decode cX5_set 54 = .ok (.getfield 10, 3) := by decide +kernel
theorem dX5_set_57 : decode cX5_set 57 = .ok (.iload_n 2, 1) := by decide +kernel
theorem dX5_set_58 : decode cX5_set 58 = .ok (.putfield 64, 3) := by decide +kernel
theorem dX5_set_61 : decode cX5_set 61 = .ok (.goto 39, 3) := by decide +kernel
theorem dX5_set_64 : decode cX5_set 64 = .ok (.iload_n 1, 1) := by decide +kernel
theorem dX5_set_65 : decode cX5_set 65 = .ok (.iconst 2, 1) := by decide +kernel
theorem dX5_set_66 : decode cX5_set 66 = .ok (.if_icmp .ne 31, 3) := by decide +kernel
theorem dX5_set_69 : decode cX5_set 69 = .ok (.iload_n 2, 1) := by decide +kernel
theorem dX5_set_70 : decode cX5_set 70 = .ok (.bipush 9, 2) := by decide +kernel
theorem dX5_set_72 : decode cX5_set 72 = .ok (.invokestatic 56, 3) := by decide +kernel
theorem dX5_set_75 : decode cX5_set 75 = .ok (.ifCond .eq 22, 3) := by decide +kernel
theorem dX5_set_78 : decode cX5_set 78 = .ok (.aload_n 0, 1) := by decide +kernel
theorem dX5_set_79 : decode cX5_set 79 = .ok (.getfield 10, 3) := by decide +kernel
theorem dX5_set_82 : decode cX5_set 82 = .ok (.getfield 67, 3) := by decide +kernel
theorem dX5_set_85 : decode cX5_set 85 = .ok (.istore_n 3, 1) := by decide +kernel
theorem dX5_set_86 : decode cX5_set 86 = .ok (.aload_n 0, 1) := by decide +kernel
theorem dX5_set_87 : decode cX5_set 87 = .ok (.getfield 10, 3) := by decide +kernel
theorem dX5_set_90 : decode cX5_set 90 = .ok (.iload_n 2, 1) := by decide +kernel
theorem dX5_set_91 : decode cX5_set 91 = .ok (.putfield 67, 3) := by decide +kernel
theorem dX5_set_94 : decode cX5_set 94 = .ok (.goto 6, 3) := by decide +kernel
theorem dX5_set_97 : decode cX5_set 97 = .ok (.bipush (-2), 2) := by decide +kernel
theorem dX5_set_99 : decode cX5_set 99 = .ok (.istore_n 3, 1) := by decide +kernel
theorem dX5_set_100 : decode cX5_set 100 = .ok (.iload_n 3, 1) := by decide +kernel
theorem dX5_set_101 : decode cX5_set 101 = .ok (.ireturn, 1) := by decide +kernel
theorem dX5_say_0 : decode cX5_say 0 = .ok (.iload_n 1, 1) := by decide +kernel
theorem dX5_say_1 : decode cX5_say 1 = .ok (.bipush 33, 2) := by decide +kernel
theorem dX5_say_3 : decode cX5_say 3 = .ok (.if_icmp .lt 9, 3) := by decide +kernel
theorem dX5_say_6 : decode cX5_say 6 = .ok (.iload_n 1, 1) := by decide +kernel
theorem dX5_say_7 : decode cX5_say 7 = .ok (.bipush 126, 2) := by decide +kernel
theorem dX5_say_9 : decode cX5_say 9 = .ok (.if_icmp .le 6, 3) := by decide +kernel
theorem dX5_say_12 : decode cX5_say 12 = .ok (.bipush (-2), 2) := by decide +kernel
theorem dX5_say_14 : decode cX5_say 14 = .ok (.ireturn, 1) := by decide +kernel
theorem dX5_say_15 : decode cX5_say 15 = .ok (.aload_n 0, 1) := by decide +kernel
theorem dX5_say_16 : decode cX5_say 16 = .ok (.getfield 27, 3) := by decide +kernel
theorem dX5_say_19 : decode cX5_say 19 = .ok (.iload_n 1, 1) := by decide +kernel
theorem dX5_say_20 : decode cX5_say 20 = .ok (.invokevirtual 70, 3) := by decide +kernel
theorem dX5_say_23 : decode cX5_say 23 = .ok (.ireturn, 1) := by decide +kernel
theorem dX5_wipe_0 : decode cX5_wipe 0 = .ok (.aload_n 0, 1) := by decide +kernel
theorem dX5_wipe_1 : decode cX5_wipe 1 = .ok (.getfield 27, 3) := by decide +kernel
theorem dX5_wipe_4 : decode cX5_wipe 4 = .ok (.getfield 74, 3) := by decide +kernel
theorem dX5_wipe_7 : decode cX5_wipe 7 = .ok (.istore_n 1, 1) := by decide +kernel
theorem dX5_wipe_8 : decode cX5_wipe 8 = .ok (.aload_n 0, 1) := by decide +kernel
theorem dX5_wipe_9 : decode cX5_wipe 9 = .ok (.getfield 27, 3) := by decide +kernel
theorem dX5_wipe_12 : decode cX5_wipe 12 = .ok (.iconst 0, 1) := by decide +kernel
theorem dX5_wipe_13 : decode cX5_wipe 13 = .ok (.putfield 74, 3) := by decide +kernel
theorem dX5_wipe_16 : decode cX5_wipe 16 = .ok (.iload_n 1, 1) := by decide +kernel
theorem dX5_wipe_17 : decode cX5_wipe 17 = .ok (.ireturn, 1) := by decide +kernel
theorem dX5_fault_0 : decode cX5_fault 0 = .ok (.aload_n 0, 1) := by decide +kernel
theorem dX5_fault_1 : decode cX5_fault 1 = .ok (.getfield 27, 3) := by decide +kernel
theorem dX5_fault_4 : decode cX5_fault 4 = .ok (.invokevirtual 77, 3) := by decide +kernel
theorem dX5_fault_7 : decode cX5_fault 7 = .ok (.aload_n 0, 1) := by decide +kernel
theorem dX5_fault_8 : decode cX5_fault 8 = .ok (.getfield 27, 3) := by decide +kernel
theorem dX5_fault_11 : decode cX5_fault 11 = .ok (.getfield 80, 3) := by decide +kernel
theorem dX5_fault_14 : decode cX5_fault 14 = .ok (.ireturn, 1) := by decide +kernel
theorem dX5_judge_0 : decode cX5_judge 0 = .ok (.iload_n 1, 1) := by decide +kernel
theorem dX5_judge_1 : decode cX5_judge 1 = .ok (.iconst 2, 1) := by decide +kernel
theorem dX5_judge_2 : decode cX5_judge 2 = .ok (.invokestatic 56, 3) := by decide +kernel
theorem dX5_judge_5 : decode cX5_judge 5 = .ok (.ifCond .ne 6, 3) := by decide +kernel
theorem dX5_judge_8 : decode cX5_judge 8 = .ok (.bipush (-2), 2) := by decide +kernel
theorem dX5_judge_10 : decode cX5_judge 10 = .ok (.ireturn, 1) := by decide +kernel
theorem dX5_judge_11 : decode cX5_judge 11 = .ok (.iload_n 1, 1) := by decide +kernel
theorem dX5_judge_12 : decode cX5_judge 12 = .ok (.iconst 2, 1) := by decide +kernel
theorem dX5_judge_13 : decode cX5_judge 13 = .ok (.if_icmp .ne 10, 3) := by decide +kernel
theorem dX5_judge_16 : decode cX5_judge 16 = .ok (.aload_n 0, 1) := by decide +kernel
theorem dX5_judge_17 : decode cX5_judge 17 = .ok (.invokevirtual 83, 3) := by decide +kernel
theorem dX5_judge_20 : decode cX5_judge 20 = .ok (.goto 7, 3) := by decide +kernel
theorem dX5_judge_23 : decode cX5_judge 23 = .ok (.aload_n 0, 1) := by decide +kernel
theorem dX5_judge_24 : decode cX5_judge 24 = .ok (.invokevirtual 87, 3) := by decide +kernel
theorem dX5_judge_27 : decode cX5_judge 27 = .ok (.istore_n 2, 1) := by decide +kernel
theorem dX5_judge_28 : decode cX5_judge 28 = .ok (.iload_n 2, 1) := by decide +kernel
theorem dX5_judge_29 : decode cX5_judge 29 = .ok (.ifCond .eq 5, 3) := by decide +kernel
theorem dX5_judge_32 : decode cX5_judge 32 = .ok (.iload_n 2, 1) := by decide +kernel
theorem dX5_judge_33 : decode cX5_judge 33 = .ok (.ireturn, 1) := by decide +kernel
theorem dX5_judge_34 : decode cX5_judge 34 = .ok (.iload_n 1, 1) := by decide +kernel
theorem dX5_judge_35 : decode cX5_judge 35 = .ok (.ifCond .ne 11, 3) := by decide +kernel
theorem dX5_judge_38 : decode cX5_judge 38 = .ok (.aload_n 0, 1) := by decide +kernel
theorem dX5_judge_39 : decode cX5_judge 39 = .ok (.getfield 27, 3) := by decide +kernel
theorem dX5_judge_42 : decode cX5_judge 42 = .ok (.getfield 90, 3) := by decide +kernel
theorem dX5_judge_45 : decode cX5_judge 45 = .ok (.ireturn, 1) := by decide +kernel
theorem dX5_judge_46 : decode cX5_judge 46 = .ok (.iload_n 1, 1) := by decide +kernel
theorem dX5_judge_47 : decode cX5_judge 47 = .ok (.iconst 1, 1) := by decide +kernel
theorem dX5_judge_48 : decode cX5_judge 48 = .ok (.if_icmp .ne 13, 3) := by decide +kernel
theorem dX5_judge_51 : decode cX5_judge 51 = .ok (.aload_n 0, 1) := by decide +kernel
theorem dX5_judge_52 : decode cX5_judge 52 = .ok (.getfield 27, 3) := by decide +kernel
theorem dX5_judge_55 : decode cX5_judge 55 = .ok (.getfield 93, 3) := by decide +kernel
theorem dX5_judge_58 : decode cX5_judge 58 = .ok (.goto 14, 3) := by decide +kernel
theorem dX5_judge_61 : decode cX5_judge 61 = .ok (.aload_n 0, 1) := by decide +kernel
theorem dX5_judge_62 : decode cX5_judge 62 = .ok (.getfield 10, 3) := by decide +kernel
theorem dX5_judge_65 : decode cX5_judge 65 = .ok (.aload_n 0, 1) := by decide +kernel
theorem dX5_judge_66 : decode cX5_judge 66 = .ok (.getfield 27, 3) := by decide +kernel
theorem dX5_judge_69 : decode cX5_judge 69 = .ok (.invokevirtual 96, 3) := by decide +kernel
theorem dX5_judge_72 : decode cX5_judge 72 = .ok (.ireturn, 1) := by decide +kernel
theorem dX5_on_0 : decode cX5_on 0 = .ok (.aload_n 0, 1) := by decide +kernel
theorem dX5_on_1 : decode cX5_on 1 = .ok (.invokevirtual 83, 3) := by decide +kernel
theorem dX5_on_4 : decode cX5_on 4 = .ok (.istore_n 2, 1) := by decide +kernel
theorem dX5_on_5 : decode cX5_on 5 = .ok (.iload_n 2, 1) := by decide +kernel
theorem dX5_on_6 : decode cX5_on 6 = .ok (.ifCond .eq 5, 3) := by decide +kernel
theorem dX5_on_9 : decode cX5_on 9 = .ok (.iload_n 2, 1) := by decide +kernel
theorem dX5_on_10 : decode cX5_on 10 = .ok (.ireturn, 1) := by decide +kernel
theorem dX5_on_11 : decode cX5_on 11 = .ok (.aload_n 0, 1) := by decide +kernel
theorem dX5_on_12 : decode cX5_on 12 = .ok (.iload_n 1, 1) := by decide +kernel
theorem dX5_on_13 : decode cX5_on 13 = .ok (.invokevirtual 100, 3) := by decide +kernel
theorem dX5_on_16 : decode cX5_on 16 = .ok (.ifCond .eq 15, 3) := by decide +kernel
theorem dX5_on_19 : decode cX5_on 19 = .ok (.aload_n 0, 1) := by decide +kernel
theorem dX5_on_20 : decode cX5_on 20 = .ok (.getfield 27, 3) := by decide +kernel
theorem dX5_on_23 : decode cX5_on 23 = .ok (.getfield 104, 3) := by decide +kernel
theorem dX5_on_26 : decode cX5_on 26 = .ok (.iload_n 1, 1) := by decide +kernel
theorem dX5_on_27 : decode cX5_on 27 = .ok (.iaload, 1) := by decide +kernel
theorem dX5_on_28 : decode cX5_on 28 = .ok (.goto 5, 3) := by decide +kernel
theorem dX5_on_31 : decode cX5_on 31 = .ok (.bipush (-2), 2) := by decide +kernel
theorem dX5_on_33 : decode cX5_on 33 = .ok (.ireturn, 1) := by decide +kernel
theorem dX5_lines_0 : decode cX5_lines 0 = .ok (.iload_n 1, 1) := by decide +kernel
theorem dX5_lines_1 : decode cX5_lines 1 = .ok (.bipush (-2), 2) := by decide +kernel
theorem dX5_lines_3 : decode cX5_lines 3 = .ok (.if_icmp .lt 9, 3) := by decide +kernel
theorem dX5_lines_6 : decode cX5_lines 6 = .ok (.iload_n 1, 1) := by decide +kernel
theorem dX5_lines_7 : decode cX5_lines 7 = .ok (.bipush 8, 2) := by decide +kernel
theorem dX5_lines_9 : decode cX5_lines 9 = .ok (.if_icmp .lt 5, 3) := by decide +kernel
theorem dX5_lines_12 : decode cX5_lines 12 = .ok (.iconst (-1), 1) := by decide +kernel
theorem dX5_lines_13 : decode cX5_lines 13 = .ok (.ireturn, 1) := by decide +kernel
theorem dX5_lines_14 : decode cX5_lines 14 = .ok (.aload_n 0, 1) := by decide +kernel
theorem dX5_lines_15 : decode cX5_lines 15 = .ok (.invokevirtual 83, 3) := by decide +kernel
theorem dX5_lines_18 : decode cX5_lines 18 = .ok (.istore_n 2, 1) := by decide +kernel
theorem dX5_lines_19 : decode cX5_lines 19 = .ok (.iload_n 2, 1) := by decide +kernel
theorem dX5_lines_20 : decode cX5_lines 20 = .ok (.ifCond .eq 5, 3) := by decide +kernel
theorem dX5_lines_23 : decode cX5_lines 23 = .ok (.iload_n 2, 1) := by decide +kernel
theorem dX5_lines_24 : decode cX5_lines 24 = .ok (.ireturn, 1) := by decide +kernel
theorem dX5_lines_25 : decode cX5_lines 25 = .ok (.iload_n 1, 1) := by decide +kernel
theorem dX5_lines_26 : decode cX5_lines 26 = .ok (.bipush (-2), 2) := by decide +kernel
theorem dX5_lines_28 : decode cX5_lines 28 = .ok (.if_icmp .ne 11, 3) := by decide +kernel
theorem dX5_lines_31 : decode cX5_lines 31 = .ok (.aload_n 0, 1) := by decide +kernel
theorem dX5_lines_32 : decode cX5_lines 32 = .ok (.getfield 27, 3) := by decide +kernel
theorem dX5_lines_35 : decode cX5_lines 35 = .ok (.getfield 107, 3) := by decide +kernel
theorem dX5_lines_38 : decode cX5_lines 38 = .ok (.ireturn, 1) := by decide +kernel
theorem dX5_lines_39 : decode cX5_lines 39 = .ok (.iload_n 1, 1) := by decide +kernel
theorem dX5_lines_40 : decode cX5_lines 40 = .ok (.iconst (-1), 1) := by decide +kernel
theorem dX5_lines_41 : decode cX5_lines 41 = .ok (.if_icmp .ne 13, 3) := by decide +kernel
theorem dX5_lines_44 : decode cX5_lines 44 = .ok (.aload_n 0, 1) := by decide +kernel
theorem dX5_lines_45 : decode cX5_lines 45 = .ok (.getfield 27, 3) := by decide +kernel
theorem dX5_lines_48 : decode cX5_lines 48 = .ok (.getfield 110, 3) := by decide +kernel
theorem dX5_lines_51 : decode cX5_lines 51 = .ok (.goto 14, 3) := by decide +kernel
theorem dX5_lines_54 : decode cX5_lines 54 = .ok (.aload_n 0, 1) := by decide +kernel
theorem dX5_lines_55 : decode cX5_lines 55 = .ok (.getfield 27, 3) := by decide +kernel
theorem dX5_lines_58 : decode cX5_lines 58 = .ok (.iload_n 1, 1) := by decide +kernel
theorem dX5_lines_59 : decode cX5_lines 59 = .ok (.invokevirtual 113, 3) := by decide +kernel
theorem dX5_lines_62 : decode cX5_lines 62 = .ok (.invokestatic 117, 3) := by decide +kernel
theorem dX5_lines_65 : decode cX5_lines 65 = .ok (.ireturn, 1) := by decide +kernel
theorem dX5_may_0 : decode cX5_may 0 = .ok (.iload_n 1, 1) := by decide +kernel
theorem dX5_may_1 : decode cX5_may 1 = .ok (.invokestatic 123, 3) := by decide +kernel
theorem dX5_may_4 : decode cX5_may 4 = .ok (.ifCond .eq 15, 3) := by decide +kernel
theorem dX5_may_7 : decode cX5_may 7 = .ok (.iload_n 2, 1) := by decide +kernel
theorem dX5_may_8 : decode cX5_may 8 = .ok (.invokestatic 123, 3) := by decide +kernel
theorem dX5_may_11 : decode cX5_may 11 = .ok (.ifCond .eq 8, 3) := by decide +kernel
theorem dX5_may_14 : decode cX5_may 14 = .ok (.iload_n 1, 1) := by decide +kernel
theorem dX5_may_15 : decode cX5_may 15 = .ok (.iload_n 2, 1) := by decide +kernel
theorem dX5_may_16 : decode cX5_may 16 = .ok (.if_icmp .ne 5, 3) := by decide +kernel
theorem dX5_may_19 : decode cX5_may 19 = .ok (.iconst (-1), 1) := by decide +kernel
theorem dX5_may_20 : decode cX5_may 20 = .ok (.ireturn, 1) := by decide +kernel
theorem dX5_may_21 : decode cX5_may 21 = .ok (.iload_n 3, 1) := by decide +kernel
theorem dX5_may_22 : decode cX5_may 22 = .ok (.iconst 2, 1) := by decide +kernel
theorem dX5_may_23 : decode cX5_may 23 = .ok (.invokestatic 56, 3) := by decide +kernel
theorem dX5_may_26 : decode cX5_may 26 = .ok (.ifCond .ne 6, 3) := by decide +kernel
theorem dX5_may_29 : decode cX5_may 29 = .ok (.bipush (-2), 2) := by decide +kernel
theorem dX5_may_31 : decode cX5_may 31 = .ok (.ireturn, 1) := by decide +kernel
theorem dX5_may_32 : decode cX5_may 32 = .ok (.aload_n 0, 1) := by decide +kernel
theorem dX5_may_33 : decode cX5_may 33 = .ok (.getfield 10, 3) := by decide +kernel
theorem dX5_may_36 : decode cX5_may 36 = .ok (.iload_n 1, 1) := by decide +kernel
theorem dX5_may_37 : decode cX5_may 37 = .ok (.iload_n 2, 1) := by decide +kernel
theorem dX5_may_38 : decode cX5_may 38 = .ok (.iload_n 3, 1) := by decide +kernel
theorem dX5_may_39 : decode cX5_may 39 = .ok (.invokevirtual 126, 3) := by decide +kernel
theorem dX5_may_42 : decode cX5_may 42 = .ok (.ireturn, 1) := by decide +kernel
theorem dX5_broken_0 : decode cX5_broken 0 = .ok (.aload_n 0, 1) := by decide +kernel
theorem dX5_broken_1 : decode cX5_broken 1 = .ok (.invokevirtual 83, 3) := by decide +kernel
theorem dX5_broken_4 : decode cX5_broken 4 = .ok (.istore_n 1, 1) := by decide +kernel
theorem dX5_broken_5 : decode cX5_broken 5 = .ok (.iload_n 1, 1) := by decide +kernel
theorem dX5_broken_6 : decode cX5_broken 6 = .ok (.ifCond .eq 7, 3) := by decide +kernel
theorem dX5_broken_9 : decode cX5_broken 9 = .ok (.iload_n 1, 1) := by decide +kernel
theorem dX5_broken_10 : decode cX5_broken 10 = .ok (.goto 14, 3) := by decide +kernel
theorem dX5_broken_13 : decode cX5_broken 13 = .ok (.aload_n 0, 1) := by decide +kernel
theorem dX5_broken_14 : decode cX5_broken 14 = .ok (.getfield 10, 3) := by decide +kernel
theorem dX5_broken_17 : decode cX5_broken 17 = .ok (.aload_n 0, 1) := by decide +kernel
theorem dX5_broken_18 : decode cX5_broken 18 = .ok (.getfield 27, 3) := by decide +kernel
theorem dX5_broken_21 : decode cX5_broken 21 = .ok (.invokevirtual 130, 3) := by decide +kernel
theorem dX5_broken_24 : decode cX5_broken 24 = .ok (.ireturn, 1) := by decide +kernel
theorem dX5_strangers_0 : decode cX5_strangers 0 = .ok (.aload_n 0, 1) := by decide +kernel
theorem dX5_strangers_1 : decode cX5_strangers 1 = .ok (.invokevirtual 83, 3) := by decide +kernel
theorem dX5_strangers_4 : decode cX5_strangers 4 = .ok (.istore_n 2, 1) := by decide +kernel
theorem dX5_strangers_5 : decode cX5_strangers 5 = .ok (.iload_n 2, 1) := by decide +kernel
theorem dX5_strangers_6 : decode cX5_strangers 6 = .ok (.ifCond .eq 5, 3) := by decide +kernel
theorem dX5_strangers_9 : decode cX5_strangers 9 = .ok (.iload_n 2, 1) := by decide +kernel
theorem dX5_strangers_10 : decode cX5_strangers 10 = .ok (.ireturn, 1) := by decide +kernel
theorem dX5_strangers_11 : decode cX5_strangers 11 = .ok (.iload_n 1, 1) := by decide +kernel
theorem dX5_strangers_12 : decode cX5_strangers 12 = .ok (.bipush 10, 2) := by decide +kernel
theorem dX5_strangers_14 : decode cX5_strangers 14 = .ok (.if_icmp .lt 18, 3) := by decide +kernel
theorem dX5_strangers_17 : decode cX5_strangers 17 = .ok (.aload_n 0, 1) := by decide +kernel
theorem dX5_strangers_18 : decode cX5_strangers 18 = .ok (.iload_n 1, 1) := by decide +kernel
theorem dX5_strangers_19 : decode cX5_strangers 19 = .ok (.bipush 10, 2) := by decide +kernel
theorem dX5_strangers_21 : decode cX5_strangers 21 = .ok (.isub, 1) := by decide +kernel
theorem dX5_strangers_22 : decode cX5_strangers 22 = .ok (.invokevirtual 100, 3) := by decide +kernel
theorem dX5_strangers_25 : decode cX5_strangers 25 = .ok (.ifCond .eq 7, 3) := by decide +kernel
theorem dX5_strangers_28 : decode cX5_strangers 28 = .ok (.iconst 1, 1) := by decide +kernel
theorem dX5_strangers_29 : decode cX5_strangers 29 = .ok (.goto 4, 3) := by decide +kernel
theorem dX5_strangers_32 : decode cX5_strangers 32 = .ok (.iconst 0, 1) := by decide +kernel
theorem dX5_strangers_33 : decode cX5_strangers 33 = .ok (.istore_n 3, 1) := by decide +kernel
theorem dX5_strangers_34 : decode cX5_strangers 34 = .ok (.iload_n 3, 1) := by decide +kernel
theorem dX5_strangers_35 : decode cX5_strangers 35 = .ok (.ifCond .ne 14, 3) := by decide +kernel
theorem dX5_strangers_38 : decode cX5_strangers 38 = .ok (.iload_n 1, 1) := by decide +kernel
theorem dX5_strangers_39 : decode cX5_strangers 39 = .ok (.iconst 2, 1) := by decide +kernel
theorem dX5_strangers_40 : decode cX5_strangers 40 = .ok (.invokestatic 56, 3) := by decide +kernel
theorem dX5_strangers_43 : decode cX5_strangers 43 = .ok (.ifCond .ne 6, 3) := by decide +kernel
theorem dX5_strangers_46 : decode cX5_strangers 46 = .ok (.bipush (-2), 2) := by decide +kernel
theorem dX5_strangers_48 : decode cX5_strangers 48 = .ok (.ireturn, 1) := by decide +kernel
theorem dX5_strangers_49 : decode cX5_strangers 49 = .ok (.aload_n 0, 1) := by decide +kernel
theorem dX5_strangers_50 : decode cX5_strangers 50 = .ok (.invokevirtual 133, 3) := by decide +kernel
theorem dX5_strangers_53 : decode cX5_strangers 53 = .ok (.istore 4, 2) := by decide +kernel
theorem dX5_strangers_55 : decode cX5_strangers 55 = .ok (.iload_n 1, 1) := by decide +kernel
theorem dX5_strangers_56 : decode cX5_strangers 56 = .ok (.iconst 2, 1) := by decide +kernel
theorem dX5_strangers_57 : decode cX5_strangers 57 = .ok (.if_icmp .ne 6, 3) := by decide +kernel
theorem dX5_strangers_60 : decode cX5_strangers 60 = .ok (.iload 4, 2) := by decide +kernel
theorem dX5_strangers_62 : decode cX5_strangers 62 = .ok (.ireturn, 1) := by decide +kernel
theorem dX5_strangers_63 : decode cX5_strangers 63 = .ok (.iload 4, 2) := by decide +kernel
theorem dX5_strangers_65 : decode cX5_strangers 65 = .ok (.bipush (-6), 2) := by decide +kernel
theorem dX5_strangers_67 : decode cX5_strangers 67 = .ok (.if_icmp .eq 6, 3) := by decide +kernel
theorem dX5_strangers_70 : decode cX5_strangers 70 = .ok (.bipush (-6), 2) := by decide +kernel
theorem dX5_strangers_72 : decode cX5_strangers 72 = .ok (.ireturn, 1) := by decide +kernel
theorem dX5_strangers_73 : decode cX5_strangers 73 = .ok (.iload_n 3, 1) := by decide +kernel
theorem dX5_strangers_74 : decode cX5_strangers 74 = .ok (.ifCond .eq 12, 3) := by decide +kernel
theorem dX5_strangers_77 : decode cX5_strangers 77 = .ok (.aload_n 0, 1) := by decide +kernel
theorem dX5_strangers_78 : decode cX5_strangers 78 = .ok (.iload_n 1, 1) := by decide +kernel
theorem dX5_strangers_79 : decode cX5_strangers 79 = .ok (.bipush 10, 2) := by decide +kernel
theorem dX5_strangers_81 : decode cX5_strangers 81 = .ok (.isub, 1) := by decide +kernel
theorem dX5_strangers_82 : decode cX5_strangers 82 = .ok (.invokevirtual 136, 3) := by decide +kernel
theorem dX5_strangers_85 : decode cX5_strangers 85 = .ok (.ireturn, 1) := by decide +kernel
theorem dX5_strangers_86 : decode cX5_strangers 86 = .ok (.iload_n 1, 1) := by decide +kernel
theorem dX5_strangers_87 : decode cX5_strangers 87 = .ok (.ifCond .ne 10, 3) := by decide +kernel
theorem dX5_strangers_90 : decode cX5_strangers 90 = .ok (.aload_n 0, 1) := by decide +kernel
theorem dX5_strangers_91 : decode cX5_strangers 91 = .ok (.invokevirtual 139, 3) := by decide +kernel
theorem dX5_strangers_94 : decode cX5_strangers 94 = .ok (.goto 7, 3) := by decide +kernel
theorem dX5_strangers_97 : decode cX5_strangers 97 = .ok (.aload_n 0, 1) := by decide +kernel
theorem dX5_strangers_98 : decode cX5_strangers 98 = .ok (.invokevirtual 142, 3) := by decide +kernel
theorem dX5_strangers_101 : decode cX5_strangers 101 = .ok (.ireturn, 1) := by decide +kernel
theorem dX5_cuts_0 : decode cX5_cuts 0 = .ok (.aload_n 0, 1) := by decide +kernel
theorem dX5_cuts_1 : decode cX5_cuts 1 = .ok (.invokevirtual 83, 3) := by decide +kernel
theorem dX5_cuts_4 : decode cX5_cuts 4 = .ok (.istore_n 1, 1) := by decide +kernel
theorem dX5_cuts_5 : decode cX5_cuts 5 = .ok (.iload_n 1, 1) := by decide +kernel
theorem dX5_cuts_6 : decode cX5_cuts 6 = .ok (.ifCond .eq 5, 3) := by decide +kernel
theorem dX5_cuts_9 : decode cX5_cuts 9 = .ok (.iload_n 1, 1) := by decide +kernel
theorem dX5_cuts_10 : decode cX5_cuts 10 = .ok (.ireturn, 1) := by decide +kernel
theorem dX5_cuts_11 : decode cX5_cuts 11 = .ok (.aload_n 0, 1) := by decide +kernel
theorem dX5_cuts_12 : decode cX5_cuts 12 = .ok (.getfield 10, 3) := by decide +kernel
theorem dX5_cuts_15 : decode cX5_cuts 15 = .ok (.getfield 60, 3) := by decide +kernel
theorem dX5_cuts_18 : decode cX5_cuts 18 = .ok (.ifCond .eq 14, 3) := by decide +kernel
theorem dX5_cuts_21 : decode cX5_cuts 21 = .ok (.aload_n 0, 1) := by decide +kernel
theorem dX5_cuts_22 : decode cX5_cuts 22 = .ok (.getfield 10, 3) := by decide +kernel
theorem dX5_cuts_25 : decode cX5_cuts 25 = .ok (.getfield 60, 3) := by decide +kernel
theorem dX5_cuts_28 : decode cX5_cuts 28 = .ok (.iconst 1, 1) := by decide +kernel
theorem dX5_cuts_29 : decode cX5_cuts 29 = .ok (.if_icmp .ne 7, 3) := by decide +kernel
theorem dX5_cuts_32 : decode cX5_cuts 32 = .ok (.iconst 1, 1) := by decide +kernel
theorem dX5_cuts_33 : decode cX5_cuts 33 = .ok (.goto 4, 3) := by decide +kernel
theorem dX5_cuts_36 : decode cX5_cuts 36 = .ok (.iconst 0, 1) := by decide +kernel
theorem dX5_cuts_37 : decode cX5_cuts 37 = .ok (.istore_n 2, 1) := by decide +kernel
theorem dX5_cuts_38 : decode cX5_cuts 38 = .ok (.aload_n 0, 1) := by decide +kernel
theorem dX5_cuts_39 : decode cX5_cuts 39 = .ok (.getfield 27, 3) := by decide +kernel
theorem dX5_cuts_42 : decode cX5_cuts 42 = .ok (.getfield 110, 3) := by decide +kernel
theorem dX5_cuts_45 : decode cX5_cuts 45 = .ok (.iload_n 2, 1) := by decide +kernel
theorem dX5_cuts_46 : decode cX5_cuts 46 = .ok (.ifCond .eq 10, 3) := by decide +kernel
theorem dX5_cuts_49 : decode cX5_cuts 49 = .ok (.aload_n 0, 1) := by decide +kernel
theorem dX5_cuts_50 : decode cX5_cuts 50 = .ok (.invokevirtual 145, 3) := by decide +kernel
theorem dX5_cuts_53 : decode cX5_cuts 53 = .ok (.goto 7, 3) := by decide +kernel
theorem dX5_cuts_56 : decode cX5_cuts 56 = .ok (.aload_n 0, 1) := by decide +kernel
theorem dX5_cuts_57 : decode cX5_cuts 57 = .ok (.invokevirtual 148, 3) := by decide +kernel
theorem dX5_cuts_60 : decode cX5_cuts 60 = .ok (.isub, 1) := by decide +kernel
theorem dX5_cuts_61 : decode cX5_cuts 61 = .ok (.ireturn, 1) := by decide +kernel
theorem dX5_cast_0 : decode cX5_cast 0 = .ok (.iload_n 1, 1) := by decide +kernel
theorem dX5_cast_1 : decode cX5_cast 1 = .ok (.iconst (-1), 1) := by decide +kernel
theorem dX5_cast_2 : decode cX5_cast 2 = .ok (.if_icmp .eq 12, 3) := by decide +kernel
theorem dX5_cast_5 : decode cX5_cast 5 = .ok (.iload_n 1, 1) := by decide +kernel
theorem dX5_cast_6 : decode cX5_cast 6 = .ok (.invokestatic 123, 3) := by decide +kernel
theorem dX5_cast_9 : decode cX5_cast 9 = .ok (.ifCond .ne 5, 3) := by decide +kernel
theorem dX5_cast_12 : decode cX5_cast 12 = .ok (.iconst (-1), 1) := by decide +kernel
theorem dX5_cast_13 : decode cX5_cast 13 = .ok (.ireturn, 1) := by decide +kernel
theorem dX5_cast_14 : decode cX5_cast 14 = .ok (.aload_n 0, 1) := by decide +kernel
theorem dX5_cast_15 : decode cX5_cast 15 = .ok (.invokevirtual 83, 3) := by decide +kernel
theorem dX5_cast_18 : decode cX5_cast 18 = .ok (.istore_n 2, 1) := by decide +kernel
theorem dX5_cast_19 : decode cX5_cast 19 = .ok (.iload_n 2, 1) := by decide +kernel
theorem dX5_cast_20 : decode cX5_cast 20 = .ok (.ifCond .eq 5, 3) := by decide +kernel
theorem dX5_cast_23 : decode cX5_cast 23 = .ok (.iload_n 2, 1) := by decide +kernel
theorem dX5_cast_24 : decode cX5_cast 24 = .ok (.ireturn, 1) := by decide +kernel
theorem dX5_cast_25 : decode cX5_cast 25 = .ok (.aload_n 0, 1) := by decide +kernel
theorem dX5_cast_26 : decode cX5_cast 26 = .ok (.getfield 34, 3) := by decide +kernel
theorem dX5_cast_29 : decode cX5_cast 29 = .ok (.aload_n 0, 1) := by decide +kernel
theorem dX5_cast_30 : decode cX5_cast 30 = .ok (.getfield 27, 3) := by decide +kernel
theorem dX5_cast_33 : decode cX5_cast 33 = .ok (.aload_n 0, 1) := by decide +kernel
theorem dX5_cast_34 : decode cX5_cast 34 = .ok (.getfield 10, 3) := by decide +kernel
theorem dX5_cast_37 : decode cX5_cast 37 = .ok (.getfield 67, 3) := by decide +kernel
theorem dX5_cast_40 : decode cX5_cast 40 = .ok (.invokevirtual 151, 3) := by decide +kernel
theorem dX5_cast_43 : decode cX5_cast 43 = .ok (.iload_n 1, 1) := by decide +kernel
theorem dX5_cast_44 : decode cX5_cast 44 = .ok (.iconst (-1), 1) := by decide +kernel
theorem dX5_cast_45 : decode cX5_cast 45 = .ok (.if_icmp .ne 13, 3) := by decide +kernel
theorem dX5_cast_48 : decode cX5_cast 48 = .ok (.aload_n 0, 1) := by decide +kernel
theorem dX5_cast_49 : decode cX5_cast 49 = .ok (.getfield 34, 3) := by decide +kernel
theorem dX5_cast_52 : decode cX5_cast 52 = .ok (.getfield 155, 3) := by decide +kernel
theorem dX5_cast_55 : decode cX5_cast 55 = .ok (.goto 12, 3) := by decide +kernel
theorem dX5_cast_58 : decode cX5_cast 58 = .ok (.aload_n 0, 1) := by decide +kernel
theorem dX5_cast_59 : decode cX5_cast 59 = .ok (.getfield 34, 3) := by decide +kernel
theorem dX5_cast_62 : decode cX5_cast 62 = .ok (.getfield 158, 3) := by decide +kernel
theorem dX5_cast_65 : decode cX5_cast 65 = .ok (.iload_n 1, 1) := by decide +kernel
theorem dX5_cast_66 : decode cX5_cast 66 = .ok (.iaload, 1) := by decide +kernel
theorem dX5_cast_67 : decode cX5_cast 67 = .ok (.ireturn, 1) := by decide +kernel
theorem dX5_ill_0 : decode cX5_ill 0 = .ok (.iload_n 1, 1) := by decide +kernel
theorem dX5_ill_1 : decode cX5_ill 1 = .ok (.invokestatic 123, 3) := by decide +kernel
theorem dX5_ill_4 : decode cX5_ill 4 = .ok (.ifCond .ne 5, 3) := by decide +kernel
theorem dX5_ill_7 : decode cX5_ill 7 = .ok (.iconst (-1), 1) := by decide +kernel
theorem dX5_ill_8 : decode cX5_ill 8 = .ok (.ireturn, 1) := by decide +kernel
theorem dX5_ill_9 : decode cX5_ill 9 = .ok (.aload_n 0, 1) := by decide +kernel
theorem dX5_ill_10 : decode cX5_ill 10 = .ok (.invokevirtual 83, 3) := by decide +kernel
theorem dX5_ill_13 : decode cX5_ill 13 = .ok (.istore_n 3, 1) := by decide +kernel
theorem dX5_ill_14 : decode cX5_ill 14 = .ok (.iload_n 3, 1) := by decide +kernel
theorem dX5_ill_15 : decode cX5_ill 15 = .ok (.ifCond .eq 5, 3) := by decide +kernel
theorem dX5_ill_18 : decode cX5_ill 18 = .ok (.iload_n 3, 1) := by decide +kernel
theorem dX5_ill_19 : decode cX5_ill 19 = .ok (.ireturn, 1) := by decide +kernel
theorem dX5_ill_20 : decode cX5_ill 20 = .ok (.aload_n 0, 1) := by decide +kernel
theorem dX5_ill_21 : decode cX5_ill 21 = .ok (.iload_n 2, 1) := by decide +kernel
theorem dX5_ill_22 : decode cX5_ill 22 = .ok (.invokevirtual 100, 3) := by decide +kernel
theorem dX5_ill_25 : decode cX5_ill 25 = .ok (.ifCond .ne 6, 3) := by decide +kernel
theorem dX5_ill_28 : decode cX5_ill 28 = .ok (.bipush (-2), 2) := by decide +kernel
theorem dX5_ill_30 : decode cX5_ill 30 = .ok (.ireturn, 1) := by decide +kernel
theorem dX5_ill_31 : decode cX5_ill 31 = .ok (.aload_n 0, 1) := by decide +kernel
theorem dX5_ill_32 : decode cX5_ill 32 = .ok (.getfield 34, 3) := by decide +kernel
theorem dX5_ill_35 : decode cX5_ill 35 = .ok (.aload_n 0, 1) := by decide +kernel
theorem dX5_ill_36 : decode cX5_ill 36 = .ok (.getfield 27, 3) := by decide +kernel
theorem dX5_ill_39 : decode cX5_ill 39 = .ok (.aload_n 0, 1) := by decide +kernel
theorem dX5_ill_40 : decode cX5_ill 40 = .ok (.getfield 10, 3) := by decide +kernel
theorem dX5_ill_43 : decode cX5_ill 43 = .ok (.getfield 67, 3) := by decide +kernel
theorem dX5_ill_46 : decode cX5_ill 46 = .ok (.invokevirtual 151, 3) := by decide +kernel
theorem dX5_ill_49 : decode cX5_ill 49 = .ok (.aload_n 0, 1) := by decide +kernel
theorem dX5_ill_50 : decode cX5_ill 50 = .ok (.getfield 34, 3) := by decide +kernel
theorem dX5_ill_53 : decode cX5_ill 53 = .ok (.aload_n 0, 1) := by decide +kernel
theorem dX5_ill_54 : decode cX5_ill 54 = .ok (.getfield 34, 3) := by decide +kernel
theorem dX5_ill_57 : decode cX5_ill 57 = .ok (.getfield 158, 3) := by decide +kernel
theorem dX5_ill_60 : decode cX5_ill 60 = .ok (.iload_n 1, 1) := by decide +kernel
theorem dX5_ill_61 : decode cX5_ill 61 = .ok (.iaload, 1) := by decide +kernel
theorem dX5_ill_62 : decode cX5_ill 62 = .ok (.iload_n 2, 1) := by decide +kernel
theorem dX5_ill_63 : decode cX5_ill 63 = .ok (.invokevirtual 161, 3) := by decide +kernel
theorem dX5_ill_66 : decode cX5_ill 66 = .ok (.ireturn, 1) := by decide +kernel
theorem dX5_scene_0 : decode cX5_scene 0 = .ok (.iload_n 1, 1) := by decide +kernel
theorem dX5_scene_1 : decode cX5_scene 1 = .ok (.sipush 255, 3) := by decide +kernel
theorem dX5_scene_4 : decode cX5_scene 4 = .ok (.invokestatic 56, 3) := by decide +kernel
theorem dX5_scene_7 : decode cX5_scene 7 = .ok (.ifCond .ne 6, 3) := by decide +kernel
theorem dX5_scene_10 : decode cX5_scene 10 = .ok (.bipush (-2), 2) := by decide +kernel
theorem dX5_scene_12 : decode cX5_scene 12 = .ok (.ireturn, 1) := by decide +kernel
theorem dX5_scene_13 : decode cX5_scene 13 = .ok (.aload_n 0, 1) := by decide +kernel
theorem dX5_scene_14 : decode cX5_scene 14 = .ok (.getfield 10, 3) := by decide +kernel
theorem dX5_scene_17 : decode cX5_scene 17 = .ok (.iload_n 1, 1) := by decide +kernel
theorem dX5_scene_18 : decode cX5_scene 18 = .ok (.invokevirtual 165, 3) := by decide +kernel
theorem dX5_scene_21 : decode cX5_scene 21 = .ok (.ireturn, 1) := by decide +kernel
theorem dX5_strike_0 : decode cX5_strike 0 = .ok (.aload_n 0, 1) := by decide +kernel
theorem dX5_strike_1 : decode cX5_strike 1 = .ok (.getfield 10, 3) := by decide +kernel
theorem dX5_strike_4 : decode cX5_strike 4 = .ok (.getfield 168, 3) := by decide +kernel
theorem dX5_strike_7 : decode cX5_strike 7 = .ok (.istore_n 1, 1) := by decide +kernel
theorem dX5_strike_8 : decode cX5_strike 8 = .ok (.aload_n 0, 1) := by decide +kernel
theorem dX5_strike_9 : decode cX5_strike 9 = .ok (.getfield 10, 3) := by decide +kernel
theorem dX5_strike_12 : decode cX5_strike 12 = .ok (.iconst 0, 1) := by decide +kernel
theorem dX5_strike_13 : decode cX5_strike 13 = .ok (.putfield 168, 3) := by decide +kernel
theorem dX5_strike_16 : decode cX5_strike 16 = .ok (.iload_n 1, 1) := by decide +kernel
theorem dX5_strike_17 : decode cX5_strike 17 = .ok (.ireturn, 1) := by decide +kernel
theorem dX5_order_0 : decode cX5_order 0 = .ok (.iload_n 1, 1) := by decide +kernel
theorem dX5_order_1 : decode cX5_order 1 = .ok (.iconst (-1), 1) := by decide +kernel
theorem dX5_order_2 : decode cX5_order 2 = .ok (.if_icmp .lt 14, 3) := by decide +kernel
theorem dX5_order_5 : decode cX5_order 5 = .ok (.iload_n 1, 1) := by decide +kernel
theorem dX5_order_6 : decode cX5_order 6 = .ok (.aload_n 0, 1) := by decide +kernel
theorem dX5_order_7 : decode cX5_order 7 = .ok (.getfield 10, 3) := by decide +kernel
theorem dX5_order_10 : decode cX5_order 10 = .ok (.getfield 168, 3) := by decide +kernel
theorem dX5_order_13 : decode cX5_order 13 = .ok (.if_icmp .lt 6, 3) := by decide +kernel
theorem dX5_order_16 : decode cX5_order 16 = .ok (.bipush (-6), 2) := by decide +kernel
theorem dX5_order_18 : decode cX5_order 18 = .ok (.ireturn, 1) := by decide +kernel
theorem dX5_order_19 : decode cX5_order 19 = .ok (.aload_n 0, 1) := by decide +kernel
theorem dX5_order_20 : decode cX5_order 20 = .ok (.getfield 41, 3) := by decide +kernel
theorem dX5_order_23 : decode cX5_order 23 = .ok (.aload_n 0, 1) := by decide +kernel
theorem dX5_order_24 : decode cX5_order 24 = .ok (.getfield 10, 3) := by decide +kernel
theorem dX5_order_27 : decode cX5_order 27 = .ok (.invokevirtual 171, 3) := by decide +kernel
theorem dX5_order_30 : decode cX5_order 30 = .ok (.iload_n 1, 1) := by decide +kernel
theorem dX5_order_31 : decode cX5_order 31 = .ok (.iconst (-1), 1) := by decide +kernel
theorem dX5_order_32 : decode cX5_order 32 = .ok (.if_icmp .ne 13, 3) := by decide +kernel
theorem dX5_order_35 : decode cX5_order 35 = .ok (.aload_n 0, 1) := by decide +kernel
theorem dX5_order_36 : decode cX5_order 36 = .ok (.getfield 41, 3) := by decide +kernel
theorem dX5_order_39 : decode cX5_order 39 = .ok (.getfield 174, 3) := by decide +kernel
theorem dX5_order_42 : decode cX5_order 42 = .ok (.goto 12, 3) := by decide +kernel
theorem dX5_order_45 : decode cX5_order 45 = .ok (.aload_n 0, 1) := by decide +kernel
theorem dX5_order_46 : decode cX5_order 46 = .ok (.getfield 41, 3) := by decide +kernel
theorem dX5_order_49 : decode cX5_order 49 = .ok (.getfield 177, 3) := by decide +kernel
theorem dX5_order_52 : decode cX5_order 52 = .ok (.iload_n 1, 1) := by decide +kernel
theorem dX5_order_53 : decode cX5_order 53 = .ok (.iaload, 1) := by decide +kernel
theorem dX5_order_54 : decode cX5_order 54 = .ok (.ireturn, 1) := by decide +kernel
theorem dX5_seen_0 : decode cX5_seen 0 = .ok (.iload_n 1, 1) := by decide +kernel
theorem dX5_seen_1 : decode cX5_seen 1 = .ok (.bipush 39, 2) := by decide +kernel
theorem dX5_seen_3 : decode cX5_seen 3 = .ok (.invokestatic 56, 3) := by decide +kernel
theorem dX5_seen_6 : decode cX5_seen 6 = .ok (.ifCond .eq 12, 3) := by decide +kernel
theorem dX5_seen_9 : decode cX5_seen 9 = .ok (.iload_n 2, 1) := by decide +kernel
theorem dX5_seen_10 : decode cX5_seen 10 = .ok (.bipush 8, 2) := by decide +kernel
theorem dX5_seen_12 : decode cX5_seen 12 = .ok (.invokestatic 56, 3) := by decide +kernel
theorem dX5_seen_15 : decode cX5_seen 15 = .ok (.ifCond .ne 6, 3) := by decide +kernel
theorem dX5_seen_18 : decode cX5_seen 18 = .ok (.bipush (-2), 2) := by decide +kernel
theorem dX5_seen_20 : decode cX5_seen 20 = .ok (.ireturn, 1) := by decide +kernel
theorem dX5_seen_21 : decode cX5_seen 21 = .ok (.aload_n 0, 1) := by decide +kernel
theorem dX5_seen_22 : decode cX5_seen 22 = .ok (.getfield 10, 3) := by decide +kernel
theorem dX5_seen_25 : decode cX5_seen 25 = .ok (.iload_n 1, 1) := by decide +kernel
theorem dX5_seen_26 : decode cX5_seen 26 = .ok (.iload_n 2, 1) := by decide +kernel
theorem dX5_seen_27 : decode cX5_seen 27 = .ok (.invokevirtual 180, 3) := by decide +kernel
theorem dX5_seen_30 : decode cX5_seen 30 = .ok (.ireturn, 1) := by decide +kernel
theorem dX5_forget_0 : decode cX5_forget 0 = .ok (.aload_n 0, 1) := by decide +kernel
theorem dX5_forget_1 : decode cX5_forget 1 = .ok (.getfield 10, 3) := by decide +kernel
theorem dX5_forget_4 : decode cX5_forget 4 = .ok (.getfield 183, 3) := by decide +kernel
theorem dX5_forget_7 : decode cX5_forget 7 = .ok (.istore_n 1, 1) := by decide +kernel
theorem dX5_forget_8 : decode cX5_forget 8 = .ok (.aload_n 0, 1) := by decide +kernel
theorem dX5_forget_9 : decode cX5_forget 9 = .ok (.getfield 10, 3) := by decide +kernel
theorem dX5_forget_12 : decode cX5_forget 12 = .ok (.iconst 0, 1) := by decide +kernel
theorem dX5_forget_13 : decode cX5_forget 13 = .ok (.putfield 183, 3) := by decide +kernel
theorem dX5_forget_16 : decode cX5_forget 16 = .ok (.iload_n 1, 1) := by decide +kernel
theorem dX5_forget_17 : decode cX5_forget 17 = .ok (.ireturn, 1) := by decide +kernel
theorem dX5_fits_0 : decode cX5_fits 0 = .ok (.aload_n 0, 1) := by decide +kernel
theorem dX5_fits_1 : decode cX5_fits 1 = .ok (.getfield 27, 3) := by decide +kernel
theorem dX5_fits_4 : decode cX5_fits 4 = .ok (.invokevirtual 77, 3) := by decide +kernel
theorem dX5_fits_7 : decode cX5_fits 7 = .ok (.aload_n 0, 1) := by decide +kernel
theorem dX5_fits_8 : decode cX5_fits 8 = .ok (.getfield 27, 3) := by decide +kernel
theorem dX5_fits_11 : decode cX5_fits 11 = .ok (.getfield 80, 3) := by decide +kernel
theorem dX5_fits_14 : decode cX5_fits 14 = .ok (.bipush (-6), 2) := by decide +kernel
theorem dX5_fits_16 : decode cX5_fits 16 = .ok (.if_icmp .eq 6, 3) := by decide +kernel
theorem dX5_fits_19 : decode cX5_fits 19 = .ok (.bipush (-5), 2) := by decide +kernel
theorem dX5_fits_21 : decode cX5_fits 21 = .ok (.ireturn, 1) := by decide +kernel
theorem dX5_fits_22 : decode cX5_fits 22 = .ok (.iload_n 1, 1) := by decide +kernel
theorem dX5_fits_23 : decode cX5_fits 23 = .ok (.iconst (-1), 1) := by decide +kernel
theorem dX5_fits_24 : decode cX5_fits 24 = .ok (.if_icmp .lt 14, 3) := by decide +kernel
theorem dX5_fits_27 : decode cX5_fits 27 = .ok (.iload_n 1, 1) := by decide +kernel
theorem dX5_fits_28 : decode cX5_fits 28 = .ok (.aload_n 0, 1) := by decide +kernel
theorem dX5_fits_29 : decode cX5_fits 29 = .ok (.getfield 27, 3) := by decide +kernel
theorem dX5_fits_32 : decode cX5_fits 32 = .ok (.getfield 186, 3) := by decide +kernel
theorem dX5_fits_35 : decode cX5_fits 35 = .ok (.if_icmp .lt 6, 3) := by decide +kernel
theorem dX5_fits_38 : decode cX5_fits 38 = .ok (.bipush (-6), 2) := by decide +kernel
theorem dX5_fits_40 : decode cX5_fits 40 = .ok (.ireturn, 1) := by decide +kernel
theorem dX5_fits_41 : decode cX5_fits 41 = .ok (.aload_n 0, 1) := by decide +kernel
theorem dX5_fits_42 : decode cX5_fits 42 = .ok (.getfield 48, 3) := by decide +kernel
theorem dX5_fits_45 : decode cX5_fits 45 = .ok (.aload_n 0, 1) := by decide +kernel
theorem dX5_fits_46 : decode cX5_fits 46 = .ok (.getfield 27, 3) := by decide +kernel
theorem dX5_fits_49 : decode cX5_fits 49 = .ok (.aload_n 0, 1) := by decide +kernel
theorem dX5_fits_50 : decode cX5_fits 50 = .ok (.getfield 10, 3) := by decide +kernel
theorem dX5_fits_53 : decode cX5_fits 53 = .ok (.invokevirtual 189, 3) := by decide +kernel
theorem dX5_fits_56 : decode cX5_fits 56 = .ok (.iload_n 1, 1) := by decide +kernel
theorem dX5_fits_57 : decode cX5_fits 57 = .ok (.iconst (-1), 1) := by decide +kernel
theorem dX5_fits_58 : decode cX5_fits 58 = .ok (.if_icmp .ne 11, 3) := by decide +kernel
theorem dX5_fits_61 : decode cX5_fits 61 = .ok (.aload_n 0, 1) := by decide +kernel
theorem dX5_fits_62 : decode cX5_fits 62 = .ok (.getfield 48, 3) := by decide +kernel
theorem dX5_fits_65 : decode cX5_fits 65 = .ok (.getfield 193, 3) := by decide +kernel
theorem dX5_fits_68 : decode cX5_fits 68 = .ok (.ireturn, 1) := by decide +kernel
theorem dX5_fits_69 : decode cX5_fits 69 = .ok (.aload_n 0, 1) := by decide +kernel
theorem dX5_fits_70 : decode cX5_fits 70 = .ok (.getfield 48, 3) := by decide +kernel
theorem dX5_fits_73 : decode cX5_fits 73 = .ok (.getfield 193, 3) := by decide +kernel
theorem dX5_fits_76 : decode cX5_fits 76 = .ok (.ifCond .ne 8, 3) := by decide +kernel
theorem dX5_fits_79 : decode cX5_fits 79 = .ok (.bipush (-6), 2) := by decide +kernel
theorem dX5_fits_81 : decode cX5_fits 81 = .ok (.goto 18, 3) := by decide +kernel
theorem dX5_fits_84 : decode cX5_fits 84 = .ok (.aload_n 0, 1) := by decide +kernel
theorem dX5_fits_85 : decode cX5_fits 85 = .ok (.getfield 27, 3) := by decide +kernel
theorem dX5_fits_88 : decode cX5_fits 88 = .ok (.aload_n 0, 1) := by decide +kernel
theorem dX5_fits_89 : decode cX5_fits 89 = .ok (.getfield 48, 3) := by decide +kernel
theorem dX5_fits_92 : decode cX5_fits 92 = .ok (.getfield 196, 3) := by decide +kernel
theorem dX5_fits_95 : decode cX5_fits 95 = .ok (.iload_n 1, 1) := by decide +kernel
theorem dX5_fits_96 : decode cX5_fits 96 = .ok (.invokevirtual 199, 3) := by decide +kernel
theorem dX5_fits_99 : decode cX5_fits 99 = .ok (.ireturn, 1) := by decide +kernel
theorem dX5_could_0 : decode cX5_could 0 = .ok (.aload_n 0, 1) := by decide +kernel
theorem dX5_could_1 : decode cX5_could 1 = .ok (.getfield 27, 3) := by decide +kernel
theorem dX5_could_4 : decode cX5_could 4 = .ok (.invokevirtual 77, 3) := by decide +kernel
theorem dX5_could_7 : decode cX5_could 7 = .ok (.aload_n 0, 1) := by decide +kernel
theorem dX5_could_8 : decode cX5_could 8 = .ok (.getfield 27, 3) := by decide +kernel
theorem dX5_could_11 : decode cX5_could 11 = .ok (.getfield 80, 3) := by decide +kernel
theorem dX5_could_14 : decode cX5_could 14 = .ok (.bipush (-6), 2) := by decide +kernel
theorem dX5_could_16 : decode cX5_could 16 = .ok (.if_icmp .eq 6, 3) := by decide +kernel
theorem dX5_could_19 : decode cX5_could 19 = .ok (.bipush (-5), 2) := by decide +kernel
theorem dX5_could_21 : decode cX5_could 21 = .ok (.ireturn, 1) := by decide +kernel
theorem dX5_could_22 : decode cX5_could 22 = .ok (.iload_n 1, 1) := by decide +kernel
theorem dX5_could_23 : decode cX5_could 23 = .ok (.ifCond .lt 14, 3) := by decide +kernel
theorem dX5_could_26 : decode cX5_could 26 = .ok (.iload_n 1, 1) := by decide +kernel
theorem dX5_could_27 : decode cX5_could 27 = .ok (.aload_n 0, 1) := by decide +kernel
theorem dX5_could_28 : decode cX5_could 28 = .ok (.getfield 27, 3) := by decide +kernel
theorem dX5_could_31 : decode cX5_could 31 = .ok (.getfield 186, 3) := by decide +kernel
theorem dX5_could_34 : decode cX5_could 34 = .ok (.if_icmp .lt 6, 3) := by decide +kernel
theorem dX5_could_37 : decode cX5_could 37 = .ok (.bipush (-6), 2) := by decide +kernel
theorem dX5_could_39 : decode cX5_could 39 = .ok (.ireturn, 1) := by decide +kernel
theorem dX5_could_40 : decode cX5_could 40 = .ok (.aload_n 0, 1) := by decide +kernel
theorem dX5_could_41 : decode cX5_could 41 = .ok (.getfield 48, 3) := by decide +kernel
theorem dX5_could_44 : decode cX5_could 44 = .ok (.aload_n 0, 1) := by decide +kernel
theorem dX5_could_45 : decode cX5_could 45 = .ok (.getfield 27, 3) := by decide +kernel
theorem dX5_could_48 : decode cX5_could 48 = .ok (.aload_n 0, 1) := by decide +kernel
theorem dX5_could_49 : decode cX5_could 49 = .ok (.getfield 10, 3) := by decide +kernel
theorem dX5_could_52 : decode cX5_could 52 = .ok (.invokevirtual 189, 3) := by decide +kernel
theorem dX5_could_55 : decode cX5_could 55 = .ok (.aload_n 0, 1) := by decide +kernel
theorem dX5_could_56 : decode cX5_could 56 = .ok (.getfield 48, 3) := by decide +kernel
theorem dX5_could_59 : decode cX5_could 59 = .ok (.getfield 202, 3) := by decide +kernel
theorem dX5_could_62 : decode cX5_could 62 = .ok (.iload_n 1, 1) := by decide +kernel
theorem dX5_could_63 : decode cX5_could 63 = .ok (.iaload, 1) := by decide +kernel
theorem dX5_could_64 : decode cX5_could 64 = .ok (.ireturn, 1) := by decide +kernel
theorem dX5_evening_0 : decode cX5_evening 0 = .ok (.iload_n 1, 1) := by decide +kernel
theorem dX5_evening_1 : decode cX5_evening 1 = .ok (.sipush 9999, 3) := by decide +kernel
theorem dX5_evening_4 : decode cX5_evening 4 = .ok (.invokestatic 56, 3) := by decide +kernel
theorem dX5_evening_7 : decode cX5_evening 7 = .ok (.ifCond .eq 22, 3) := by decide +kernel
theorem dX5_evening_10 : decode cX5_evening 10 = .ok (.iload_n 2, 1) := by decide +kernel
theorem dX5_evening_11 : decode cX5_evening 11 = .ok (.iconst 1, 1) := by decide +kernel
theorem dX5_evening_12 : decode cX5_evening 12 = .ok (.if_icmp .lt 17, 3) := by decide +kernel
theorem dX5_evening_15 : decode cX5_evening 15 = .ok (.iload_n 2, 1) := by decide +kernel
theorem dX5_evening_16 : decode cX5_evening 16 = .ok (.bipush 99, 2) := by decide +kernel
theorem dX5_evening_18 : decode cX5_evening 18 = .ok (.if_icmp .gt 11, 3) := by decide +kernel
theorem dX5_evening_21 : decode cX5_evening 21 = .ok (.iload_n 3, 1) := by decide +kernel
theorem dX5_evening_22 : decode cX5_evening 22 = .ok (.iconst 2, 1) := by decide +kernel
theorem dX5_evening_23 : decode cX5_evening 23 = .ok (.invokestatic 56, 3) := by decide +kernel
theorem dX5_evening_26 : decode cX5_evening 26 = .ok (.ifCond .ne 6, 3) := by decide +kernel
theorem dX5_evening_29 : decode cX5_evening 29 = .ok (.bipush (-2), 2) := by decide +kernel
theorem dX5_evening_31 : decode cX5_evening 31 = .ok (.ireturn, 1) := by decide +kernel
theorem dX5_evening_32 : decode cX5_evening 32 = .ok (.iload_n 1, 1) := by decide +kernel
theorem dX5_evening_33 : decode cX5_evening 33 = .ok (.istore 4, 2) := by decide +kernel
theorem dX5_evening_35 : decode cX5_evening 35 = .ok (.iconst 0, 1) := by decide +kernel
theorem dX5_evening_36 : decode cX5_evening 36 = .ok (.istore 5, 2) := by decide +kernel
theorem dX5_evening_38 : decode cX5_evening 38 = .ok (.iconst 0, 1) := by decide +kernel
theorem dX5_evening_39 : decode cX5_evening 39 = .ok (.istore 6, 2) := by decide +kernel
theorem dX5_evening_41 : decode cX5_evening 41 = .ok (.iconst 0, 1) := by decide +kernel
theorem dX5_evening_42 : decode cX5_evening 42 = .ok (.istore 7, 2) := by decide +kernel
theorem dX5_evening_44 : decode cX5_evening 44 = .ok (.iconst 0, 1) := by decide +kernel
theorem dX5_evening_45 : decode cX5_evening 45 = .ok (.istore 8, 2) := by decide +kernel
theorem dX5_evening_47 : decode cX5_evening 47 = .ok (.aload_n 0, 1) := by decide +kernel
theorem dX5_evening_48 : decode cX5_evening 48 = .ok (.getfield 10, 3) := by decide +kernel
theorem dX5_evening_51 : decode cX5_evening 51 = .ok (.getfield 64, 3) := by decide +kernel
theorem dX5_evening_54 : decode cX5_evening 54 = .ok (.istore 9, 2) := by decide +kernel
theorem dX5_evening_56 : decode cX5_evening 56 = .ok (.iconst 0, 1) := by decide +kernel
theorem dX5_evening_57 : decode cX5_evening 57 = .ok (.istore 10, 2) := by decide +kernel
theorem dX5_evening_59 : decode cX5_evening 59 = .ok (.iload 10, 2) := by decide +kernel
theorem dX5_evening_61 : decode cX5_evening 61 = .ok (.iload_n 2, 1) := by decide +kernel
theorem dX5_evening_62 : decode cX5_evening 62 = .ok (.if_icmp .ge 71, 3) := by decide +kernel
theorem dX5_evening_65 : decode cX5_evening 65 = .ok (.bipush 75, 2) := by decide +kernel
theorem dX5_evening_67 : decode cX5_evening 67 = .ok (.iload 4, 2) := by decide +kernel
theorem dX5_evening_69 : decode cX5_evening 69 = .ok (.imul, 1) := by decide +kernel
theorem dX5_evening_70 : decode cX5_evening 70 = .ok (.bipush 74, 2) := by decide +kernel
theorem dX5_evening_72 : decode cX5_evening 72 = .ok (.iadd, 1) := by decide +kernel
theorem dX5_evening_73 : decode cX5_evening 73 = .ok (.ldc 205, 2) := by decide +kernel
theorem dX5_evening_75 : decode cX5_evening 75 = .ok (.irem, 1) := by decide +kernel
theorem dX5_evening_76 : decode cX5_evening 76 = .ok (.istore 4, 2) := by decide +kernel
theorem dX5_evening_78 : decode cX5_evening 78 = .ok (.iload 5, 2) := by decide +kernel
theorem dX5_evening_80 : decode cX5_evening 80 = .ok (.iconst 1, 1) := by decide +kernel
theorem dX5_evening_81 : decode cX5_evening 81 = .ok (.iload 4, 2) := by decide +kernel
theorem dX5_evening_83 : decode cX5_evening 83 = .ok (.bipush 8, 2) := by decide +kernel
theorem dX5_evening_85 : decode cX5_evening 85 = .ok (.irem, 1) := by decide +kernel
theorem dX5_evening_86 : decode cX5_evening 86 = .ok (.ishl, 1) := by decide +kernel
theorem dX5_evening_87 : decode cX5_evening 87 = .ok (.ixor, 1) := by decide +kernel
theorem dX5_evening_88 : decode cX5_evening 88 = .ok (.istore 5, 2) := by decide +kernel
theorem dX5_evening_90 : decode cX5_evening 90 = .ok (.iload 5, 2) := by decide +kernel
theorem dX5_evening_92 : decode cX5_evening 92 = .ok (.invokestatic 206, 3) := by decide +kernel
theorem dX5_evening_95 : decode cX5_evening 95 = .ok (.istore 6, 2) := by decide +kernel
theorem dX5_evening_97 : decode cX5_evening 97 = .ok (.iload 7, 2) := by decide +kernel
theorem dX5_evening_99 : decode cX5_evening 99 = .ok (.iload 6, 2) := by decide +kernel
theorem dX5_evening_101 : decode cX5_evening 101 = .ok (.invokestatic 210, 3) := by decide +kernel
theorem dX5_evening_104 : decode cX5_evening 104 = .ok (.istore 7, 2) := by decide +kernel
theorem dX5_evening_106 : decode cX5_evening 106 = .ok (.aload_n 0, 1) := by decide +kernel
theorem dX5_evening_107 : decode cX5_evening 107 = .ok (.getfield 10, 3) := by decide +kernel
theorem dX5_evening_110 : decode cX5_evening 110 = .ok (.iload 6, 2) := by decide +kernel
theorem dX5_evening_112 : decode cX5_evening 112 = .ok (.iload 9, 2) := by decide +kernel
theorem dX5_evening_114 : decode cX5_evening 114 = .ok (.invokevirtual 215, 3) := by decide +kernel
theorem dX5_evening_117 : decode cX5_evening 117 = .ok (.ifCond .eq 6, 3) := by decide +kernel
theorem dX5_evening_120 : decode cX5_evening 120 = .ok (.iinc 8 1, 3) := by decide +kernel
theorem dX5_evening_123 : decode cX5_evening 123 = .ok (.iload 6, 2) := by decide +kernel
theorem dX5_evening_125 : decode cX5_evening 125 = .ok (.istore 9, 2) := by decide +kernel
theorem dX5_evening_127 : decode cX5_evening 127 = .ok (.iinc 10 1, 3) := by decide +kernel
theorem dX5_evening_130 : decode cX5_evening 130 = .ok (.goto (-71), 3) := by decide +kernel
theorem dX5_evening_133 : decode cX5_evening 133 = .ok (.iload_n 3, 1) := by decide +kernel
theorem dX5_evening_134 : decode cX5_evening 134 = .ok (.ifCond .ne 6, 3) := by decide +kernel
theorem dX5_evening_137 : decode cX5_evening 137 = .ok (.iload 8, 2) := by decide +kernel
theorem dX5_evening_139 : decode cX5_evening 139 = .ok (.ireturn, 1) := by decide +kernel
theorem dX5_evening_140 : decode cX5_evening 140 = .ok (.iload_n 3, 1) := by decide +kernel
theorem dX5_evening_141 : decode cX5_evening 141 = .ok (.iconst 1, 1) := by decide +kernel
theorem dX5_evening_142 : decode cX5_evening 142 = .ok (.if_icmp .ne 8, 3) := by decide +kernel
theorem dX5_evening_145 : decode cX5_evening 145 = .ok (.iload 6, 2) := by decide +kernel
theorem dX5_evening_147 : decode cX5_evening 147 = .ok (.goto 5, 3) := by decide +kernel
theorem dX5_evening_150 : decode cX5_evening 150 = .ok (.iload 7, 2) := by decide +kernel
theorem dX5_evening_152 : decode cX5_evening 152 = .ok (.ireturn, 1) := by decide +kernel
theorem dX5_image_0 : decode cX5_image 0 = .ok (.iload_n 1, 1) := by decide +kernel
theorem dX5_image_1 : decode cX5_image 1 = .ok (.iconst 1, 1) := by decide +kernel
theorem dX5_image_2 : decode cX5_image 2 = .ok (.invokestatic 56, 3) := by decide +kernel
theorem dX5_image_5 : decode cX5_image 5 = .ok (.ifCond .ne 6, 3) := by decide +kernel
theorem dX5_image_8 : decode cX5_image 8 = .ok (.bipush (-2), 2) := by decide +kernel
theorem dX5_image_10 : decode cX5_image 10 = .ok (.ireturn, 1) := by decide +kernel
theorem dX5_image_11 : decode cX5_image 11 = .ok (.aload_n 0, 1) := by decide +kernel
theorem dX5_image_12 : decode cX5_image 12 = .ok (.getfield 16, 3) := by decide +kernel
theorem dX5_image_15 : decode cX5_image 15 = .ok (.iload_n 1, 1) := by decide +kernel
theorem dX5_image_16 : decode cX5_image 16 = .ok (.aaload, 1) := by decide +kernel
theorem dX5_image_17 : decode cX5_image 17 = .ok (.aload_n 0, 1) := by decide +kernel
theorem dX5_image_18 : decode cX5_image 18 = .ok (.getfield 10, 3) := by decide +kernel
theorem dX5_image_21 : decode cX5_image 21 = .ok (.invokevirtual 218, 3) := by decide +kernel
theorem dX5_image_24 : decode cX5_image 24 = .ok (.aload_n 0, 1) := by decide +kernel
theorem dX5_image_25 : decode cX5_image 25 = .ok (.getfield 20, 3) := by decide +kernel
theorem dX5_image_28 : decode cX5_image 28 = .ok (.iload_n 1, 1) := by decide +kernel
theorem dX5_image_29 : decode cX5_image 29 = .ok (.iconst 1, 1) := by decide +kernel
theorem dX5_image_30 : decode cX5_image 30 = .ok (.bastore, 1) := by decide +kernel
theorem dX5_image_31 : decode cX5_image 31 = .ok (.iconst 1, 1) := by decide +kernel
theorem dX5_image_32 : decode cX5_image 32 = .ok (.ireturn, 1) := by decide +kernel
theorem dX5_restore_0 : decode cX5_restore 0 = .ok (.iload_n 1, 1) := by decide +kernel
theorem dX5_restore_1 : decode cX5_restore 1 = .ok (.iconst 1, 1) := by decide +kernel
theorem dX5_restore_2 : decode cX5_restore 2 = .ok (.invokestatic 56, 3) := by decide +kernel
theorem dX5_restore_5 : decode cX5_restore 5 = .ok (.ifCond .ne 6, 3) := by decide +kernel
theorem dX5_restore_8 : decode cX5_restore 8 = .ok (.bipush (-2), 2) := by decide +kernel
theorem dX5_restore_10 : decode cX5_restore 10 = .ok (.ireturn, 1) := by decide +kernel
theorem dX5_restore_11 : decode cX5_restore 11 = .ok (.aload_n 0, 1) := by decide +kernel
theorem dX5_restore_12 : decode cX5_restore 12 = .ok (.getfield 20, 3) := by decide +kernel
theorem dX5_restore_15 : decode cX5_restore 15 = .ok (.iload_n 1, 1) := by decide +kernel
theorem dX5_restore_16 : decode cX5_restore 16 = .ok (.baload, 1) := by decide +kernel
theorem dX5_restore_17 : decode cX5_restore 17 = .ok (.ifCond .ne 6, 3) := by decide +kernel
theorem dX5_restore_20 : decode cX5_restore 20 = .ok (.bipush (-3), 2) := by decide +kernel
theorem dX5_restore_22 : decode cX5_restore 22 = .ok (.ireturn, 1) := by decide +kernel
theorem dX5_restore_23 : decode cX5_restore 23 = .ok (.aload_n 0, 1) := by decide +kernel
theorem dX5_restore_24 : decode cX5_restore 24 = .ok (.getfield 10, 3) := by decide +kernel
theorem dX5_restore_27 : decode cX5_restore 27 = .ok (.aload_n 0, 1) := by decide +kernel
theorem dX5_restore_28 : decode cX5_restore 28 = .ok (.getfield 16, 3) := by decide +kernel
theorem dX5_restore_31 : decode cX5_restore 31 = .ok (.iload_n 1, 1) := by decide +kernel
theorem dX5_restore_32 : decode cX5_restore 32 = .ok (.aaload, 1) := by decide +kernel
theorem dX5_restore_33 : decode cX5_restore 33 = .ok (.invokevirtual 218, 3) := by decide +kernel
theorem dX5_restore_36 : decode cX5_restore 36 = .ok (.iconst 1, 1) := by decide +kernel
theorem dX5_restore_37 : decode cX5_restore 37 = .ok (.ireturn, 1) := by decide +kernel
theorem dX5_told_0 : decode cX5_told 0 = .ok (.iload_n 1, 1) := by decide +kernel
theorem dX5_told_1 : decode cX5_told 1 = .ok (.bipush 10, 2) := by decide +kernel
theorem dX5_told_3 : decode cX5_told 3 = .ok (.if_icmp .lt 30, 3) := by decide +kernel
theorem dX5_told_6 : decode cX5_told 6 = .ok (.iload_n 1, 1) := by decide +kernel
theorem dX5_told_7 : decode cX5_told 7 = .ok (.bipush 10, 2) := by decide +kernel
theorem dX5_told_9 : decode cX5_told 9 = .ok (.isub, 1) := by decide +kernel
theorem dX5_told_10 : decode cX5_told 10 = .ok (.aload_n 0, 1) := by decide +kernel
theorem dX5_told_11 : decode cX5_told 11 = .ok (.getfield 10, 3) := by decide +kernel
theorem dX5_told_14 : decode cX5_told 14 = .ok (.getfield 168, 3) := by decide +kernel
theorem dX5_told_17 : decode cX5_told 17 = .ok (.if_icmp .ge 16, 3) := by decide +kernel
theorem dX5_told_20 : decode cX5_told 20 = .ok (.aload_n 0, 1) := by decide +kernel
theorem dX5_told_21 : decode cX5_told 21 = .ok (.getfield 10, 3) := by decide +kernel
theorem dX5_told_24 : decode cX5_told 24 = .ok (.getfield 221, 3) := by decide +kernel
theorem dX5_told_27 : decode cX5_told 27 = .ok (.iload_n 1, 1) := by decide +kernel
theorem dX5_told_28 : decode cX5_told 28 = .ok (.bipush 10, 2) := by decide +kernel
theorem dX5_told_30 : decode cX5_told 30 = .ok (.isub, 1) := by decide +kernel
theorem dX5_told_31 : decode cX5_told 31 = .ok (.iaload, 1) := by decide +kernel
theorem dX5_told_32 : decode cX5_told 32 = .ok (.ireturn, 1) := by decide +kernel
theorem dX5_told_33 : decode cX5_told 33 = .ok (.iload_n 1, 1) := by decide +kernel
theorem dX5_told_34 : decode cX5_told 34 = .ok (.tableswitch 86 0 5 #[38, 46, 54, 62, 70, 78], 38) := by decide +kernel
theorem dX5_told_72 : decode cX5_told 72 = .ok (.aload_n 0, 1) := by decide +kernel
theorem dX5_told_73 : decode cX5_told 73 = .ok (.getfield 27, 3) := by decide +kernel
theorem dX5_told_76 : decode cX5_told 76 = .ok (.getfield 74, 3) := by decide +kernel
theorem dX5_told_79 : decode cX5_told 79 = .ok (.ireturn, 1) := by decide +kernel
theorem dX5_told_80 : decode cX5_told 80 = .ok (.aload_n 0, 1) := by decide +kernel
theorem dX5_told_81 : decode cX5_told 81 = .ok (.getfield 10, 3) := by decide +kernel
theorem dX5_told_84 : decode cX5_told 84 = .ok (.getfield 60, 3) := by decide +kernel
theorem dX5_told_87 : decode cX5_told 87 = .ok (.ireturn, 1) := by decide +kernel
theorem dX5_told_88 : decode cX5_told 88 = .ok (.aload_n 0, 1) := by decide +kernel
theorem dX5_told_89 : decode cX5_told 89 = .ok (.getfield 10, 3) := by decide +kernel
theorem dX5_told_92 : decode cX5_told 92 = .ok (.getfield 64, 3) := by decide +kernel
theorem dX5_told_95 : decode cX5_told 95 = .ok (.ireturn, 1) := by decide +kernel
theorem dX5_told_96 : decode cX5_told 96 = .ok (.aload_n 0, 1) := by decide +kernel
theorem dX5_told_97 : decode cX5_told 97 = .ok (.getfield 10, 3) := by decide +kernel
theorem dX5_told_100 : decode cX5_told 100 = .ok (.getfield 67, 3) := by decide +kernel
theorem dX5_told_103 : decode cX5_told 103 = .ok (.ireturn, 1) := by decide +kernel
theorem dX5_told_104 : decode cX5_told 104 = .ok (.aload_n 0, 1) := by decide +kernel
theorem dX5_told_105 : decode cX5_told 105 = .ok (.getfield 10, 3) := by decide +kernel
theorem dX5_told_108 : decode cX5_told 108 = .ok (.getfield 168, 3) := by decide +kernel
theorem dX5_told_111 : decode cX5_told 111 = .ok (.ireturn, 1) := by decide +kernel
theorem dX5_told_112 : decode cX5_told 112 = .ok (.aload_n 0, 1) := by decide +kernel
theorem dX5_told_113 : decode cX5_told 113 = .ok (.getfield 10, 3) := by decide +kernel
theorem dX5_told_116 : decode cX5_told 116 = .ok (.getfield 183, 3) := by decide +kernel
theorem dX5_told_119 : decode cX5_told 119 = .ok (.ireturn, 1) := by decide +kernel
theorem dX5_told_120 : decode cX5_told 120 = .ok (.bipush (-2), 2) := by decide +kernel
theorem dX5_told_122 : decode cX5_told 122 = .ok (.ireturn, 1) := by decide +kernel
theorem dX5_isWithin_0 : decode cX5_isWithin 0 = .ok (.iload_n 0, 1) := by decide +kernel
theorem dX5_isWithin_1 : decode cX5_isWithin 1 = .ok (.ifCond .lt 12, 3) := by decide +kernel
theorem dX5_isWithin_4 : decode cX5_isWithin 4 = .ok (.iload_n 0, 1) := by decide +kernel
theorem dX5_isWithin_5 : decode cX5_isWithin 5 = .ok (.iload_n 1, 1) := by decide +kernel
theorem dX5_isWithin_6 : decode cX5_isWithin 6 = .ok (.if_icmp .gt 7, 3) := by decide +kernel
theorem dX5_isWithin_9 : decode cX5_isWithin 9 = .ok (.iconst 1, 1) := by decide +kernel
theorem dX5_isWithin_10 : decode cX5_isWithin 10 = .ok (.goto 4, 3) := by decide +kernel
theorem dX5_isWithin_13 : decode cX5_isWithin 13 = .ok (.iconst 0, 1) := by decide +kernel
theorem dX5_isWithin_14 : decode cX5_isWithin 14 = .ok (.ireturn, 1) := by decide +kernel
theorem dX5_isPart_0 : decode cX5_isPart 0 = .ok (.iload_n 0, 1) := by decide +kernel
theorem dX5_isPart_1 : decode cX5_isPart 1 = .ok (.ifCond .lt 13, 3) := by decide +kernel
theorem dX5_isPart_4 : decode cX5_isPart 4 = .ok (.iload_n 0, 1) := by decide +kernel
theorem dX5_isPart_5 : decode cX5_isPart 5 = .ok (.bipush 8, 2) := by decide +kernel
theorem dX5_isPart_7 : decode cX5_isPart 7 = .ok (.if_icmp .ge 7, 3) := by decide +kernel
theorem dX5_isPart_10 : decode cX5_isPart 10 = .ok (.iconst 1, 1) := by decide +kernel
theorem dX5_isPart_11 : decode cX5_isPart 11 = .ok (.goto 4, 3) := by decide +kernel
theorem dX5_isPart_14 : decode cX5_isPart 14 = .ok (.iconst 0, 1) := by decide +kernel
theorem dX5_isPart_15 : decode cX5_isPart 15 = .ok (.ireturn, 1) := by decide +kernel
theorem dX5_isLine_0 : decode cX5_isLine 0 = .ok (.iload_n 1, 1) := by decide +kernel
theorem dX5_isLine_1 : decode cX5_isLine 1 = .ok (.ifCond .lt 18, 3) := by decide +kernel
theorem dX5_isLine_4 : decode cX5_isLine 4 = .ok (.iload_n 1, 1) := by decide +kernel
theorem dX5_isLine_5 : decode cX5_isLine 5 = .ok (.aload_n 0, 1) := by decide +kernel
theorem dX5_isLine_6 : decode cX5_isLine 6 = .ok (.getfield 27, 3) := by decide +kernel
theorem dX5_isLine_9 : decode cX5_isLine 9 = .ok (.getfield 110, 3) := by decide +kernel
theorem dX5_isLine_12 : decode cX5_isLine 12 = .ok (.if_icmp .ge 7, 3) := by decide +kernel
theorem dX5_isLine_15 : decode cX5_isLine 15 = .ok (.iconst 1, 1) := by decide +kernel
theorem dX5_isLine_16 : decode cX5_isLine 16 = .ok (.goto 4, 3) := by decide +kernel
theorem dX5_isLine_19 : decode cX5_isLine 19 = .ok (.iconst 0, 1) := by decide +kernel
theorem dX5_isLine_20 : decode cX5_isLine 20 = .ok (.ireturn, 1) := by decide +kernel
theorem dX5_refusalOfEvents_0 : decode cX5_refusalOfEvents 0 = .ok (.aload_n 0, 1) := by decide +kernel
theorem dX5_refusalOfEvents_1 : decode cX5_refusalOfEvents 1 = .ok (.getfield 27, 3) := by decide +kernel
theorem dX5_refusalOfEvents_4 : decode cX5_refusalOfEvents 4 = .ok (.invokevirtual 77, 3) := by decide +kernel
theorem dX5_refusalOfEvents_7 : decode cX5_refusalOfEvents 7 = .ok (.aload_n 0, 1) := by decide +kernel
theorem dX5_refusalOfEvents_8 : decode cX5_refusalOfEvents 8 = .ok (.getfield 27, 3) := by decide +kernel
theorem dX5_refusalOfEvents_11 : decode cX5_refusalOfEvents 11 = .ok (.getfield 80, 3) := by decide +kernel
theorem dX5_refusalOfEvents_14 : decode cX5_refusalOfEvents 14 = .ok (.bipush (-6), 2) := by decide +kernel
theorem dX5_refusalOfEvents_16 : decode cX5_refusalOfEvents 16 = .ok (.if_icmp .eq 6, 3) := by decide +kernel
theorem dX5_refusalOfEvents_19 : decode cX5_refusalOfEvents 19 = .ok (.bipush (-5), 2) := by decide +kernel
theorem dX5_refusalOfEvents_21 : decode cX5_refusalOfEvents 21 = .ok (.ireturn, 1) := by decide +kernel
theorem dX5_refusalOfEvents_22 : decode cX5_refusalOfEvents 22 = .ok (.aload_n 0, 1) := by decide +kernel
theorem dX5_refusalOfEvents_23 : decode cX5_refusalOfEvents 23 = .ok (.getfield 27, 3) := by decide +kernel
theorem dX5_refusalOfEvents_26 : decode cX5_refusalOfEvents 26 = .ok (.getfield 186, 3) := by decide +kernel
theorem dX5_refusalOfEvents_29 : decode cX5_refusalOfEvents 29 = .ok (.ifCond .le 6, 3) := by decide +kernel
theorem dX5_refusalOfEvents_32 : decode cX5_refusalOfEvents 32 = .ok (.bipush (-3), 2) := by decide +kernel
theorem dX5_refusalOfEvents_34 : decode cX5_refusalOfEvents 34 = .ok (.ireturn, 1) := by decide +kernel
theorem dX5_refusalOfEvents_35 : decode cX5_refusalOfEvents 35 = .ok (.aload_n 0, 1) := by decide +kernel
theorem dX5_refusalOfEvents_36 : decode cX5_refusalOfEvents 36 = .ok (.getfield 27, 3) := by decide +kernel
theorem dX5_refusalOfEvents_39 : decode cX5_refusalOfEvents 39 = .ok (.iconst 0, 1) := by decide +kernel
theorem dX5_refusalOfEvents_40 : decode cX5_refusalOfEvents 40 = .ok (.invokevirtual 224, 3) := by decide +kernel
theorem dX5_refusalOfEvents_43 : decode cX5_refusalOfEvents 43 = .ok (.iconst 0, 1) := by decide +kernel
theorem dX5_refusalOfEvents_44 : decode cX5_refusalOfEvents 44 = .ok (.ireturn, 1) := by decide +kernel
theorem dX5_refusalOfLines_0 : decode cX5_refusalOfLines 0 = .ok (.aload_n 0, 1) := by decide +kernel
theorem dX5_refusalOfLines_1 : decode cX5_refusalOfLines 1 = .ok (.invokevirtual 87, 3) := by decide +kernel
theorem dX5_refusalOfLines_4 : decode cX5_refusalOfLines 4 = .ok (.istore_n 1, 1) := by decide +kernel
theorem dX5_refusalOfLines_5 : decode cX5_refusalOfLines 5 = .ok (.iload_n 1, 1) := by decide +kernel
theorem dX5_refusalOfLines_6 : decode cX5_refusalOfLines 6 = .ok (.ifCond .ne 18, 3) := by decide +kernel
theorem dX5_refusalOfLines_9 : decode cX5_refusalOfLines 9 = .ok (.aload_n 0, 1) := by decide +kernel
theorem dX5_refusalOfLines_10 : decode cX5_refusalOfLines 10 = .ok (.getfield 27, 3) := by decide +kernel
theorem dX5_refusalOfLines_13 : decode cX5_refusalOfLines 13 = .ok (.getfield 90, 3) := by decide +kernel
theorem dX5_refusalOfLines_16 : decode cX5_refusalOfLines 16 = .ok (.bipush (-6), 2) := by decide +kernel
theorem dX5_refusalOfLines_18 : decode cX5_refusalOfLines 18 = .ok (.if_icmp .eq 6, 3) := by decide +kernel
theorem dX5_refusalOfLines_21 : decode cX5_refusalOfLines 21 = .ok (.bipush (-5), 2) := by decide +kernel
theorem dX5_refusalOfLines_23 : decode cX5_refusalOfLines 23 = .ok (.istore_n 1, 1) := by decide +kernel
theorem dX5_refusalOfLines_24 : decode cX5_refusalOfLines 24 = .ok (.iload_n 1, 1) := by decide +kernel
theorem dX5_refusalOfLines_25 : decode cX5_refusalOfLines 25 = .ok (.ireturn, 1) := by decide +kernel
theorem dX5_strangersAt_0 : decode cX5_strangersAt 0 = .ok (.aload_n 0, 1) := by decide +kernel
theorem dX5_strangersAt_1 : decode cX5_strangersAt 1 = .ok (.getfield 10, 3) := by decide +kernel
theorem dX5_strangersAt_4 : decode cX5_strangersAt 4 = .ok (.getfield 64, 3) := by decide +kernel
theorem dX5_strangersAt_7 : decode cX5_strangersAt 7 = .ok (.aload_n 0, 1) := by decide +kernel
theorem dX5_strangersAt_8 : decode cX5_strangersAt 8 = .ok (.getfield 27, 3) := by decide +kernel
theorem dX5_strangersAt_11 : decode cX5_strangersAt 11 = .ok (.getfield 228, 3) := by decide +kernel
theorem dX5_strangersAt_14 : decode cX5_strangersAt 14 = .ok (.iload_n 1, 1) := by decide +kernel
theorem dX5_strangersAt_15 : decode cX5_strangersAt 15 = .ok (.iaload, 1) := by decide +kernel
theorem dX5_strangersAt_16 : decode cX5_strangersAt 16 = .ok (.isub, 1) := by decide +kernel
theorem dX5_strangersAt_17 : decode cX5_strangersAt 17 = .ok (.ireturn, 1) := by decide +kernel
theorem dX5_bar_0 : decode cX5_bar 0 = .ok (.iconst 0, 1) := by decide +kernel
theorem dX5_bar_1 : decode cX5_bar 1 = .ok (.istore_n 1, 1) := by decide +kernel
theorem dX5_bar_2 : decode cX5_bar 2 = .ok (.iload_n 1, 1) := by decide +kernel
theorem dX5_bar_3 : decode cX5_bar 3 = .ok (.aload_n 0, 1) := by decide +kernel
theorem dX5_bar_4 : decode cX5_bar 4 = .ok (.getfield 27, 3) := by decide +kernel
theorem dX5_bar_7 : decode cX5_bar 7 = .ok (.getfield 110, 3) := by decide +kernel
theorem dX5_bar_10 : decode cX5_bar 10 = .ok (.if_icmp .ge 19, 3) := by decide +kernel
theorem dX5_bar_13 : decode cX5_bar 13 = .ok (.aload_n 0, 1) := by decide +kernel
theorem dX5_bar_14 : decode cX5_bar 14 = .ok (.iload_n 1, 1) := by decide +kernel
theorem dX5_bar_15 : decode cX5_bar 15 = .ok (.invokevirtual 136, 3) := by decide +kernel
theorem dX5_bar_18 : decode cX5_bar 18 = .ok (.ifCond .ge 5, 3) := by decide +kernel
theorem dX5_bar_21 : decode cX5_bar 21 = .ok (.iload_n 1, 1) := by decide +kernel
theorem dX5_bar_22 : decode cX5_bar 22 = .ok (.ireturn, 1) := by decide +kernel
theorem dX5_bar_23 : decode cX5_bar 23 = .ok (.iinc 1 1, 3) := by decide +kernel
theorem dX5_bar_26 : decode cX5_bar 26 = .ok (.goto (-24), 3) := by decide +kernel
theorem dX5_bar_29 : decode cX5_bar 29 = .ok (.bipush (-6), 2) := by decide +kernel
theorem dX5_bar_31 : decode cX5_bar 31 = .ok (.ireturn, 1) := by decide +kernel
theorem dX5_strangersComings_0 : decode cX5_strangersComings 0 = .ok (.iconst 0, 1) := by decide +kernel
theorem dX5_strangersComings_1 : decode cX5_strangersComings 1 = .ok (.istore_n 1, 1) := by decide +kernel
theorem dX5_strangersComings_2 : decode cX5_strangersComings 2 = .ok (.iconst 0, 1) := by decide +kernel
theorem dX5_strangersComings_3 : decode cX5_strangersComings 3 = .ok (.istore_n 2, 1) := by decide +kernel
theorem dX5_strangersComings_4 : decode cX5_strangersComings 4 = .ok (.iconst 0, 1) := by decide +kernel
theorem dX5_strangersComings_5 : decode cX5_strangersComings 5 = .ok (.istore_n 3, 1) := by decide +kernel
theorem dX5_strangersComings_6 : decode cX5_strangersComings 6 = .ok (.iload_n 3, 1) := by decide +kernel
theorem dX5_strangersComings_7 : decode cX5_strangersComings 7 = .ok (.aload_n 0, 1) := by decide +kernel
theorem dX5_strangersComings_8 : decode cX5_strangersComings 8 = .ok (.getfield 27, 3) := by decide +kernel
theorem dX5_strangersComings_11 : decode cX5_strangersComings 11 = .ok (.getfield 110, 3) := by decide +kernel
theorem dX5_strangersComings_14 : decode cX5_strangersComings 14 = .ok (.if_icmp .ge 29, 3) := by decide +kernel
theorem dX5_strangersComings_17 : decode cX5_strangersComings 17 = .ok (.iload_n 1, 1) := by decide +kernel
theorem dX5_strangersComings_18 : decode cX5_strangersComings 18 = .ok (.iconst 0, 1) := by decide +kernel
theorem dX5_strangersComings_19 : decode cX5_strangersComings 19 = .ok (.aload_n 0, 1) := by decide +kernel
theorem dX5_strangersComings_20 : decode cX5_strangersComings 20 = .ok (.iload_n 3, 1) := by decide +kernel
theorem dX5_strangersComings_21 : decode cX5_strangersComings 21 = .ok (.invokevirtual 136, 3) := by decide +kernel
theorem dX5_strangersComings_24 : decode cX5_strangersComings 24 = .ok (.iload_n 2, 1) := by decide +kernel
theorem dX5_strangersComings_25 : decode cX5_strangersComings 25 = .ok (.isub, 1) := by decide +kernel
theorem dX5_strangersComings_26 : decode cX5_strangersComings 26 = .ok (.invokestatic 210, 3) := by decide +kernel
theorem dX5_strangersComings_29 : decode cX5_strangersComings 29 = .ok (.iadd, 1) := by decide +kernel
theorem dX5_strangersComings_30 : decode cX5_strangersComings 30 = .ok (.istore_n 1, 1) := by decide +kernel
theorem dX5_strangersComings_31 : decode cX5_strangersComings 31 = .ok (.aload_n 0, 1) := by decide +kernel
theorem dX5_strangersComings_32 : decode cX5_strangersComings 32 = .ok (.iload_n 3, 1) := by decide +kernel
theorem dX5_strangersComings_33 : decode cX5_strangersComings 33 = .ok (.invokevirtual 136, 3) := by decide +kernel
theorem dX5_strangersComings_36 : decode cX5_strangersComings 36 = .ok (.istore_n 2, 1) := by decide +kernel
theorem dX5_strangersComings_37 : decode cX5_strangersComings 37 = .ok (.iinc 3 1, 3) := by decide +kernel
theorem dX5_strangersComings_40 : decode cX5_strangersComings 40 = .ok (.goto (-34), 3) := by decide +kernel
theorem dX5_strangersComings_43 : decode cX5_strangersComings 43 = .ok (.iload_n 1, 1) := by decide +kernel
theorem dX5_strangersComings_44 : decode cX5_strangersComings 44 = .ok (.ireturn, 1) := by decide +kernel
theorem dX5_mostStrangers_0 : decode cX5_mostStrangers 0 = .ok (.iconst 0, 1) := by decide +kernel
theorem dX5_mostStrangers_1 : decode cX5_mostStrangers 1 = .ok (.istore_n 1, 1) := by decide +kernel
theorem dX5_mostStrangers_2 : decode cX5_mostStrangers 2 = .ok (.iconst 0, 1) := by decide +kernel
theorem dX5_mostStrangers_3 : decode cX5_mostStrangers 3 = .ok (.istore_n 2, 1) := by decide +kernel
theorem dX5_mostStrangers_4 : decode cX5_mostStrangers 4 = .ok (.iload_n 2, 1) := by decide +kernel
theorem dX5_mostStrangers_5 : decode cX5_mostStrangers 5 = .ok (.aload_n 0, 1) := by decide +kernel
theorem dX5_mostStrangers_6 : decode cX5_mostStrangers 6 = .ok (.getfield 27, 3) := by decide +kernel
theorem dX5_mostStrangers_9 : decode cX5_mostStrangers 9 = .ok (.getfield 110, 3) := by decide +kernel
theorem dX5_mostStrangers_12 : decode cX5_mostStrangers 12 = .ok (.if_icmp .ge 19, 3) := by decide +kernel
theorem dX5_mostStrangers_15 : decode cX5_mostStrangers 15 = .ok (.iload_n 1, 1) := by decide +kernel
theorem dX5_mostStrangers_16 : decode cX5_mostStrangers 16 = .ok (.aload_n 0, 1) := by decide +kernel
theorem dX5_mostStrangers_17 : decode cX5_mostStrangers 17 = .ok (.iload_n 2, 1) := by decide +kernel
theorem dX5_mostStrangers_18 : decode cX5_mostStrangers 18 = .ok (.invokevirtual 136, 3) := by decide +kernel
theorem dX5_mostStrangers_21 : decode cX5_mostStrangers 21 = .ok (.invokestatic 210, 3) := by decide +kernel
theorem dX5_mostStrangers_24 : decode cX5_mostStrangers 24 = .ok (.istore_n 1, 1) := by decide +kernel
theorem dX5_mostStrangers_25 : decode cX5_mostStrangers 25 = .ok (.iinc 2 1, 3) := by decide +kernel
theorem dX5_mostStrangers_28 : decode cX5_mostStrangers 28 = .ok (.goto (-24), 3) := by decide +kernel
theorem dX5_mostStrangers_31 : decode cX5_mostStrangers 31 = .ok (.iload_n 1, 1) := by decide +kernel
theorem dX5_mostStrangers_32 : decode cX5_mostStrangers 32 = .ok (.ireturn, 1) := by decide +kernel
theorem dX5_linesInLaw_0 : decode cX5_linesInLaw 0 = .ok (.iconst 0, 1) := by decide +kernel
theorem dX5_linesInLaw_1 : decode cX5_linesInLaw 1 = .ok (.istore_n 1, 1) := by decide +kernel
theorem dX5_linesInLaw_2 : decode cX5_linesInLaw 2 = .ok (.iconst 0, 1) := by decide +kernel
theorem dX5_linesInLaw_3 : decode cX5_linesInLaw 3 = .ok (.istore_n 2, 1) := by decide +kernel
theorem dX5_linesInLaw_4 : decode cX5_linesInLaw 4 = .ok (.iload_n 2, 1) := by decide +kernel
theorem dX5_linesInLaw_5 : decode cX5_linesInLaw 5 = .ok (.aload_n 0, 1) := by decide +kernel
theorem dX5_linesInLaw_6 : decode cX5_linesInLaw 6 = .ok (.getfield 27, 3) := by decide +kernel
theorem dX5_linesInLaw_9 : decode cX5_linesInLaw 9 = .ok (.getfield 110, 3) := by decide +kernel
theorem dX5_linesInLaw_12 : decode cX5_linesInLaw 12 = .ok (.if_icmp .ge 32, 3) := by decide +kernel
theorem dX5_linesInLaw_15 : decode cX5_linesInLaw 15 = .ok (.aload_n 0, 1) := by decide +kernel
theorem dX5_linesInLaw_16 : decode cX5_linesInLaw 16 = .ok (.getfield 10, 3) := by decide +kernel
theorem dX5_linesInLaw_19 : decode cX5_linesInLaw 19 = .ok (.aload_n 0, 1) := by decide +kernel
theorem dX5_linesInLaw_20 : decode cX5_linesInLaw 20 = .ok (.getfield 27, 3) := by decide +kernel
theorem dX5_linesInLaw_23 : decode cX5_linesInLaw 23 = .ok (.getfield 228, 3) := by decide +kernel
theorem dX5_linesInLaw_26 : decode cX5_linesInLaw 26 = .ok (.iload_n 2, 1) := by decide +kernel
theorem dX5_linesInLaw_27 : decode cX5_linesInLaw 27 = .ok (.iaload, 1) := by decide +kernel
theorem dX5_linesInLaw_28 : decode cX5_linesInLaw 28 = .ok (.iconst 0, 1) := by decide +kernel
theorem dX5_linesInLaw_29 : decode cX5_linesInLaw 29 = .ok (.invokevirtual 215, 3) := by decide +kernel
theorem dX5_linesInLaw_32 : decode cX5_linesInLaw 32 = .ok (.ifCond .eq 6, 3) := by decide +kernel
theorem dX5_linesInLaw_35 : decode cX5_linesInLaw 35 = .ok (.iinc 1 1, 3) := by decide +kernel
theorem dX5_linesInLaw_38 : decode cX5_linesInLaw 38 = .ok (.iinc 2 1, 3) := by decide +kernel
theorem dX5_linesInLaw_41 : decode cX5_linesInLaw 41 = .ok (.goto (-37), 3) := by decide +kernel
theorem dX5_linesInLaw_44 : decode cX5_linesInLaw 44 = .ok (.iload_n 1, 1) := by decide +kernel
theorem dX5_linesInLaw_45 : decode cX5_linesInLaw 45 = .ok (.ireturn, 1) := by decide +kernel
theorem dX5_longestRising_0 : decode cX5_longestRising 0 = .ok (.aload_n 0, 1) := by decide +kernel
theorem dX5_longestRising_1 : decode cX5_longestRising 1 = .ok (.getfield 52, 3) := by decide +kernel
theorem dX5_longestRising_4 : decode cX5_longestRising 4 = .ok (.iconst 0, 1) := by decide +kernel
theorem dX5_longestRising_5 : decode cX5_longestRising 5 = .ok (.invokestatic 231, 3) := by decide +kernel
theorem dX5_longestRising_8 : decode cX5_longestRising 8 = .ok (.iconst 0, 1) := by decide +kernel
theorem dX5_longestRising_9 : decode cX5_longestRising 9 = .ok (.istore_n 1, 1) := by decide +kernel
theorem dX5_longestRising_10 : decode cX5_longestRising 10 = .ok (.iconst 0, 1) := by decide +kernel
theorem dX5_longestRising_11 : decode cX5_longestRising 11 = .ok (.istore_n 2, 1) := by decide +kernel
theorem dX5_longestRising_12 : decode cX5_longestRising 12 = .ok (.iload_n 2, 1) := by decide +kernel
theorem dX5_longestRising_13 : decode cX5_longestRising 13 = .ok (.aload_n 0, 1) := by decide +kernel
theorem dX5_longestRising_14 : decode cX5_longestRising 14 = .ok (.getfield 27, 3) := by decide +kernel
theorem dX5_longestRising_17 : decode cX5_longestRising 17 = .ok (.getfield 110, 3) := by decide +kernel
theorem dX5_longestRising_20 : decode cX5_longestRising 20 = .ok (.if_icmp .ge 90, 3) := by decide +kernel
theorem dX5_longestRising_23 : decode cX5_longestRising 23 = .ok (.aload_n 0, 1) := by decide +kernel
theorem dX5_longestRising_24 : decode cX5_longestRising 24 = .ok (.getfield 27, 3) := by decide +kernel
theorem dX5_longestRising_27 : decode cX5_longestRising 27 = .ok (.getfield 228, 3) := by decide +kernel
theorem dX5_longestRising_30 : decode cX5_longestRising 30 = .ok (.iload_n 2, 1) := by decide +kernel
theorem dX5_longestRising_31 : decode cX5_longestRising 31 = .ok (.iaload, 1) := by decide +kernel
theorem dX5_longestRising_32 : decode cX5_longestRising 32 = .ok (.istore_n 3, 1) := by decide +kernel
theorem dX5_longestRising_33 : decode cX5_longestRising 33 = .ok (.iload_n 3, 1) := by decide +kernel
theorem dX5_longestRising_34 : decode cX5_longestRising 34 = .ok (.aload_n 0, 1) := by decide +kernel
theorem dX5_longestRising_35 : decode cX5_longestRising 35 = .ok (.getfield 10, 3) := by decide +kernel
theorem dX5_longestRising_38 : decode cX5_longestRising 38 = .ok (.getfield 64, 3) := by decide +kernel
theorem dX5_longestRising_41 : decode cX5_longestRising 41 = .ok (.if_icmp .lt 63, 3) := by decide +kernel
theorem dX5_longestRising_44 : decode cX5_longestRising 44 = .ok (.iload_n 3, 1) := by decide +kernel
theorem dX5_longestRising_45 : decode cX5_longestRising 45 = .ok (.bipush 8, 2) := by decide +kernel
theorem dX5_longestRising_47 : decode cX5_longestRising 47 = .ok (.if_icmp .le 6, 3) := by decide +kernel
theorem dX5_longestRising_50 : decode cX5_longestRising 50 = .ok (.goto 54, 3) := by decide +kernel
theorem dX5_longestRising_53 : decode cX5_longestRising 53 = .ok (.iconst 0, 1) := by decide +kernel
theorem dX5_longestRising_54 : decode cX5_longestRising 54 = .ok (.istore 4, 2) := by decide +kernel
theorem dX5_longestRising_56 : decode cX5_longestRising 56 = .ok (.iconst 0, 1) := by decide +kernel
theorem dX5_longestRising_57 : decode cX5_longestRising 57 = .ok (.istore 5, 2) := by decide +kernel
theorem dX5_longestRising_59 : decode cX5_longestRising 59 = .ok (.iload 5, 2) := by decide +kernel
theorem dX5_longestRising_61 : decode cX5_longestRising 61 = .ok (.iload_n 3, 1) := by decide +kernel
theorem dX5_longestRising_62 : decode cX5_longestRising 62 = .ok (.if_icmp .gt 23, 3) := by decide +kernel
theorem dX5_longestRising_65 : decode cX5_longestRising 65 = .ok (.iload 4, 2) := by decide +kernel
theorem dX5_longestRising_67 : decode cX5_longestRising 67 = .ok (.aload_n 0, 1) := by decide +kernel
theorem dX5_longestRising_68 : decode cX5_longestRising 68 = .ok (.getfield 52, 3) := by decide +kernel
theorem dX5_longestRising_71 : decode cX5_longestRising 71 = .ok (.iload 5, 2) := by decide +kernel
theorem dX5_longestRising_73 : decode cX5_longestRising 73 = .ok (.iaload, 1) := by decide +kernel
theorem dX5_longestRising_74 : decode cX5_longestRising 74 = .ok (.invokestatic 210, 3) := by decide +kernel
theorem dX5_longestRising_77 : decode cX5_longestRising 77 = .ok (.istore 4, 2) := by decide +kernel
theorem dX5_longestRising_79 : decode cX5_longestRising 79 = .ok (.iinc 5 1, 3) := by decide +kernel
theorem dX5_longestRising_82 : decode cX5_longestRising 82 = .ok (.goto (-23), 3) := by decide +kernel
theorem dX5_longestRising_85 : decode cX5_longestRising 85 = .ok (.aload_n 0, 1) := by decide +kernel
theorem dX5_longestRising_86 : decode cX5_longestRising 86 = .ok (.getfield 52, 3) := by decide +kernel
theorem dX5_longestRising_89 : decode cX5_longestRising 89 = .ok (.iload_n 3, 1) := by decide +kernel
theorem dX5_longestRising_90 : decode cX5_longestRising 90 = .ok (.iload 4, 2) := by decide +kernel
theorem dX5_longestRising_92 : decode cX5_longestRising 92 = .ok (.iconst 1, 1) := by decide +kernel
theorem dX5_longestRising_93 : decode cX5_longestRising 93 = .ok (.iadd, 1) := by decide +kernel
theorem dX5_longestRising_94 : decode cX5_longestRising 94 = .ok (.iastore, 1) := by decide +kernel
theorem dX5_longestRising_95 : decode cX5_longestRising 95 = .ok (.iload_n 1, 1) := by decide +kernel
theorem dX5_longestRising_96 : decode cX5_longestRising 96 = .ok (.iload 4, 2) := by decide +kernel
theorem dX5_longestRising_98 : decode cX5_longestRising 98 = .ok (.iconst 1, 1) := by decide +kernel
theorem dX5_longestRising_99 : decode cX5_longestRising 99 = .ok (.iadd, 1) := by decide +kernel
theorem dX5_longestRising_100 : decode cX5_longestRising 100 = .ok (.invokestatic 210, 3) := by decide +kernel
theorem dX5_longestRising_103 : decode cX5_longestRising 103 = .ok (.istore_n 1, 1) := by decide +kernel
theorem dX5_longestRising_104 : decode cX5_longestRising 104 = .ok (.iinc 2 1, 3) := by decide +kernel
theorem dX5_longestRising_107 : decode cX5_longestRising 107 = .ok (.goto (-95), 3) := by decide +kernel
theorem dX5_longestRising_110 : decode cX5_longestRising 110 = .ok (.iload_n 1, 1) := by decide +kernel
theorem dX5_longestRising_111 : decode cX5_longestRising 111 = .ok (.ireturn, 1) := by decide +kernel
theorem dJ6_bitCount_0f7a4_0 : decode cJ6_bitCount_0f7a4 0 = .ok (.iload_n 0, 1) := by decide +kernel
theorem dJ6_bitCount_0f7a4_1 : decode cJ6_bitCount_0f7a4 1 = .ok (.iload_n 0, 1) := by decide +kernel
theorem dJ6_bitCount_0f7a4_2 : decode cJ6_bitCount_0f7a4 2 = .ok (.iconst 1, 1) := by decide +kernel
theorem dJ6_bitCount_0f7a4_3 : decode cJ6_bitCount_0f7a4 3 = .ok (.iushr, 1) := by decide +kernel
theorem dJ6_bitCount_0f7a4_4 : decode cJ6_bitCount_0f7a4 4 = .ok (.ldc_w 265, 3) := by decide +kernel
theorem dJ6_bitCount_0f7a4_7 : decode cJ6_bitCount_0f7a4 7 = .ok (.iand, 1) := by decide +kernel
theorem dJ6_bitCount_0f7a4_8 : decode cJ6_bitCount_0f7a4 8 = .ok (.isub, 1) := by decide +kernel
theorem dJ6_bitCount_0f7a4_9 : decode cJ6_bitCount_0f7a4 9 = .ok (.istore_n 0, 1) := by decide +kernel
theorem dJ6_bitCount_0f7a4_10 : decode cJ6_bitCount_0f7a4 10 = .ok (.iload_n 0, 1) := by decide +kernel
theorem dJ6_bitCount_0f7a4_11 : decode cJ6_bitCount_0f7a4 11 = .ok (.ldc_w 266, 3) := by decide +kernel
theorem dJ6_bitCount_0f7a4_14 : decode cJ6_bitCount_0f7a4 14 = .ok (.iand, 1) := by decide +kernel
theorem dJ6_bitCount_0f7a4_15 : decode cJ6_bitCount_0f7a4 15 = .ok (.iload_n 0, 1) := by decide +kernel
theorem dJ6_bitCount_0f7a4_16 : decode cJ6_bitCount_0f7a4 16 = .ok (.iconst 2, 1) := by decide +kernel
theorem dJ6_bitCount_0f7a4_17 : decode cJ6_bitCount_0f7a4 17 = .ok (.iushr, 1) := by decide +kernel
theorem dJ6_bitCount_0f7a4_18 : decode cJ6_bitCount_0f7a4 18 = .ok (.ldc_w 266, 3) := by decide +kernel
theorem dJ6_bitCount_0f7a4_21 : decode cJ6_bitCount_0f7a4 21 = .ok (.iand, 1) := by decide +kernel
theorem dJ6_bitCount_0f7a4_22 : decode cJ6_bitCount_0f7a4 22 = .ok (.iadd, 1) := by decide +kernel
theorem dJ6_bitCount_0f7a4_23 : decode cJ6_bitCount_0f7a4 23 = .ok (.istore_n 0, 1) := by decide +kernel
theorem dJ6_bitCount_0f7a4_24 : decode cJ6_bitCount_0f7a4 24 = .ok (.iload_n 0, 1) := by decide +kernel
theorem dJ6_bitCount_0f7a4_25 : decode cJ6_bitCount_0f7a4 25 = .ok (.iload_n 0, 1) := by decide +kernel
theorem dJ6_bitCount_0f7a4_26 : decode cJ6_bitCount_0f7a4 26 = .ok (.iconst 4, 1) := by decide +kernel
theorem dJ6_bitCount_0f7a4_27 : decode cJ6_bitCount_0f7a4 27 = .ok (.iushr, 1) := by decide +kernel
theorem dJ6_bitCount_0f7a4_28 : decode cJ6_bitCount_0f7a4 28 = .ok (.iadd, 1) := by decide +kernel
theorem dJ6_bitCount_0f7a4_29 : decode cJ6_bitCount_0f7a4 29 = .ok (.ldc_w 267, 3) := by decide +kernel
theorem dJ6_bitCount_0f7a4_32 : decode cJ6_bitCount_0f7a4 32 = .ok (.iand, 1) := by decide +kernel
theorem dJ6_bitCount_0f7a4_33 : decode cJ6_bitCount_0f7a4 33 = .ok (.istore_n 0, 1) := by decide +kernel
theorem dJ6_bitCount_0f7a4_34 : decode cJ6_bitCount_0f7a4 34 = .ok (.iload_n 0, 1) := by decide +kernel
theorem dJ6_bitCount_0f7a4_35 : decode cJ6_bitCount_0f7a4 35 = .ok (.iload_n 0, 1) := by decide +kernel
theorem dJ6_bitCount_0f7a4_36 : decode cJ6_bitCount_0f7a4 36 = .ok (.bipush 8, 2) := by decide +kernel
theorem dJ6_bitCount_0f7a4_38 : decode cJ6_bitCount_0f7a4 38 = .ok (.iushr, 1) := by decide +kernel
theorem dJ6_bitCount_0f7a4_39 : decode cJ6_bitCount_0f7a4 39 = .ok (.iadd, 1) := by decide +kernel
theorem dJ6_bitCount_0f7a4_40 : decode cJ6_bitCount_0f7a4 40 = .ok (.istore_n 0, 1) := by decide +kernel
theorem dJ6_bitCount_0f7a4_41 : decode cJ6_bitCount_0f7a4 41 = .ok (.iload_n 0, 1) := by decide +kernel
theorem dJ6_bitCount_0f7a4_42 : decode cJ6_bitCount_0f7a4 42 = .ok (.iload_n 0, 1) := by decide +kernel
theorem dJ6_bitCount_0f7a4_43 : decode cJ6_bitCount_0f7a4 43 = .ok (.bipush 16, 2) := by decide +kernel
theorem dJ6_bitCount_0f7a4_45 : decode cJ6_bitCount_0f7a4 45 = .ok (.iushr, 1) := by decide +kernel
theorem dJ6_bitCount_0f7a4_46 : decode cJ6_bitCount_0f7a4 46 = .ok (.iadd, 1) := by decide +kernel
theorem dJ6_bitCount_0f7a4_47 : decode cJ6_bitCount_0f7a4 47 = .ok (.istore_n 0, 1) := by decide +kernel
theorem dJ6_bitCount_0f7a4_48 : decode cJ6_bitCount_0f7a4 48 = .ok (.iload_n 0, 1) := by decide +kernel
theorem dJ6_bitCount_0f7a4_49 : decode cJ6_bitCount_0f7a4 49 = .ok (.bipush 63, 2) := by decide +kernel
theorem dJ6_bitCount_0f7a4_51 : decode cJ6_bitCount_0f7a4 51 = .ok (.iand, 1) := by decide +kernel
theorem dJ6_bitCount_0f7a4_52 : decode cJ6_bitCount_0f7a4 52 = .ok (.ireturn, 1) := by decide +kernel
theorem dJ13_bitCount_95d88_0 : decode cJ13_bitCount_95d88 0 = .ok (.lload_n 0, 1) := by decide +kernel
theorem dJ13_bitCount_95d88_1 : decode cJ13_bitCount_95d88 1 = .ok (.lload_n 0, 1) := by decide +kernel
theorem dJ13_bitCount_95d88_2 : decode cJ13_bitCount_95d88 2 = .ok (.iconst 1, 1) := by decide +kernel
theorem dJ13_bitCount_95d88_3 : decode cJ13_bitCount_95d88 3 = .ok (.lushr, 1) := by decide +kernel
theorem dJ13_bitCount_95d88_4 : decode cJ13_bitCount_95d88 4 = .ok (.ldc2_w 314, 3) := by decide +kernel
theorem dJ13_bitCount_95d88_7 : decode cJ13_bitCount_95d88 7 = .ok (.land, 1) := by decide +kernel
theorem dJ13_bitCount_95d88_8 : decode cJ13_bitCount_95d88 8 = .ok (.lsub, 1) := by decide +kernel
theorem dJ13_bitCount_95d88_9 : decode cJ13_bitCount_95d88 9 = .ok (.lstore_n 0, 1) := by decide +kernel
theorem dJ13_bitCount_95d88_10 : decode cJ13_bitCount_95d88 10 = .ok (.lload_n 0, 1) := by decide +kernel
theorem dJ13_bitCount_95d88_11 : decode cJ13_bitCount_95d88 11 = .ok (.ldc2_w 316, 3) := by decide +kernel
theorem dJ13_bitCount_95d88_14 : decode cJ13_bitCount_95d88 14 = .ok (.land, 1) := by decide +kernel
theorem dJ13_bitCount_95d88_15 : decode cJ13_bitCount_95d88 15 = .ok (.lload_n 0, 1) := by decide +kernel
theorem dJ13_bitCount_95d88_16 : decode cJ13_bitCount_95d88 16 = .ok (.iconst 2, 1) := by decide +kernel
theorem dJ13_bitCount_95d88_17 : decode cJ13_bitCount_95d88 17 = .ok (.lushr, 1) := by decide +kernel
theorem dJ13_bitCount_95d88_18 : decode cJ13_bitCount_95d88 18 = .ok (.ldc2_w 316, 3) := by decide +kernel
theorem dJ13_bitCount_95d88_21 : decode cJ13_bitCount_95d88 21 = .ok (.land, 1) := by decide +kernel
theorem dJ13_bitCount_95d88_22 : decode cJ13_bitCount_95d88 22 = .ok (.ladd, 1) := by decide +kernel
theorem dJ13_bitCount_95d88_23 : decode cJ13_bitCount_95d88 23 = .ok (.lstore_n 0, 1) := by decide +kernel
theorem dJ13_bitCount_95d88_24 : decode cJ13_bitCount_95d88 24 = .ok (.lload_n 0, 1) := by decide +kernel
theorem dJ13_bitCount_95d88_25 : decode cJ13_bitCount_95d88 25 = .ok (.lload_n 0, 1) := by decide +kernel
theorem dJ13_bitCount_95d88_26 : decode cJ13_bitCount_95d88 26 = .ok (.iconst 4, 1) := by decide +kernel
theorem dJ13_bitCount_95d88_27 : decode cJ13_bitCount_95d88 27 = .ok (.lushr, 1) := by decide +kernel
theorem dJ13_bitCount_95d88_28 : decode cJ13_bitCount_95d88 28 = .ok (.ladd, 1) := by decide +kernel
theorem dJ13_bitCount_95d88_29 : decode cJ13_bitCount_95d88 29 = .ok (.ldc2_w 318, 3) := by decide +kernel
theorem dJ13_bitCount_95d88_32 : decode cJ13_bitCount_95d88 32 = .ok (.land, 1) := by decide +kernel
theorem dJ13_bitCount_95d88_33 : decode cJ13_bitCount_95d88 33 = .ok (.lstore_n 0, 1) := by decide +kernel
theorem dJ13_bitCount_95d88_34 : decode cJ13_bitCount_95d88 34 = .ok (.lload_n 0, 1) := by decide +kernel
theorem dJ13_bitCount_95d88_35 : decode cJ13_bitCount_95d88 35 = .ok (.lload_n 0, 1) := by decide +kernel
theorem dJ13_bitCount_95d88_36 : decode cJ13_bitCount_95d88 36 = .ok (.bipush 8, 2) := by decide +kernel
theorem dJ13_bitCount_95d88_38 : decode cJ13_bitCount_95d88 38 = .ok (.lushr, 1) := by decide +kernel
theorem dJ13_bitCount_95d88_39 : decode cJ13_bitCount_95d88 39 = .ok (.ladd, 1) := by decide +kernel
theorem dJ13_bitCount_95d88_40 : decode cJ13_bitCount_95d88 40 = .ok (.lstore_n 0, 1) := by decide +kernel
theorem dJ13_bitCount_95d88_41 : decode cJ13_bitCount_95d88 41 = .ok (.lload_n 0, 1) := by decide +kernel
theorem dJ13_bitCount_95d88_42 : decode cJ13_bitCount_95d88 42 = .ok (.lload_n 0, 1) := by decide +kernel
theorem dJ13_bitCount_95d88_43 : decode cJ13_bitCount_95d88 43 = .ok (.bipush 16, 2) := by decide +kernel
theorem dJ13_bitCount_95d88_45 : decode cJ13_bitCount_95d88 45 = .ok (.lushr, 1) := by decide +kernel
theorem dJ13_bitCount_95d88_46 : decode cJ13_bitCount_95d88 46 = .ok (.ladd, 1) := by decide +kernel
theorem dJ13_bitCount_95d88_47 : decode cJ13_bitCount_95d88 47 = .ok (.lstore_n 0, 1) := by decide +kernel
theorem dJ13_bitCount_95d88_48 : decode cJ13_bitCount_95d88 48 = .ok (.lload_n 0, 1) := by decide +kernel
theorem dJ13_bitCount_95d88_49 : decode cJ13_bitCount_95d88 49 = .ok (.lload_n 0, 1) := by decide +kernel
theorem dJ13_bitCount_95d88_50 : decode cJ13_bitCount_95d88 50 = .ok (.bipush 32, 2) := by decide +kernel
theorem dJ13_bitCount_95d88_52 : decode cJ13_bitCount_95d88 52 = .ok (.lushr, 1) := by decide +kernel
theorem dJ13_bitCount_95d88_53 : decode cJ13_bitCount_95d88 53 = .ok (.ladd, 1) := by decide +kernel
theorem dJ13_bitCount_95d88_54 : decode cJ13_bitCount_95d88 54 = .ok (.lstore_n 0, 1) := by decide +kernel
theorem dJ13_bitCount_95d88_55 : decode cJ13_bitCount_95d88 55 = .ok (.lload_n 0, 1) := by decide +kernel
theorem dJ13_bitCount_95d88_56 : decode cJ13_bitCount_95d88 56 = .ok (.l2i, 1) := by decide +kernel
theorem dJ13_bitCount_95d88_57 : decode cJ13_bitCount_95d88 57 = .ok (.bipush 127, 2) := by decide +kernel
theorem dJ13_bitCount_95d88_59 : decode cJ13_bitCount_95d88 59 = .ok (.iand, 1) := by decide +kernel
theorem dJ13_bitCount_95d88_60 : decode cJ13_bitCount_95d88 60 = .ok (.ireturn, 1) := by decide +kernel
theorem dJ9_max_7cf53_0 : decode cJ9_max_7cf53 0 = .ok (.iload_n 0, 1) := by decide +kernel
theorem dJ9_max_7cf53_1 : decode cJ9_max_7cf53 1 = .ok (.iload_n 1, 1) := by decide +kernel
theorem dJ9_max_7cf53_2 : decode cJ9_max_7cf53 2 = .ok (.if_icmp .lt 7, 3) := by decide +kernel
theorem dJ9_max_7cf53_5 : decode cJ9_max_7cf53 5 = .ok (.iload_n 0, 1) := by decide +kernel
theorem dJ9_max_7cf53_6 : decode cJ9_max_7cf53 6 = .ok (.goto 4, 3) := by decide +kernel
theorem dJ9_max_7cf53_9 : decode cJ9_max_7cf53 9 = .ok (.iload_n 1, 1) := by decide +kernel
theorem dJ9_max_7cf53_10 : decode cJ9_max_7cf53 10 = .ok (.ireturn, 1) := by decide +kernel
theorem dJ9_min_7cf53_0 : decode cJ9_min_7cf53 0 = .ok (.iload_n 0, 1) := by decide +kernel
theorem dJ9_min_7cf53_1 : decode cJ9_min_7cf53 1 = .ok (.iload_n 1, 1) := by decide +kernel
theorem dJ9_min_7cf53_2 : decode cJ9_min_7cf53 2 = .ok (.if_icmp .gt 7, 3) := by decide +kernel
theorem dJ9_min_7cf53_5 : decode cJ9_min_7cf53 5 = .ok (.iload_n 0, 1) := by decide +kernel
theorem dJ9_min_7cf53_6 : decode cJ9_min_7cf53 6 = .ok (.goto 4, 3) := by decide +kernel
theorem dJ9_min_7cf53_9 : decode cJ9_min_7cf53 9 = .ok (.iload_n 1, 1) := by decide +kernel
theorem dJ9_min_7cf53_10 : decode cJ9_min_7cf53 10 = .ok (.ireturn, 1) := by decide +kernel
theorem dJ7_fill_53178_0 : decode cJ7_fill_53178 0 = .ok (.iconst 0, 1) := by decide +kernel
theorem dJ7_fill_53178_1 : decode cJ7_fill_53178 1 = .ok (.istore_n 2, 1) := by decide +kernel
theorem dJ7_fill_53178_2 : decode cJ7_fill_53178 2 = .ok (.aload_n 0, 1) := by decide +kernel
theorem dJ7_fill_53178_3 : decode cJ7_fill_53178 3 = .ok (.arraylength, 1) := by decide +kernel
theorem dJ7_fill_53178_4 : decode cJ7_fill_53178 4 = .ok (.istore_n 3, 1) := by decide +kernel
theorem dJ7_fill_53178_5 : decode cJ7_fill_53178 5 = .ok (.iload_n 2, 1) := by decide +kernel
theorem dJ7_fill_53178_6 : decode cJ7_fill_53178 6 = .ok (.iload_n 3, 1) := by decide +kernel
theorem dJ7_fill_53178_7 : decode cJ7_fill_53178 7 = .ok (.if_icmp .ge 13, 3) := by decide +kernel
theorem dJ7_fill_53178_10 : decode cJ7_fill_53178 10 = .ok (.aload_n 0, 1) := by decide +kernel
theorem dJ7_fill_53178_11 : decode cJ7_fill_53178 11 = .ok (.iload_n 2, 1) := by decide +kernel
theorem dJ7_fill_53178_12 : decode cJ7_fill_53178 12 = .ok (.iload_n 1, 1) := by decide +kernel
theorem dJ7_fill_53178_13 : decode cJ7_fill_53178 13 = .ok (.iastore, 1) := by decide +kernel
theorem dJ7_fill_53178_14 : decode cJ7_fill_53178 14 = .ok (.iinc 2 1, 3) := by decide +kernel
theorem dJ7_fill_53178_17 : decode cJ7_fill_53178 17 = .ok (.goto (-12), 3) := by decide +kernel
theorem dJ7_fill_53178_20 : decode cJ7_fill_53178 20 = .ok (.return_, 1) := by decide +kernel
