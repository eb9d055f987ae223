theorem dX6_init_0 : decode cX6_init 0 = .ok (.aload_n 0, 1) := by decide +kernel
theorem dX6_init_1 : decode cX6_init 1 = .ok (.invokespecial 1, 3) := by decide +kernel
theorem dX6_init_4 : decode cX6_init 4 = .ok (.aload_n 0, 1) := by decide +kernel
theorem dX6_init_5 : decode cX6_init 5 = .ok (.bipush 64, 2) := by decide +kernel
theorem dX6_init_7 : decode cX6_init 7 = .ok (.newarray .int, 2) := by decide +kernel
theorem dX6_init_9 : decode cX6_init 9 = .ok (.putfield 7, 3) := by decide +kernel
theorem dX6_init_12 : decode cX6_init 12 = .ok (.aload_n 0, 1) := by decide +kernel
theorem dX6_init_13 : decode cX6_init 13 = .ok (.bipush 6, 2) := by decide +kernel
theorem dX6_init_15 : decode cX6_init 15 = .ok (.newarray .int, 2) := by decide +kernel
theorem dX6_init_17 : decode cX6_init 17 = .ok (.putfield 13, 3) := by decide +kernel
theorem dX6_init_20 : decode cX6_init 20 = .ok (.aload_n 0, 1) := by decide +kernel
theorem dX6_init_21 : decode cX6_init 21 = .ok (.bipush 6, 2) := by decide +kernel
theorem dX6_init_23 : decode cX6_init 23 = .ok (.newarray .int, 2) := by decide +kernel
theorem dX6_init_25 : decode cX6_init 25 = .ok (.putfield 16, 3) := by decide +kernel
theorem dX6_init_28 : decode cX6_init 28 = .ok (.aload_n 0, 1) := by decide +kernel
theorem dX6_init_29 : decode cX6_init 29 = .ok (.bipush 6, 2) := by decide +kernel
theorem dX6_init_31 : decode cX6_init 31 = .ok (.newarray .int, 2) := by decide +kernel
theorem dX6_init_33 : decode cX6_init 33 = .ok (.putfield 19, 3) := by decide +kernel
theorem dX6_init_36 : decode cX6_init 36 = .ok (.aload_n 0, 1) := by decide +kernel
theorem dX6_init_37 : decode cX6_init 37 = .ok (.bipush 40, 2) := by decide +kernel
theorem dX6_init_39 : decode cX6_init 39 = .ok (.newarray .int, 2) := by decide +kernel
theorem dX6_init_41 : decode cX6_init 41 = .ok (.putfield 22, 3) := by decide +kernel
theorem dX6_init_44 : decode cX6_init 44 = .ok (.aload_n 0, 1) := by decide +kernel
theorem dX6_init_45 : decode cX6_init 45 = .ok (.bipush 40, 2) := by decide +kernel
theorem dX6_init_47 : decode cX6_init 47 = .ok (.newarray .int, 2) := by decide +kernel
theorem dX6_init_49 : decode cX6_init 49 = .ok (.putfield 25, 3) := by decide +kernel
theorem dX6_init_52 : decode cX6_init 52 = .ok (.aload_n 0, 1) := by decide +kernel
theorem dX6_init_53 : decode cX6_init 53 = .ok (.bipush 40, 2) := by decide +kernel
theorem dX6_init_55 : decode cX6_init 55 = .ok (.newarray .int, 2) := by decide +kernel
theorem dX6_init_57 : decode cX6_init 57 = .ok (.putfield 28, 3) := by decide +kernel
theorem dX6_init_60 : decode cX6_init 60 = .ok (.aload_n 0, 1) := by decide +kernel
theorem dX6_init_61 : decode cX6_init 61 = .ok (.bipush 40, 2) := by decide +kernel
theorem dX6_init_63 : decode cX6_init 63 = .ok (.newarray .int, 2) := by decide +kernel
theorem dX6_init_65 : decode cX6_init 65 = .ok (.putfield 31, 3) := by decide +kernel
theorem dX6_init_68 : decode cX6_init 68 = .ok (.aload_n 0, 1) := by decide +kernel
theorem dX6_init_69 : decode cX6_init 69 = .ok (.bipush 8, 2) := by decide +kernel
theorem dX6_init_71 : decode cX6_init 71 = .ok (.newarray .int, 2) := by decide +kernel
theorem dX6_init_73 : decode cX6_init 73 = .ok (.putfield 34, 3) := by decide +kernel
theorem dX6_init_76 : decode cX6_init 76 = .ok (.aload_n 0, 1) := by decide +kernel
theorem dX6_init_77 : decode cX6_init 77 = .ok (.bipush 8, 2) := by decide +kernel
theorem dX6_init_79 : decode cX6_init 79 = .ok (.newarray .int, 2) := by decide +kernel
theorem dX6_init_81 : decode cX6_init 81 = .ok (.putfield 37, 3) := by decide +kernel
theorem dX6_init_84 : decode cX6_init 84 = .ok (.aload_n 0, 1) := by decide +kernel
theorem dX6_init_85 : decode cX6_init 85 = .ok (.bipush 6, 2) := by decide +kernel
theorem dX6_init_87 : decode cX6_init 87 = .ok (.newarray .int, 2) := by decide +kernel
theorem dX6_init_89 : decode cX6_init 89 = .ok (.putfield 40, 3) := by decide +kernel
theorem dX6_init_92 : decode cX6_init 92 = .ok (.aload_n 0, 1) := by decide +kernel
theorem dX6_init_93 : decode cX6_init 93 = .ok (.bipush 6, 2) := by decide +kernel
theorem dX6_init_95 : decode cX6_init 95 = .ok (.newarray .int, 2) := by decide +kernel
theorem dX6_init_97 : decode cX6_init 97 = .ok (.putfield 43, 3) := by decide +kernel
theorem dX6_init_100 : decode cX6_init 100 = .ok (.aload_n 0, 1) := by decide +kernel
theorem dX6_init_101 : decode cX6_init 101 = .ok (.iconst 3, 1) := by decide +kernel
theorem dX6_init_102 : decode cX6_init 102 = .ok (.newarray .int, 2) := by decide +kernel
theorem dX6_init_104 : decode cX6_init 104 = .ok (.putfield 46, 3) := by decide +kernel
theorem dX6_init_107 : decode cX6_init 107 = .ok (.aload_n 0, 1) := by decide +kernel
theorem dX6_init_108 : decode cX6_init 108 = .ok (.sipush 200, 3) := by decide +kernel
theorem dX6_init_111 : decode cX6_init 111 = .ok (.newarray .int, 2) := by decide +kernel
theorem dX6_init_113 : decode cX6_init 113 = .ok (.putfield 49, 3) := by decide +kernel
theorem dX6_init_116 : decode cX6_init 116 = .ok (.aload_n 0, 1) := by decide +kernel
theorem dX6_init_117 : decode cX6_init 117 = .ok (.iconst 2, 1) := by decide +kernel
theorem dX6_init_118 : decode cX6_init 118 = .ok (.newarray .boolean, 2) := by decide +kernel
theorem dX6_init_120 : decode cX6_init 120 = .ok (.putfield 52, 3) := by decide +kernel
theorem dX6_init_123 : decode cX6_init 123 = .ok (.aload_n 0, 1) := by decide +kernel
theorem dX6_init_124 : decode cX6_init 124 = .ok (.iconst 3, 1) := by decide +kernel
theorem dX6_init_125 : decode cX6_init 125 = .ok (.putfield 56, 3) := by decide +kernel
theorem dX6_init_128 : decode cX6_init 128 = .ok (.return_, 1) := by decide +kernel
theorem dX6_in_0 : decode cX6_in 0 = .ok (.lload_n 0, 1) := by decide +kernel
theorem dX6_in_1 : decode cX6_in 1 = .ok (.lload_n 2, 1) := by decide +kernel
theorem dX6_in_2 : decode cX6_in 2 = .ok (.lcmp, 1) := by decide +kernel
theorem dX6_in_3 : decode cX6_in 3 = .ok (.ifCond .lt 14, 3) := by decide +kernel
theorem dX6_in_6 : decode cX6_in 6 = .ok (.lload_n 0, 1) := by decide +kernel
theorem dX6_in_7 : decode cX6_in 7 = .ok (.lload 4, 2) := by decide +kernel
theorem dX6_in_9 : decode cX6_in 9 = .ok (.lcmp, 1) := by decide +kernel
theorem dX6_in_10 : decode cX6_in 10 = .ok (.ifCond .gt 7, 3) := by decide +kernel
theorem dX6_in_13 : decode cX6_in 13 = .ok (.iconst 1, 1) := by decide +kernel
theorem dX6_in_14 : decode cX6_in 14 = .ok (.goto 4, 3) := by decide +kernel
theorem dX6_in_17 : decode cX6_in 17 = .ok (.iconst 0, 1) := by decide +kernel
theorem dX6_in_18 : decode cX6_in 18 = .ok (.ireturn, 1) := by decide +kernel
theorem dX6_ones_0 : decode cX6_ones 0 = .ok (.iconst 0, 1) := by decide +kernel
theorem dX6_ones_1 : decode cX6_ones 1 = .ok (.istore_n 1, 1) := by decide +kernel
theorem dX6_ones_2 : decode cX6_ones 2 = .ok (.iload_n 0, 1) := by decide +kernel
theorem dX6_ones_3 : decode cX6_ones 3 = .ok (.istore_n 2, 1) := by decide +kernel
theorem dX6_ones_4 : decode cX6_ones 4 = .ok (.iload_n 2, 1) := by decide +kernel
theorem dX6_ones_5 : decode cX6_ones 5 = .ok (.ifCond .eq 15, 3) := by decide +kernel
theorem dX6_ones_8 : decode cX6_ones 8 = .ok (.iinc 1 1, 3) := by decide +kernel
theorem dX6_ones_11 : decode cX6_ones 11 = .ok (.iload_n 2, 1) := by decide +kernel
theorem dX6_ones_12 : decode cX6_ones 12 = .ok (.iload_n 2, 1) := by decide +kernel
theorem dX6_ones_13 : decode cX6_ones 13 = .ok (.iconst 1, 1) := by decide +kernel
theorem dX6_ones_14 : decode cX6_ones 14 = .ok (.isub, 1) := by decide +kernel
theorem dX6_ones_15 : decode cX6_ones 15 = .ok (.iand, 1) := by decide +kernel
theorem dX6_ones_16 : decode cX6_ones 16 = .ok (.istore_n 2, 1) := by decide +kernel
theorem dX6_ones_17 : decode cX6_ones 17 = .ok (.goto (-13), 3) := by decide +kernel
theorem dX6_ones_20 : decode cX6_ones 20 = .ok (.iload_n 1, 1) := by decide +kernel
theorem dX6_ones_21 : decode cX6_ones 21 = .ok (.ireturn, 1) := by decide +kernel
theorem dX6_isPart_0 : decode cX6_isPart 0 = .ok (.iload_n 0, 1) := by decide +kernel
theorem dX6_isPart_1 : decode cX6_isPart 1 = .ok (.i2l, 1) := by decide +kernel
theorem dX6_isPart_2 : decode cX6_isPart 2 = .ok (.lconst 0, 1) := by decide +kernel
theorem dX6_isPart_3 : decode cX6_isPart 3 = .ok (.ldc2_w 60, 3) := by decide +kernel
theorem dX6_isPart_6 : decode cX6_isPart 6 = .ok (.invokestatic 62, 3) := by decide +kernel
theorem dX6_isPart_9 : decode cX6_isPart 9 = .ok (.ireturn, 1) := by decide +kernel
theorem dX6_set_0 : decode cX6_set 0 = .ok (.iload_n 1, 1) := by decide +kernel
theorem dX6_set_1 : decode cX6_set 1 = .ok (.i2l, 1) := by decide +kernel
theorem dX6_set_2 : decode cX6_set 2 = .ok (.lconst 0, 1) := by decide +kernel
theorem dX6_set_3 : decode cX6_set 3 = .ok (.ldc2_w 66, 3) := by decide +kernel
theorem dX6_set_6 : decode cX6_set 6 = .ok (.invokestatic 62, 3) := by decide +kernel
theorem dX6_set_9 : decode cX6_set 9 = .ok (.ifCond .eq 36, 3) := by decide +kernel
theorem dX6_set_12 : decode cX6_set 12 = .ok (.iload_n 2, 1) := by decide +kernel
theorem dX6_set_13 : decode cX6_set 13 = .ok (.i2l, 1) := by decide +kernel
theorem dX6_set_14 : decode cX6_set 14 = .ok (.lconst 0, 1) := by decide +kernel
theorem dX6_set_15 : decode cX6_set 15 = .ok (.iload_n 1, 1) := by decide +kernel
theorem dX6_set_16 : decode cX6_set 16 = .ok (.ifCond .ne 9, 3) := by decide +kernel
theorem dX6_set_19 : decode cX6_set 19 = .ok (.ldc2_w 66, 3) := by decide +kernel
theorem dX6_set_22 : decode cX6_set 22 = .ok (.goto 17, 3) := by decide +kernel
theorem dX6_set_25 : decode cX6_set 25 = .ok (.iload_n 1, 1) := by decide +kernel
theorem dX6_set_26 : decode cX6_set 26 = .ok (.iconst 1, 1) := by decide +kernel
theorem dX6_set_27 : decode cX6_set 27 = .ok (.if_icmp .ne 9, 3) := by decide +kernel
theorem dX6_set_30 : decode cX6_set 30 = .ok (.ldc2_w 68, 3) := by decide +kernel
theorem dX6_set_33 : decode cX6_set 33 = .ok (.goto 6, 3) := by decide +kernel
theorem dX6_set_36 : decode cX6_set 36 = .ok (.ldc2_w 70, 3) := by decide +kernel
theorem dX6_set_39 : decode cX6_set 39 = .ok (.invokestatic 62, 3) := by decide +kernel
theorem dX6_set_42 : decode cX6_set 42 = .ok (.ifCond .ne 6, 3) := by decide +kernel
theorem dX6_set_45 : decode cX6_set 45 = .ok (.bipush (-2), 2) := by decide +kernel
theorem dX6_set_47 : decode cX6_set 47 = .ok (.ireturn, 1) := by decide +kernel
theorem dX6_set_48 : decode cX6_set 48 = .ok (.iload_n 1, 1) := by decide +kernel
theorem dX6_set_49 : decode cX6_set 49 = .ok (.ifCond .ne 10, 3) := by decide +kernel
theorem dX6_set_52 : decode cX6_set 52 = .ok (.aload_n 0, 1) := by decide +kernel
theorem dX6_set_53 : decode cX6_set 53 = .ok (.getfield 72, 3) := by decide +kernel
theorem dX6_set_56 : decode cX6_set 56 = .ok (.goto 19, 3) := by decide +kernel
theorem dX6_set_59 : decode cX6_set 59 = .ok (.iload_n 1, 1) := by decide +kernel
theorem dX6_set_60 : decode cX6_set 60 = .ok (.iconst 1, 1) := by decide +kernel
theorem dX6_set_61 : decode cX6_set 61 = .ok (.if_icmp .ne 10, 3) := by decide +kernel
theorem dX6_set_64 : decode cX6_set 64 = .ok (.aload_n 0, 1) := by decide +kernel
theorem dX6_set_65 : decode cX6_set 65 = .ok (.getfield 56, 3) := by decide +kernel
theorem dX6_set_68 : decode cX6_set 68 = .ok (.goto 7, 3) := by decide +kernel
theorem dX6_set_71 : decode cX6_set 71 = .ok (.aload_n 0, 1) := by decide +kernel
theorem dX6_set_72 : decode cX6_set 72 = .ok (.getfield 75, 3) := by decide +kernel
theorem dX6_set_75 : decode cX6_set 75 = .ok (.istore_n 3, 1) := by decide +kernel
theorem dX6_set_76 : decode cX6_set 76 = .ok (.aload_n 0, 1) := by decide +kernel
theorem dX6_set_77 : decode cX6_set 77 = .ok (.iload_n 1, 1) := by decide +kernel
theorem dX6_set_78 : decode cX6_set 78 = .ok (.ifCond .ne 7, 3) := by decide +kernel
theorem dX6_set_81 : decode cX6_set 81 = .ok (.iload_n 2, 1) := by decide +kernel
theorem dX6_set_82 : decode cX6_set 82 = .ok (.goto 7, 3) := by decide +kernel
theorem dX6_set_85 : decode cX6_set 85 = .ok (.aload_n 0, 1) := by decide +kernel
theorem dX6_set_86 : decode cX6_set 86 = .ok (.getfield 72, 3) := by decide +kernel
theorem dX6_set_89 : decode cX6_set 89 = .ok (.putfield 72, 3) := by decide +kernel
theorem dX6_set_92 : decode cX6_set 92 = .ok (.aload_n 0, 1) := by decide +kernel
theorem dX6_set_93 : decode cX6_set 93 = .ok (.iload_n 1, 1) := by decide +kernel
theorem dX6_set_94 : decode cX6_set 94 = .ok (.iconst 1, 1) := by decide +kernel
theorem dX6_set_95 : decode cX6_set 95 = .ok (.if_icmp .ne 7, 3) := by decide +kernel
theorem dX6_set_98 : decode cX6_set 98 = .ok (.iload_n 2, 1) := by decide +kernel
theorem dX6_set_99 : decode cX6_set 99 = .ok (.goto 7, 3) := by decide +kernel
theorem dX6_set_102 : decode cX6_set 102 = .ok (.aload_n 0, 1) := by decide +kernel
theorem dX6_set_103 : decode cX6_set 103 = .ok (.getfield 56, 3) := by decide +kernel
theorem dX6_set_106 : decode cX6_set 106 = .ok (.putfield 56, 3) := by decide +kernel
theorem dX6_set_109 : decode cX6_set 109 = .ok (.aload_n 0, 1) := by decide +kernel
theorem dX6_set_110 : decode cX6_set 110 = .ok (.iload_n 1, 1) := by decide +kernel
theorem dX6_set_111 : decode cX6_set 111 = .ok (.iconst 2, 1) := by decide +kernel
theorem dX6_set_112 : decode cX6_set 112 = .ok (.if_icmp .ne 7, 3) := by decide +kernel
theorem dX6_set_115 : decode cX6_set 115 = .ok (.iload_n 2, 1) := by decide +kernel
theorem dX6_set_116 : decode cX6_set 116 = .ok (.goto 7, 3) := by decide +kernel
theorem dX6_set_119 : decode cX6_set 119 = .ok (.aload_n 0, 1) := by decide +kernel
theorem dX6_set_120 : decode cX6_set 120 = .ok (.getfield 75, 3) := by decide +kernel
theorem dX6_set_123 : decode cX6_set 123 = .ok (.putfield 75, 3) := by decide +kernel
theorem dX6_set_126 : decode cX6_set 126 = .ok (.iload_n 3, 1) := by decide +kernel
theorem dX6_set_127 : decode cX6_set 127 = .ok (.ireturn, 1) := by decide +kernel
theorem dX6_say_0 : decode cX6_say 0 = .ok (.iload_n 1, 1) := by decide +kernel
theorem dX6_say_1 : decode cX6_say 1 = .ok (.i2l, 1) := by decide +kernel
theorem dX6_say_2 : decode cX6_say 2 = .ok (.ldc2_w 78, 3) := by decide +kernel
theorem dX6_say_5 : decode cX6_say 5 = .ok (.ldc2_w 80, 3) := by decide +kernel
theorem dX6_say_8 : decode cX6_say 8 = .ok (.invokestatic 62, 3) := by decide +kernel
theorem dX6_say_11 : decode cX6_say 11 = .ok (.ifCond .ne 6, 3) := by decide +kernel
theorem dX6_say_14 : decode cX6_say 14 = .ok (.bipush (-2), 2) := by decide +kernel
theorem dX6_say_16 : decode cX6_say 16 = .ok (.ireturn, 1) := by decide +kernel
theorem dX6_say_17 : decode cX6_say 17 = .ok (.aload_n 0, 1) := by decide +kernel
theorem dX6_say_18 : decode cX6_say 18 = .ok (.getfield 82, 3) := by decide +kernel
theorem dX6_say_21 : decode cX6_say 21 = .ok (.bipush 40, 2) := by decide +kernel
theorem dX6_say_23 : decode cX6_say 23 = .ok (.if_icmp .ne 6, 3) := by decide +kernel
theorem dX6_say_26 : decode cX6_say 26 = .ok (.bipush (-4), 2) := by decide +kernel
theorem dX6_say_28 : decode cX6_say 28 = .ok (.ireturn, 1) := by decide +kernel
theorem dX6_say_29 : decode cX6_say 29 = .ok (.aload_n 0, 1) := by decide +kernel
theorem dX6_say_30 : decode cX6_say 30 = .ok (.getfield 22, 3) := by decide +kernel
theorem dX6_say_33 : decode cX6_say 33 = .ok (.aload_n 0, 1) := by decide +kernel
theorem dX6_say_34 : decode cX6_say 34 = .ok (.getfield 82, 3) := by decide +kernel
theorem dX6_say_37 : decode cX6_say 37 = .ok (.iload_n 1, 1) := by decide +kernel
theorem dX6_say_38 : decode cX6_say 38 = .ok (.iastore, 1) := by decide +kernel
theorem dX6_say_39 : decode cX6_say 39 = .ok (.aload_n 0, 1) := by decide +kernel
theorem dX6_say_40 : decode cX6_say 40 = .ok (.dup, 1) := by decide +kernel
theorem dX6_say_41 : decode cX6_say 41 = .ok (.getfield 82, 3) := by decide +kernel
theorem dX6_say_44 : decode cX6_say 44 = .ok (.iconst 1, 1) := by decide +kernel
theorem dX6_say_45 : decode cX6_say 45 = .ok (.iadd, 1) := by decide +kernel
theorem dX6_say_46 : decode cX6_say 46 = .ok (.putfield 82, 3) := by decide +kernel
theorem dX6_say_49 : decode cX6_say 49 = .ok (.aload_n 0, 1) := by decide +kernel
theorem dX6_say_50 : decode cX6_say 50 = .ok (.getfield 82, 3) := by decide +kernel
theorem dX6_say_53 : decode cX6_say 53 = .ok (.ireturn, 1) := by decide +kernel
theorem dX6_wipe_0 : decode cX6_wipe 0 = .ok (.aload_n 0, 1) := by decide +kernel
theorem dX6_wipe_1 : decode cX6_wipe 1 = .ok (.getfield 82, 3) := by decide +kernel
theorem dX6_wipe_4 : decode cX6_wipe 4 = .ok (.istore_n 1, 1) := by decide +kernel
theorem dX6_wipe_5 : decode cX6_wipe 5 = .ok (.aload_n 0, 1) := by decide +kernel
theorem dX6_wipe_6 : decode cX6_wipe 6 = .ok (.iconst 0, 1) := by decide +kernel
theorem dX6_wipe_7 : decode cX6_wipe 7 = .ok (.putfield 82, 3) := by decide +kernel
theorem dX6_wipe_10 : decode cX6_wipe 10 = .ok (.iload_n 1, 1) := by decide +kernel
theorem dX6_wipe_11 : decode cX6_wipe 11 = .ok (.ireturn, 1) := by decide +kernel
theorem dX6_marks_0 : decode cX6_marks 0 = .ok (.iconst 0, 1) := by decide +kernel
theorem dX6_marks_1 : decode cX6_marks 1 = .ok (.istore_n 1, 1) := by decide +kernel
theorem dX6_marks_2 : decode cX6_marks 2 = .ok (.iconst 0, 1) := by decide +kernel
theorem dX6_marks_3 : decode cX6_marks 3 = .ok (.istore_n 2, 1) := by decide +kernel
theorem dX6_marks_4 : decode cX6_marks 4 = .ok (.iload_n 2, 1) := by decide +kernel
theorem dX6_marks_5 : decode cX6_marks 5 = .ok (.aload_n 0, 1) := by decide +kernel
theorem dX6_marks_6 : decode cX6_marks 6 = .ok (.getfield 82, 3) := by decide +kernel
theorem dX6_marks_9 : decode cX6_marks 9 = .ok (.if_icmp .ge 28, 3) := by decide +kernel
theorem dX6_marks_12 : decode cX6_marks 12 = .ok (.iload_n 1, 1) := by decide +kernel
theorem dX6_marks_13 : decode cX6_marks 13 = .ok (.aload_n 0, 1) := by decide +kernel
theorem dX6_marks_14 : decode cX6_marks 14 = .ok (.getfield 22, 3) := by decide +kernel
theorem dX6_marks_17 : decode cX6_marks 17 = .ok (.iload_n 2, 1) := by decide +kernel
theorem dX6_marks_18 : decode cX6_marks 18 = .ok (.iaload, 1) := by decide +kernel
theorem dX6_marks_19 : decode cX6_marks 19 = .ok (.bipush 63, 2) := by decide +kernel
theorem dX6_marks_21 : decode cX6_marks 21 = .ok (.if_icmp .ne 7, 3) := by decide +kernel
theorem dX6_marks_24 : decode cX6_marks 24 = .ok (.iconst 1, 1) := by decide +kernel
theorem dX6_marks_25 : decode cX6_marks 25 = .ok (.goto 4, 3) := by decide +kernel
theorem dX6_marks_28 : decode cX6_marks 28 = .ok (.iconst 0, 1) := by decide +kernel
theorem dX6_marks_29 : decode cX6_marks 29 = .ok (.iadd, 1) := by decide +kernel
theorem dX6_marks_30 : decode cX6_marks 30 = .ok (.istore_n 1, 1) := by decide +kernel
theorem dX6_marks_31 : decode cX6_marks 31 = .ok (.iinc 2 1, 3) := by decide +kernel
theorem dX6_marks_34 : decode cX6_marks 34 = .ok (.goto (-30), 3) := by decide +kernel
theorem dX6_marks_37 : decode cX6_marks 37 = .ok (.iload_n 1, 1) := by decide +kernel
theorem dX6_marks_38 : decode cX6_marks 38 = .ok (.ireturn, 1) := by decide +kernel
theorem dX6_fault_0 : decode cX6_fault 0 = .ok (.iconst 0, 1) := by decide +kernel
theorem dX6_fault_1 : decode cX6_fault 1 = .ok (.istore_n 1, 1) := by decide +kernel
theorem dX6_fault_2 : decode cX6_fault 2 = .ok (.iconst 0, 1) := by decide +kernel
theorem dX6_fault_3 : decode cX6_fault 3 = .ok (.istore_n 2, 1) := by decide +kernel
theorem dX6_fault_4 : decode cX6_fault 4 = .ok (.iload_n 2, 1) := by decide +kernel
theorem dX6_fault_5 : decode cX6_fault 5 = .ok (.aload_n 0, 1) := by decide +kernel
theorem dX6_fault_6 : decode cX6_fault 6 = .ok (.getfield 82, 3) := by decide +kernel
theorem dX6_fault_9 : decode cX6_fault 9 = .ok (.if_icmp .ge 89, 3) := by decide +kernel
theorem dX6_fault_12 : decode cX6_fault 12 = .ok (.aload_n 0, 1) := by decide +kernel
theorem dX6_fault_13 : decode cX6_fault 13 = .ok (.getfield 22, 3) := by decide +kernel
theorem dX6_fault_16 : decode cX6_fault 16 = .ok (.iload_n 2, 1) := by decide +kernel
theorem dX6_fault_17 : decode cX6_fault 17 = .ok (.iaload, 1) := by decide +kernel
theorem dX6_fault_18 : decode cX6_fault 18 = .ok (.istore_n 3, 1) := by decide +kernel
theorem dX6_fault_19 : decode cX6_fault 19 = .ok (.iload_n 1, 1) := by decide +kernel
theorem dX6_fault_20 : decode cX6_fault 20 = .ok (.iload_n 3, 1) := by decide +kernel
theorem dX6_fault_21 : decode cX6_fault 21 = .ok (.bipush 63, 2) := by decide +kernel
theorem dX6_fault_23 : decode cX6_fault 23 = .ok (.if_icmp .ne 7, 3) := by decide +kernel
theorem dX6_fault_26 : decode cX6_fault 26 = .ok (.iconst 1, 1) := by decide +kernel
theorem dX6_fault_27 : decode cX6_fault 27 = .ok (.goto 4, 3) := by decide +kernel
theorem dX6_fault_30 : decode cX6_fault 30 = .ok (.iconst 0, 1) := by decide +kernel
theorem dX6_fault_31 : decode cX6_fault 31 = .ok (.iadd, 1) := by decide +kernel
theorem dX6_fault_32 : decode cX6_fault 32 = .ok (.istore_n 1, 1) := by decide +kernel
theorem dX6_fault_33 : decode cX6_fault 33 = .ok (.iload_n 3, 1) := by decide +kernel
theorem dX6_fault_34 : decode cX6_fault 34 = .ok (.bipush 46, 2) := by decide +kernel
theorem dX6_fault_36 : decode cX6_fault 36 = .ok (.if_icmp .eq 42, 3) := by decide +kernel
theorem dX6_fault_39 : decode cX6_fault 39 = .ok (.iload_n 3, 1) := by decide +kernel
theorem dX6_fault_40 : decode cX6_fault 40 = .ok (.bipush 63, 2) := by decide +kernel
theorem dX6_fault_42 : decode cX6_fault 42 = .ok (.if_icmp .ne 8, 3) := by decide +kernel
theorem dX6_fault_45 : decode cX6_fault 45 = .ok (.iload_n 1, 1) := by decide +kernel
theorem dX6_fault_46 : decode cX6_fault 46 = .ok (.iconst 3, 1) := by decide +kernel
theorem dX6_fault_47 : decode cX6_fault 47 = .ok (.if_icmp .le 31, 3) := by decide +kernel
theorem dX6_fault_50 : decode cX6_fault 50 = .ok (.iload_n 3, 1) := by decide +kernel
theorem dX6_fault_51 : decode cX6_fault 51 = .ok (.i2l, 1) := by decide +kernel
theorem dX6_fault_52 : decode cX6_fault 52 = .ok (.ldc2_w 85, 3) := by decide +kernel
theorem dX6_fault_55 : decode cX6_fault 55 = .ok (.ldc2_w 87, 3) := by decide +kernel
theorem dX6_fault_58 : decode cX6_fault 58 = .ok (.invokestatic 62, 3) := by decide +kernel
theorem dX6_fault_61 : decode cX6_fault 61 = .ok (.ifCond .ne 17, 3) := by decide +kernel
theorem dX6_fault_64 : decode cX6_fault 64 = .ok (.iload_n 3, 1) := by decide +kernel
theorem dX6_fault_65 : decode cX6_fault 65 = .ok (.i2l, 1) := by decide +kernel
theorem dX6_fault_66 : decode cX6_fault 66 = .ok (.ldc2_w 89, 3) := by decide +kernel
theorem dX6_fault_69 : decode cX6_fault 69 = .ok (.ldc2_w 91, 3) := by decide +kernel
theorem dX6_fault_72 : decode cX6_fault 72 = .ok (.invokestatic 62, 3) := by decide +kernel
theorem dX6_fault_75 : decode cX6_fault 75 = .ok (.ifCond .eq 7, 3) := by decide +kernel
theorem dX6_fault_78 : decode cX6_fault 78 = .ok (.iconst 1, 1) := by decide +kernel
theorem dX6_fault_79 : decode cX6_fault 79 = .ok (.goto 4, 3) := by decide +kernel
theorem dX6_fault_82 : decode cX6_fault 82 = .ok (.iconst 0, 1) := by decide +kernel
theorem dX6_fault_83 : decode cX6_fault 83 = .ok (.istore 4, 2) := by decide +kernel
theorem dX6_fault_85 : decode cX6_fault 85 = .ok (.iload 4, 2) := by decide +kernel
theorem dX6_fault_87 : decode cX6_fault 87 = .ok (.ifCond .ne 5, 3) := by decide +kernel
theorem dX6_fault_90 : decode cX6_fault 90 = .ok (.iload_n 2, 1) := by decide +kernel
theorem dX6_fault_91 : decode cX6_fault 91 = .ok (.ireturn, 1) := by decide +kernel
theorem dX6_fault_92 : decode cX6_fault 92 = .ok (.iinc 2 1, 3) := by decide +kernel
theorem dX6_fault_95 : decode cX6_fault 95 = .ok (.goto (-91), 3) := by decide +kernel
theorem dX6_fault_98 : decode cX6_fault 98 = .ok (.bipush (-6), 2) := by decide +kernel
theorem dX6_fault_100 : decode cX6_fault 100 = .ok (.ireturn, 1) := by decide +kernel
theorem dX6_layEvents_0 : decode cX6_layEvents 0 = .ok (.iconst 0, 1) := by decide +kernel
theorem dX6_layEvents_1 : decode cX6_layEvents 1 = .ok (.istore_n 1, 1) := by decide +kernel
theorem dX6_layEvents_2 : decode cX6_layEvents 2 = .ok (.iload_n 1, 1) := by decide +kernel
theorem dX6_layEvents_3 : decode cX6_layEvents 3 = .ok (.aload_n 0, 1) := by decide +kernel
theorem dX6_layEvents_4 : decode cX6_layEvents 4 = .ok (.getfield 82, 3) := by decide +kernel
theorem dX6_layEvents_7 : decode cX6_layEvents 7 = .ok (.if_icmp .ge 53, 3) := by decide +kernel
theorem dX6_layEvents_10 : decode cX6_layEvents 10 = .ok (.aload_n 0, 1) := by decide +kernel
theorem dX6_layEvents_11 : decode cX6_layEvents 11 = .ok (.getfield 22, 3) := by decide +kernel
theorem dX6_layEvents_14 : decode cX6_layEvents 14 = .ok (.iload_n 1, 1) := by decide +kernel
theorem dX6_layEvents_15 : decode cX6_layEvents 15 = .ok (.iaload, 1) := by decide +kernel
theorem dX6_layEvents_16 : decode cX6_layEvents 16 = .ok (.istore_n 2, 1) := by decide +kernel
theorem dX6_layEvents_17 : decode cX6_layEvents 17 = .ok (.aload_n 0, 1) := by decide +kernel
theorem dX6_layEvents_18 : decode cX6_layEvents 18 = .ok (.getfield 25, 3) := by decide +kernel
theorem dX6_layEvents_21 : decode cX6_layEvents 21 = .ok (.iload_n 1, 1) := by decide +kernel
theorem dX6_layEvents_22 : decode cX6_layEvents 22 = .ok (.iload_n 2, 1) := by decide +kernel
theorem dX6_layEvents_23 : decode cX6_layEvents 23 = .ok (.bipush 46, 2) := by decide +kernel
theorem dX6_layEvents_25 : decode cX6_layEvents 25 = .ok (.if_icmp .ne 8, 3) := by decide +kernel
theorem dX6_layEvents_28 : decode cX6_layEvents 28 = .ok (.bipush 32, 2) := by decide +kernel
theorem dX6_layEvents_30 : decode cX6_layEvents 30 = .ok (.goto 23, 3) := by decide +kernel
theorem dX6_layEvents_33 : decode cX6_layEvents 33 = .ok (.iload_n 2, 1) := by decide +kernel
theorem dX6_layEvents_34 : decode cX6_layEvents 34 = .ok (.bipush 97, 2) := by decide +kernel
theorem dX6_layEvents_36 : decode cX6_layEvents 36 = .ok (.if_icmp .lt 13, 3) := by decide +kernel
theorem dX6_layEvents_39 : decode cX6_layEvents 39 = .ok (.bipush 16, 2) := by decide +kernel
theorem dX6_layEvents_41 : decode cX6_layEvents 41 = .ok (.iload_n 2, 1) := by decide +kernel
theorem dX6_layEvents_42 : decode cX6_layEvents 42 = .ok (.iadd, 1) := by decide +kernel
theorem dX6_layEvents_43 : decode cX6_layEvents 43 = .ok (.bipush 97, 2) := by decide +kernel
theorem dX6_layEvents_45 : decode cX6_layEvents 45 = .ok (.isub, 1) := by decide +kernel
theorem dX6_layEvents_46 : decode cX6_layEvents 46 = .ok (.goto 7, 3) := by decide +kernel
theorem dX6_layEvents_49 : decode cX6_layEvents 49 = .ok (.iload_n 2, 1) := by decide +kernel
theorem dX6_layEvents_50 : decode cX6_layEvents 50 = .ok (.bipush 65, 2) := by decide +kernel
theorem dX6_layEvents_52 : decode cX6_layEvents 52 = .ok (.isub, 1) := by decide +kernel
theorem dX6_layEvents_53 : decode cX6_layEvents 53 = .ok (.iastore, 1) := by decide +kernel
theorem dX6_layEvents_54 : decode cX6_layEvents 54 = .ok (.iinc 1 1, 3) := by decide +kernel
theorem dX6_layEvents_57 : decode cX6_layEvents 57 = .ok (.goto (-55), 3) := by decide +kernel
theorem dX6_layEvents_60 : decode cX6_layEvents 60 = .ok (.return_, 1) := by decide +kernel
theorem dX6_go_0 : decode cX6_go 0 = .ok (.iconst 0, 1) := by decide +kernel
theorem dX6_go_1 : decode cX6_go 1 = .ok (.istore_n 1, 1) := by decide +kernel
theorem dX6_go_2 : decode cX6_go 2 = .ok (.aload_n 0, 1) := by decide +kernel
theorem dX6_go_3 : decode cX6_go 3 = .ok (.iconst 0, 1) := by decide +kernel
theorem dX6_go_4 : decode cX6_go 4 = .ok (.putfield 93, 3) := by decide +kernel
theorem dX6_go_7 : decode cX6_go 7 = .ok (.aload_n 0, 1) := by decide +kernel
theorem dX6_go_8 : decode cX6_go 8 = .ok (.iconst 0, 1) := by decide +kernel
theorem dX6_go_9 : decode cX6_go 9 = .ok (.putfield 96, 3) := by decide +kernel
theorem dX6_go_12 : decode cX6_go 12 = .ok (.aload_n 0, 1) := by decide +kernel
theorem dX6_go_13 : decode cX6_go 13 = .ok (.bipush (-6), 2) := by decide +kernel
theorem dX6_go_15 : decode cX6_go 15 = .ok (.putfield 99, 3) := by decide +kernel
theorem dX6_go_18 : decode cX6_go 18 = .ok (.aload_n 0, 1) := by decide +kernel
theorem dX6_go_19 : decode cX6_go 19 = .ok (.bipush (-6), 2) := by decide +kernel
theorem dX6_go_21 : decode cX6_go 21 = .ok (.putfield 102, 3) := by decide +kernel
theorem dX6_go_24 : decode cX6_go 24 = .ok (.iconst 0, 1) := by decide +kernel
theorem dX6_go_25 : decode cX6_go 25 = .ok (.istore_n 2, 1) := by decide +kernel
theorem dX6_go_26 : decode cX6_go 26 = .ok (.iload_n 2, 1) := by decide +kernel
theorem dX6_go_27 : decode cX6_go 27 = .ok (.aload_n 0, 1) := by decide +kernel
theorem dX6_go_28 : decode cX6_go 28 = .ok (.getfield 82, 3) := by decide +kernel
theorem dX6_go_31 : decode cX6_go 31 = .ok (.if_icmp .ge 176, 3) := by decide +kernel
theorem dX6_go_34 : decode cX6_go 34 = .ok (.aload_n 0, 1) := by decide +kernel
theorem dX6_go_35 : decode cX6_go 35 = .ok (.getfield 99, 3) := by decide +kernel
theorem dX6_go_38 : decode cX6_go 38 = .ok (.ifCond .ge 169, 3) := by decide +kernel
theorem dX6_go_41 : decode cX6_go 41 = .ok (.aload_n 0, 1) := by decide +kernel
theorem dX6_go_42 : decode cX6_go 42 = .ok (.getfield 25, 3) := by decide +kernel
theorem dX6_go_45 : decode cX6_go 45 = .ok (.iload_n 2, 1) := by decide +kernel
theorem dX6_go_46 : decode cX6_go 46 = .ok (.iaload, 1) := by decide +kernel
theorem dX6_go_47 : decode cX6_go 47 = .ok (.istore_n 3, 1) := by decide +kernel
theorem dX6_go_48 : decode cX6_go 48 = .ok (.iload_n 3, 1) := by decide +kernel
theorem dX6_go_49 : decode cX6_go 49 = .ok (.bipush 32, 2) := by decide +kernel
theorem dX6_go_51 : decode cX6_go 51 = .ok (.if_icmp .ne 26, 3) := by decide +kernel
theorem dX6_go_54 : decode cX6_go 54 = .ok (.aload_n 0, 1) := by decide +kernel
theorem dX6_go_55 : decode cX6_go 55 = .ok (.getfield 28, 3) := by decide +kernel
theorem dX6_go_58 : decode cX6_go 58 = .ok (.aload_n 0, 1) := by decide +kernel
theorem dX6_go_59 : decode cX6_go 59 = .ok (.getfield 93, 3) := by decide +kernel
theorem dX6_go_62 : decode cX6_go 62 = .ok (.iload_n 1, 1) := by decide +kernel
theorem dX6_go_63 : decode cX6_go 63 = .ok (.iastore, 1) := by decide +kernel
theorem dX6_go_64 : decode cX6_go 64 = .ok (.aload_n 0, 1) := by decide +kernel
theorem dX6_go_65 : decode cX6_go 65 = .ok (.dup, 1) := by decide +kernel
theorem dX6_go_66 : decode cX6_go 66 = .ok (.getfield 93, 3) := by decide +kernel
theorem dX6_go_69 : decode cX6_go 69 = .ok (.iconst 1, 1) := by decide +kernel
theorem dX6_go_70 : decode cX6_go 70 = .ok (.iadd, 1) := by decide +kernel
theorem dX6_go_71 : decode cX6_go 71 = .ok (.putfield 93, 3) := by decide +kernel
theorem dX6_go_74 : decode cX6_go 74 = .ok (.goto 127, 3) := by decide +kernel
theorem dX6_go_77 : decode cX6_go 77 = .ok (.iconst 1, 1) := by decide +kernel
theorem dX6_go_78 : decode cX6_go 78 = .ok (.iload_n 3, 1) := by decide +kernel
theorem dX6_go_79 : decode cX6_go 79 = .ok (.bipush 16, 2) := by decide +kernel
theorem dX6_go_81 : decode cX6_go 81 = .ok (.irem, 1) := by decide +kernel
theorem dX6_go_82 : decode cX6_go 82 = .ok (.ishl, 1) := by decide +kernel
theorem dX6_go_83 : decode cX6_go 83 = .ok (.istore 4, 2) := by decide +kernel
theorem dX6_go_85 : decode cX6_go 85 = .ok (.iload_n 1, 1) := by decide +kernel
theorem dX6_go_86 : decode cX6_go 86 = .ok (.iload 4, 2) := by decide +kernel
theorem dX6_go_88 : decode cX6_go 88 = .ok (.iand, 1) := by decide +kernel
theorem dX6_go_89 : decode cX6_go 89 = .ok (.ifCond .eq 7, 3) := by decide +kernel
theorem dX6_go_92 : decode cX6_go 92 = .ok (.iconst 1, 1) := by decide +kernel
theorem dX6_go_93 : decode cX6_go 93 = .ok (.goto 4, 3) := by decide +kernel
theorem dX6_go_96 : decode cX6_go 96 = .ok (.iconst 0, 1) := by decide +kernel
theorem dX6_go_97 : decode cX6_go 97 = .ok (.istore 5, 2) := by decide +kernel
theorem dX6_go_99 : decode cX6_go 99 = .ok (.iload_n 3, 1) := by decide +kernel
theorem dX6_go_100 : decode cX6_go 100 = .ok (.bipush 16, 2) := by decide +kernel
theorem dX6_go_102 : decode cX6_go 102 = .ok (.if_icmp .ge 16, 3) := by decide +kernel
theorem dX6_go_105 : decode cX6_go 105 = .ok (.iload 5, 2) := by decide +kernel
theorem dX6_go_107 : decode cX6_go 107 = .ok (.ifCond .ne 7, 3) := by decide +kernel
theorem dX6_go_110 : decode cX6_go 110 = .ok (.iconst 1, 1) := by decide +kernel
theorem dX6_go_111 : decode cX6_go 111 = .ok (.goto 9, 3) := by decide +kernel
theorem dX6_go_114 : decode cX6_go 114 = .ok (.iconst 0, 1) := by decide +kernel
theorem dX6_go_115 : decode cX6_go 115 = .ok (.goto 5, 3) := by decide +kernel
theorem dX6_go_118 : decode cX6_go 118 = .ok (.iload 5, 2) := by decide +kernel
theorem dX6_go_120 : decode cX6_go 120 = .ok (.istore 6, 2) := by decide +kernel
theorem dX6_go_122 : decode cX6_go 122 = .ok (.aload_n 0, 1) := by decide +kernel
theorem dX6_go_123 : decode cX6_go 123 = .ok (.iload 6, 2) := by decide +kernel
theorem dX6_go_125 : decode cX6_go 125 = .ok (.ifCond .eq 8, 3) := by decide +kernel
theorem dX6_go_128 : decode cX6_go 128 = .ok (.bipush (-6), 2) := by decide +kernel
theorem dX6_go_130 : decode cX6_go 130 = .ok (.goto 4, 3) := by decide +kernel
theorem dX6_go_133 : decode cX6_go 133 = .ok (.iload_n 2, 1) := by decide +kernel
theorem dX6_go_134 : decode cX6_go 134 = .ok (.putfield 99, 3) := by decide +kernel
theorem dX6_go_137 : decode cX6_go 137 = .ok (.aload_n 0, 1) := by decide +kernel
theorem dX6_go_138 : decode cX6_go 138 = .ok (.iload 6, 2) := by decide +kernel
theorem dX6_go_140 : decode cX6_go 140 = .ok (.ifCond .eq 8, 3) := by decide +kernel
theorem dX6_go_143 : decode cX6_go 143 = .ok (.bipush (-6), 2) := by decide +kernel
theorem dX6_go_145 : decode cX6_go 145 = .ok (.goto 14, 3) := by decide +kernel
theorem dX6_go_148 : decode cX6_go 148 = .ok (.iload_n 3, 1) := by decide +kernel
theorem dX6_go_149 : decode cX6_go 149 = .ok (.bipush 16, 2) := by decide +kernel
theorem dX6_go_151 : decode cX6_go 151 = .ok (.if_icmp .ge 7, 3) := by decide +kernel
theorem dX6_go_154 : decode cX6_go 154 = .ok (.iconst 1, 1) := by decide +kernel
theorem dX6_go_155 : decode cX6_go 155 = .ok (.goto 4, 3) := by decide +kernel
theorem dX6_go_158 : decode cX6_go 158 = .ok (.iconst 2, 1) := by decide +kernel
theorem dX6_go_159 : decode cX6_go 159 = .ok (.putfield 102, 3) := by decide +kernel
theorem dX6_go_162 : decode cX6_go 162 = .ok (.aload_n 0, 1) := by decide +kernel
theorem dX6_go_163 : decode cX6_go 163 = .ok (.dup, 1) := by decide +kernel
theorem dX6_go_164 : decode cX6_go 164 = .ok (.getfield 96, 3) := by decide +kernel
theorem dX6_go_167 : decode cX6_go 167 = .ok (.iload 6, 2) := by decide +kernel
theorem dX6_go_169 : decode cX6_go 169 = .ok (.ifCond .eq 13, 3) := by decide +kernel
theorem dX6_go_172 : decode cX6_go 172 = .ok (.iload_n 3, 1) := by decide +kernel
theorem dX6_go_173 : decode cX6_go 173 = .ok (.bipush 16, 2) := by decide +kernel
theorem dX6_go_175 : decode cX6_go 175 = .ok (.if_icmp .ge 7, 3) := by decide +kernel
theorem dX6_go_178 : decode cX6_go 178 = .ok (.iconst 1, 1) := by decide +kernel
theorem dX6_go_179 : decode cX6_go 179 = .ok (.goto 4, 3) := by decide +kernel
theorem dX6_go_182 : decode cX6_go 182 = .ok (.iconst 0, 1) := by decide +kernel
theorem dX6_go_183 : decode cX6_go 183 = .ok (.iadd, 1) := by decide +kernel
theorem dX6_go_184 : decode cX6_go 184 = .ok (.putfield 96, 3) := by decide +kernel
theorem dX6_go_187 : decode cX6_go 187 = .ok (.iload 6, 2) := by decide +kernel
theorem dX6_go_189 : decode cX6_go 189 = .ok (.ifCond .eq 10, 3) := by decide +kernel
theorem dX6_go_192 : decode cX6_go 192 = .ok (.iload_n 1, 1) := by decide +kernel
theorem dX6_go_193 : decode cX6_go 193 = .ok (.iload 4, 2) := by decide +kernel
theorem dX6_go_195 : decode cX6_go 195 = .ok (.ixor, 1) := by decide +kernel
theorem dX6_go_196 : decode cX6_go 196 = .ok (.goto 4, 3) := by decide +kernel
theorem dX6_go_199 : decode cX6_go 199 = .ok (.iload_n 1, 1) := by decide +kernel
theorem dX6_go_200 : decode cX6_go 200 = .ok (.istore_n 1, 1) := by decide +kernel
theorem dX6_go_201 : decode cX6_go 201 = .ok (.iinc 2 1, 3) := by decide +kernel
theorem dX6_go_204 : decode cX6_go 204 = .ok (.goto (-178), 3) := by decide +kernel
theorem dX6_go_207 : decode cX6_go 207 = .ok (.aload_n 0, 1) := by decide +kernel
theorem dX6_go_208 : decode cX6_go 208 = .ok (.getfield 99, 3) := by decide +kernel
theorem dX6_go_211 : decode cX6_go 211 = .ok (.ifCond .ge 7, 3) := by decide +kernel
theorem dX6_go_214 : decode cX6_go 214 = .ok (.iconst 1, 1) := by decide +kernel
theorem dX6_go_215 : decode cX6_go 215 = .ok (.goto 4, 3) := by decide +kernel
theorem dX6_go_218 : decode cX6_go 218 = .ok (.iconst 0, 1) := by decide +kernel
theorem dX6_go_219 : decode cX6_go 219 = .ok (.ireturn, 1) := by decide +kernel
theorem dX6_refusal_0 : decode cX6_refusal 0 = .ok (.aload_n 0, 1) := by decide +kernel
theorem dX6_refusal_1 : decode cX6_refusal 1 = .ok (.invokevirtual 105, 3) := by decide +kernel
theorem dX6_refusal_4 : decode cX6_refusal 4 = .ok (.ifCond .lt 6, 3) := by decide +kernel
theorem dX6_refusal_7 : decode cX6_refusal 7 = .ok (.bipush (-5), 2) := by decide +kernel
theorem dX6_refusal_9 : decode cX6_refusal 9 = .ok (.ireturn, 1) := by decide +kernel
theorem dX6_refusal_10 : decode cX6_refusal 10 = .ok (.aload_n 0, 1) := by decide +kernel
theorem dX6_refusal_11 : decode cX6_refusal 11 = .ok (.invokevirtual 109, 3) := by decide +kernel
theorem dX6_refusal_14 : decode cX6_refusal 14 = .ok (.ifCond .le 6, 3) := by decide +kernel
theorem dX6_refusal_17 : decode cX6_refusal 17 = .ok (.bipush (-3), 2) := by decide +kernel
theorem dX6_refusal_19 : decode cX6_refusal 19 = .ok (.ireturn, 1) := by decide +kernel
theorem dX6_refusal_20 : decode cX6_refusal 20 = .ok (.aload_n 0, 1) := by decide +kernel
theorem dX6_refusal_21 : decode cX6_refusal 21 = .ok (.invokevirtual 112, 3) := by decide +kernel
theorem dX6_refusal_24 : decode cX6_refusal 24 = .ok (.aload_n 0, 1) := by decide +kernel
theorem dX6_refusal_25 : decode cX6_refusal 25 = .ok (.invokevirtual 115, 3) := by decide +kernel
theorem dX6_refusal_28 : decode cX6_refusal 28 = .ok (.ifCond .eq 8, 3) := by decide +kernel
theorem dX6_refusal_31 : decode cX6_refusal 31 = .ok (.bipush (-6), 2) := by decide +kernel
theorem dX6_refusal_33 : decode cX6_refusal 33 = .ok (.goto 5, 3) := by decide +kernel
theorem dX6_refusal_36 : decode cX6_refusal 36 = .ok (.bipush (-5), 2) := by decide +kernel
theorem dX6_refusal_38 : decode cX6_refusal 38 = .ok (.ireturn, 1) := by decide +kernel
theorem dX6_holds_0 : decode cX6_holds 0 = .ok (.aload_n 0, 1) := by decide +kernel
theorem dX6_holds_1 : decode cX6_holds 1 = .ok (.getfield 72, 3) := by decide +kernel
theorem dX6_holds_4 : decode cX6_holds 4 = .ok (.ifCond .ne 19, 3) := by decide +kernel
theorem dX6_holds_7 : decode cX6_holds 7 = .ok (.iload_n 1, 1) := by decide +kernel
theorem dX6_holds_8 : decode cX6_holds 8 = .ok (.aload_n 0, 1) := by decide +kernel
theorem dX6_holds_9 : decode cX6_holds 9 = .ok (.getfield 56, 3) := by decide +kernel
theorem dX6_holds_12 : decode cX6_holds 12 = .ok (.if_icmp .ne 7, 3) := by decide +kernel
theorem dX6_holds_15 : decode cX6_holds 15 = .ok (.iconst 1, 1) := by decide +kernel
theorem dX6_holds_16 : decode cX6_holds 16 = .ok (.goto 51, 3) := by decide +kernel
theorem dX6_holds_19 : decode cX6_holds 19 = .ok (.iconst 0, 1) := by decide +kernel
theorem dX6_holds_20 : decode cX6_holds 20 = .ok (.goto 47, 3) := by decide +kernel
theorem dX6_holds_23 : decode cX6_holds 23 = .ok (.aload_n 0, 1) := by decide +kernel
theorem dX6_holds_24 : decode cX6_holds 24 = .ok (.getfield 72, 3) := by decide +kernel
theorem dX6_holds_27 : decode cX6_holds 27 = .ok (.iconst 1, 1) := by decide +kernel
theorem dX6_holds_28 : decode cX6_holds 28 = .ok (.if_icmp .ne 18, 3) := by decide +kernel
theorem dX6_holds_31 : decode cX6_holds 31 = .ok (.iload_n 1, 1) := by decide +kernel
theorem dX6_holds_32 : decode cX6_holds 32 = .ok (.iconst 2, 1) := by decide +kernel
theorem dX6_holds_33 : decode cX6_holds 33 = .ok (.irem, 1) := by decide +kernel
theorem dX6_holds_34 : decode cX6_holds 34 = .ok (.iconst 1, 1) := by decide +kernel
theorem dX6_holds_35 : decode cX6_holds 35 = .ok (.if_icmp .ne 7, 3) := by decide +kernel
theorem dX6_holds_38 : decode cX6_holds 38 = .ok (.iconst 1, 1) := by decide +kernel
theorem dX6_holds_39 : decode cX6_holds 39 = .ok (.goto 28, 3) := by decide +kernel
theorem dX6_holds_42 : decode cX6_holds 42 = .ok (.iconst 0, 1) := by decide +kernel
theorem dX6_holds_43 : decode cX6_holds 43 = .ok (.goto 24, 3) := by decide +kernel
theorem dX6_holds_46 : decode cX6_holds 46 = .ok (.iload_n 1, 1) := by decide +kernel
theorem dX6_holds_47 : decode cX6_holds 47 = .ok (.iload_n 2, 1) := by decide +kernel
theorem dX6_holds_48 : decode cX6_holds 48 = .ok (.ifCond .ge 10, 3) := by decide +kernel
theorem dX6_holds_51 : decode cX6_holds 51 = .ok (.aload_n 0, 1) := by decide +kernel
theorem dX6_holds_52 : decode cX6_holds 52 = .ok (.getfield 56, 3) := by decide +kernel
theorem dX6_holds_55 : decode cX6_holds 55 = .ok (.goto 4, 3) := by decide +kernel
theorem dX6_holds_58 : decode cX6_holds 58 = .ok (.iload_n 2, 1) := by decide +kernel
theorem dX6_holds_59 : decode cX6_holds 59 = .ok (.if_icmp .lt 7, 3) := by decide +kernel
theorem dX6_holds_62 : decode cX6_holds 62 = .ok (.iconst 1, 1) := by decide +kernel
theorem dX6_holds_63 : decode cX6_holds 63 = .ok (.goto 4, 3) := by decide +kernel
theorem dX6_holds_66 : decode cX6_holds 66 = .ok (.iconst 0, 1) := by decide +kernel
theorem dX6_holds_67 : decode cX6_holds 67 = .ok (.ireturn, 1) := by decide +kernel
theorem dX6_breaking_0 : decode cX6_breaking 0 = .ok (.iconst 0, 1) := by decide +kernel
theorem dX6_breaking_1 : decode cX6_breaking 1 = .ok (.istore_n 1, 1) := by decide +kernel
theorem dX6_breaking_2 : decode cX6_breaking 2 = .ok (.iload_n 1, 1) := by decide +kernel
theorem dX6_breaking_3 : decode cX6_breaking 3 = .ok (.aload_n 0, 1) := by decide +kernel
theorem dX6_breaking_4 : decode cX6_breaking 4 = .ok (.getfield 93, 3) := by decide +kernel
theorem dX6_breaking_7 : decode cX6_breaking 7 = .ok (.if_icmp .ge 47, 3) := by decide +kernel
theorem dX6_breaking_10 : decode cX6_breaking 10 = .ok (.aload_n 0, 1) := by decide +kernel
theorem dX6_breaking_11 : decode cX6_breaking 11 = .ok (.aload_n 0, 1) := by decide +kernel
theorem dX6_breaking_12 : decode cX6_breaking 12 = .ok (.getfield 28, 3) := by decide +kernel
theorem dX6_breaking_15 : decode cX6_breaking 15 = .ok (.iload_n 1, 1) := by decide +kernel
theorem dX6_breaking_16 : decode cX6_breaking 16 = .ok (.iaload, 1) := by decide +kernel
theorem dX6_breaking_17 : decode cX6_breaking 17 = .ok (.invokestatic 119, 3) := by decide +kernel
theorem dX6_breaking_20 : decode cX6_breaking 20 = .ok (.iload_n 1, 1) := by decide +kernel
theorem dX6_breaking_21 : decode cX6_breaking 21 = .ok (.ifCond .ne 8, 3) := by decide +kernel
theorem dX6_breaking_24 : decode cX6_breaking 24 = .ok (.bipush (-6), 2) := by decide +kernel
theorem dX6_breaking_26 : decode cX6_breaking 26 = .ok (.goto 14, 3) := by decide +kernel
theorem dX6_breaking_29 : decode cX6_breaking 29 = .ok (.aload_n 0, 1) := by decide +kernel
theorem dX6_breaking_30 : decode cX6_breaking 30 = .ok (.getfield 28, 3) := by decide +kernel
theorem dX6_breaking_33 : decode cX6_breaking 33 = .ok (.iload_n 1, 1) := by decide +kernel
theorem dX6_breaking_34 : decode cX6_breaking 34 = .ok (.iconst 1, 1) := by decide +kernel
theorem dX6_breaking_35 : decode cX6_breaking 35 = .ok (.isub, 1) := by decide +kernel
theorem dX6_breaking_36 : decode cX6_breaking 36 = .ok (.iaload, 1) := by decide +kernel
theorem dX6_breaking_37 : decode cX6_breaking 37 = .ok (.invokestatic 119, 3) := by decide +kernel
theorem dX6_breaking_40 : decode cX6_breaking 40 = .ok (.invokevirtual 123, 3) := by decide +kernel
theorem dX6_breaking_43 : decode cX6_breaking 43 = .ok (.ifCond .ne 5, 3) := by decide +kernel
theorem dX6_breaking_46 : decode cX6_breaking 46 = .ok (.iload_n 1, 1) := by decide +kernel
theorem dX6_breaking_47 : decode cX6_breaking 47 = .ok (.ireturn, 1) := by decide +kernel
theorem dX6_breaking_48 : decode cX6_breaking 48 = .ok (.iinc 1 1, 3) := by decide +kernel
theorem dX6_breaking_51 : decode cX6_breaking 51 = .ok (.goto (-49), 3) := by decide +kernel
theorem dX6_breaking_54 : decode cX6_breaking 54 = .ok (.bipush (-6), 2) := by decide +kernel
theorem dX6_breaking_56 : decode cX6_breaking 56 = .ok (.ireturn, 1) := by decide +kernel
theorem dX6_judge_0 : decode cX6_judge 0 = .ok (.iload_n 1, 1) := by decide +kernel
theorem dX6_judge_1 : decode cX6_judge 1 = .ok (.i2l, 1) := by decide +kernel
theorem dX6_judge_2 : decode cX6_judge 2 = .ok (.lconst 0, 1) := by decide +kernel
theorem dX6_judge_3 : decode cX6_judge 3 = .ok (.ldc2_w 66, 3) := by decide +kernel
theorem dX6_judge_6 : decode cX6_judge 6 = .ok (.invokestatic 62, 3) := by decide +kernel
theorem dX6_judge_9 : decode cX6_judge 9 = .ok (.ifCond .ne 6, 3) := by decide +kernel
theorem dX6_judge_12 : decode cX6_judge 12 = .ok (.bipush (-2), 2) := by decide +kernel
theorem dX6_judge_14 : decode cX6_judge 14 = .ok (.ireturn, 1) := by decide +kernel
theorem dX6_judge_15 : decode cX6_judge 15 = .ok (.aload_n 0, 1) := by decide +kernel
theorem dX6_judge_16 : decode cX6_judge 16 = .ok (.invokevirtual 105, 3) := by decide +kernel
theorem dX6_judge_19 : decode cX6_judge 19 = .ok (.ifCond .lt 6, 3) := by decide +kernel
theorem dX6_judge_22 : decode cX6_judge 22 = .ok (.bipush (-5), 2) := by decide +kernel
theorem dX6_judge_24 : decode cX6_judge 24 = .ok (.ireturn, 1) := by decide +kernel
theorem dX6_judge_25 : decode cX6_judge 25 = .ok (.aload_n 0, 1) := by decide +kernel
theorem dX6_judge_26 : decode cX6_judge 26 = .ok (.invokevirtual 109, 3) := by decide +kernel
theorem dX6_judge_29 : decode cX6_judge 29 = .ok (.ifCond .le 6, 3) := by decide +kernel
theorem dX6_judge_32 : decode cX6_judge 32 = .ok (.bipush (-3), 2) := by decide +kernel
theorem dX6_judge_34 : decode cX6_judge 34 = .ok (.ireturn, 1) := by decide +kernel
theorem dX6_judge_35 : decode cX6_judge 35 = .ok (.aload_n 0, 1) := by decide +kernel
theorem dX6_judge_36 : decode cX6_judge 36 = .ok (.invokevirtual 112, 3) := by decide +kernel
theorem dX6_judge_39 : decode cX6_judge 39 = .ok (.aload_n 0, 1) := by decide +kernel
theorem dX6_judge_40 : decode cX6_judge 40 = .ok (.invokevirtual 115, 3) := by decide +kernel
theorem dX6_judge_43 : decode cX6_judge 43 = .ok (.istore_n 2, 1) := by decide +kernel
theorem dX6_judge_44 : decode cX6_judge 44 = .ok (.iload_n 1, 1) := by decide +kernel
theorem dX6_judge_45 : decode cX6_judge 45 = .ok (.iconst 2, 1) := by decide +kernel
theorem dX6_judge_46 : decode cX6_judge 46 = .ok (.if_icmp .ne 17, 3) := by decide +kernel
theorem dX6_judge_49 : decode cX6_judge 49 = .ok (.iload_n 2, 1) := by decide +kernel
theorem dX6_judge_50 : decode cX6_judge 50 = .ok (.ifCond .eq 10, 3) := by decide +kernel
theorem dX6_judge_53 : decode cX6_judge 53 = .ok (.aload_n 0, 1) := by decide +kernel
theorem dX6_judge_54 : decode cX6_judge 54 = .ok (.invokevirtual 127, 3) := by decide +kernel
theorem dX6_judge_57 : decode cX6_judge 57 = .ok (.goto 5, 3) := by decide +kernel
theorem dX6_judge_60 : decode cX6_judge 60 = .ok (.bipush (-5), 2) := by decide +kernel
theorem dX6_judge_62 : decode cX6_judge 62 = .ok (.ireturn, 1) := by decide +kernel
theorem dX6_judge_63 : decode cX6_judge 63 = .ok (.iload_n 1, 1) := by decide +kernel
theorem dX6_judge_64 : decode cX6_judge 64 = .ok (.ifCond .ne 10, 3) := by decide +kernel
theorem dX6_judge_67 : decode cX6_judge 67 = .ok (.aload_n 0, 1) := by decide +kernel
theorem dX6_judge_68 : decode cX6_judge 68 = .ok (.getfield 99, 3) := by decide +kernel
theorem dX6_judge_71 : decode cX6_judge 71 = .ok (.goto 7, 3) := by decide +kernel
theorem dX6_judge_74 : decode cX6_judge 74 = .ok (.aload_n 0, 1) := by decide +kernel
theorem dX6_judge_75 : decode cX6_judge 75 = .ok (.getfield 102, 3) := by decide +kernel
theorem dX6_judge_78 : decode cX6_judge 78 = .ok (.ireturn, 1) := by decide +kernel
theorem dX6_on_0 : decode cX6_on 0 = .ok (.aload_n 0, 1) := by decide +kernel
theorem dX6_on_1 : decode cX6_on 1 = .ok (.invokevirtual 130, 3) := by decide +kernel
theorem dX6_on_4 : decode cX6_on 4 = .ok (.istore_n 2, 1) := by decide +kernel
theorem dX6_on_5 : decode cX6_on 5 = .ok (.iload_n 2, 1) := by decide +kernel
theorem dX6_on_6 : decode cX6_on 6 = .ok (.bipush (-6), 2) := by decide +kernel
theorem dX6_on_8 : decode cX6_on 8 = .ok (.if_icmp .eq 5, 3) := by decide +kernel
theorem dX6_on_11 : decode cX6_on 11 = .ok (.iload_n 2, 1) := by decide +kernel
theorem dX6_on_12 : decode cX6_on 12 = .ok (.ireturn, 1) := by decide +kernel
theorem dX6_on_13 : decode cX6_on 13 = .ok (.iload_n 1, 1) := by decide +kernel
theorem dX6_on_14 : decode cX6_on 14 = .ok (.i2l, 1) := by decide +kernel
theorem dX6_on_15 : decode cX6_on 15 = .ok (.lconst 0, 1) := by decide +kernel
theorem dX6_on_16 : decode cX6_on 16 = .ok (.aload_n 0, 1) := by decide +kernel
theorem dX6_on_17 : decode cX6_on 17 = .ok (.getfield 93, 3) := by decide +kernel
theorem dX6_on_20 : decode cX6_on 20 = .ok (.iconst 1, 1) := by decide +kernel
theorem dX6_on_21 : decode cX6_on 21 = .ok (.isub, 1) := by decide +kernel
theorem dX6_on_22 : decode cX6_on 22 = .ok (.i2l, 1) := by decide +kernel
theorem dX6_on_23 : decode cX6_on 23 = .ok (.invokestatic 62, 3) := by decide +kernel
theorem dX6_on_26 : decode cX6_on 26 = .ok (.ifCond .eq 12, 3) := by decide +kernel
theorem dX6_on_29 : decode cX6_on 29 = .ok (.aload_n 0, 1) := by decide +kernel
theorem dX6_on_30 : decode cX6_on 30 = .ok (.getfield 28, 3) := by decide +kernel
theorem dX6_on_33 : decode cX6_on 33 = .ok (.iload_n 1, 1) := by decide +kernel
theorem dX6_on_34 : decode cX6_on 34 = .ok (.iaload, 1) := by decide +kernel
theorem dX6_on_35 : decode cX6_on 35 = .ok (.goto 5, 3) := by decide +kernel
theorem dX6_on_38 : decode cX6_on 38 = .ok (.bipush (-2), 2) := by decide +kernel
theorem dX6_on_40 : decode cX6_on 40 = .ok (.ireturn, 1) := by decide +kernel
theorem dX6_linesOf_0 : decode cX6_linesOf 0 = .ok (.iconst 0, 1) := by decide +kernel
theorem dX6_linesOf_1 : decode cX6_linesOf 1 = .ok (.istore_n 2, 1) := by decide +kernel
theorem dX6_linesOf_2 : decode cX6_linesOf 2 = .ok (.iconst 0, 1) := by decide +kernel
theorem dX6_linesOf_3 : decode cX6_linesOf 3 = .ok (.istore_n 3, 1) := by decide +kernel
theorem dX6_linesOf_4 : decode cX6_linesOf 4 = .ok (.iload_n 3, 1) := by decide +kernel
theorem dX6_linesOf_5 : decode cX6_linesOf 5 = .ok (.aload_n 0, 1) := by decide +kernel
theorem dX6_linesOf_6 : decode cX6_linesOf 6 = .ok (.getfield 93, 3) := by decide +kernel
theorem dX6_linesOf_9 : decode cX6_linesOf 9 = .ok (.if_icmp .ge 22, 3) := by decide +kernel
theorem dX6_linesOf_12 : decode cX6_linesOf 12 = .ok (.iload_n 2, 1) := by decide +kernel
theorem dX6_linesOf_13 : decode cX6_linesOf 13 = .ok (.aload_n 0, 1) := by decide +kernel
theorem dX6_linesOf_14 : decode cX6_linesOf 14 = .ok (.getfield 28, 3) := by decide +kernel
theorem dX6_linesOf_17 : decode cX6_linesOf 17 = .ok (.iload_n 3, 1) := by decide +kernel
theorem dX6_linesOf_18 : decode cX6_linesOf 18 = .ok (.iaload, 1) := by decide +kernel
theorem dX6_linesOf_19 : decode cX6_linesOf 19 = .ok (.iload_n 1, 1) := by decide +kernel
theorem dX6_linesOf_20 : decode cX6_linesOf 20 = .ok (.ishr, 1) := by decide +kernel
theorem dX6_linesOf_21 : decode cX6_linesOf 21 = .ok (.iconst 1, 1) := by decide +kernel
theorem dX6_linesOf_22 : decode cX6_linesOf 22 = .ok (.iand, 1) := by decide +kernel
theorem dX6_linesOf_23 : decode cX6_linesOf 23 = .ok (.iadd, 1) := by decide +kernel
theorem dX6_linesOf_24 : decode cX6_linesOf 24 = .ok (.istore_n 2, 1) := by decide +kernel
theorem dX6_linesOf_25 : decode cX6_linesOf 25 = .ok (.iinc 3 1, 3) := by decide +kernel
theorem dX6_linesOf_28 : decode cX6_linesOf 28 = .ok (.goto (-24), 3) := by decide +kernel
theorem dX6_linesOf_31 : decode cX6_linesOf 31 = .ok (.iload_n 2, 1) := by decide +kernel
theorem dX6_linesOf_32 : decode cX6_linesOf 32 = .ok (.ireturn, 1) := by decide +kernel
theorem dX6_lines_0 : decode cX6_lines 0 = .ok (.iload_n 1, 1) := by decide +kernel
theorem dX6_lines_1 : decode cX6_lines 1 = .ok (.i2l, 1) := by decide +kernel
theorem dX6_lines_2 : decode cX6_lines 2 = .ok (.ldc2_w 133, 3) := by decide +kernel
theorem dX6_lines_5 : decode cX6_lines 5 = .ok (.ldc2_w 60, 3) := by decide +kernel
theorem dX6_lines_8 : decode cX6_lines 8 = .ok (.invokestatic 62, 3) := by decide +kernel
theorem dX6_lines_11 : decode cX6_lines 11 = .ok (.ifCond .ne 5, 3) := by decide +kernel
theorem dX6_lines_14 : decode cX6_lines 14 = .ok (.iconst (-1), 1) := by decide +kernel
theorem dX6_lines_15 : decode cX6_lines 15 = .ok (.ireturn, 1) := by decide +kernel
theorem dX6_lines_16 : decode cX6_lines 16 = .ok (.aload_n 0, 1) := by decide +kernel
theorem dX6_lines_17 : decode cX6_lines 17 = .ok (.invokevirtual 130, 3) := by decide +kernel
theorem dX6_lines_20 : decode cX6_lines 20 = .ok (.istore_n 2, 1) := by decide +kernel
theorem dX6_lines_21 : decode cX6_lines 21 = .ok (.iload_n 2, 1) := by decide +kernel
theorem dX6_lines_22 : decode cX6_lines 22 = .ok (.bipush (-6), 2) := by decide +kernel
theorem dX6_lines_24 : decode cX6_lines 24 = .ok (.if_icmp .eq 5, 3) := by decide +kernel
theorem dX6_lines_27 : decode cX6_lines 27 = .ok (.iload_n 2, 1) := by decide +kernel
theorem dX6_lines_28 : decode cX6_lines 28 = .ok (.ireturn, 1) := by decide +kernel
theorem dX6_lines_29 : decode cX6_lines 29 = .ok (.iload_n 1, 1) := by decide +kernel
theorem dX6_lines_30 : decode cX6_lines 30 = .ok (.bipush (-2), 2) := by decide +kernel
theorem dX6_lines_32 : decode cX6_lines 32 = .ok (.if_icmp .ne 10, 3) := by decide +kernel
theorem dX6_lines_35 : decode cX6_lines 35 = .ok (.aload_n 0, 1) := by decide +kernel
theorem dX6_lines_36 : decode cX6_lines 36 = .ok (.getfield 96, 3) := by decide +kernel
theorem dX6_lines_39 : decode cX6_lines 39 = .ok (.goto 20, 3) := by decide +kernel
theorem dX6_lines_42 : decode cX6_lines 42 = .ok (.iload_n 1, 1) := by decide +kernel
theorem dX6_lines_43 : decode cX6_lines 43 = .ok (.iconst (-1), 1) := by decide +kernel
theorem dX6_lines_44 : decode cX6_lines 44 = .ok (.if_icmp .ne 10, 3) := by decide +kernel
theorem dX6_lines_47 : decode cX6_lines 47 = .ok (.aload_n 0, 1) := by decide +kernel
theorem dX6_lines_48 : decode cX6_lines 48 = .ok (.getfield 93, 3) := by decide +kernel
theorem dX6_lines_51 : decode cX6_lines 51 = .ok (.goto 8, 3) := by decide +kernel
theorem dX6_lines_54 : decode cX6_lines 54 = .ok (.aload_n 0, 1) := by decide +kernel
theorem dX6_lines_55 : decode cX6_lines 55 = .ok (.iload_n 1, 1) := by decide +kernel
theorem dX6_lines_56 : decode cX6_lines 56 = .ok (.invokevirtual 135, 3) := by decide +kernel
theorem dX6_lines_59 : decode cX6_lines 59 = .ok (.ireturn, 1) := by decide +kernel
theorem dX6_may_0 : decode cX6_may 0 = .ok (.iload_n 1, 1) := by decide +kernel
theorem dX6_may_1 : decode cX6_may 1 = .ok (.invokestatic 138, 3) := by decide +kernel
theorem dX6_may_4 : decode cX6_may 4 = .ok (.ifCond .eq 15, 3) := by decide +kernel
theorem dX6_may_7 : decode cX6_may 7 = .ok (.iload_n 2, 1) := by decide +kernel
theorem dX6_may_8 : decode cX6_may 8 = .ok (.invokestatic 138, 3) := by decide +kernel
theorem dX6_may_11 : decode cX6_may 11 = .ok (.ifCond .eq 8, 3) := by decide +kernel
theorem dX6_may_14 : decode cX6_may 14 = .ok (.iload_n 1, 1) := by decide +kernel
theorem dX6_may_15 : decode cX6_may 15 = .ok (.iload_n 2, 1) := by decide +kernel
theorem dX6_may_16 : decode cX6_may 16 = .ok (.if_icmp .ne 5, 3) := by decide +kernel
theorem dX6_may_19 : decode cX6_may 19 = .ok (.iconst (-1), 1) := by decide +kernel
theorem dX6_may_20 : decode cX6_may 20 = .ok (.ireturn, 1) := by decide +kernel
theorem dX6_may_21 : decode cX6_may 21 = .ok (.iload_n 3, 1) := by decide +kernel
theorem dX6_may_22 : decode cX6_may 22 = .ok (.i2l, 1) := by decide +kernel
theorem dX6_may_23 : decode cX6_may 23 = .ok (.lconst 0, 1) := by decide +kernel
theorem dX6_may_24 : decode cX6_may 24 = .ok (.ldc2_w 66, 3) := by decide +kernel
theorem dX6_may_27 : decode cX6_may 27 = .ok (.invokestatic 62, 3) := by decide +kernel
theorem dX6_may_30 : decode cX6_may 30 = .ok (.ifCond .ne 6, 3) := by decide +kernel
theorem dX6_may_33 : decode cX6_may 33 = .ok (.bipush (-2), 2) := by decide +kernel
theorem dX6_may_35 : decode cX6_may 35 = .ok (.ireturn, 1) := by decide +kernel
theorem dX6_may_36 : decode cX6_may 36 = .ok (.aload_n 0, 1) := by decide +kernel
theorem dX6_may_37 : decode cX6_may 37 = .ok (.getfield 7, 3) := by decide +kernel
theorem dX6_may_40 : decode cX6_may 40 = .ok (.bipush 8, 2) := by decide +kernel
theorem dX6_may_42 : decode cX6_may 42 = .ok (.iload_n 1, 1) := by decide +kernel
theorem dX6_may_43 : decode cX6_may 43 = .ok (.imul, 1) := by decide +kernel
theorem dX6_may_44 : decode cX6_may 44 = .ok (.iload_n 2, 1) := by decide +kernel
theorem dX6_may_45 : decode cX6_may 45 = .ok (.iadd, 1) := by decide +kernel
theorem dX6_may_46 : decode cX6_may 46 = .ok (.iaload, 1) := by decide +kernel
theorem dX6_may_47 : decode cX6_may 47 = .ok (.istore 4, 2) := by decide +kernel
theorem dX6_may_49 : decode cX6_may 49 = .ok (.aload_n 0, 1) := by decide +kernel
theorem dX6_may_50 : decode cX6_may 50 = .ok (.getfield 7, 3) := by decide +kernel
theorem dX6_may_53 : decode cX6_may 53 = .ok (.bipush 8, 2) := by decide +kernel
theorem dX6_may_55 : decode cX6_may 55 = .ok (.iload_n 1, 1) := by decide +kernel
theorem dX6_may_56 : decode cX6_may 56 = .ok (.imul, 1) := by decide +kernel
theorem dX6_may_57 : decode cX6_may 57 = .ok (.iload_n 2, 1) := by decide +kernel
theorem dX6_may_58 : decode cX6_may 58 = .ok (.iadd, 1) := by decide +kernel
theorem dX6_may_59 : decode cX6_may 59 = .ok (.iload_n 3, 1) := by decide +kernel
theorem dX6_may_60 : decode cX6_may 60 = .ok (.iastore, 1) := by decide +kernel
theorem dX6_may_61 : decode cX6_may 61 = .ok (.aload_n 0, 1) := by decide +kernel
theorem dX6_may_62 : decode cX6_may 62 = .ok (.getfield 7, 3) := by decide +kernel
theorem dX6_may_65 : decode cX6_may 65 = .ok (.bipush 8, 2) := by decide +kernel
theorem dX6_may_67 : decode cX6_may 67 = .ok (.iload_n 2, 1) := by decide +kernel
theorem dX6_may_68 : decode cX6_may 68 = .ok (.imul, 1) := by decide +kernel
theorem dX6_may_69 : decode cX6_may 69 = .ok (.iload_n 1, 1) := by decide +kernel
theorem dX6_may_70 : decode cX6_may 70 = .ok (.iadd, 1) := by decide +kernel
theorem dX6_may_71 : decode cX6_may 71 = .ok (.iload_n 3, 1) := by decide +kernel
theorem dX6_may_72 : decode cX6_may 72 = .ok (.iastore, 1) := by decide +kernel
theorem dX6_may_73 : decode cX6_may 73 = .ok (.iload 4, 2) := by decide +kernel
theorem dX6_may_75 : decode cX6_may 75 = .ok (.ireturn, 1) := by decide +kernel
theorem dX6_mayBe_0 : decode cX6_mayBe 0 = .ok (.iconst 1, 1) := by decide +kernel
theorem dX6_mayBe_1 : decode cX6_mayBe 1 = .ok (.istore_n 2, 1) := by decide +kernel
theorem dX6_mayBe_2 : decode cX6_mayBe 2 = .ok (.iconst 0, 1) := by decide +kernel
theorem dX6_mayBe_3 : decode cX6_mayBe 3 = .ok (.istore_n 3, 1) := by decide +kernel
theorem dX6_mayBe_4 : decode cX6_mayBe 4 = .ok (.iload_n 3, 1) := by decide +kernel
theorem dX6_mayBe_5 : decode cX6_mayBe 5 = .ok (.bipush 8, 2) := by decide +kernel
theorem dX6_mayBe_7 : decode cX6_mayBe 7 = .ok (.if_icmp .ge 86, 3) := by decide +kernel
theorem dX6_mayBe_10 : decode cX6_mayBe 10 = .ok (.iconst 0, 1) := by decide +kernel
theorem dX6_mayBe_11 : decode cX6_mayBe 11 = .ok (.istore 4, 2) := by decide +kernel
theorem dX6_mayBe_13 : decode cX6_mayBe 13 = .ok (.iload 4, 2) := by decide +kernel
theorem dX6_mayBe_15 : decode cX6_mayBe 15 = .ok (.iload_n 3, 1) := by decide +kernel
theorem dX6_mayBe_16 : decode cX6_mayBe 16 = .ok (.if_icmp .ge 71, 3) := by decide +kernel
theorem dX6_mayBe_19 : decode cX6_mayBe 19 = .ok (.aload_n 0, 1) := by decide +kernel
theorem dX6_mayBe_20 : decode cX6_mayBe 20 = .ok (.getfield 7, 3) := by decide +kernel
theorem dX6_mayBe_23 : decode cX6_mayBe 23 = .ok (.bipush 8, 2) := by decide +kernel
theorem dX6_mayBe_25 : decode cX6_mayBe 25 = .ok (.iload_n 3, 1) := by decide +kernel
theorem dX6_mayBe_26 : decode cX6_mayBe 26 = .ok (.imul, 1) := by decide +kernel
theorem dX6_mayBe_27 : decode cX6_mayBe 27 = .ok (.iload 4, 2) := by decide +kernel
theorem dX6_mayBe_29 : decode cX6_mayBe 29 = .ok (.iadd, 1) := by decide +kernel
theorem dX6_mayBe_30 : decode cX6_mayBe 30 = .ok (.iaload, 1) := by decide +kernel
theorem dX6_mayBe_31 : decode cX6_mayBe 31 = .ok (.istore 5, 2) := by decide +kernel
theorem dX6_mayBe_33 : decode cX6_mayBe 33 = .ok (.iload_n 1, 1) := by decide +kernel
theorem dX6_mayBe_34 : decode cX6_mayBe 34 = .ok (.iload_n 3, 1) := by decide +kernel
theorem dX6_mayBe_35 : decode cX6_mayBe 35 = .ok (.ishr, 1) := by decide +kernel
theorem dX6_mayBe_36 : decode cX6_mayBe 36 = .ok (.iconst 1, 1) := by decide +kernel
theorem dX6_mayBe_37 : decode cX6_mayBe 37 = .ok (.iand, 1) := by decide +kernel
theorem dX6_mayBe_38 : decode cX6_mayBe 38 = .ok (.iload_n 1, 1) := by decide +kernel
theorem dX6_mayBe_39 : decode cX6_mayBe 39 = .ok (.iload 4, 2) := by decide +kernel
theorem dX6_mayBe_41 : decode cX6_mayBe 41 = .ok (.ishr, 1) := by decide +kernel
theorem dX6_mayBe_42 : decode cX6_mayBe 42 = .ok (.iconst 1, 1) := by decide +kernel
theorem dX6_mayBe_43 : decode cX6_mayBe 43 = .ok (.iand, 1) := by decide +kernel
theorem dX6_mayBe_44 : decode cX6_mayBe 44 = .ok (.iadd, 1) := by decide +kernel
theorem dX6_mayBe_45 : decode cX6_mayBe 45 = .ok (.istore 6, 2) := by decide +kernel
theorem dX6_mayBe_47 : decode cX6_mayBe 47 = .ok (.iload_n 2, 1) := by decide +kernel
theorem dX6_mayBe_48 : decode cX6_mayBe 48 = .ok (.ifCond .eq 31, 3) := by decide +kernel
theorem dX6_mayBe_51 : decode cX6_mayBe 51 = .ok (.iload 5, 2) := by decide +kernel
theorem dX6_mayBe_53 : decode cX6_mayBe 53 = .ok (.iconst 1, 1) := by decide +kernel
theorem dX6_mayBe_54 : decode cX6_mayBe 54 = .ok (.if_icmp .ne 9, 3) := by decide +kernel
theorem dX6_mayBe_57 : decode cX6_mayBe 57 = .ok (.iload 6, 2) := by decide +kernel
theorem dX6_mayBe_59 : decode cX6_mayBe 59 = .ok (.iconst 2, 1) := by decide +kernel
theorem dX6_mayBe_60 : decode cX6_mayBe 60 = .ok (.if_icmp .ge 19, 3) := by decide +kernel
theorem dX6_mayBe_63 : decode cX6_mayBe 63 = .ok (.iload 5, 2) := by decide +kernel
theorem dX6_mayBe_65 : decode cX6_mayBe 65 = .ok (.iconst 2, 1) := by decide +kernel
theorem dX6_mayBe_66 : decode cX6_mayBe 66 = .ok (.if_icmp .ne 9, 3) := by decide +kernel
theorem dX6_mayBe_69 : decode cX6_mayBe 69 = .ok (.iload 6, 2) := by decide +kernel
theorem dX6_mayBe_71 : decode cX6_mayBe 71 = .ok (.iconst 1, 1) := by decide +kernel
theorem dX6_mayBe_72 : decode cX6_mayBe 72 = .ok (.if_icmp .eq 7, 3) := by decide +kernel
theorem dX6_mayBe_75 : decode cX6_mayBe 75 = .ok (.iconst 1, 1) := by decide +kernel
theorem dX6_mayBe_76 : decode cX6_mayBe 76 = .ok (.goto 4, 3) := by decide +kernel
theorem dX6_mayBe_79 : decode cX6_mayBe 79 = .ok (.iconst 0, 1) := by decide +kernel
theorem dX6_mayBe_80 : decode cX6_mayBe 80 = .ok (.istore_n 2, 1) := by decide +kernel
theorem dX6_mayBe_81 : decode cX6_mayBe 81 = .ok (.iinc 4 1, 3) := by decide +kernel
theorem dX6_mayBe_84 : decode cX6_mayBe 84 = .ok (.goto (-71), 3) := by decide +kernel
theorem dX6_mayBe_87 : decode cX6_mayBe 87 = .ok (.iinc 3 1, 3) := by decide +kernel
theorem dX6_mayBe_90 : decode cX6_mayBe 90 = .ok (.goto (-86), 3) := by decide +kernel
theorem dX6_mayBe_93 : decode cX6_mayBe 93 = .ok (.iload_n 2, 1) := by decide +kernel
theorem dX6_mayBe_94 : decode cX6_mayBe 94 = .ok (.ireturn, 1) := by decide +kernel
theorem dX6_broken_0 : decode cX6_broken 0 = .ok (.aload_n 0, 1) := by decide +kernel
theorem dX6_broken_1 : decode cX6_broken 1 = .ok (.invokevirtual 130, 3) := by decide +kernel
theorem dX6_broken_4 : decode cX6_broken 4 = .ok (.istore_n 1, 1) := by decide +kernel
theorem dX6_broken_5 : decode cX6_broken 5 = .ok (.iload_n 1, 1) := by decide +kernel
theorem dX6_broken_6 : decode cX6_broken 6 = .ok (.bipush (-6), 2) := by decide +kernel
theorem dX6_broken_8 : decode cX6_broken 8 = .ok (.if_icmp .eq 5, 3) := by decide +kernel
theorem dX6_broken_11 : decode cX6_broken 11 = .ok (.iload_n 1, 1) := by decide +kernel
theorem dX6_broken_12 : decode cX6_broken 12 = .ok (.ireturn, 1) := by decide +kernel
theorem dX6_broken_13 : decode cX6_broken 13 = .ok (.iconst 0, 1) := by decide +kernel
theorem dX6_broken_14 : decode cX6_broken 14 = .ok (.istore_n 2, 1) := by decide +kernel
theorem dX6_broken_15 : decode cX6_broken 15 = .ok (.iload_n 2, 1) := by decide +kernel
theorem dX6_broken_16 : decode cX6_broken 16 = .ok (.aload_n 0, 1) := by decide +kernel
theorem dX6_broken_17 : decode cX6_broken 17 = .ok (.getfield 93, 3) := by decide +kernel
theorem dX6_broken_20 : decode cX6_broken 20 = .ok (.if_icmp .ge 24, 3) := by decide +kernel
theorem dX6_broken_23 : decode cX6_broken 23 = .ok (.aload_n 0, 1) := by decide +kernel
theorem dX6_broken_24 : decode cX6_broken 24 = .ok (.aload_n 0, 1) := by decide +kernel
theorem dX6_broken_25 : decode cX6_broken 25 = .ok (.getfield 28, 3) := by decide +kernel
theorem dX6_broken_28 : decode cX6_broken 28 = .ok (.iload_n 2, 1) := by decide +kernel
theorem dX6_broken_29 : decode cX6_broken 29 = .ok (.iaload, 1) := by decide +kernel
theorem dX6_broken_30 : decode cX6_broken 30 = .ok (.invokevirtual 142, 3) := by decide +kernel
theorem dX6_broken_33 : decode cX6_broken 33 = .ok (.ifCond .ne 5, 3) := by decide +kernel
theorem dX6_broken_36 : decode cX6_broken 36 = .ok (.iload_n 2, 1) := by decide +kernel
theorem dX6_broken_37 : decode cX6_broken 37 = .ok (.ireturn, 1) := by decide +kernel
theorem dX6_broken_38 : decode cX6_broken 38 = .ok (.iinc 2 1, 3) := by decide +kernel
theorem dX6_broken_41 : decode cX6_broken 41 = .ok (.goto (-26), 3) := by decide +kernel
theorem dX6_broken_44 : decode cX6_broken 44 = .ok (.bipush (-6), 2) := by decide +kernel
theorem dX6_broken_46 : decode cX6_broken 46 = .ok (.ireturn, 1) := by decide +kernel
theorem dX6_bar_0 : decode cX6_bar 0 = .ok (.iconst 0, 1) := by decide +kernel
theorem dX6_bar_1 : decode cX6_bar 1 = .ok (.istore_n 1, 1) := by decide +kernel
theorem dX6_bar_2 : decode cX6_bar 2 = .ok (.iload_n 1, 1) := by decide +kernel
theorem dX6_bar_3 : decode cX6_bar 3 = .ok (.aload_n 0, 1) := by decide +kernel
theorem dX6_bar_4 : decode cX6_bar 4 = .ok (.getfield 93, 3) := by decide +kernel
theorem dX6_bar_7 : decode cX6_bar 7 = .ok (.if_icmp .ge 27, 3) := by decide +kernel
theorem dX6_bar_10 : decode cX6_bar 10 = .ok (.aload_n 0, 1) := by decide +kernel
theorem dX6_bar_11 : decode cX6_bar 11 = .ok (.getfield 28, 3) := by decide +kernel
theorem dX6_bar_14 : decode cX6_bar 14 = .ok (.iload_n 1, 1) := by decide +kernel
theorem dX6_bar_15 : decode cX6_bar 15 = .ok (.iaload, 1) := by decide +kernel
theorem dX6_bar_16 : decode cX6_bar 16 = .ok (.invokestatic 119, 3) := by decide +kernel
theorem dX6_bar_19 : decode cX6_bar 19 = .ok (.aload_n 0, 1) := by decide +kernel
theorem dX6_bar_20 : decode cX6_bar 20 = .ok (.getfield 56, 3) := by decide +kernel
theorem dX6_bar_23 : decode cX6_bar 23 = .ok (.if_icmp .le 5, 3) := by decide +kernel
theorem dX6_bar_26 : decode cX6_bar 26 = .ok (.iload_n 1, 1) := by decide +kernel
theorem dX6_bar_27 : decode cX6_bar 27 = .ok (.ireturn, 1) := by decide +kernel
theorem dX6_bar_28 : decode cX6_bar 28 = .ok (.iinc 1 1, 3) := by decide +kernel
theorem dX6_bar_31 : decode cX6_bar 31 = .ok (.goto (-29), 3) := by decide +kernel
theorem dX6_bar_34 : decode cX6_bar 34 = .ok (.bipush (-6), 2) := by decide +kernel
theorem dX6_bar_36 : decode cX6_bar 36 = .ok (.ireturn, 1) := by decide +kernel
theorem dX6_strangers_0 : decode cX6_strangers 0 = .ok (.aload_n 0, 1) := by decide +kernel
theorem dX6_strangers_1 : decode cX6_strangers 1 = .ok (.invokevirtual 130, 3) := by decide +kernel
theorem dX6_strangers_4 : decode cX6_strangers 4 = .ok (.istore_n 2, 1) := by decide +kernel
theorem dX6_strangers_5 : decode cX6_strangers 5 = .ok (.iload_n 2, 1) := by decide +kernel
theorem dX6_strangers_6 : decode cX6_strangers 6 = .ok (.bipush (-6), 2) := by decide +kernel
theorem dX6_strangers_8 : decode cX6_strangers 8 = .ok (.if_icmp .eq 5, 3) := by decide +kernel
theorem dX6_strangers_11 : decode cX6_strangers 11 = .ok (.iload_n 2, 1) := by decide +kernel
theorem dX6_strangers_12 : decode cX6_strangers 12 = .ok (.ireturn, 1) := by decide +kernel
theorem dX6_strangers_13 : decode cX6_strangers 13 = .ok (.iload_n 1, 1) := by decide +kernel
theorem dX6_strangers_14 : decode cX6_strangers 14 = .ok (.i2l, 1) := by decide +kernel
theorem dX6_strangers_15 : decode cX6_strangers 15 = .ok (.lconst 0, 1) := by decide +kernel
theorem dX6_strangers_16 : decode cX6_strangers 16 = .ok (.ldc2_w 66, 3) := by decide +kernel
theorem dX6_strangers_19 : decode cX6_strangers 19 = .ok (.invokestatic 62, 3) := by decide +kernel
theorem dX6_strangers_22 : decode cX6_strangers 22 = .ok (.ifCond .ne 25, 3) := by decide +kernel
theorem dX6_strangers_25 : decode cX6_strangers 25 = .ok (.iload_n 1, 1) := by decide +kernel
theorem dX6_strangers_26 : decode cX6_strangers 26 = .ok (.i2l, 1) := by decide +kernel
theorem dX6_strangers_27 : decode cX6_strangers 27 = .ok (.ldc2_w 145, 3) := by decide +kernel
theorem dX6_strangers_30 : decode cX6_strangers 30 = .ok (.bipush 9, 2) := by decide +kernel
theorem dX6_strangers_32 : decode cX6_strangers 32 = .ok (.aload_n 0, 1) := by decide +kernel
theorem dX6_strangers_33 : decode cX6_strangers 33 = .ok (.getfield 93, 3) := by decide +kernel
theorem dX6_strangers_36 : decode cX6_strangers 36 = .ok (.iadd, 1) := by decide +kernel
theorem dX6_strangers_37 : decode cX6_strangers 37 = .ok (.i2l, 1) := by decide +kernel
theorem dX6_strangers_38 : decode cX6_strangers 38 = .ok (.invokestatic 62, 3) := by decide +kernel
theorem dX6_strangers_41 : decode cX6_strangers 41 = .ok (.ifCond .ne 6, 3) := by decide +kernel
theorem dX6_strangers_44 : decode cX6_strangers 44 = .ok (.bipush (-2), 2) := by decide +kernel
theorem dX6_strangers_46 : decode cX6_strangers 46 = .ok (.ireturn, 1) := by decide +kernel
theorem dX6_strangers_47 : decode cX6_strangers 47 = .ok (.aload_n 0, 1) := by decide +kernel
theorem dX6_strangers_48 : decode cX6_strangers 48 = .ok (.invokevirtual 147, 3) := by decide +kernel
theorem dX6_strangers_51 : decode cX6_strangers 51 = .ok (.istore_n 3, 1) := by decide +kernel
theorem dX6_strangers_52 : decode cX6_strangers 52 = .ok (.iload_n 1, 1) := by decide +kernel
theorem dX6_strangers_53 : decode cX6_strangers 53 = .ok (.iconst 2, 1) := by decide +kernel
theorem dX6_strangers_54 : decode cX6_strangers 54 = .ok (.if_icmp .eq 7, 3) := by decide +kernel
theorem dX6_strangers_57 : decode cX6_strangers 57 = .ok (.iload_n 3, 1) := by decide +kernel
theorem dX6_strangers_58 : decode cX6_strangers 58 = .ok (.ifCond .lt 15, 3) := by decide +kernel
theorem dX6_strangers_61 : decode cX6_strangers 61 = .ok (.iload_n 1, 1) := by decide +kernel
theorem dX6_strangers_62 : decode cX6_strangers 62 = .ok (.iconst 2, 1) := by decide +kernel
theorem dX6_strangers_63 : decode cX6_strangers 63 = .ok (.if_icmp .ne 7, 3) := by decide +kernel
theorem dX6_strangers_66 : decode cX6_strangers 66 = .ok (.iload_n 3, 1) := by decide +kernel
theorem dX6_strangers_67 : decode cX6_strangers 67 = .ok (.goto 5, 3) := by decide +kernel
theorem dX6_strangers_70 : decode cX6_strangers 70 = .ok (.bipush (-6), 2) := by decide +kernel
theorem dX6_strangers_72 : decode cX6_strangers 72 = .ok (.ireturn, 1) := by decide +kernel
theorem dX6_strangers_73 : decode cX6_strangers 73 = .ok (.iconst 0, 1) := by decide +kernel
theorem dX6_strangers_74 : decode cX6_strangers 74 = .ok (.istore 4, 2) := by decide +kernel
theorem dX6_strangers_76 : decode cX6_strangers 76 = .ok (.iconst 0, 1) := by decide +kernel
theorem dX6_strangers_77 : decode cX6_strangers 77 = .ok (.istore 5, 2) := by decide +kernel
theorem dX6_strangers_79 : decode cX6_strangers 79 = .ok (.iconst 0, 1) := by decide +kernel
theorem dX6_strangers_80 : decode cX6_strangers 80 = .ok (.istore 6, 2) := by decide +kernel
theorem dX6_strangers_82 : decode cX6_strangers 82 = .ok (.iconst 0, 1) := by decide +kernel
theorem dX6_strangers_83 : decode cX6_strangers 83 = .ok (.istore 7, 2) := by decide +kernel
theorem dX6_strangers_85 : decode cX6_strangers 85 = .ok (.iload 7, 2) := by decide +kernel
theorem dX6_strangers_87 : decode cX6_strangers 87 = .ok (.aload_n 0, 1) := by decide +kernel
theorem dX6_strangers_88 : decode cX6_strangers 88 = .ok (.getfield 93, 3) := by decide +kernel
theorem dX6_strangers_91 : decode cX6_strangers 91 = .ok (.if_icmp .ge 67, 3) := by decide +kernel
theorem dX6_strangers_94 : decode cX6_strangers 94 = .ok (.aload_n 0, 1) := by decide +kernel
theorem dX6_strangers_95 : decode cX6_strangers 95 = .ok (.getfield 56, 3) := by decide +kernel
theorem dX6_strangers_98 : decode cX6_strangers 98 = .ok (.aload_n 0, 1) := by decide +kernel
theorem dX6_strangers_99 : decode cX6_strangers 99 = .ok (.getfield 28, 3) := by decide +kernel
theorem dX6_strangers_102 : decode cX6_strangers 102 = .ok (.iload 7, 2) := by decide +kernel
theorem dX6_strangers_104 : decode cX6_strangers 104 = .ok (.iaload, 1) := by decide +kernel
theorem dX6_strangers_105 : decode cX6_strangers 105 = .ok (.invokestatic 119, 3) := by decide +kernel
theorem dX6_strangers_108 : decode cX6_strangers 108 = .ok (.isub, 1) := by decide +kernel
theorem dX6_strangers_109 : decode cX6_strangers 109 = .ok (.istore 8, 2) := by decide +kernel
theorem dX6_strangers_111 : decode cX6_strangers 111 = .ok (.iload 4, 2) := by decide +kernel
theorem dX6_strangers_113 : decode cX6_strangers 113 = .ok (.iload 8, 2) := by decide +kernel
theorem dX6_strangers_115 : decode cX6_strangers 115 = .ok (.iload 6, 2) := by decide +kernel
theorem dX6_strangers_117 : decode cX6_strangers 117 = .ok (.if_icmp .le 11, 3) := by decide +kernel
theorem dX6_strangers_120 : decode cX6_strangers 120 = .ok (.iload 8, 2) := by decide +kernel
theorem dX6_strangers_122 : decode cX6_strangers 122 = .ok (.iload 6, 2) := by decide +kernel
theorem dX6_strangers_124 : decode cX6_strangers 124 = .ok (.isub, 1) := by decide +kernel
theorem dX6_strangers_125 : decode cX6_strangers 125 = .ok (.goto 4, 3) := by decide +kernel
theorem dX6_strangers_128 : decode cX6_strangers 128 = .ok (.iconst 0, 1) := by decide +kernel
theorem dX6_strangers_129 : decode cX6_strangers 129 = .ok (.iadd, 1) := by decide +kernel
theorem dX6_strangers_130 : decode cX6_strangers 130 = .ok (.istore 4, 2) := by decide +kernel
theorem dX6_strangers_132 : decode cX6_strangers 132 = .ok (.iload 8, 2) := by decide +kernel
theorem dX6_strangers_134 : decode cX6_strangers 134 = .ok (.iload 5, 2) := by decide +kernel
theorem dX6_strangers_136 : decode cX6_strangers 136 = .ok (.if_icmp .le 8, 3) := by decide +kernel
theorem dX6_strangers_139 : decode cX6_strangers 139 = .ok (.iload 8, 2) := by decide +kernel
theorem dX6_strangers_141 : decode cX6_strangers 141 = .ok (.goto 5, 3) := by decide +kernel
theorem dX6_strangers_144 : decode cX6_strangers 144 = .ok (.iload 5, 2) := by decide +kernel
theorem dX6_strangers_146 : decode cX6_strangers 146 = .ok (.istore 5, 2) := by decide +kernel
theorem dX6_strangers_148 : decode cX6_strangers 148 = .ok (.iload 8, 2) := by decide +kernel
theorem dX6_strangers_150 : decode cX6_strangers 150 = .ok (.istore 6, 2) := by decide +kernel
theorem dX6_strangers_152 : decode cX6_strangers 152 = .ok (.iinc 7 1, 3) := by decide +kernel
theorem dX6_strangers_155 : decode cX6_strangers 155 = .ok (.goto (-70), 3) := by decide +kernel
theorem dX6_strangers_158 : decode cX6_strangers 158 = .ok (.iload_n 1, 1) := by decide +kernel
theorem dX6_strangers_159 : decode cX6_strangers 159 = .ok (.ifCond .ne 8, 3) := by decide +kernel
theorem dX6_strangers_162 : decode cX6_strangers 162 = .ok (.iload 4, 2) := by decide +kernel
theorem dX6_strangers_164 : decode cX6_strangers 164 = .ok (.goto 30, 3) := by decide +kernel
theorem dX6_strangers_167 : decode cX6_strangers 167 = .ok (.iload_n 1, 1) := by decide +kernel
theorem dX6_strangers_168 : decode cX6_strangers 168 = .ok (.iconst 1, 1) := by decide +kernel
theorem dX6_strangers_169 : decode cX6_strangers 169 = .ok (.if_icmp .ne 8, 3) := by decide +kernel
theorem dX6_strangers_172 : decode cX6_strangers 172 = .ok (.iload 5, 2) := by decide +kernel
theorem dX6_strangers_174 : decode cX6_strangers 174 = .ok (.goto 20, 3) := by decide +kernel
theorem dX6_strangers_177 : decode cX6_strangers 177 = .ok (.aload_n 0, 1) := by decide +kernel
theorem dX6_strangers_178 : decode cX6_strangers 178 = .ok (.getfield 56, 3) := by decide +kernel
theorem dX6_strangers_181 : decode cX6_strangers 181 = .ok (.aload_n 0, 1) := by decide +kernel
theorem dX6_strangers_182 : decode cX6_strangers 182 = .ok (.getfield 28, 3) := by decide +kernel
theorem dX6_strangers_185 : decode cX6_strangers 185 = .ok (.iload_n 1, 1) := by decide +kernel
theorem dX6_strangers_186 : decode cX6_strangers 186 = .ok (.bipush 10, 2) := by decide +kernel
theorem dX6_strangers_188 : decode cX6_strangers 188 = .ok (.isub, 1) := by decide +kernel
theorem dX6_strangers_189 : decode cX6_strangers 189 = .ok (.iaload, 1) := by decide +kernel
theorem dX6_strangers_190 : decode cX6_strangers 190 = .ok (.invokestatic 119, 3) := by decide +kernel
theorem dX6_strangers_193 : decode cX6_strangers 193 = .ok (.isub, 1) := by decide +kernel
theorem dX6_strangers_194 : decode cX6_strangers 194 = .ok (.ireturn, 1) := by decide +kernel
theorem dX6_mostStay_0 : decode cX6_mostStay 0 = .ok (.iconst 0, 1) := by decide +kernel
theorem dX6_mostStay_1 : decode cX6_mostStay 1 = .ok (.istore_n 1, 1) := by decide +kernel
theorem dX6_mostStay_2 : decode cX6_mostStay 2 = .ok (.iconst 0, 1) := by decide +kernel
theorem dX6_mostStay_3 : decode cX6_mostStay 3 = .ok (.istore_n 2, 1) := by decide +kernel
theorem dX6_mostStay_4 : decode cX6_mostStay 4 = .ok (.iload_n 2, 1) := by decide +kernel
theorem dX6_mostStay_5 : decode cX6_mostStay 5 = .ok (.aload_n 0, 1) := by decide +kernel
theorem dX6_mostStay_6 : decode cX6_mostStay 6 = .ok (.getfield 93, 3) := by decide +kernel
theorem dX6_mostStay_9 : decode cX6_mostStay 9 = .ok (.if_icmp .ge 152, 3) := by decide +kernel
theorem dX6_mostStay_12 : decode cX6_mostStay 12 = .ok (.aload_n 0, 1) := by decide +kernel
theorem dX6_mostStay_13 : decode cX6_mostStay 13 = .ok (.getfield 28, 3) := by decide +kernel
theorem dX6_mostStay_16 : decode cX6_mostStay 16 = .ok (.iload_n 2, 1) := by decide +kernel
theorem dX6_mostStay_17 : decode cX6_mostStay 17 = .ok (.iaload, 1) := by decide +kernel
theorem dX6_mostStay_18 : decode cX6_mostStay 18 = .ok (.invokestatic 119, 3) := by decide +kernel
theorem dX6_mostStay_21 : decode cX6_mostStay 21 = .ok (.istore_n 3, 1) := by decide +kernel
theorem dX6_mostStay_22 : decode cX6_mostStay 22 = .ok (.aload_n 0, 1) := by decide +kernel
theorem dX6_mostStay_23 : decode cX6_mostStay 23 = .ok (.getfield 31, 3) := by decide +kernel
theorem dX6_mostStay_26 : decode cX6_mostStay 26 = .ok (.iload_n 2, 1) := by decide +kernel
theorem dX6_mostStay_27 : decode cX6_mostStay 27 = .ok (.iload_n 3, 1) := by decide +kernel
theorem dX6_mostStay_28 : decode cX6_mostStay 28 = .ok (.aload_n 0, 1) := by decide +kernel
theorem dX6_mostStay_29 : decode cX6_mostStay 29 = .ok (.getfield 56, 3) := by decide +kernel
theorem dX6_mostStay_32 : decode cX6_mostStay 32 = .ok (.if_icmp .lt 7, 3) := by decide +kernel
theorem dX6_mostStay_35 : decode cX6_mostStay 35 = .ok (.iconst 1, 1) := by decide +kernel
theorem dX6_mostStay_36 : decode cX6_mostStay 36 = .ok (.goto 4, 3) := by decide +kernel
theorem dX6_mostStay_39 : decode cX6_mostStay 39 = .ok (.iconst 0, 1) := by decide +kernel
theorem dX6_mostStay_40 : decode cX6_mostStay 40 = .ok (.iastore, 1) := by decide +kernel
theorem dX6_mostStay_41 : decode cX6_mostStay 41 = .ok (.iconst 0, 1) := by decide +kernel
theorem dX6_mostStay_42 : decode cX6_mostStay 42 = .ok (.istore 4, 2) := by decide +kernel
theorem dX6_mostStay_44 : decode cX6_mostStay 44 = .ok (.iload 4, 2) := by decide +kernel
theorem dX6_mostStay_46 : decode cX6_mostStay 46 = .ok (.iload_n 2, 1) := by decide +kernel
theorem dX6_mostStay_47 : decode cX6_mostStay 47 = .ok (.if_icmp .ge 87, 3) := by decide +kernel
theorem dX6_mostStay_50 : decode cX6_mostStay 50 = .ok (.aload_n 0, 1) := by decide +kernel
theorem dX6_mostStay_51 : decode cX6_mostStay 51 = .ok (.getfield 31, 3) := by decide +kernel
theorem dX6_mostStay_54 : decode cX6_mostStay 54 = .ok (.iload 4, 2) := by decide +kernel
theorem dX6_mostStay_56 : decode cX6_mostStay 56 = .ok (.iaload, 1) := by decide +kernel
theorem dX6_mostStay_57 : decode cX6_mostStay 57 = .ok (.ifCond .le 21, 3) := by decide +kernel
theorem dX6_mostStay_60 : decode cX6_mostStay 60 = .ok (.aload_n 0, 1) := by decide +kernel
theorem dX6_mostStay_61 : decode cX6_mostStay 61 = .ok (.getfield 28, 3) := by decide +kernel
theorem dX6_mostStay_64 : decode cX6_mostStay 64 = .ok (.iload 4, 2) := by decide +kernel
theorem dX6_mostStay_66 : decode cX6_mostStay 66 = .ok (.iaload, 1) := by decide +kernel
theorem dX6_mostStay_67 : decode cX6_mostStay 67 = .ok (.invokestatic 119, 3) := by decide +kernel
theorem dX6_mostStay_70 : decode cX6_mostStay 70 = .ok (.iload_n 3, 1) := by decide +kernel
theorem dX6_mostStay_71 : decode cX6_mostStay 71 = .ok (.if_icmp .gt 7, 3) := by decide +kernel
theorem dX6_mostStay_74 : decode cX6_mostStay 74 = .ok (.iconst 1, 1) := by decide +kernel
theorem dX6_mostStay_75 : decode cX6_mostStay 75 = .ok (.goto 4, 3) := by decide +kernel
theorem dX6_mostStay_78 : decode cX6_mostStay 78 = .ok (.iconst 0, 1) := by decide +kernel
theorem dX6_mostStay_79 : decode cX6_mostStay 79 = .ok (.istore 5, 2) := by decide +kernel
theorem dX6_mostStay_81 : decode cX6_mostStay 81 = .ok (.aload_n 0, 1) := by decide +kernel
theorem dX6_mostStay_82 : decode cX6_mostStay 82 = .ok (.getfield 31, 3) := by decide +kernel
theorem dX6_mostStay_85 : decode cX6_mostStay 85 = .ok (.iload_n 2, 1) := by decide +kernel
theorem dX6_mostStay_86 : decode cX6_mostStay 86 = .ok (.iload 5, 2) := by decide +kernel
theorem dX6_mostStay_88 : decode cX6_mostStay 88 = .ok (.ifCond .eq 33, 3) := by decide +kernel
theorem dX6_mostStay_91 : decode cX6_mostStay 91 = .ok (.aload_n 0, 1) := by decide +kernel
theorem dX6_mostStay_92 : decode cX6_mostStay 92 = .ok (.getfield 31, 3) := by decide +kernel
theorem dX6_mostStay_95 : decode cX6_mostStay 95 = .ok (.iload 4, 2) := by decide +kernel
theorem dX6_mostStay_97 : decode cX6_mostStay 97 = .ok (.iaload, 1) := by decide +kernel
theorem dX6_mostStay_98 : decode cX6_mostStay 98 = .ok (.iconst 1, 1) := by decide +kernel
theorem dX6_mostStay_99 : decode cX6_mostStay 99 = .ok (.iadd, 1) := by decide +kernel
theorem dX6_mostStay_100 : decode cX6_mostStay 100 = .ok (.aload_n 0, 1) := by decide +kernel
theorem dX6_mostStay_101 : decode cX6_mostStay 101 = .ok (.getfield 31, 3) := by decide +kernel
theorem dX6_mostStay_104 : decode cX6_mostStay 104 = .ok (.iload_n 2, 1) := by decide +kernel
theorem dX6_mostStay_105 : decode cX6_mostStay 105 = .ok (.iaload, 1) := by decide +kernel
theorem dX6_mostStay_106 : decode cX6_mostStay 106 = .ok (.if_icmp .le 15, 3) := by decide +kernel
theorem dX6_mostStay_109 : decode cX6_mostStay 109 = .ok (.aload_n 0, 1) := by decide +kernel
theorem dX6_mostStay_110 : decode cX6_mostStay 110 = .ok (.getfield 31, 3) := by decide +kernel
theorem dX6_mostStay_113 : decode cX6_mostStay 113 = .ok (.iload 4, 2) := by decide +kernel
theorem dX6_mostStay_115 : decode cX6_mostStay 115 = .ok (.iaload, 1) := by decide +kernel
theorem dX6_mostStay_116 : decode cX6_mostStay 116 = .ok (.iconst 1, 1) := by decide +kernel
theorem dX6_mostStay_117 : decode cX6_mostStay 117 = .ok (.iadd, 1) := by decide +kernel
theorem dX6_mostStay_118 : decode cX6_mostStay 118 = .ok (.goto 9, 3) := by decide +kernel
theorem dX6_mostStay_121 : decode cX6_mostStay 121 = .ok (.aload_n 0, 1) := by decide +kernel
theorem dX6_mostStay_122 : decode cX6_mostStay 122 = .ok (.getfield 31, 3) := by decide +kernel
theorem dX6_mostStay_125 : decode cX6_mostStay 125 = .ok (.iload_n 2, 1) := by decide +kernel
theorem dX6_mostStay_126 : decode cX6_mostStay 126 = .ok (.iaload, 1) := by decide +kernel
theorem dX6_mostStay_127 : decode cX6_mostStay 127 = .ok (.iastore, 1) := by decide +kernel
theorem dX6_mostStay_128 : decode cX6_mostStay 128 = .ok (.iinc 4 1, 3) := by decide +kernel
theorem dX6_mostStay_131 : decode cX6_mostStay 131 = .ok (.goto (-87), 3) := by decide +kernel
theorem dX6_mostStay_134 : decode cX6_mostStay 134 = .ok (.aload_n 0, 1) := by decide +kernel
theorem dX6_mostStay_135 : decode cX6_mostStay 135 = .ok (.getfield 31, 3) := by decide +kernel
theorem dX6_mostStay_138 : decode cX6_mostStay 138 = .ok (.iload_n 2, 1) := by decide +kernel
theorem dX6_mostStay_139 : decode cX6_mostStay 139 = .ok (.iaload, 1) := by decide +kernel
theorem dX6_mostStay_140 : decode cX6_mostStay 140 = .ok (.iload_n 1, 1) := by decide +kernel
theorem dX6_mostStay_141 : decode cX6_mostStay 141 = .ok (.if_icmp .le 12, 3) := by decide +kernel
theorem dX6_mostStay_144 : decode cX6_mostStay 144 = .ok (.aload_n 0, 1) := by decide +kernel
theorem dX6_mostStay_145 : decode cX6_mostStay 145 = .ok (.getfield 31, 3) := by decide +kernel
theorem dX6_mostStay_148 : decode cX6_mostStay 148 = .ok (.iload_n 2, 1) := by decide +kernel
theorem dX6_mostStay_149 : decode cX6_mostStay 149 = .ok (.iaload, 1) := by decide +kernel
theorem dX6_mostStay_150 : decode cX6_mostStay 150 = .ok (.goto 4, 3) := by decide +kernel
theorem dX6_mostStay_153 : decode cX6_mostStay 153 = .ok (.iload_n 1, 1) := by decide +kernel
theorem dX6_mostStay_154 : decode cX6_mostStay 154 = .ok (.istore_n 1, 1) := by decide +kernel
theorem dX6_mostStay_155 : decode cX6_mostStay 155 = .ok (.iinc 2 1, 3) := by decide +kernel
theorem dX6_mostStay_158 : decode cX6_mostStay 158 = .ok (.goto (-154), 3) := by decide +kernel
theorem dX6_mostStay_161 : decode cX6_mostStay 161 = .ok (.iload_n 1, 1) := by decide +kernel
theorem dX6_mostStay_162 : decode cX6_mostStay 162 = .ok (.ireturn, 1) := by decide +kernel
theorem dX6_cuts_0 : decode cX6_cuts 0 = .ok (.aload_n 0, 1) := by decide +kernel
theorem dX6_cuts_1 : decode cX6_cuts 1 = .ok (.invokevirtual 130, 3) := by decide +kernel
theorem dX6_cuts_4 : decode cX6_cuts 4 = .ok (.istore_n 1, 1) := by decide +kernel
theorem dX6_cuts_5 : decode cX6_cuts 5 = .ok (.iload_n 1, 1) := by decide +kernel
theorem dX6_cuts_6 : decode cX6_cuts 6 = .ok (.bipush (-6), 2) := by decide +kernel
theorem dX6_cuts_8 : decode cX6_cuts 8 = .ok (.if_icmp .eq 5, 3) := by decide +kernel
theorem dX6_cuts_11 : decode cX6_cuts 11 = .ok (.iload_n 1, 1) := by decide +kernel
theorem dX6_cuts_12 : decode cX6_cuts 12 = .ok (.ireturn, 1) := by decide +kernel
theorem dX6_cuts_13 : decode cX6_cuts 13 = .ok (.aload_n 0, 1) := by decide +kernel
theorem dX6_cuts_14 : decode cX6_cuts 14 = .ok (.getfield 72, 3) := by decide +kernel
theorem dX6_cuts_17 : decode cX6_cuts 17 = .ok (.iconst 2, 1) := by decide +kernel
theorem dX6_cuts_18 : decode cX6_cuts 18 = .ok (.if_icmp .ne 13, 3) := by decide +kernel
theorem dX6_cuts_21 : decode cX6_cuts 21 = .ok (.aload_n 0, 1) := by decide +kernel
theorem dX6_cuts_22 : decode cX6_cuts 22 = .ok (.getfield 93, 3) := by decide +kernel
theorem dX6_cuts_25 : decode cX6_cuts 25 = .ok (.aload_n 0, 1) := by decide +kernel
theorem dX6_cuts_26 : decode cX6_cuts 26 = .ok (.invokevirtual 150, 3) := by decide +kernel
theorem dX6_cuts_29 : decode cX6_cuts 29 = .ok (.isub, 1) := by decide +kernel
theorem dX6_cuts_30 : decode cX6_cuts 30 = .ok (.ireturn, 1) := by decide +kernel
theorem dX6_cuts_31 : decode cX6_cuts 31 = .ok (.iconst 0, 1) := by decide +kernel
theorem dX6_cuts_32 : decode cX6_cuts 32 = .ok (.istore_n 2, 1) := by decide +kernel
theorem dX6_cuts_33 : decode cX6_cuts 33 = .ok (.iconst 0, 1) := by decide +kernel
theorem dX6_cuts_34 : decode cX6_cuts 34 = .ok (.istore_n 3, 1) := by decide +kernel
theorem dX6_cuts_35 : decode cX6_cuts 35 = .ok (.iload_n 3, 1) := by decide +kernel
theorem dX6_cuts_36 : decode cX6_cuts 36 = .ok (.aload_n 0, 1) := by decide +kernel
theorem dX6_cuts_37 : decode cX6_cuts 37 = .ok (.getfield 93, 3) := by decide +kernel
theorem dX6_cuts_40 : decode cX6_cuts 40 = .ok (.if_icmp .ge 35, 3) := by decide +kernel
theorem dX6_cuts_43 : decode cX6_cuts 43 = .ok (.iload_n 2, 1) := by decide +kernel
theorem dX6_cuts_44 : decode cX6_cuts 44 = .ok (.aload_n 0, 1) := by decide +kernel
theorem dX6_cuts_45 : decode cX6_cuts 45 = .ok (.aload_n 0, 1) := by decide +kernel
theorem dX6_cuts_46 : decode cX6_cuts 46 = .ok (.getfield 28, 3) := by decide +kernel
theorem dX6_cuts_49 : decode cX6_cuts 49 = .ok (.iload_n 3, 1) := by decide +kernel
theorem dX6_cuts_50 : decode cX6_cuts 50 = .ok (.iaload, 1) := by decide +kernel
theorem dX6_cuts_51 : decode cX6_cuts 51 = .ok (.invokestatic 119, 3) := by decide +kernel
theorem dX6_cuts_54 : decode cX6_cuts 54 = .ok (.bipush (-6), 2) := by decide +kernel
theorem dX6_cuts_56 : decode cX6_cuts 56 = .ok (.invokevirtual 123, 3) := by decide +kernel
theorem dX6_cuts_59 : decode cX6_cuts 59 = .ok (.ifCond .eq 7, 3) := by decide +kernel
theorem dX6_cuts_62 : decode cX6_cuts 62 = .ok (.iconst 0, 1) := by decide +kernel
theorem dX6_cuts_63 : decode cX6_cuts 63 = .ok (.goto 4, 3) := by decide +kernel
theorem dX6_cuts_66 : decode cX6_cuts 66 = .ok (.iconst 1, 1) := by decide +kernel
theorem dX6_cuts_67 : decode cX6_cuts 67 = .ok (.iadd, 1) := by decide +kernel
theorem dX6_cuts_68 : decode cX6_cuts 68 = .ok (.istore_n 2, 1) := by decide +kernel
theorem dX6_cuts_69 : decode cX6_cuts 69 = .ok (.iinc 3 1, 3) := by decide +kernel
theorem dX6_cuts_72 : decode cX6_cuts 72 = .ok (.goto (-37), 3) := by decide +kernel
theorem dX6_cuts_75 : decode cX6_cuts 75 = .ok (.iload_n 2, 1) := by decide +kernel
theorem dX6_cuts_76 : decode cX6_cuts 76 = .ok (.ireturn, 1) := by decide +kernel
theorem dX6_canBoth_0 : decode cX6_canBoth 0 = .ok (.iconst 1, 1) := by decide +kernel
theorem dX6_canBoth_1 : decode cX6_canBoth 1 = .ok (.istore 4, 2) := by decide +kernel
theorem dX6_canBoth_3 : decode cX6_canBoth 3 = .ok (.iconst 0, 1) := by decide +kernel
theorem dX6_canBoth_4 : decode cX6_canBoth 4 = .ok (.istore 5, 2) := by decide +kernel
theorem dX6_canBoth_6 : decode cX6_canBoth 6 = .ok (.iload 5, 2) := by decide +kernel
theorem dX6_canBoth_8 : decode cX6_canBoth 8 = .ok (.aload_n 0, 1) := by decide +kernel
theorem dX6_canBoth_9 : decode cX6_canBoth 9 = .ok (.getfield 93, 3) := by decide +kernel
theorem dX6_canBoth_12 : decode cX6_canBoth 12 = .ok (.if_icmp .ge 112, 3) := by decide +kernel
theorem dX6_canBoth_15 : decode cX6_canBoth 15 = .ok (.iload_n 3, 1) := by decide +kernel
theorem dX6_canBoth_16 : decode cX6_canBoth 16 = .ok (.istore 6, 2) := by decide +kernel
theorem dX6_canBoth_18 : decode cX6_canBoth 18 = .ok (.iload 6, 2) := by decide +kernel
theorem dX6_canBoth_20 : decode cX6_canBoth 20 = .ok (.aload_n 0, 1) := by decide +kernel
theorem dX6_canBoth_21 : decode cX6_canBoth 21 = .ok (.getfield 93, 3) := by decide +kernel
theorem dX6_canBoth_24 : decode cX6_canBoth 24 = .ok (.if_icmp .ge 94, 3) := by decide +kernel
theorem dX6_canBoth_27 : decode cX6_canBoth 27 = .ok (.iload 5, 2) := by decide +kernel
theorem dX6_canBoth_29 : decode cX6_canBoth 29 = .ok (.iload 6, 2) := by decide +kernel
theorem dX6_canBoth_31 : decode cX6_canBoth 31 = .ok (.if_icmp .ge 11, 3) := by decide +kernel
theorem dX6_canBoth_34 : decode cX6_canBoth 34 = .ok (.iload 6, 2) := by decide +kernel
theorem dX6_canBoth_36 : decode cX6_canBoth 36 = .ok (.iload 5, 2) := by decide +kernel
theorem dX6_canBoth_38 : decode cX6_canBoth 38 = .ok (.isub, 1) := by decide +kernel
theorem dX6_canBoth_39 : decode cX6_canBoth 39 = .ok (.goto 8, 3) := by decide +kernel
theorem dX6_canBoth_42 : decode cX6_canBoth 42 = .ok (.iload 5, 2) := by decide +kernel
theorem dX6_canBoth_44 : decode cX6_canBoth 44 = .ok (.iload 6, 2) := by decide +kernel
theorem dX6_canBoth_46 : decode cX6_canBoth 46 = .ok (.isub, 1) := by decide +kernel
theorem dX6_canBoth_47 : decode cX6_canBoth 47 = .ok (.istore 7, 2) := by decide +kernel
theorem dX6_canBoth_49 : decode cX6_canBoth 49 = .ok (.aload_n 0, 1) := by decide +kernel
theorem dX6_canBoth_50 : decode cX6_canBoth 50 = .ok (.getfield 28, 3) := by decide +kernel
theorem dX6_canBoth_53 : decode cX6_canBoth 53 = .ok (.iload 5, 2) := by decide +kernel
theorem dX6_canBoth_55 : decode cX6_canBoth 55 = .ok (.iaload, 1) := by decide +kernel
theorem dX6_canBoth_56 : decode cX6_canBoth 56 = .ok (.iload_n 1, 1) := by decide +kernel
theorem dX6_canBoth_57 : decode cX6_canBoth 57 = .ok (.ishr, 1) := by decide +kernel
theorem dX6_canBoth_58 : decode cX6_canBoth 58 = .ok (.iconst 1, 1) := by decide +kernel
theorem dX6_canBoth_59 : decode cX6_canBoth 59 = .ok (.iand, 1) := by decide +kernel
theorem dX6_canBoth_60 : decode cX6_canBoth 60 = .ok (.iconst 1, 1) := by decide +kernel
theorem dX6_canBoth_61 : decode cX6_canBoth 61 = .ok (.if_icmp .ne 22, 3) := by decide +kernel
theorem dX6_canBoth_64 : decode cX6_canBoth 64 = .ok (.aload_n 0, 1) := by decide +kernel
theorem dX6_canBoth_65 : decode cX6_canBoth 65 = .ok (.getfield 28, 3) := by decide +kernel
theorem dX6_canBoth_68 : decode cX6_canBoth 68 = .ok (.iload 6, 2) := by decide +kernel
theorem dX6_canBoth_70 : decode cX6_canBoth 70 = .ok (.iaload, 1) := by decide +kernel
theorem dX6_canBoth_71 : decode cX6_canBoth 71 = .ok (.iload_n 2, 1) := by decide +kernel
theorem dX6_canBoth_72 : decode cX6_canBoth 72 = .ok (.ishr, 1) := by decide +kernel
theorem dX6_canBoth_73 : decode cX6_canBoth 73 = .ok (.iconst 1, 1) := by decide +kernel
theorem dX6_canBoth_74 : decode cX6_canBoth 74 = .ok (.iand, 1) := by decide +kernel
theorem dX6_canBoth_75 : decode cX6_canBoth 75 = .ok (.iconst 1, 1) := by decide +kernel
theorem dX6_canBoth_76 : decode cX6_canBoth 76 = .ok (.if_icmp .ne 7, 3) := by decide +kernel
theorem dX6_canBoth_79 : decode cX6_canBoth 79 = .ok (.iconst 1, 1) := by decide +kernel
theorem dX6_canBoth_80 : decode cX6_canBoth 80 = .ok (.goto 4, 3) := by decide +kernel
theorem dX6_canBoth_83 : decode cX6_canBoth 83 = .ok (.iconst 0, 1) := by decide +kernel
theorem dX6_canBoth_84 : decode cX6_canBoth 84 = .ok (.istore 8, 2) := by decide +kernel
theorem dX6_canBoth_86 : decode cX6_canBoth 86 = .ok (.iload 4, 2) := by decide +kernel
theorem dX6_canBoth_88 : decode cX6_canBoth 88 = .ok (.ifCond .eq 21, 3) := by decide +kernel
theorem dX6_canBoth_91 : decode cX6_canBoth 91 = .ok (.iload 8, 2) := by decide +kernel
theorem dX6_canBoth_93 : decode cX6_canBoth 93 = .ok (.ifCond .eq 12, 3) := by decide +kernel
theorem dX6_canBoth_96 : decode cX6_canBoth 96 = .ok (.iload 7, 2) := by decide +kernel
theorem dX6_canBoth_98 : decode cX6_canBoth 98 = .ok (.aload_n 0, 1) := by decide +kernel
theorem dX6_canBoth_99 : decode cX6_canBoth 99 = .ok (.getfield 75, 3) := by decide +kernel
theorem dX6_canBoth_102 : decode cX6_canBoth 102 = .ok (.if_icmp .le 7, 3) := by decide +kernel
theorem dX6_canBoth_105 : decode cX6_canBoth 105 = .ok (.iconst 1, 1) := by decide +kernel
theorem dX6_canBoth_106 : decode cX6_canBoth 106 = .ok (.goto 4, 3) := by decide +kernel
theorem dX6_canBoth_109 : decode cX6_canBoth 109 = .ok (.iconst 0, 1) := by decide +kernel
theorem dX6_canBoth_110 : decode cX6_canBoth 110 = .ok (.istore 4, 2) := by decide +kernel
theorem dX6_canBoth_112 : decode cX6_canBoth 112 = .ok (.iinc 6 1, 3) := by decide +kernel
theorem dX6_canBoth_115 : decode cX6_canBoth 115 = .ok (.goto (-97), 3) := by decide +kernel
theorem dX6_canBoth_118 : decode cX6_canBoth 118 = .ok (.iinc 5 1, 3) := by decide +kernel
theorem dX6_canBoth_121 : decode cX6_canBoth 121 = .ok (.goto (-115), 3) := by decide +kernel
theorem dX6_canBoth_124 : decode cX6_canBoth 124 = .ok (.iload 4, 2) := by decide +kernel
theorem dX6_canBoth_126 : decode cX6_canBoth 126 = .ok (.ireturn, 1) := by decide +kernel
theorem dX6_canBe_0 : decode cX6_canBe 0 = .ok (.iconst 1, 1) := by decide +kernel
theorem dX6_canBe_1 : decode cX6_canBe 1 = .ok (.istore_n 2, 1) := by decide +kernel
theorem dX6_canBe_2 : decode cX6_canBe 2 = .ok (.iconst 0, 1) := by decide +kernel
theorem dX6_canBe_3 : decode cX6_canBe 3 = .ok (.istore_n 3, 1) := by decide +kernel
theorem dX6_canBe_4 : decode cX6_canBe 4 = .ok (.iload_n 3, 1) := by decide +kernel
theorem dX6_canBe_5 : decode cX6_canBe 5 = .ok (.iload_n 1, 1) := by decide +kernel
theorem dX6_canBe_6 : decode cX6_canBe 6 = .ok (.if_icmp .ge 52, 3) := by decide +kernel
theorem dX6_canBe_9 : decode cX6_canBe 9 = .ok (.iload_n 2, 1) := by decide +kernel
theorem dX6_canBe_10 : decode cX6_canBe 10 = .ok (.ifCond .eq 40, 3) := by decide +kernel
theorem dX6_canBe_13 : decode cX6_canBe 13 = .ok (.aload_n 0, 1) := by decide +kernel
theorem dX6_canBe_14 : decode cX6_canBe 14 = .ok (.getfield 34, 3) := by decide +kernel
theorem dX6_canBe_17 : decode cX6_canBe 17 = .ok (.iload_n 3, 1) := by decide +kernel
theorem dX6_canBe_18 : decode cX6_canBe 18 = .ok (.iaload, 1) := by decide +kernel
theorem dX6_canBe_19 : decode cX6_canBe 19 = .ok (.aload_n 0, 1) := by decide +kernel
theorem dX6_canBe_20 : decode cX6_canBe 20 = .ok (.getfield 34, 3) := by decide +kernel
theorem dX6_canBe_23 : decode cX6_canBe 23 = .ok (.iload_n 1, 1) := by decide +kernel
theorem dX6_canBe_24 : decode cX6_canBe 24 = .ok (.iaload, 1) := by decide +kernel
theorem dX6_canBe_25 : decode cX6_canBe 25 = .ok (.if_icmp .ne 21, 3) := by decide +kernel
theorem dX6_canBe_28 : decode cX6_canBe 28 = .ok (.aload_n 0, 1) := by decide +kernel
theorem dX6_canBe_29 : decode cX6_canBe 29 = .ok (.iload_n 3, 1) := by decide +kernel
theorem dX6_canBe_30 : decode cX6_canBe 30 = .ok (.invokevirtual 135, 3) := by decide +kernel
theorem dX6_canBe_33 : decode cX6_canBe 33 = .ok (.ifCond .eq 13, 3) := by decide +kernel
theorem dX6_canBe_36 : decode cX6_canBe 36 = .ok (.aload_n 0, 1) := by decide +kernel
theorem dX6_canBe_37 : decode cX6_canBe 37 = .ok (.iload_n 3, 1) := by decide +kernel
theorem dX6_canBe_38 : decode cX6_canBe 38 = .ok (.iload_n 1, 1) := by decide +kernel
theorem dX6_canBe_39 : decode cX6_canBe 39 = .ok (.iconst 0, 1) := by decide +kernel
theorem dX6_canBe_40 : decode cX6_canBe 40 = .ok (.invokevirtual 153, 3) := by decide +kernel
theorem dX6_canBe_43 : decode cX6_canBe 43 = .ok (.ifCond .eq 7, 3) := by decide +kernel
theorem dX6_canBe_46 : decode cX6_canBe 46 = .ok (.iconst 1, 1) := by decide +kernel
theorem dX6_canBe_47 : decode cX6_canBe 47 = .ok (.goto 4, 3) := by decide +kernel
theorem dX6_canBe_50 : decode cX6_canBe 50 = .ok (.iconst 0, 1) := by decide +kernel
theorem dX6_canBe_51 : decode cX6_canBe 51 = .ok (.istore_n 2, 1) := by decide +kernel
theorem dX6_canBe_52 : decode cX6_canBe 52 = .ok (.iinc 3 1, 3) := by decide +kernel
theorem dX6_canBe_55 : decode cX6_canBe 55 = .ok (.goto (-51), 3) := by decide +kernel
theorem dX6_canBe_58 : decode cX6_canBe 58 = .ok (.iload_n 2, 1) := by decide +kernel
theorem dX6_canBe_59 : decode cX6_canBe 59 = .ok (.ireturn, 1) := by decide +kernel
theorem dX6_highest_0 : decode cX6_highest 0 = .ok (.iconst (-1), 1) := by decide +kernel
theorem dX6_highest_1 : decode cX6_highest 1 = .ok (.istore_n 2, 1) := by decide +kernel
theorem dX6_highest_2 : decode cX6_highest 2 = .ok (.iconst 0, 1) := by decide +kernel
theorem dX6_highest_3 : decode cX6_highest 3 = .ok (.istore_n 3, 1) := by decide +kernel
theorem dX6_highest_4 : decode cX6_highest 4 = .ok (.iload_n 3, 1) := by decide +kernel
theorem dX6_highest_5 : decode cX6_highest 5 = .ok (.iload_n 1, 1) := by decide +kernel
theorem dX6_highest_6 : decode cX6_highest 6 = .ok (.if_icmp .ge 38, 3) := by decide +kernel
theorem dX6_highest_9 : decode cX6_highest 9 = .ok (.aload_n 0, 1) := by decide +kernel
theorem dX6_highest_10 : decode cX6_highest 10 = .ok (.iload_n 3, 1) := by decide +kernel
theorem dX6_highest_11 : decode cX6_highest 11 = .ok (.invokevirtual 135, 3) := by decide +kernel
theorem dX6_highest_14 : decode cX6_highest 14 = .ok (.ifCond .le 22, 3) := by decide +kernel
theorem dX6_highest_17 : decode cX6_highest 17 = .ok (.aload_n 0, 1) := by decide +kernel
theorem dX6_highest_18 : decode cX6_highest 18 = .ok (.getfield 34, 3) := by decide +kernel
theorem dX6_highest_21 : decode cX6_highest 21 = .ok (.iload_n 3, 1) := by decide +kernel
theorem dX6_highest_22 : decode cX6_highest 22 = .ok (.iaload, 1) := by decide +kernel
theorem dX6_highest_23 : decode cX6_highest 23 = .ok (.iload_n 2, 1) := by decide +kernel
theorem dX6_highest_24 : decode cX6_highest 24 = .ok (.if_icmp .le 12, 3) := by decide +kernel
theorem dX6_highest_27 : decode cX6_highest 27 = .ok (.aload_n 0, 1) := by decide +kernel
theorem dX6_highest_28 : decode cX6_highest 28 = .ok (.getfield 34, 3) := by decide +kernel
theorem dX6_highest_31 : decode cX6_highest 31 = .ok (.iload_n 3, 1) := by decide +kernel
theorem dX6_highest_32 : decode cX6_highest 32 = .ok (.iaload, 1) := by decide +kernel
theorem dX6_highest_33 : decode cX6_highest 33 = .ok (.goto 4, 3) := by decide +kernel
theorem dX6_highest_36 : decode cX6_highest 36 = .ok (.iload_n 2, 1) := by decide +kernel
theorem dX6_highest_37 : decode cX6_highest 37 = .ok (.istore_n 2, 1) := by decide +kernel
theorem dX6_highest_38 : decode cX6_highest 38 = .ok (.iinc 3 1, 3) := by decide +kernel
theorem dX6_highest_41 : decode cX6_highest 41 = .ok (.goto (-37), 3) := by decide +kernel
theorem dX6_highest_44 : decode cX6_highest 44 = .ok (.iload_n 2, 1) := by decide +kernel
theorem dX6_highest_45 : decode cX6_highest 45 = .ok (.ireturn, 1) := by decide +kernel
theorem dX6_castWith_0 : decode cX6_castWith 0 = .ok (.iconst 0, 1) := by decide +kernel
theorem dX6_castWith_1 : decode cX6_castWith 1 = .ok (.istore_n 2, 1) := by decide +kernel
theorem dX6_castWith_2 : decode cX6_castWith 2 = .ok (.aload_n 0, 1) := by decide +kernel
theorem dX6_castWith_3 : decode cX6_castWith 3 = .ok (.getfield 34, 3) := by decide +kernel
theorem dX6_castWith_6 : decode cX6_castWith 6 = .ok (.iconst 0, 1) := by decide +kernel
theorem dX6_castWith_7 : decode cX6_castWith 7 = .ok (.iconst (-1), 1) := by decide +kernel
theorem dX6_castWith_8 : decode cX6_castWith 8 = .ok (.iastore, 1) := by decide +kernel
theorem dX6_castWith_9 : decode cX6_castWith 9 = .ok (.iload_n 2, 1) := by decide +kernel
theorem dX6_castWith_10 : decode cX6_castWith 10 = .ok (.ifCond .lt 128, 3) := by decide +kernel
theorem dX6_castWith_13 : decode cX6_castWith 13 = .ok (.iload_n 2, 1) := by decide +kernel
theorem dX6_castWith_14 : decode cX6_castWith 14 = .ok (.bipush 8, 2) := by decide +kernel
theorem dX6_castWith_16 : decode cX6_castWith 16 = .ok (.if_icmp .ge 122, 3) := by decide +kernel
theorem dX6_castWith_19 : decode cX6_castWith 19 = .ok (.aload_n 0, 1) := by decide +kernel
theorem dX6_castWith_20 : decode cX6_castWith 20 = .ok (.getfield 34, 3) := by decide +kernel
theorem dX6_castWith_23 : decode cX6_castWith 23 = .ok (.iload_n 2, 1) := by decide +kernel
theorem dX6_castWith_24 : decode cX6_castWith 24 = .ok (.dup2, 1) := by decide +kernel
theorem dX6_castWith_25 : decode cX6_castWith 25 = .ok (.iaload, 1) := by decide +kernel
theorem dX6_castWith_26 : decode cX6_castWith 26 = .ok (.iconst 1, 1) := by decide +kernel
theorem dX6_castWith_27 : decode cX6_castWith 27 = .ok (.iadd, 1) := by decide +kernel
theorem dX6_castWith_28 : decode cX6_castWith 28 = .ok (.iastore, 1) := by decide +kernel
theorem dX6_castWith_29 : decode cX6_castWith 29 = .ok (.aload_n 0, 1) := by decide +kernel
theorem dX6_castWith_30 : decode cX6_castWith 30 = .ok (.iload_n 2, 1) := by decide +kernel
theorem dX6_castWith_31 : decode cX6_castWith 31 = .ok (.invokevirtual 135, 3) := by decide +kernel
theorem dX6_castWith_34 : decode cX6_castWith 34 = .ok (.ifCond .le 7, 3) := by decide +kernel
theorem dX6_castWith_37 : decode cX6_castWith 37 = .ok (.iconst 1, 1) := by decide +kernel
theorem dX6_castWith_38 : decode cX6_castWith 38 = .ok (.goto 4, 3) := by decide +kernel
theorem dX6_castWith_41 : decode cX6_castWith 41 = .ok (.iconst 0, 1) := by decide +kernel
theorem dX6_castWith_42 : decode cX6_castWith 42 = .ok (.istore_n 3, 1) := by decide +kernel
theorem dX6_castWith_43 : decode cX6_castWith 43 = .ok (.aload_n 0, 1) := by decide +kernel
theorem dX6_castWith_44 : decode cX6_castWith 44 = .ok (.iload_n 2, 1) := by decide +kernel
theorem dX6_castWith_45 : decode cX6_castWith 45 = .ok (.invokevirtual 157, 3) := by decide +kernel
theorem dX6_castWith_48 : decode cX6_castWith 48 = .ok (.iconst 1, 1) := by decide +kernel
theorem dX6_castWith_49 : decode cX6_castWith 49 = .ok (.iadd, 1) := by decide +kernel
theorem dX6_castWith_50 : decode cX6_castWith 50 = .ok (.istore 4, 2) := by decide +kernel
theorem dX6_castWith_52 : decode cX6_castWith 52 = .ok (.iload 4, 2) := by decide +kernel
theorem dX6_castWith_54 : decode cX6_castWith 54 = .ok (.iload_n 1, 1) := by decide +kernel
theorem dX6_castWith_55 : decode cX6_castWith 55 = .ok (.iconst 1, 1) := by decide +kernel
theorem dX6_castWith_56 : decode cX6_castWith 56 = .ok (.isub, 1) := by decide +kernel
theorem dX6_castWith_57 : decode cX6_castWith 57 = .ok (.if_icmp .ge 8, 3) := by decide +kernel
theorem dX6_castWith_60 : decode cX6_castWith 60 = .ok (.iload 4, 2) := by decide +kernel
theorem dX6_castWith_62 : decode cX6_castWith 62 = .ok (.goto 6, 3) := by decide +kernel
theorem dX6_castWith_65 : decode cX6_castWith 65 = .ok (.iload_n 1, 1) := by decide +kernel
theorem dX6_castWith_66 : decode cX6_castWith 66 = .ok (.iconst 1, 1) := by decide +kernel
theorem dX6_castWith_67 : decode cX6_castWith 67 = .ok (.isub, 1) := by decide +kernel
theorem dX6_castWith_68 : decode cX6_castWith 68 = .ok (.istore 4, 2) := by decide +kernel
theorem dX6_castWith_70 : decode cX6_castWith 70 = .ok (.aload_n 0, 1) := by decide +kernel
theorem dX6_castWith_71 : decode cX6_castWith 71 = .ok (.getfield 34, 3) := by decide +kernel
theorem dX6_castWith_74 : decode cX6_castWith 74 = .ok (.iload_n 2, 1) := by decide +kernel
theorem dX6_castWith_75 : decode cX6_castWith 75 = .ok (.iaload, 1) := by decide +kernel
theorem dX6_castWith_76 : decode cX6_castWith 76 = .ok (.iload_n 3, 1) := by decide +kernel
theorem dX6_castWith_77 : decode cX6_castWith 77 = .ok (.ifCond .eq 8, 3) := by decide +kernel
theorem dX6_castWith_80 : decode cX6_castWith 80 = .ok (.iload 4, 2) := by decide +kernel
theorem dX6_castWith_82 : decode cX6_castWith 82 = .ok (.goto 4, 3) := by decide +kernel
theorem dX6_castWith_85 : decode cX6_castWith 85 = .ok (.iconst 0, 1) := by decide +kernel
theorem dX6_castWith_86 : decode cX6_castWith 86 = .ok (.if_icmp .le 7, 3) := by decide +kernel
theorem dX6_castWith_89 : decode cX6_castWith 89 = .ok (.iconst 1, 1) := by decide +kernel
theorem dX6_castWith_90 : decode cX6_castWith 90 = .ok (.goto 4, 3) := by decide +kernel
theorem dX6_castWith_93 : decode cX6_castWith 93 = .ok (.iconst 0, 1) := by decide +kernel
theorem dX6_castWith_94 : decode cX6_castWith 94 = .ok (.istore 5, 2) := by decide +kernel
theorem dX6_castWith_96 : decode cX6_castWith 96 = .ok (.iload 5, 2) := by decide +kernel
theorem dX6_castWith_98 : decode cX6_castWith 98 = .ok (.ifCond .eq 9, 3) := by decide +kernel
theorem dX6_castWith_101 : decode cX6_castWith 101 = .ok (.iinc 2 (-1), 3) := by decide +kernel
theorem dX6_castWith_104 : decode cX6_castWith 104 = .ok (.goto 31, 3) := by decide +kernel
theorem dX6_castWith_107 : decode cX6_castWith 107 = .ok (.iload_n 3, 1) := by decide +kernel
theorem dX6_castWith_108 : decode cX6_castWith 108 = .ok (.ifCond .eq 11, 3) := by decide +kernel
theorem dX6_castWith_111 : decode cX6_castWith 111 = .ok (.aload_n 0, 1) := by decide +kernel
theorem dX6_castWith_112 : decode cX6_castWith 112 = .ok (.iload_n 2, 1) := by decide +kernel
theorem dX6_castWith_113 : decode cX6_castWith 113 = .ok (.invokevirtual 160, 3) := by decide +kernel
theorem dX6_castWith_116 : decode cX6_castWith 116 = .ok (.ifCond .eq 19, 3) := by decide +kernel
theorem dX6_castWith_119 : decode cX6_castWith 119 = .ok (.iinc 2 1, 3) := by decide +kernel
theorem dX6_castWith_122 : decode cX6_castWith 122 = .ok (.iload_n 2, 1) := by decide +kernel
theorem dX6_castWith_123 : decode cX6_castWith 123 = .ok (.bipush 8, 2) := by decide +kernel
theorem dX6_castWith_125 : decode cX6_castWith 125 = .ok (.if_icmp .ge 10, 3) := by decide +kernel
theorem dX6_castWith_128 : decode cX6_castWith 128 = .ok (.aload_n 0, 1) := by decide +kernel
theorem dX6_castWith_129 : decode cX6_castWith 129 = .ok (.getfield 34, 3) := by decide +kernel
theorem dX6_castWith_132 : decode cX6_castWith 132 = .ok (.iload_n 2, 1) := by decide +kernel
theorem dX6_castWith_133 : decode cX6_castWith 133 = .ok (.iconst (-1), 1) := by decide +kernel
theorem dX6_castWith_134 : decode cX6_castWith 134 = .ok (.iastore, 1) := by decide +kernel
theorem dX6_castWith_135 : decode cX6_castWith 135 = .ok (.goto (-126), 3) := by decide +kernel
theorem dX6_castWith_138 : decode cX6_castWith 138 = .ok (.iload_n 2, 1) := by decide +kernel
theorem dX6_castWith_139 : decode cX6_castWith 139 = .ok (.bipush 8, 2) := by decide +kernel
theorem dX6_castWith_141 : decode cX6_castWith 141 = .ok (.if_icmp .ne 7, 3) := by decide +kernel
theorem dX6_castWith_144 : decode cX6_castWith 144 = .ok (.iconst 1, 1) := by decide +kernel
theorem dX6_castWith_145 : decode cX6_castWith 145 = .ok (.goto 4, 3) := by decide +kernel
theorem dX6_castWith_148 : decode cX6_castWith 148 = .ok (.iconst 0, 1) := by decide +kernel
theorem dX6_castWith_149 : decode cX6_castWith 149 = .ok (.ireturn, 1) := by decide +kernel
theorem dX6_castAll_0 : decode cX6_castAll 0 = .ok (.iconst 0, 1) := by decide +kernel
theorem dX6_castAll_1 : decode cX6_castAll 1 = .ok (.istore_n 1, 1) := by decide +kernel
theorem dX6_castAll_2 : decode cX6_castAll 2 = .ok (.iconst 0, 1) := by decide +kernel
theorem dX6_castAll_3 : decode cX6_castAll 3 = .ok (.istore_n 2, 1) := by decide +kernel
theorem dX6_castAll_4 : decode cX6_castAll 4 = .ok (.iconst 0, 1) := by decide +kernel
theorem dX6_castAll_5 : decode cX6_castAll 5 = .ok (.istore_n 3, 1) := by decide +kernel
theorem dX6_castAll_6 : decode cX6_castAll 6 = .ok (.iload_n 3, 1) := by decide +kernel
theorem dX6_castAll_7 : decode cX6_castAll 7 = .ok (.bipush 8, 2) := by decide +kernel
theorem dX6_castAll_9 : decode cX6_castAll 9 = .ok (.if_icmp .ge 27, 3) := by decide +kernel
theorem dX6_castAll_12 : decode cX6_castAll 12 = .ok (.iload_n 2, 1) := by decide +kernel
theorem dX6_castAll_13 : decode cX6_castAll 13 = .ok (.ifCond .ne 11, 3) := by decide +kernel
theorem dX6_castAll_16 : decode cX6_castAll 16 = .ok (.aload_n 0, 1) := by decide +kernel
theorem dX6_castAll_17 : decode cX6_castAll 17 = .ok (.iload_n 3, 1) := by decide +kernel
theorem dX6_castAll_18 : decode cX6_castAll 18 = .ok (.invokevirtual 135, 3) := by decide +kernel
theorem dX6_castAll_21 : decode cX6_castAll 21 = .ok (.ifCond .le 7, 3) := by decide +kernel
theorem dX6_castAll_24 : decode cX6_castAll 24 = .ok (.iconst 1, 1) := by decide +kernel
theorem dX6_castAll_25 : decode cX6_castAll 25 = .ok (.goto 4, 3) := by decide +kernel
theorem dX6_castAll_28 : decode cX6_castAll 28 = .ok (.iconst 0, 1) := by decide +kernel
theorem dX6_castAll_29 : decode cX6_castAll 29 = .ok (.istore_n 2, 1) := by decide +kernel
theorem dX6_castAll_30 : decode cX6_castAll 30 = .ok (.iinc 3 1, 3) := by decide +kernel
theorem dX6_castAll_33 : decode cX6_castAll 33 = .ok (.goto (-27), 3) := by decide +kernel
theorem dX6_castAll_36 : decode cX6_castAll 36 = .ok (.iload_n 2, 1) := by decide +kernel
theorem dX6_castAll_37 : decode cX6_castAll 37 = .ok (.ifCond .ne 7, 3) := by decide +kernel
theorem dX6_castAll_40 : decode cX6_castAll 40 = .ok (.iconst 1, 1) := by decide +kernel
theorem dX6_castAll_41 : decode cX6_castAll 41 = .ok (.goto 4, 3) := by decide +kernel
theorem dX6_castAll_44 : decode cX6_castAll 44 = .ok (.iconst 0, 1) := by decide +kernel
theorem dX6_castAll_45 : decode cX6_castAll 45 = .ok (.istore_n 3, 1) := by decide +kernel
theorem dX6_castAll_46 : decode cX6_castAll 46 = .ok (.iload_n 3, 1) := by decide +kernel
theorem dX6_castAll_47 : decode cX6_castAll 47 = .ok (.ifCond .ne 15, 3) := by decide +kernel
theorem dX6_castAll_50 : decode cX6_castAll 50 = .ok (.iinc 1 1, 3) := by decide +kernel
theorem dX6_castAll_53 : decode cX6_castAll 53 = .ok (.aload_n 0, 1) := by decide +kernel
theorem dX6_castAll_54 : decode cX6_castAll 54 = .ok (.iload_n 1, 1) := by decide +kernel
theorem dX6_castAll_55 : decode cX6_castAll 55 = .ok (.invokevirtual 163, 3) := by decide +kernel
theorem dX6_castAll_58 : decode cX6_castAll 58 = .ok (.istore_n 3, 1) := by decide +kernel
theorem dX6_castAll_59 : decode cX6_castAll 59 = .ok (.goto (-13), 3) := by decide +kernel
theorem dX6_castAll_62 : decode cX6_castAll 62 = .ok (.iconst 0, 1) := by decide +kernel
theorem dX6_castAll_63 : decode cX6_castAll 63 = .ok (.istore 4, 2) := by decide +kernel
theorem dX6_castAll_65 : decode cX6_castAll 65 = .ok (.iload 4, 2) := by decide +kernel
theorem dX6_castAll_67 : decode cX6_castAll 67 = .ok (.bipush 8, 2) := by decide +kernel
theorem dX6_castAll_69 : decode cX6_castAll 69 = .ok (.if_icmp .ge 37, 3) := by decide +kernel
theorem dX6_castAll_72 : decode cX6_castAll 72 = .ok (.aload_n 0, 1) := by decide +kernel
theorem dX6_castAll_73 : decode cX6_castAll 73 = .ok (.getfield 37, 3) := by decide +kernel
theorem dX6_castAll_76 : decode cX6_castAll 76 = .ok (.iload 4, 2) := by decide +kernel
theorem dX6_castAll_78 : decode cX6_castAll 78 = .ok (.aload_n 0, 1) := by decide +kernel
theorem dX6_castAll_79 : decode cX6_castAll 79 = .ok (.iload 4, 2) := by decide +kernel
theorem dX6_castAll_81 : decode cX6_castAll 81 = .ok (.invokevirtual 135, 3) := by decide +kernel
theorem dX6_castAll_84 : decode cX6_castAll 84 = .ok (.ifCond .le 13, 3) := by decide +kernel
theorem dX6_castAll_87 : decode cX6_castAll 87 = .ok (.aload_n 0, 1) := by decide +kernel
theorem dX6_castAll_88 : decode cX6_castAll 88 = .ok (.getfield 34, 3) := by decide +kernel
theorem dX6_castAll_91 : decode cX6_castAll 91 = .ok (.iload 4, 2) := by decide +kernel
theorem dX6_castAll_93 : decode cX6_castAll 93 = .ok (.iaload, 1) := by decide +kernel
theorem dX6_castAll_94 : decode cX6_castAll 94 = .ok (.goto 5, 3) := by decide +kernel
theorem dX6_castAll_97 : decode cX6_castAll 97 = .ok (.bipush (-6), 2) := by decide +kernel
theorem dX6_castAll_99 : decode cX6_castAll 99 = .ok (.iastore, 1) := by decide +kernel
theorem dX6_castAll_100 : decode cX6_castAll 100 = .ok (.iinc 4 1, 3) := by decide +kernel
theorem dX6_castAll_103 : decode cX6_castAll 103 = .ok (.goto (-38), 3) := by decide +kernel
theorem dX6_castAll_106 : decode cX6_castAll 106 = .ok (.iload_n 1, 1) := by decide +kernel
theorem dX6_castAll_107 : decode cX6_castAll 107 = .ok (.ireturn, 1) := by decide +kernel
theorem dX6_cast_0 : decode cX6_cast 0 = .ok (.iload_n 1, 1) := by decide +kernel
theorem dX6_cast_1 : decode cX6_cast 1 = .ok (.i2l, 1) := by decide +kernel
theorem dX6_cast_2 : decode cX6_cast 2 = .ok (.ldc2_w 166, 3) := by decide +kernel
theorem dX6_cast_5 : decode cX6_cast 5 = .ok (.ldc2_w 60, 3) := by decide +kernel
theorem dX6_cast_8 : decode cX6_cast 8 = .ok (.invokestatic 62, 3) := by decide +kernel
theorem dX6_cast_11 : decode cX6_cast 11 = .ok (.ifCond .ne 5, 3) := by decide +kernel
theorem dX6_cast_14 : decode cX6_cast 14 = .ok (.iconst (-1), 1) := by decide +kernel
theorem dX6_cast_15 : decode cX6_cast 15 = .ok (.ireturn, 1) := by decide +kernel
theorem dX6_cast_16 : decode cX6_cast 16 = .ok (.aload_n 0, 1) := by decide +kernel
theorem dX6_cast_17 : decode cX6_cast 17 = .ok (.invokevirtual 130, 3) := by decide +kernel
theorem dX6_cast_20 : decode cX6_cast 20 = .ok (.istore_n 2, 1) := by decide +kernel
theorem dX6_cast_21 : decode cX6_cast 21 = .ok (.iload_n 2, 1) := by decide +kernel
theorem dX6_cast_22 : decode cX6_cast 22 = .ok (.bipush (-6), 2) := by decide +kernel
theorem dX6_cast_24 : decode cX6_cast 24 = .ok (.if_icmp .eq 5, 3) := by decide +kernel
theorem dX6_cast_27 : decode cX6_cast 27 = .ok (.iload_n 2, 1) := by decide +kernel
theorem dX6_cast_28 : decode cX6_cast 28 = .ok (.ireturn, 1) := by decide +kernel
theorem dX6_cast_29 : decode cX6_cast 29 = .ok (.aload_n 0, 1) := by decide +kernel
theorem dX6_cast_30 : decode cX6_cast 30 = .ok (.invokevirtual 168, 3) := by decide +kernel
theorem dX6_cast_33 : decode cX6_cast 33 = .ok (.istore_n 3, 1) := by decide +kernel
theorem dX6_cast_34 : decode cX6_cast 34 = .ok (.iload_n 1, 1) := by decide +kernel
theorem dX6_cast_35 : decode cX6_cast 35 = .ok (.iconst (-1), 1) := by decide +kernel
theorem dX6_cast_36 : decode cX6_cast 36 = .ok (.if_icmp .ne 7, 3) := by decide +kernel
theorem dX6_cast_39 : decode cX6_cast 39 = .ok (.iload_n 3, 1) := by decide +kernel
theorem dX6_cast_40 : decode cX6_cast 40 = .ok (.goto 9, 3) := by decide +kernel
theorem dX6_cast_43 : decode cX6_cast 43 = .ok (.aload_n 0, 1) := by decide +kernel
theorem dX6_cast_44 : decode cX6_cast 44 = .ok (.getfield 37, 3) := by decide +kernel
theorem dX6_cast_47 : decode cX6_cast 47 = .ok (.iload_n 1, 1) := by decide +kernel
theorem dX6_cast_48 : decode cX6_cast 48 = .ok (.iaload, 1) := by decide +kernel
theorem dX6_cast_49 : decode cX6_cast 49 = .ok (.ireturn, 1) := by decide +kernel
theorem dX6_hasFrom_0 : decode cX6_hasFrom 0 = .ok (.iconst 0, 1) := by decide +kernel
theorem dX6_hasFrom_1 : decode cX6_hasFrom 1 = .ok (.istore_n 3, 1) := by decide +kernel
theorem dX6_hasFrom_2 : decode cX6_hasFrom 2 = .ok (.iload_n 2, 1) := by decide +kernel
theorem dX6_hasFrom_3 : decode cX6_hasFrom 3 = .ok (.istore 4, 2) := by decide +kernel
theorem dX6_hasFrom_5 : decode cX6_hasFrom 5 = .ok (.iload 4, 2) := by decide +kernel
theorem dX6_hasFrom_7 : decode cX6_hasFrom 7 = .ok (.aload_n 0, 1) := by decide +kernel
theorem dX6_hasFrom_8 : decode cX6_hasFrom 8 = .ok (.getfield 93, 3) := by decide +kernel
theorem dX6_hasFrom_11 : decode cX6_hasFrom 11 = .ok (.if_icmp .ge 34, 3) := by decide +kernel
theorem dX6_hasFrom_14 : decode cX6_hasFrom 14 = .ok (.iload_n 3, 1) := by decide +kernel
theorem dX6_hasFrom_15 : decode cX6_hasFrom 15 = .ok (.ifCond .ne 18, 3) := by decide +kernel
theorem dX6_hasFrom_18 : decode cX6_hasFrom 18 = .ok (.aload_n 0, 1) := by decide +kernel
theorem dX6_hasFrom_19 : decode cX6_hasFrom 19 = .ok (.getfield 28, 3) := by decide +kernel
theorem dX6_hasFrom_22 : decode cX6_hasFrom 22 = .ok (.iload 4, 2) := by decide +kernel
theorem dX6_hasFrom_24 : decode cX6_hasFrom 24 = .ok (.iaload, 1) := by decide +kernel
theorem dX6_hasFrom_25 : decode cX6_hasFrom 25 = .ok (.iload_n 1, 1) := by decide +kernel
theorem dX6_hasFrom_26 : decode cX6_hasFrom 26 = .ok (.ishr, 1) := by decide +kernel
theorem dX6_hasFrom_27 : decode cX6_hasFrom 27 = .ok (.iconst 1, 1) := by decide +kernel
theorem dX6_hasFrom_28 : decode cX6_hasFrom 28 = .ok (.iand, 1) := by decide +kernel
theorem dX6_hasFrom_29 : decode cX6_hasFrom 29 = .ok (.iconst 1, 1) := by decide +kernel
theorem dX6_hasFrom_30 : decode cX6_hasFrom 30 = .ok (.if_icmp .ne 7, 3) := by decide +kernel
theorem dX6_hasFrom_33 : decode cX6_hasFrom 33 = .ok (.iconst 1, 1) := by decide +kernel
theorem dX6_hasFrom_34 : decode cX6_hasFrom 34 = .ok (.goto 4, 3) := by decide +kernel
theorem dX6_hasFrom_37 : decode cX6_hasFrom 37 = .ok (.iconst 0, 1) := by decide +kernel
theorem dX6_hasFrom_38 : decode cX6_hasFrom 38 = .ok (.istore_n 3, 1) := by decide +kernel
theorem dX6_hasFrom_39 : decode cX6_hasFrom 39 = .ok (.iinc 4 1, 3) := by decide +kernel
theorem dX6_hasFrom_42 : decode cX6_hasFrom 42 = .ok (.goto (-37), 3) := by decide +kernel
theorem dX6_hasFrom_45 : decode cX6_hasFrom 45 = .ok (.iload_n 3, 1) := by decide +kernel
theorem dX6_hasFrom_46 : decode cX6_hasFrom 46 = .ok (.ireturn, 1) := by decide +kernel
theorem dX6_isTaken_0 : decode cX6_isTaken 0 = .ok (.iconst 0, 1) := by decide +kernel
theorem dX6_isTaken_1 : decode cX6_isTaken 1 = .ok (.istore 4, 2) := by decide +kernel
theorem dX6_isTaken_3 : decode cX6_isTaken 3 = .ok (.iload 4, 2) := by decide +kernel
theorem dX6_isTaken_5 : decode cX6_isTaken 5 = .ok (.iload_n 3, 1) := by decide +kernel
theorem dX6_isTaken_6 : decode cX6_isTaken 6 = .ok (.if_icmp .ge 85, 3) := by decide +kernel
theorem dX6_isTaken_9 : decode cX6_isTaken 9 = .ok (.iload 4, 2) := by decide +kernel
theorem dX6_isTaken_11 : decode cX6_isTaken 11 = .ok (.aload_n 0, 1) := by decide +kernel
theorem dX6_isTaken_12 : decode cX6_isTaken 12 = .ok (.getfield 37, 3) := by decide +kernel
theorem dX6_isTaken_15 : decode cX6_isTaken 15 = .ok (.iload_n 1, 1) := by decide +kernel
theorem dX6_isTaken_16 : decode cX6_isTaken 16 = .ok (.iaload, 1) := by decide +kernel
theorem dX6_isTaken_17 : decode cX6_isTaken 17 = .ok (.if_icmp .eq 7, 3) := by decide +kernel
theorem dX6_isTaken_20 : decode cX6_isTaken 20 = .ok (.iconst 1, 1) := by decide +kernel
theorem dX6_isTaken_21 : decode cX6_isTaken 21 = .ok (.goto 4, 3) := by decide +kernel
theorem dX6_isTaken_24 : decode cX6_isTaken 24 = .ok (.iconst 0, 1) := by decide +kernel
theorem dX6_isTaken_25 : decode cX6_isTaken 25 = .ok (.istore 5, 2) := by decide +kernel
theorem dX6_isTaken_27 : decode cX6_isTaken 27 = .ok (.iconst 0, 1) := by decide +kernel
theorem dX6_isTaken_28 : decode cX6_isTaken 28 = .ok (.istore 6, 2) := by decide +kernel
theorem dX6_isTaken_30 : decode cX6_isTaken 30 = .ok (.iload 6, 2) := by decide +kernel
theorem dX6_isTaken_32 : decode cX6_isTaken 32 = .ok (.bipush 8, 2) := by decide +kernel
theorem dX6_isTaken_34 : decode cX6_isTaken 34 = .ok (.if_icmp .ge 44, 3) := by decide +kernel
theorem dX6_isTaken_37 : decode cX6_isTaken 37 = .ok (.iload 5, 2) := by decide +kernel
theorem dX6_isTaken_39 : decode cX6_isTaken 39 = .ok (.ifCond .eq 30, 3) := by decide +kernel
theorem dX6_isTaken_42 : decode cX6_isTaken 42 = .ok (.aload_n 0, 1) := by decide +kernel
theorem dX6_isTaken_43 : decode cX6_isTaken 43 = .ok (.getfield 37, 3) := by decide +kernel
theorem dX6_isTaken_46 : decode cX6_isTaken 46 = .ok (.iload 6, 2) := by decide +kernel
theorem dX6_isTaken_48 : decode cX6_isTaken 48 = .ok (.iaload, 1) := by decide +kernel
theorem dX6_isTaken_49 : decode cX6_isTaken 49 = .ok (.iload 4, 2) := by decide +kernel
theorem dX6_isTaken_51 : decode cX6_isTaken 51 = .ok (.if_icmp .ne 14, 3) := by decide +kernel
theorem dX6_isTaken_54 : decode cX6_isTaken 54 = .ok (.aload_n 0, 1) := by decide +kernel
theorem dX6_isTaken_55 : decode cX6_isTaken 55 = .ok (.iload 6, 2) := by decide +kernel
theorem dX6_isTaken_57 : decode cX6_isTaken 57 = .ok (.iload_n 1, 1) := by decide +kernel
theorem dX6_isTaken_58 : decode cX6_isTaken 58 = .ok (.iload_n 2, 1) := by decide +kernel
theorem dX6_isTaken_59 : decode cX6_isTaken 59 = .ok (.invokevirtual 153, 3) := by decide +kernel
theorem dX6_isTaken_62 : decode cX6_isTaken 62 = .ok (.ifCond .eq 7, 3) := by decide +kernel
theorem dX6_isTaken_65 : decode cX6_isTaken 65 = .ok (.iconst 1, 1) := by decide +kernel
theorem dX6_isTaken_66 : decode cX6_isTaken 66 = .ok (.goto 4, 3) := by decide +kernel
theorem dX6_isTaken_69 : decode cX6_isTaken 69 = .ok (.iconst 0, 1) := by decide +kernel
theorem dX6_isTaken_70 : decode cX6_isTaken 70 = .ok (.istore 5, 2) := by decide +kernel
theorem dX6_isTaken_72 : decode cX6_isTaken 72 = .ok (.iinc 6 1, 3) := by decide +kernel
theorem dX6_isTaken_75 : decode cX6_isTaken 75 = .ok (.goto (-45), 3) := by decide +kernel
theorem dX6_isTaken_78 : decode cX6_isTaken 78 = .ok (.iload 5, 2) := by decide +kernel
theorem dX6_isTaken_80 : decode cX6_isTaken 80 = .ok (.ifCond .eq 5, 3) := by decide +kernel
theorem dX6_isTaken_83 : decode cX6_isTaken 83 = .ok (.iconst 1, 1) := by decide +kernel
theorem dX6_isTaken_84 : decode cX6_isTaken 84 = .ok (.ireturn, 1) := by decide +kernel
theorem dX6_isTaken_85 : decode cX6_isTaken 85 = .ok (.iinc 4 1, 3) := by decide +kernel
theorem dX6_isTaken_88 : decode cX6_isTaken 88 = .ok (.goto (-85), 3) := by decide +kernel
theorem dX6_isTaken_91 : decode cX6_isTaken 91 = .ok (.iconst 0, 1) := by decide +kernel
theorem dX6_isTaken_92 : decode cX6_isTaken 92 = .ok (.ireturn, 1) := by decide +kernel
theorem dX6_ill_0 : decode cX6_ill 0 = .ok (.iload_n 1, 1) := by decide +kernel
theorem dX6_ill_1 : decode cX6_ill 1 = .ok (.invokestatic 138, 3) := by decide +kernel
theorem dX6_ill_4 : decode cX6_ill 4 = .ok (.ifCond .ne 5, 3) := by decide +kernel
theorem dX6_ill_7 : decode cX6_ill 7 = .ok (.iconst (-1), 1) := by decide +kernel
theorem dX6_ill_8 : decode cX6_ill 8 = .ok (.ireturn, 1) := by decide +kernel
theorem dX6_ill_9 : decode cX6_ill 9 = .ok (.aload_n 0, 1) := by decide +kernel
theorem dX6_ill_10 : decode cX6_ill 10 = .ok (.invokevirtual 130, 3) := by decide +kernel
theorem dX6_ill_13 : decode cX6_ill 13 = .ok (.istore_n 3, 1) := by decide +kernel
theorem dX6_ill_14 : decode cX6_ill 14 = .ok (.iload_n 3, 1) := by decide +kernel
theorem dX6_ill_15 : decode cX6_ill 15 = .ok (.bipush (-6), 2) := by decide +kernel
theorem dX6_ill_17 : decode cX6_ill 17 = .ok (.if_icmp .eq 5, 3) := by decide +kernel
theorem dX6_ill_20 : decode cX6_ill 20 = .ok (.iload_n 3, 1) := by decide +kernel
theorem dX6_ill_21 : decode cX6_ill 21 = .ok (.ireturn, 1) := by decide +kernel
theorem dX6_ill_22 : decode cX6_ill 22 = .ok (.iload_n 2, 1) := by decide +kernel
theorem dX6_ill_23 : decode cX6_ill 23 = .ok (.i2l, 1) := by decide +kernel
theorem dX6_ill_24 : decode cX6_ill 24 = .ok (.lconst 0, 1) := by decide +kernel
theorem dX6_ill_25 : decode cX6_ill 25 = .ok (.aload_n 0, 1) := by decide +kernel
theorem dX6_ill_26 : decode cX6_ill 26 = .ok (.getfield 93, 3) := by decide +kernel
theorem dX6_ill_29 : decode cX6_ill 29 = .ok (.iconst 1, 1) := by decide +kernel
theorem dX6_ill_30 : decode cX6_ill 30 = .ok (.isub, 1) := by decide +kernel
theorem dX6_ill_31 : decode cX6_ill 31 = .ok (.i2l, 1) := by decide +kernel
theorem dX6_ill_32 : decode cX6_ill 32 = .ok (.invokestatic 62, 3) := by decide +kernel
theorem dX6_ill_35 : decode cX6_ill 35 = .ok (.ifCond .ne 6, 3) := by decide +kernel
theorem dX6_ill_38 : decode cX6_ill 38 = .ok (.bipush (-2), 2) := by decide +kernel
theorem dX6_ill_40 : decode cX6_ill 40 = .ok (.ireturn, 1) := by decide +kernel
theorem dX6_ill_41 : decode cX6_ill 41 = .ok (.aload_n 0, 1) := by decide +kernel
theorem dX6_ill_42 : decode cX6_ill 42 = .ok (.invokevirtual 168, 3) := by decide +kernel
theorem dX6_ill_45 : decode cX6_ill 45 = .ok (.istore 4, 2) := by decide +kernel
theorem dX6_ill_47 : decode cX6_ill 47 = .ok (.aload_n 0, 1) := by decide +kernel
theorem dX6_ill_48 : decode cX6_ill 48 = .ok (.getfield 37, 3) := by decide +kernel
theorem dX6_ill_51 : decode cX6_ill 51 = .ok (.iload_n 1, 1) := by decide +kernel
theorem dX6_ill_52 : decode cX6_ill 52 = .ok (.iaload, 1) := by decide +kernel
theorem dX6_ill_53 : decode cX6_ill 53 = .ok (.istore 5, 2) := by decide +kernel
theorem dX6_ill_55 : decode cX6_ill 55 = .ok (.iconst 0, 1) := by decide +kernel
theorem dX6_ill_56 : decode cX6_ill 56 = .ok (.istore 6, 2) := by decide +kernel
theorem dX6_ill_58 : decode cX6_ill 58 = .ok (.iconst 0, 1) := by decide +kernel
theorem dX6_ill_59 : decode cX6_ill 59 = .ok (.istore 7, 2) := by decide +kernel
theorem dX6_ill_61 : decode cX6_ill 61 = .ok (.iload 7, 2) := by decide +kernel
theorem dX6_ill_63 : decode cX6_ill 63 = .ok (.bipush 8, 2) := by decide +kernel
theorem dX6_ill_65 : decode cX6_ill 65 = .ok (.if_icmp .ge 70, 3) := by decide +kernel
theorem dX6_ill_68 : decode cX6_ill 68 = .ok (.iload 5, 2) := by decide +kernel
theorem dX6_ill_70 : decode cX6_ill 70 = .ok (.ifCond .lt 29, 3) := by decide +kernel
theorem dX6_ill_73 : decode cX6_ill 73 = .ok (.aload_n 0, 1) := by decide +kernel
theorem dX6_ill_74 : decode cX6_ill 74 = .ok (.getfield 37, 3) := by decide +kernel
theorem dX6_ill_77 : decode cX6_ill 77 = .ok (.iload 7, 2) := by decide +kernel
theorem dX6_ill_79 : decode cX6_ill 79 = .ok (.iaload, 1) := by decide +kernel
theorem dX6_ill_80 : decode cX6_ill 80 = .ok (.iload 5, 2) := by decide +kernel
theorem dX6_ill_82 : decode cX6_ill 82 = .ok (.if_icmp .ne 17, 3) := by decide +kernel
theorem dX6_ill_85 : decode cX6_ill 85 = .ok (.aload_n 0, 1) := by decide +kernel
theorem dX6_ill_86 : decode cX6_ill 86 = .ok (.iload 7, 2) := by decide +kernel
theorem dX6_ill_88 : decode cX6_ill 88 = .ok (.iload_n 2, 1) := by decide +kernel
theorem dX6_ill_89 : decode cX6_ill 89 = .ok (.invokevirtual 171, 3) := by decide +kernel
theorem dX6_ill_92 : decode cX6_ill 92 = .ok (.ifCond .eq 7, 3) := by decide +kernel
theorem dX6_ill_95 : decode cX6_ill 95 = .ok (.iconst 1, 1) := by decide +kernel
theorem dX6_ill_96 : decode cX6_ill 96 = .ok (.goto 4, 3) := by decide +kernel
theorem dX6_ill_99 : decode cX6_ill 99 = .ok (.iconst 0, 1) := by decide +kernel
theorem dX6_ill_100 : decode cX6_ill 100 = .ok (.istore 8, 2) := by decide +kernel
theorem dX6_ill_102 : decode cX6_ill 102 = .ok (.iload 6, 2) := by decide +kernel
theorem dX6_ill_104 : decode cX6_ill 104 = .ok (.iload 8, 2) := by decide +kernel
theorem dX6_ill_106 : decode cX6_ill 106 = .ok (.ifCond .eq 19, 3) := by decide +kernel
theorem dX6_ill_109 : decode cX6_ill 109 = .ok (.aload_n 0, 1) := by decide +kernel
theorem dX6_ill_110 : decode cX6_ill 110 = .ok (.iload 7, 2) := by decide +kernel
theorem dX6_ill_112 : decode cX6_ill 112 = .ok (.iload_n 2, 1) := by decide +kernel
theorem dX6_ill_113 : decode cX6_ill 113 = .ok (.iload 4, 2) := by decide +kernel
theorem dX6_ill_115 : decode cX6_ill 115 = .ok (.invokevirtual 174, 3) := by decide +kernel
theorem dX6_ill_118 : decode cX6_ill 118 = .ok (.ifCond .ne 7, 3) := by decide +kernel
theorem dX6_ill_121 : decode cX6_ill 121 = .ok (.iconst 1, 1) := by decide +kernel
theorem dX6_ill_122 : decode cX6_ill 122 = .ok (.goto 4, 3) := by decide +kernel
theorem dX6_ill_125 : decode cX6_ill 125 = .ok (.iconst 0, 1) := by decide +kernel
theorem dX6_ill_126 : decode cX6_ill 126 = .ok (.iadd, 1) := by decide +kernel
theorem dX6_ill_127 : decode cX6_ill 127 = .ok (.istore 6, 2) := by decide +kernel
theorem dX6_ill_129 : decode cX6_ill 129 = .ok (.iinc 7 1, 3) := by decide +kernel
theorem dX6_ill_132 : decode cX6_ill 132 = .ok (.goto (-71), 3) := by decide +kernel
theorem dX6_ill_135 : decode cX6_ill 135 = .ok (.iload 6, 2) := by decide +kernel
theorem dX6_ill_137 : decode cX6_ill 137 = .ok (.ireturn, 1) := by decide +kernel
theorem dX6_scene_0 : decode cX6_scene 0 = .ok (.iload_n 1, 1) := by decide +kernel
theorem dX6_scene_1 : decode cX6_scene 1 = .ok (.i2l, 1) := by decide +kernel
theorem dX6_scene_2 : decode cX6_scene 2 = .ok (.lconst 0, 1) := by decide +kernel
theorem dX6_scene_3 : decode cX6_scene 3 = .ok (.ldc2_w 177, 3) := by decide +kernel
theorem dX6_scene_6 : decode cX6_scene 6 = .ok (.invokestatic 62, 3) := by decide +kernel
theorem dX6_scene_9 : decode cX6_scene 9 = .ok (.ifCond .ne 6, 3) := by decide +kernel
theorem dX6_scene_12 : decode cX6_scene 12 = .ok (.bipush (-2), 2) := by decide +kernel
theorem dX6_scene_14 : decode cX6_scene 14 = .ok (.ireturn, 1) := by decide +kernel
theorem dX6_scene_15 : decode cX6_scene 15 = .ok (.aload_n 0, 1) := by decide +kernel
theorem dX6_scene_16 : decode cX6_scene 16 = .ok (.getfield 179, 3) := by decide +kernel
theorem dX6_scene_19 : decode cX6_scene 19 = .ok (.bipush 6, 2) := by decide +kernel
theorem dX6_scene_21 : decode cX6_scene 21 = .ok (.if_icmp .ne 6, 3) := by decide +kernel
theorem dX6_scene_24 : decode cX6_scene 24 = .ok (.bipush (-4), 2) := by decide +kernel
theorem dX6_scene_26 : decode cX6_scene 26 = .ok (.ireturn, 1) := by decide +kernel
theorem dX6_scene_27 : decode cX6_scene 27 = .ok (.aload_n 0, 1) := by decide +kernel
theorem dX6_scene_28 : decode cX6_scene 28 = .ok (.getfield 13, 3) := by decide +kernel
theorem dX6_scene_31 : decode cX6_scene 31 = .ok (.aload_n 0, 1) := by decide +kernel
theorem dX6_scene_32 : decode cX6_scene 32 = .ok (.getfield 179, 3) := by decide +kernel
theorem dX6_scene_35 : decode cX6_scene 35 = .ok (.iload_n 1, 1) := by decide +kernel
theorem dX6_scene_36 : decode cX6_scene 36 = .ok (.iastore, 1) := by decide +kernel
theorem dX6_scene_37 : decode cX6_scene 37 = .ok (.aload_n 0, 1) := by decide +kernel
theorem dX6_scene_38 : decode cX6_scene 38 = .ok (.dup, 1) := by decide +kernel
theorem dX6_scene_39 : decode cX6_scene 39 = .ok (.getfield 179, 3) := by decide +kernel
theorem dX6_scene_42 : decode cX6_scene 42 = .ok (.iconst 1, 1) := by decide +kernel
theorem dX6_scene_43 : decode cX6_scene 43 = .ok (.iadd, 1) := by decide +kernel
theorem dX6_scene_44 : decode cX6_scene 44 = .ok (.putfield 179, 3) := by decide +kernel
theorem dX6_scene_47 : decode cX6_scene 47 = .ok (.aload_n 0, 1) := by decide +kernel
theorem dX6_scene_48 : decode cX6_scene 48 = .ok (.getfield 179, 3) := by decide +kernel
theorem dX6_scene_51 : decode cX6_scene 51 = .ok (.ireturn, 1) := by decide +kernel
theorem dX6_strike_0 : decode cX6_strike 0 = .ok (.aload_n 0, 1) := by decide +kernel
theorem dX6_strike_1 : decode cX6_strike 1 = .ok (.getfield 179, 3) := by decide +kernel
theorem dX6_strike_4 : decode cX6_strike 4 = .ok (.istore_n 1, 1) := by decide +kernel
theorem dX6_strike_5 : decode cX6_strike 5 = .ok (.aload_n 0, 1) := by decide +kernel
theorem dX6_strike_6 : decode cX6_strike 6 = .ok (.iconst 0, 1) := by decide +kernel
theorem dX6_strike_7 : decode cX6_strike 7 = .ok (.putfield 179, 3) := by decide +kernel
theorem dX6_strike_10 : decode cX6_strike 10 = .ok (.iload_n 1, 1) := by decide +kernel
theorem dX6_strike_11 : decode cX6_strike 11 = .ok (.ireturn, 1) := by decide +kernel
theorem dX6_layRow_0 : decode cX6_layRow 0 = .ok (.iload_n 1, 1) := by decide +kernel
theorem dX6_layRow_1 : decode cX6_layRow 1 = .ok (.istore_n 2, 1) := by decide +kernel
theorem dX6_layRow_2 : decode cX6_layRow 2 = .ok (.iconst 0, 1) := by decide +kernel
theorem dX6_layRow_3 : decode cX6_layRow 3 = .ok (.istore_n 3, 1) := by decide +kernel
theorem dX6_layRow_4 : decode cX6_layRow 4 = .ok (.aload_n 0, 1) := by decide +kernel
theorem dX6_layRow_5 : decode cX6_layRow 5 = .ok (.getfield 179, 3) := by decide +kernel
theorem dX6_layRow_8 : decode cX6_layRow 8 = .ok (.iconst 1, 1) := by decide +kernel
theorem dX6_layRow_9 : decode cX6_layRow 9 = .ok (.isub, 1) := by decide +kernel
theorem dX6_layRow_10 : decode cX6_layRow 10 = .ok (.istore 4, 2) := by decide +kernel
theorem dX6_layRow_12 : decode cX6_layRow 12 = .ok (.iload 4, 2) := by decide +kernel
theorem dX6_layRow_14 : decode cX6_layRow 14 = .ok (.ifCond .lt 41, 3) := by decide +kernel
theorem dX6_layRow_17 : decode cX6_layRow 17 = .ok (.aload_n 0, 1) := by decide +kernel
theorem dX6_layRow_18 : decode cX6_layRow 18 = .ok (.getfield 40, 3) := by decide +kernel
theorem dX6_layRow_21 : decode cX6_layRow 21 = .ok (.iload 4, 2) := by decide +kernel
theorem dX6_layRow_23 : decode cX6_layRow 23 = .ok (.iload_n 2, 1) := by decide +kernel
theorem dX6_layRow_24 : decode cX6_layRow 24 = .ok (.aload_n 0, 1) := by decide +kernel
theorem dX6_layRow_25 : decode cX6_layRow 25 = .ok (.getfield 179, 3) := by decide +kernel
theorem dX6_layRow_28 : decode cX6_layRow 28 = .ok (.irem, 1) := by decide +kernel
theorem dX6_layRow_29 : decode cX6_layRow 29 = .ok (.iastore, 1) := by decide +kernel
theorem dX6_layRow_30 : decode cX6_layRow 30 = .ok (.iload_n 3, 1) := by decide +kernel
theorem dX6_layRow_31 : decode cX6_layRow 31 = .ok (.iconst 1, 1) := by decide +kernel
theorem dX6_layRow_32 : decode cX6_layRow 32 = .ok (.aload_n 0, 1) := by decide +kernel
theorem dX6_layRow_33 : decode cX6_layRow 33 = .ok (.getfield 40, 3) := by decide +kernel
theorem dX6_layRow_36 : decode cX6_layRow 36 = .ok (.iload 4, 2) := by decide +kernel
theorem dX6_layRow_38 : decode cX6_layRow 38 = .ok (.iaload, 1) := by decide +kernel
theorem dX6_layRow_39 : decode cX6_layRow 39 = .ok (.ishl, 1) := by decide +kernel
theorem dX6_layRow_40 : decode cX6_layRow 40 = .ok (.ior, 1) := by decide +kernel
theorem dX6_layRow_41 : decode cX6_layRow 41 = .ok (.istore_n 3, 1) := by decide +kernel
theorem dX6_layRow_42 : decode cX6_layRow 42 = .ok (.iload_n 2, 1) := by decide +kernel
theorem dX6_layRow_43 : decode cX6_layRow 43 = .ok (.aload_n 0, 1) := by decide +kernel
theorem dX6_layRow_44 : decode cX6_layRow 44 = .ok (.getfield 179, 3) := by decide +kernel
theorem dX6_layRow_47 : decode cX6_layRow 47 = .ok (.idiv, 1) := by decide +kernel
theorem dX6_layRow_48 : decode cX6_layRow 48 = .ok (.istore_n 2, 1) := by decide +kernel
theorem dX6_layRow_49 : decode cX6_layRow 49 = .ok (.iinc 4 (-1), 3) := by decide +kernel
theorem dX6_layRow_52 : decode cX6_layRow 52 = .ok (.goto (-40), 3) := by decide +kernel
theorem dX6_layRow_55 : decode cX6_layRow 55 = .ok (.iload_n 3, 1) := by decide +kernel
theorem dX6_layRow_56 : decode cX6_layRow 56 = .ok (.iconst 1, 1) := by decide +kernel
theorem dX6_layRow_57 : decode cX6_layRow 57 = .ok (.aload_n 0, 1) := by decide +kernel
theorem dX6_layRow_58 : decode cX6_layRow 58 = .ok (.getfield 179, 3) := by decide +kernel
theorem dX6_layRow_61 : decode cX6_layRow 61 = .ok (.ishl, 1) := by decide +kernel
theorem dX6_layRow_62 : decode cX6_layRow 62 = .ok (.iconst 1, 1) := by decide +kernel
theorem dX6_layRow_63 : decode cX6_layRow 63 = .ok (.isub, 1) := by decide +kernel
theorem dX6_layRow_64 : decode cX6_layRow 64 = .ok (.if_icmp .ne 7, 3) := by decide +kernel
theorem dX6_layRow_67 : decode cX6_layRow 67 = .ok (.iconst 1, 1) := by decide +kernel
theorem dX6_layRow_68 : decode cX6_layRow 68 = .ok (.goto 4, 3) := by decide +kernel
theorem dX6_layRow_71 : decode cX6_layRow 71 = .ok (.iconst 0, 1) := by decide +kernel
theorem dX6_layRow_72 : decode cX6_layRow 72 = .ok (.ireturn, 1) := by decide +kernel
theorem dX6_movesOfRow_0 : decode cX6_movesOfRow 0 = .ok (.iconst 0, 1) := by decide +kernel
theorem dX6_movesOfRow_1 : decode cX6_movesOfRow 1 = .ok (.istore_n 1, 1) := by decide +kernel
theorem dX6_movesOfRow_2 : decode cX6_movesOfRow 2 = .ok (.iconst 0, 1) := by decide +kernel
theorem dX6_movesOfRow_3 : decode cX6_movesOfRow 3 = .ok (.istore_n 2, 1) := by decide +kernel
theorem dX6_movesOfRow_4 : decode cX6_movesOfRow 4 = .ok (.iconst 0, 1) := by decide +kernel
theorem dX6_movesOfRow_5 : decode cX6_movesOfRow 5 = .ok (.istore_n 3, 1) := by decide +kernel
theorem dX6_movesOfRow_6 : decode cX6_movesOfRow 6 = .ok (.iload_n 3, 1) := by decide +kernel
theorem dX6_movesOfRow_7 : decode cX6_movesOfRow 7 = .ok (.aload_n 0, 1) := by decide +kernel
theorem dX6_movesOfRow_8 : decode cX6_movesOfRow 8 = .ok (.getfield 179, 3) := by decide +kernel
theorem dX6_movesOfRow_11 : decode cX6_movesOfRow 11 = .ok (.if_icmp .ge 40, 3) := by decide +kernel
theorem dX6_movesOfRow_14 : decode cX6_movesOfRow 14 = .ok (.iload_n 1, 1) := by decide +kernel
theorem dX6_movesOfRow_15 : decode cX6_movesOfRow 15 = .ok (.iload_n 2, 1) := by decide +kernel
theorem dX6_movesOfRow_16 : decode cX6_movesOfRow 16 = .ok (.aload_n 0, 1) := by decide +kernel
theorem dX6_movesOfRow_17 : decode cX6_movesOfRow 17 = .ok (.getfield 13, 3) := by decide +kernel
theorem dX6_movesOfRow_20 : decode cX6_movesOfRow 20 = .ok (.aload_n 0, 1) := by decide +kernel
theorem dX6_movesOfRow_21 : decode cX6_movesOfRow 21 = .ok (.getfield 40, 3) := by decide +kernel
theorem dX6_movesOfRow_24 : decode cX6_movesOfRow 24 = .ok (.iload_n 3, 1) := by decide +kernel
theorem dX6_movesOfRow_25 : decode cX6_movesOfRow 25 = .ok (.iaload, 1) := by decide +kernel
theorem dX6_movesOfRow_26 : decode cX6_movesOfRow 26 = .ok (.iaload, 1) := by decide +kernel
theorem dX6_movesOfRow_27 : decode cX6_movesOfRow 27 = .ok (.ixor, 1) := by decide +kernel
theorem dX6_movesOfRow_28 : decode cX6_movesOfRow 28 = .ok (.invokestatic 119, 3) := by decide +kernel
theorem dX6_movesOfRow_31 : decode cX6_movesOfRow 31 = .ok (.iadd, 1) := by decide +kernel
theorem dX6_movesOfRow_32 : decode cX6_movesOfRow 32 = .ok (.istore_n 1, 1) := by decide +kernel
theorem dX6_movesOfRow_33 : decode cX6_movesOfRow 33 = .ok (.aload_n 0, 1) := by decide +kernel
theorem dX6_movesOfRow_34 : decode cX6_movesOfRow 34 = .ok (.getfield 13, 3) := by decide +kernel
theorem dX6_movesOfRow_37 : decode cX6_movesOfRow 37 = .ok (.aload_n 0, 1) := by decide +kernel
theorem dX6_movesOfRow_38 : decode cX6_movesOfRow 38 = .ok (.getfield 40, 3) := by decide +kernel
theorem dX6_movesOfRow_41 : decode cX6_movesOfRow 41 = .ok (.iload_n 3, 1) := by decide +kernel
theorem dX6_movesOfRow_42 : decode cX6_movesOfRow 42 = .ok (.iaload, 1) := by decide +kernel
theorem dX6_movesOfRow_43 : decode cX6_movesOfRow 43 = .ok (.iaload, 1) := by decide +kernel
theorem dX6_movesOfRow_44 : decode cX6_movesOfRow 44 = .ok (.istore_n 2, 1) := by decide +kernel
theorem dX6_movesOfRow_45 : decode cX6_movesOfRow 45 = .ok (.iinc 3 1, 3) := by decide +kernel
theorem dX6_movesOfRow_48 : decode cX6_movesOfRow 48 = .ok (.goto (-42), 3) := by decide +kernel
theorem dX6_movesOfRow_51 : decode cX6_movesOfRow 51 = .ok (.iload_n 1, 1) := by decide +kernel
theorem dX6_movesOfRow_52 : decode cX6_movesOfRow 52 = .ok (.iload_n 2, 1) := by decide +kernel
theorem dX6_movesOfRow_53 : decode cX6_movesOfRow 53 = .ok (.invokestatic 119, 3) := by decide +kernel
theorem dX6_movesOfRow_56 : decode cX6_movesOfRow 56 = .ok (.iadd, 1) := by decide +kernel
theorem dX6_movesOfRow_57 : decode cX6_movesOfRow 57 = .ok (.ireturn, 1) := by decide +kernel
theorem dX6_order_0 : decode cX6_order 0 = .ok (.iconst 1, 1) := by decide +kernel
theorem dX6_order_1 : decode cX6_order 1 = .ok (.istore_n 2, 1) := by decide +kernel
theorem dX6_order_2 : decode cX6_order 2 = .ok (.iconst 0, 1) := by decide +kernel
theorem dX6_order_3 : decode cX6_order 3 = .ok (.istore_n 3, 1) := by decide +kernel
theorem dX6_order_4 : decode cX6_order 4 = .ok (.iload_n 3, 1) := by decide +kernel
theorem dX6_order_5 : decode cX6_order 5 = .ok (.aload_n 0, 1) := by decide +kernel
theorem dX6_order_6 : decode cX6_order 6 = .ok (.getfield 179, 3) := by decide +kernel
theorem dX6_order_9 : decode cX6_order 9 = .ok (.if_icmp .ge 16, 3) := by decide +kernel
theorem dX6_order_12 : decode cX6_order 12 = .ok (.iload_n 2, 1) := by decide +kernel
theorem dX6_order_13 : decode cX6_order 13 = .ok (.aload_n 0, 1) := by decide +kernel
theorem dX6_order_14 : decode cX6_order 14 = .ok (.getfield 179, 3) := by decide +kernel
theorem dX6_order_17 : decode cX6_order 17 = .ok (.imul, 1) := by decide +kernel
theorem dX6_order_18 : decode cX6_order 18 = .ok (.istore_n 2, 1) := by decide +kernel
theorem dX6_order_19 : decode cX6_order 19 = .ok (.iinc 3 1, 3) := by decide +kernel
theorem dX6_order_22 : decode cX6_order 22 = .ok (.goto (-18), 3) := by decide +kernel
theorem dX6_order_25 : decode cX6_order 25 = .ok (.sipush 1000, 3) := by decide +kernel
theorem dX6_order_28 : decode cX6_order 28 = .ok (.istore_n 3, 1) := by decide +kernel
theorem dX6_order_29 : decode cX6_order 29 = .ok (.iconst 0, 1) := by decide +kernel
theorem dX6_order_30 : decode cX6_order 30 = .ok (.istore 4, 2) := by decide +kernel
theorem dX6_order_32 : decode cX6_order 32 = .ok (.iload 4, 2) := by decide +kernel
theorem dX6_order_34 : decode cX6_order 34 = .ok (.iload_n 2, 1) := by decide +kernel
theorem dX6_order_35 : decode cX6_order 35 = .ok (.if_icmp .ge 65, 3) := by decide +kernel
theorem dX6_order_38 : decode cX6_order 38 = .ok (.aload_n 0, 1) := by decide +kernel
theorem dX6_order_39 : decode cX6_order 39 = .ok (.iload 4, 2) := by decide +kernel
theorem dX6_order_41 : decode cX6_order 41 = .ok (.invokevirtual 182, 3) := by decide +kernel
theorem dX6_order_44 : decode cX6_order 44 = .ok (.ifCond .eq 50, 3) := by decide +kernel
theorem dX6_order_47 : decode cX6_order 47 = .ok (.aload_n 0, 1) := by decide +kernel
theorem dX6_order_48 : decode cX6_order 48 = .ok (.invokevirtual 185, 3) := by decide +kernel
theorem dX6_order_51 : decode cX6_order 51 = .ok (.istore 5, 2) := by decide +kernel
theorem dX6_order_53 : decode cX6_order 53 = .ok (.iload 5, 2) := by decide +kernel
theorem dX6_order_55 : decode cX6_order 55 = .ok (.iload_n 3, 1) := by decide +kernel
theorem dX6_order_56 : decode cX6_order 56 = .ok (.if_icmp .ge 38, 3) := by decide +kernel
theorem dX6_order_59 : decode cX6_order 59 = .ok (.iload 5, 2) := by decide +kernel
theorem dX6_order_61 : decode cX6_order 61 = .ok (.istore_n 3, 1) := by decide +kernel
theorem dX6_order_62 : decode cX6_order 62 = .ok (.iconst 0, 1) := by decide +kernel
theorem dX6_order_63 : decode cX6_order 63 = .ok (.istore 6, 2) := by decide +kernel
theorem dX6_order_65 : decode cX6_order 65 = .ok (.iload 6, 2) := by decide +kernel
theorem dX6_order_67 : decode cX6_order 67 = .ok (.aload_n 0, 1) := by decide +kernel
theorem dX6_order_68 : decode cX6_order 68 = .ok (.getfield 179, 3) := by decide +kernel
theorem dX6_order_71 : decode cX6_order 71 = .ok (.if_icmp .ge 23, 3) := by decide +kernel
theorem dX6_order_74 : decode cX6_order 74 = .ok (.aload_n 0, 1) := by decide +kernel
theorem dX6_order_75 : decode cX6_order 75 = .ok (.getfield 43, 3) := by decide +kernel
theorem dX6_order_78 : decode cX6_order 78 = .ok (.iload 6, 2) := by decide +kernel
theorem dX6_order_80 : decode cX6_order 80 = .ok (.aload_n 0, 1) := by decide +kernel
theorem dX6_order_81 : decode cX6_order 81 = .ok (.getfield 40, 3) := by decide +kernel
theorem dX6_order_84 : decode cX6_order 84 = .ok (.iload 6, 2) := by decide +kernel
theorem dX6_order_86 : decode cX6_order 86 = .ok (.iaload, 1) := by decide +kernel
theorem dX6_order_87 : decode cX6_order 87 = .ok (.iastore, 1) := by decide +kernel
theorem dX6_order_88 : decode cX6_order 88 = .ok (.iinc 6 1, 3) := by decide +kernel
theorem dX6_order_91 : decode cX6_order 91 = .ok (.goto (-26), 3) := by decide +kernel
theorem dX6_order_94 : decode cX6_order 94 = .ok (.iinc 4 1, 3) := by decide +kernel
theorem dX6_order_97 : decode cX6_order 97 = .ok (.goto (-65), 3) := by decide +kernel
theorem dX6_order_100 : decode cX6_order 100 = .ok (.iload_n 1, 1) := by decide +kernel
theorem dX6_order_101 : decode cX6_order 101 = .ok (.iconst (-1), 1) := by decide +kernel
theorem dX6_order_102 : decode cX6_order 102 = .ok (.if_icmp .ne 7, 3) := by decide +kernel
theorem dX6_order_105 : decode cX6_order 105 = .ok (.iload_n 3, 1) := by decide +kernel
theorem dX6_order_106 : decode cX6_order 106 = .ok (.goto 30, 3) := by decide +kernel
theorem dX6_order_109 : decode cX6_order 109 = .ok (.iload_n 1, 1) := by decide +kernel
theorem dX6_order_110 : decode cX6_order 110 = .ok (.i2l, 1) := by decide +kernel
theorem dX6_order_111 : decode cX6_order 111 = .ok (.lconst 0, 1) := by decide +kernel
theorem dX6_order_112 : decode cX6_order 112 = .ok (.aload_n 0, 1) := by decide +kernel
theorem dX6_order_113 : decode cX6_order 113 = .ok (.getfield 179, 3) := by decide +kernel
theorem dX6_order_116 : decode cX6_order 116 = .ok (.iconst 1, 1) := by decide +kernel
theorem dX6_order_117 : decode cX6_order 117 = .ok (.isub, 1) := by decide +kernel
theorem dX6_order_118 : decode cX6_order 118 = .ok (.i2l, 1) := by decide +kernel
theorem dX6_order_119 : decode cX6_order 119 = .ok (.invokestatic 62, 3) := by decide +kernel
theorem dX6_order_122 : decode cX6_order 122 = .ok (.ifCond .eq 12, 3) := by decide +kernel
theorem dX6_order_125 : decode cX6_order 125 = .ok (.aload_n 0, 1) := by decide +kernel
theorem dX6_order_126 : decode cX6_order 126 = .ok (.getfield 43, 3) := by decide +kernel
theorem dX6_order_129 : decode cX6_order 129 = .ok (.iload_n 1, 1) := by decide +kernel
theorem dX6_order_130 : decode cX6_order 130 = .ok (.iaload, 1) := by decide +kernel
theorem dX6_order_131 : decode cX6_order 131 = .ok (.goto 5, 3) := by decide +kernel
theorem dX6_order_134 : decode cX6_order 134 = .ok (.bipush (-6), 2) := by decide +kernel
theorem dX6_order_136 : decode cX6_order 136 = .ok (.ireturn, 1) := by decide +kernel
theorem dX6_seen_0 : decode cX6_seen 0 = .ok (.iload_n 1, 1) := by decide +kernel
theorem dX6_seen_1 : decode cX6_seen 1 = .ok (.i2l, 1) := by decide +kernel
theorem dX6_seen_2 : decode cX6_seen 2 = .ok (.lconst 0, 1) := by decide +kernel
theorem dX6_seen_3 : decode cX6_seen 3 = .ok (.ldc2_w 188, 3) := by decide +kernel
theorem dX6_seen_6 : decode cX6_seen 6 = .ok (.invokestatic 62, 3) := by decide +kernel
theorem dX6_seen_9 : decode cX6_seen 9 = .ok (.ifCond .eq 15, 3) := by decide +kernel
theorem dX6_seen_12 : decode cX6_seen 12 = .ok (.iload_n 2, 1) := by decide +kernel
theorem dX6_seen_13 : decode cX6_seen 13 = .ok (.i2l, 1) := by decide +kernel
theorem dX6_seen_14 : decode cX6_seen 14 = .ok (.lconst 0, 1) := by decide +kernel
theorem dX6_seen_15 : decode cX6_seen 15 = .ok (.ldc2_w 68, 3) := by decide +kernel
theorem dX6_seen_18 : decode cX6_seen 18 = .ok (.invokestatic 62, 3) := by decide +kernel
theorem dX6_seen_21 : decode cX6_seen 21 = .ok (.ifCond .ne 6, 3) := by decide +kernel
theorem dX6_seen_24 : decode cX6_seen 24 = .ok (.bipush (-2), 2) := by decide +kernel
theorem dX6_seen_26 : decode cX6_seen 26 = .ok (.ireturn, 1) := by decide +kernel
theorem dX6_seen_27 : decode cX6_seen 27 = .ok (.aload_n 0, 1) := by decide +kernel
theorem dX6_seen_28 : decode cX6_seen 28 = .ok (.getfield 190, 3) := by decide +kernel
theorem dX6_seen_31 : decode cX6_seen 31 = .ok (.bipush 6, 2) := by decide +kernel
theorem dX6_seen_33 : decode cX6_seen 33 = .ok (.if_icmp .ne 6, 3) := by decide +kernel
theorem dX6_seen_36 : decode cX6_seen 36 = .ok (.bipush (-4), 2) := by decide +kernel
theorem dX6_seen_38 : decode cX6_seen 38 = .ok (.ireturn, 1) := by decide +kernel
theorem dX6_seen_39 : decode cX6_seen 39 = .ok (.aload_n 0, 1) := by decide +kernel
theorem dX6_seen_40 : decode cX6_seen 40 = .ok (.getfield 16, 3) := by decide +kernel
theorem dX6_seen_43 : decode cX6_seen 43 = .ok (.aload_n 0, 1) := by decide +kernel
theorem dX6_seen_44 : decode cX6_seen 44 = .ok (.getfield 190, 3) := by decide +kernel
theorem dX6_seen_47 : decode cX6_seen 47 = .ok (.iload_n 1, 1) := by decide +kernel
theorem dX6_seen_48 : decode cX6_seen 48 = .ok (.iastore, 1) := by decide +kernel
theorem dX6_seen_49 : decode cX6_seen 49 = .ok (.aload_n 0, 1) := by decide +kernel
theorem dX6_seen_50 : decode cX6_seen 50 = .ok (.getfield 19, 3) := by decide +kernel
theorem dX6_seen_53 : decode cX6_seen 53 = .ok (.aload_n 0, 1) := by decide +kernel
theorem dX6_seen_54 : decode cX6_seen 54 = .ok (.getfield 190, 3) := by decide +kernel
theorem dX6_seen_57 : decode cX6_seen 57 = .ok (.iload_n 2, 1) := by decide +kernel
theorem dX6_seen_58 : decode cX6_seen 58 = .ok (.iastore, 1) := by decide +kernel
theorem dX6_seen_59 : decode cX6_seen 59 = .ok (.aload_n 0, 1) := by decide +kernel
theorem dX6_seen_60 : decode cX6_seen 60 = .ok (.dup, 1) := by decide +kernel
theorem dX6_seen_61 : decode cX6_seen 61 = .ok (.getfield 190, 3) := by decide +kernel
theorem dX6_seen_64 : decode cX6_seen 64 = .ok (.iconst 1, 1) := by decide +kernel
theorem dX6_seen_65 : decode cX6_seen 65 = .ok (.iadd, 1) := by decide +kernel
theorem dX6_seen_66 : decode cX6_seen 66 = .ok (.putfield 190, 3) := by decide +kernel
theorem dX6_seen_69 : decode cX6_seen 69 = .ok (.aload_n 0, 1) := by decide +kernel
theorem dX6_seen_70 : decode cX6_seen 70 = .ok (.getfield 190, 3) := by decide +kernel
theorem dX6_seen_73 : decode cX6_seen 73 = .ok (.ireturn, 1) := by decide +kernel
theorem dX6_forget_0 : decode cX6_forget 0 = .ok (.aload_n 0, 1) := by decide +kernel
theorem dX6_forget_1 : decode cX6_forget 1 = .ok (.getfield 190, 3) := by decide +kernel
theorem dX6_forget_4 : decode cX6_forget 4 = .ok (.istore_n 1, 1) := by decide +kernel
theorem dX6_forget_5 : decode cX6_forget 5 = .ok (.aload_n 0, 1) := by decide +kernel
theorem dX6_forget_6 : decode cX6_forget 6 = .ok (.iconst 0, 1) := by decide +kernel
theorem dX6_forget_7 : decode cX6_forget 7 = .ok (.putfield 190, 3) := by decide +kernel
theorem dX6_forget_10 : decode cX6_forget 10 = .ok (.iload_n 1, 1) := by decide +kernel
theorem dX6_forget_11 : decode cX6_forget 11 = .ok (.ireturn, 1) := by decide +kernel
theorem dX6_fills_0 : decode cX6_fills 0 = .ok (.aload_n 0, 1) := by decide +kernel
theorem dX6_fills_1 : decode cX6_fills 1 = .ok (.invokevirtual 112, 3) := by decide +kernel
theorem dX6_fills_4 : decode cX6_fills 4 = .ok (.iload_n 1, 1) := by decide +kernel
theorem dX6_fills_5 : decode cX6_fills 5 = .ok (.istore_n 2, 1) := by decide +kernel
theorem dX6_fills_6 : decode cX6_fills 6 = .ok (.aload_n 0, 1) := by decide +kernel
theorem dX6_fills_7 : decode cX6_fills 7 = .ok (.invokevirtual 109, 3) := by decide +kernel
theorem dX6_fills_10 : decode cX6_fills 10 = .ok (.istore_n 3, 1) := by decide +kernel
theorem dX6_fills_11 : decode cX6_fills 11 = .ok (.aload_n 0, 1) := by decide +kernel
theorem dX6_fills_12 : decode cX6_fills 12 = .ok (.getfield 82, 3) := by decide +kernel
theorem dX6_fills_15 : decode cX6_fills 15 = .ok (.iconst 1, 1) := by decide +kernel
theorem dX6_fills_16 : decode cX6_fills 16 = .ok (.isub, 1) := by decide +kernel
theorem dX6_fills_17 : decode cX6_fills 17 = .ok (.istore 4, 2) := by decide +kernel
theorem dX6_fills_19 : decode cX6_fills 19 = .ok (.iload 4, 2) := by decide +kernel
theorem dX6_fills_21 : decode cX6_fills 21 = .ok (.ifCond .lt 53, 3) := by decide +kernel
theorem dX6_fills_24 : decode cX6_fills 24 = .ok (.aload_n 0, 1) := by decide +kernel
theorem dX6_fills_25 : decode cX6_fills 25 = .ok (.getfield 22, 3) := by decide +kernel
theorem dX6_fills_28 : decode cX6_fills 28 = .ok (.iload 4, 2) := by decide +kernel
theorem dX6_fills_30 : decode cX6_fills 30 = .ok (.iaload, 1) := by decide +kernel
theorem dX6_fills_31 : decode cX6_fills 31 = .ok (.bipush 63, 2) := by decide +kernel
theorem dX6_fills_33 : decode cX6_fills 33 = .ok (.if_icmp .ne 35, 3) := by decide +kernel
theorem dX6_fills_36 : decode cX6_fills 36 = .ok (.iinc 3 (-1), 3) := by decide +kernel
theorem dX6_fills_39 : decode cX6_fills 39 = .ok (.aload_n 0, 1) := by decide +kernel
theorem dX6_fills_40 : decode cX6_fills 40 = .ok (.getfield 25, 3) := by decide +kernel
theorem dX6_fills_43 : decode cX6_fills 43 = .ok (.iload 4, 2) := by decide +kernel
theorem dX6_fills_45 : decode cX6_fills 45 = .ok (.iload_n 2, 1) := by decide +kernel
theorem dX6_fills_46 : decode cX6_fills 46 = .ok (.bipush 8, 2) := by decide +kernel
theorem dX6_fills_48 : decode cX6_fills 48 = .ok (.irem, 1) := by decide +kernel
theorem dX6_fills_49 : decode cX6_fills 49 = .ok (.iastore, 1) := by decide +kernel
theorem dX6_fills_50 : decode cX6_fills 50 = .ok (.aload_n 0, 1) := by decide +kernel
theorem dX6_fills_51 : decode cX6_fills 51 = .ok (.getfield 46, 3) := by decide +kernel
theorem dX6_fills_54 : decode cX6_fills 54 = .ok (.iload_n 3, 1) := by decide +kernel
theorem dX6_fills_55 : decode cX6_fills 55 = .ok (.aload_n 0, 1) := by decide +kernel
theorem dX6_fills_56 : decode cX6_fills 56 = .ok (.getfield 25, 3) := by decide +kernel
theorem dX6_fills_59 : decode cX6_fills 59 = .ok (.iload 4, 2) := by decide +kernel
theorem dX6_fills_61 : decode cX6_fills 61 = .ok (.iaload, 1) := by decide +kernel
theorem dX6_fills_62 : decode cX6_fills 62 = .ok (.iastore, 1) := by decide +kernel
theorem dX6_fills_63 : decode cX6_fills 63 = .ok (.iload_n 2, 1) := by decide +kernel
theorem dX6_fills_64 : decode cX6_fills 64 = .ok (.bipush 8, 2) := by decide +kernel
theorem dX6_fills_66 : decode cX6_fills 66 = .ok (.idiv, 1) := by decide +kernel
theorem dX6_fills_67 : decode cX6_fills 67 = .ok (.istore_n 2, 1) := by decide +kernel
theorem dX6_fills_68 : decode cX6_fills 68 = .ok (.iinc 4 (-1), 3) := by decide +kernel
theorem dX6_fills_71 : decode cX6_fills 71 = .ok (.goto (-52), 3) := by decide +kernel
theorem dX6_fills_74 : decode cX6_fills 74 = .ok (.aload_n 0, 1) := by decide +kernel
theorem dX6_fills_75 : decode cX6_fills 75 = .ok (.invokevirtual 115, 3) := by decide +kernel
theorem dX6_fills_78 : decode cX6_fills 78 = .ok (.istore 4, 2) := by decide +kernel
theorem dX6_fills_80 : decode cX6_fills 80 = .ok (.iconst 0, 1) := by decide +kernel
theorem dX6_fills_81 : decode cX6_fills 81 = .ok (.istore 5, 2) := by decide +kernel
theorem dX6_fills_83 : decode cX6_fills 83 = .ok (.iload 5, 2) := by decide +kernel
theorem dX6_fills_85 : decode cX6_fills 85 = .ok (.aload_n 0, 1) := by decide +kernel
theorem dX6_fills_86 : decode cX6_fills 86 = .ok (.getfield 190, 3) := by decide +kernel
theorem dX6_fills_89 : decode cX6_fills 89 = .ok (.if_icmp .ge 60, 3) := by decide +kernel
theorem dX6_fills_92 : decode cX6_fills 92 = .ok (.iload 4, 2) := by decide +kernel
theorem dX6_fills_94 : decode cX6_fills 94 = .ok (.ifCond .eq 55, 3) := by decide +kernel
theorem dX6_fills_97 : decode cX6_fills 97 = .ok (.aload_n 0, 1) := by decide +kernel
theorem dX6_fills_98 : decode cX6_fills 98 = .ok (.getfield 16, 3) := by decide +kernel
theorem dX6_fills_101 : decode cX6_fills 101 = .ok (.iload 5, 2) := by decide +kernel
theorem dX6_fills_103 : decode cX6_fills 103 = .ok (.iaload, 1) := by decide +kernel
theorem dX6_fills_104 : decode cX6_fills 104 = .ok (.aload_n 0, 1) := by decide +kernel
theorem dX6_fills_105 : decode cX6_fills 105 = .ok (.getfield 93, 3) := by decide +kernel
theorem dX6_fills_108 : decode cX6_fills 108 = .ok (.if_icmp .ge 32, 3) := by decide +kernel
theorem dX6_fills_111 : decode cX6_fills 111 = .ok (.aload_n 0, 1) := by decide +kernel
theorem dX6_fills_112 : decode cX6_fills 112 = .ok (.getfield 28, 3) := by decide +kernel
theorem dX6_fills_115 : decode cX6_fills 115 = .ok (.aload_n 0, 1) := by decide +kernel
theorem dX6_fills_116 : decode cX6_fills 116 = .ok (.getfield 16, 3) := by decide +kernel
theorem dX6_fills_119 : decode cX6_fills 119 = .ok (.iload 5, 2) := by decide +kernel
theorem dX6_fills_121 : decode cX6_fills 121 = .ok (.iaload, 1) := by decide +kernel
theorem dX6_fills_122 : decode cX6_fills 122 = .ok (.iaload, 1) := by decide +kernel
theorem dX6_fills_123 : decode cX6_fills 123 = .ok (.invokestatic 119, 3) := by decide +kernel
theorem dX6_fills_126 : decode cX6_fills 126 = .ok (.aload_n 0, 1) := by decide +kernel
theorem dX6_fills_127 : decode cX6_fills 127 = .ok (.getfield 19, 3) := by decide +kernel
theorem dX6_fills_130 : decode cX6_fills 130 = .ok (.iload 5, 2) := by decide +kernel
theorem dX6_fills_132 : decode cX6_fills 132 = .ok (.iaload, 1) := by decide +kernel
theorem dX6_fills_133 : decode cX6_fills 133 = .ok (.if_icmp .ne 7, 3) := by decide +kernel
theorem dX6_fills_136 : decode cX6_fills 136 = .ok (.iconst 1, 1) := by decide +kernel
theorem dX6_fills_137 : decode cX6_fills 137 = .ok (.goto 4, 3) := by decide +kernel
theorem dX6_fills_140 : decode cX6_fills 140 = .ok (.iconst 0, 1) := by decide +kernel
theorem dX6_fills_141 : decode cX6_fills 141 = .ok (.istore 4, 2) := by decide +kernel
theorem dX6_fills_143 : decode cX6_fills 143 = .ok (.iinc 5 1, 3) := by decide +kernel
theorem dX6_fills_146 : decode cX6_fills 146 = .ok (.goto (-63), 3) := by decide +kernel
theorem dX6_fills_149 : decode cX6_fills 149 = .ok (.iload 4, 2) := by decide +kernel
theorem dX6_fills_151 : decode cX6_fills 151 = .ok (.ireturn, 1) := by decide +kernel
theorem dX6_ways_0 : decode cX6_ways 0 = .ok (.iconst 1, 1) := by decide +kernel
theorem dX6_ways_1 : decode cX6_ways 1 = .ok (.iconst 3, 1) := by decide +kernel
theorem dX6_ways_2 : decode cX6_ways 2 = .ok (.aload_n 0, 1) := by decide +kernel
theorem dX6_ways_3 : decode cX6_ways 3 = .ok (.invokevirtual 109, 3) := by decide +kernel
theorem dX6_ways_6 : decode cX6_ways 6 = .ok (.imul, 1) := by decide +kernel
theorem dX6_ways_7 : decode cX6_ways 7 = .ok (.ishl, 1) := by decide +kernel
theorem dX6_ways_8 : decode cX6_ways 8 = .ok (.ireturn, 1) := by decide +kernel
theorem dX6_fits_0 : decode cX6_fits 0 = .ok (.aload_n 0, 1) := by decide +kernel
theorem dX6_fits_1 : decode cX6_fits 1 = .ok (.invokevirtual 105, 3) := by decide +kernel
theorem dX6_fits_4 : decode cX6_fits 4 = .ok (.ifCond .lt 6, 3) := by decide +kernel
theorem dX6_fits_7 : decode cX6_fits 7 = .ok (.bipush (-5), 2) := by decide +kernel
theorem dX6_fits_9 : decode cX6_fits 9 = .ok (.ireturn, 1) := by decide +kernel
theorem dX6_fits_10 : decode cX6_fits 10 = .ok (.iconst 0, 1) := by decide +kernel
theorem dX6_fits_11 : decode cX6_fits 11 = .ok (.istore_n 2, 1) := by decide +kernel
theorem dX6_fits_12 : decode cX6_fits 12 = .ok (.aload_n 0, 1) := by decide +kernel
theorem dX6_fits_13 : decode cX6_fits 13 = .ok (.invokevirtual 193, 3) := by decide +kernel
theorem dX6_fits_16 : decode cX6_fits 16 = .ok (.istore_n 3, 1) := by decide +kernel
theorem dX6_fits_17 : decode cX6_fits 17 = .ok (.iconst 0, 1) := by decide +kernel
theorem dX6_fits_18 : decode cX6_fits 18 = .ok (.istore 4, 2) := by decide +kernel
theorem dX6_fits_20 : decode cX6_fits 20 = .ok (.iload 4, 2) := by decide +kernel
theorem dX6_fits_22 : decode cX6_fits 22 = .ok (.iload_n 3, 1) := by decide +kernel
theorem dX6_fits_23 : decode cX6_fits 23 = .ok (.if_icmp .ge 54, 3) := by decide +kernel
theorem dX6_fits_26 : decode cX6_fits 26 = .ok (.aload_n 0, 1) := by decide +kernel
theorem dX6_fits_27 : decode cX6_fits 27 = .ok (.iload 4, 2) := by decide +kernel
theorem dX6_fits_29 : decode cX6_fits 29 = .ok (.invokevirtual 196, 3) := by decide +kernel
theorem dX6_fits_32 : decode cX6_fits 32 = .ok (.ifCond .eq 39, 3) := by decide +kernel
theorem dX6_fits_35 : decode cX6_fits 35 = .ok (.iload_n 1, 1) := by decide +kernel
theorem dX6_fits_36 : decode cX6_fits 36 = .ok (.iconst (-1), 1) := by decide +kernel
theorem dX6_fits_37 : decode cX6_fits 37 = .ok (.if_icmp .eq 31, 3) := by decide +kernel
theorem dX6_fits_40 : decode cX6_fits 40 = .ok (.iload_n 1, 1) := by decide +kernel
theorem dX6_fits_41 : decode cX6_fits 41 = .ok (.i2l, 1) := by decide +kernel
theorem dX6_fits_42 : decode cX6_fits 42 = .ok (.lconst 0, 1) := by decide +kernel
theorem dX6_fits_43 : decode cX6_fits 43 = .ok (.aload_n 0, 1) := by decide +kernel
theorem dX6_fits_44 : decode cX6_fits 44 = .ok (.invokevirtual 109, 3) := by decide +kernel
theorem dX6_fits_47 : decode cX6_fits 47 = .ok (.iconst 1, 1) := by decide +kernel
theorem dX6_fits_48 : decode cX6_fits 48 = .ok (.isub, 1) := by decide +kernel
theorem dX6_fits_49 : decode cX6_fits 49 = .ok (.i2l, 1) := by decide +kernel
theorem dX6_fits_50 : decode cX6_fits 50 = .ok (.invokestatic 62, 3) := by decide +kernel
theorem dX6_fits_53 : decode cX6_fits 53 = .ok (.ifCond .eq 12, 3) := by decide +kernel
theorem dX6_fits_56 : decode cX6_fits 56 = .ok (.aload_n 0, 1) := by decide +kernel
theorem dX6_fits_57 : decode cX6_fits 57 = .ok (.getfield 46, 3) := by decide +kernel
theorem dX6_fits_60 : decode cX6_fits 60 = .ok (.iload_n 1, 1) := by decide +kernel
theorem dX6_fits_61 : decode cX6_fits 61 = .ok (.iaload, 1) := by decide +kernel
theorem dX6_fits_62 : decode cX6_fits 62 = .ok (.goto 5, 3) := by decide +kernel
theorem dX6_fits_65 : decode cX6_fits 65 = .ok (.bipush (-6), 2) := by decide +kernel
theorem dX6_fits_67 : decode cX6_fits 67 = .ok (.ireturn, 1) := by decide +kernel
theorem dX6_fits_68 : decode cX6_fits 68 = .ok (.iinc 2 1, 3) := by decide +kernel
theorem dX6_fits_71 : decode cX6_fits 71 = .ok (.iinc 4 1, 3) := by decide +kernel
theorem dX6_fits_74 : decode cX6_fits 74 = .ok (.goto (-54), 3) := by decide +kernel
theorem dX6_fits_77 : decode cX6_fits 77 = .ok (.iload_n 1, 1) := by decide +kernel
theorem dX6_fits_78 : decode cX6_fits 78 = .ok (.iconst (-1), 1) := by decide +kernel
theorem dX6_fits_79 : decode cX6_fits 79 = .ok (.if_icmp .ne 7, 3) := by decide +kernel
theorem dX6_fits_82 : decode cX6_fits 82 = .ok (.iload_n 2, 1) := by decide +kernel
theorem dX6_fits_83 : decode cX6_fits 83 = .ok (.goto 5, 3) := by decide +kernel
theorem dX6_fits_86 : decode cX6_fits 86 = .ok (.bipush (-6), 2) := by decide +kernel
theorem dX6_fits_88 : decode cX6_fits 88 = .ok (.ireturn, 1) := by decide +kernel
theorem dX6_could_0 : decode cX6_could 0 = .ok (.aload_n 0, 1) := by decide +kernel
theorem dX6_could_1 : decode cX6_could 1 = .ok (.invokevirtual 105, 3) := by decide +kernel
theorem dX6_could_4 : decode cX6_could 4 = .ok (.ifCond .lt 6, 3) := by decide +kernel
theorem dX6_could_7 : decode cX6_could 7 = .ok (.bipush (-5), 2) := by decide +kernel
theorem dX6_could_9 : decode cX6_could 9 = .ok (.ireturn, 1) := by decide +kernel
theorem dX6_could_10 : decode cX6_could 10 = .ok (.iload_n 1, 1) := by decide +kernel
theorem dX6_could_11 : decode cX6_could 11 = .ok (.i2l, 1) := by decide +kernel
theorem dX6_could_12 : decode cX6_could 12 = .ok (.lconst 0, 1) := by decide +kernel
theorem dX6_could_13 : decode cX6_could 13 = .ok (.aload_n 0, 1) := by decide +kernel
theorem dX6_could_14 : decode cX6_could 14 = .ok (.invokevirtual 109, 3) := by decide +kernel
theorem dX6_could_17 : decode cX6_could 17 = .ok (.iconst 1, 1) := by decide +kernel
theorem dX6_could_18 : decode cX6_could 18 = .ok (.isub, 1) := by decide +kernel
theorem dX6_could_19 : decode cX6_could 19 = .ok (.i2l, 1) := by decide +kernel
theorem dX6_could_20 : decode cX6_could 20 = .ok (.invokestatic 62, 3) := by decide +kernel
theorem dX6_could_23 : decode cX6_could 23 = .ok (.ifCond .ne 6, 3) := by decide +kernel
theorem dX6_could_26 : decode cX6_could 26 = .ok (.bipush (-6), 2) := by decide +kernel
theorem dX6_could_28 : decode cX6_could 28 = .ok (.ireturn, 1) := by decide +kernel
theorem dX6_could_29 : decode cX6_could 29 = .ok (.iconst 0, 1) := by decide +kernel
theorem dX6_could_30 : decode cX6_could 30 = .ok (.istore_n 2, 1) := by decide +kernel
theorem dX6_could_31 : decode cX6_could 31 = .ok (.aload_n 0, 1) := by decide +kernel
theorem dX6_could_32 : decode cX6_could 32 = .ok (.invokevirtual 193, 3) := by decide +kernel
theorem dX6_could_35 : decode cX6_could 35 = .ok (.istore_n 3, 1) := by decide +kernel
theorem dX6_could_36 : decode cX6_could 36 = .ok (.iconst 0, 1) := by decide +kernel
theorem dX6_could_37 : decode cX6_could 37 = .ok (.istore 4, 2) := by decide +kernel
theorem dX6_could_39 : decode cX6_could 39 = .ok (.iload 4, 2) := by decide +kernel
theorem dX6_could_41 : decode cX6_could 41 = .ok (.iload_n 3, 1) := by decide +kernel
theorem dX6_could_42 : decode cX6_could 42 = .ok (.if_icmp .ge 33, 3) := by decide +kernel
theorem dX6_could_45 : decode cX6_could 45 = .ok (.iload_n 2, 1) := by decide +kernel
theorem dX6_could_46 : decode cX6_could 46 = .ok (.aload_n 0, 1) := by decide +kernel
theorem dX6_could_47 : decode cX6_could 47 = .ok (.iload 4, 2) := by decide +kernel
theorem dX6_could_49 : decode cX6_could 49 = .ok (.invokevirtual 196, 3) := by decide +kernel
theorem dX6_could_52 : decode cX6_could 52 = .ok (.ifCond .eq 14, 3) := by decide +kernel
theorem dX6_could_55 : decode cX6_could 55 = .ok (.iconst 1, 1) := by decide +kernel
theorem dX6_could_56 : decode cX6_could 56 = .ok (.aload_n 0, 1) := by decide +kernel
theorem dX6_could_57 : decode cX6_could 57 = .ok (.getfield 46, 3) := by decide +kernel
theorem dX6_could_60 : decode cX6_could 60 = .ok (.iload_n 1, 1) := by decide +kernel
theorem dX6_could_61 : decode cX6_could 61 = .ok (.iaload, 1) := by decide +kernel
theorem dX6_could_62 : decode cX6_could 62 = .ok (.ishl, 1) := by decide +kernel
theorem dX6_could_63 : decode cX6_could 63 = .ok (.goto 4, 3) := by decide +kernel
theorem dX6_could_66 : decode cX6_could 66 = .ok (.iconst 0, 1) := by decide +kernel
theorem dX6_could_67 : decode cX6_could 67 = .ok (.ior, 1) := by decide +kernel
theorem dX6_could_68 : decode cX6_could 68 = .ok (.istore_n 2, 1) := by decide +kernel
theorem dX6_could_69 : decode cX6_could 69 = .ok (.iinc 4 1, 3) := by decide +kernel
theorem dX6_could_72 : decode cX6_could 72 = .ok (.goto (-33), 3) := by decide +kernel
theorem dX6_could_75 : decode cX6_could 75 = .ok (.iload_n 2, 1) := by decide +kernel
theorem dX6_could_76 : decode cX6_could 76 = .ok (.ireturn, 1) := by decide +kernel
theorem dX6_evening_0 : decode cX6_evening 0 = .ok (.iload_n 1, 1) := by decide +kernel
theorem dX6_evening_1 : decode cX6_evening 1 = .ok (.i2l, 1) := by decide +kernel
theorem dX6_evening_2 : decode cX6_evening 2 = .ok (.lconst 0, 1) := by decide +kernel
theorem dX6_evening_3 : decode cX6_evening 3 = .ok (.ldc2_w 199, 3) := by decide +kernel
theorem dX6_evening_6 : decode cX6_evening 6 = .ok (.invokestatic 62, 3) := by decide +kernel
theorem dX6_evening_9 : decode cX6_evening 9 = .ok (.ifCond .eq 27, 3) := by decide +kernel
theorem dX6_evening_12 : decode cX6_evening 12 = .ok (.iload_n 2, 1) := by decide +kernel
theorem dX6_evening_13 : decode cX6_evening 13 = .ok (.i2l, 1) := by decide +kernel
theorem dX6_evening_14 : decode cX6_evening 14 = .ok (.lconst 1, 1) := by decide +kernel
theorem dX6_evening_15 : decode cX6_evening 15 = .ok (.ldc2_w 201, 3) := by decide +kernel
theorem dX6_evening_18 : decode cX6_evening 18 = .ok (.invokestatic 62, 3) := by decide +kernel
theorem dX6_evening_21 : decode cX6_evening 21 = .ok (.ifCond .eq 15, 3) := by decide +kernel
theorem dX6_evening_24 : decode cX6_evening 24 = .ok (.iload_n 3, 1) := by decide +kernel
theorem dX6_evening_25 : decode cX6_evening 25 = .ok (.i2l, 1) := by decide +kernel
theorem dX6_evening_26 : decode cX6_evening 26 = .ok (.lconst 0, 1) := by decide +kernel
theorem dX6_evening_27 : decode cX6_evening 27 = .ok (.ldc2_w 66, 3) := by decide +kernel
theorem dX6_evening_30 : decode cX6_evening 30 = .ok (.invokestatic 62, 3) := by decide +kernel
theorem dX6_evening_33 : decode cX6_evening 33 = .ok (.ifCond .ne 6, 3) := by decide +kernel
theorem dX6_evening_36 : decode cX6_evening 36 = .ok (.bipush (-2), 2) := by decide +kernel
theorem dX6_evening_38 : decode cX6_evening 38 = .ok (.ireturn, 1) := by decide +kernel
theorem dX6_evening_39 : decode cX6_evening 39 = .ok (.iload_n 1, 1) := by decide +kernel
theorem dX6_evening_40 : decode cX6_evening 40 = .ok (.istore 4, 2) := by decide +kernel
theorem dX6_evening_42 : decode cX6_evening 42 = .ok (.iconst 0, 1) := by decide +kernel
theorem dX6_evening_43 : decode cX6_evening 43 = .ok (.istore 5, 2) := by decide +kernel
theorem dX6_evening_45 : decode cX6_evening 45 = .ok (.iconst 0, 1) := by decide +kernel
theorem dX6_evening_46 : decode cX6_evening 46 = .ok (.istore 6, 2) := by decide +kernel
theorem dX6_evening_48 : decode cX6_evening 48 = .ok (.iconst 0, 1) := by decide +kernel
theorem dX6_evening_49 : decode cX6_evening 49 = .ok (.istore 7, 2) := by decide +kernel
theorem dX6_evening_51 : decode cX6_evening 51 = .ok (.bipush (-6), 2) := by decide +kernel
theorem dX6_evening_53 : decode cX6_evening 53 = .ok (.istore 8, 2) := by decide +kernel
theorem dX6_evening_55 : decode cX6_evening 55 = .ok (.iconst 0, 1) := by decide +kernel
theorem dX6_evening_56 : decode cX6_evening 56 = .ok (.istore 9, 2) := by decide +kernel
theorem dX6_evening_58 : decode cX6_evening 58 = .ok (.iload 9, 2) := by decide +kernel
theorem dX6_evening_60 : decode cX6_evening 60 = .ok (.iload_n 2, 1) := by decide +kernel
theorem dX6_evening_61 : decode cX6_evening 61 = .ok (.if_icmp .ge 87, 3) := by decide +kernel
theorem dX6_evening_64 : decode cX6_evening 64 = .ok (.ldc2_w 203, 3) := by decide +kernel
theorem dX6_evening_67 : decode cX6_evening 67 = .ok (.iload 4, 2) := by decide +kernel
theorem dX6_evening_69 : decode cX6_evening 69 = .ok (.i2l, 1) := by decide +kernel
theorem dX6_evening_70 : decode cX6_evening 70 = .ok (.lmul, 1) := by decide +kernel
theorem dX6_evening_71 : decode cX6_evening 71 = .ok (.ldc2_w 205, 3) := by decide +kernel
theorem dX6_evening_74 : decode cX6_evening 74 = .ok (.ladd, 1) := by decide +kernel
theorem dX6_evening_75 : decode cX6_evening 75 = .ok (.ldc2_w 207, 3) := by decide +kernel
theorem dX6_evening_78 : decode cX6_evening 78 = .ok (.lrem, 1) := by decide +kernel
theorem dX6_evening_79 : decode cX6_evening 79 = .ok (.l2i, 1) := by decide +kernel
theorem dX6_evening_80 : decode cX6_evening 80 = .ok (.istore 4, 2) := by decide +kernel
theorem dX6_evening_82 : decode cX6_evening 82 = .ok (.iload 5, 2) := by decide +kernel
theorem dX6_evening_84 : decode cX6_evening 84 = .ok (.iconst 1, 1) := by decide +kernel
theorem dX6_evening_85 : decode cX6_evening 85 = .ok (.iload 4, 2) := by decide +kernel
theorem dX6_evening_87 : decode cX6_evening 87 = .ok (.bipush 8, 2) := by decide +kernel
theorem dX6_evening_89 : decode cX6_evening 89 = .ok (.irem, 1) := by decide +kernel
theorem dX6_evening_90 : decode cX6_evening 90 = .ok (.ishl, 1) := by decide +kernel
theorem dX6_evening_91 : decode cX6_evening 91 = .ok (.ixor, 1) := by decide +kernel
theorem dX6_evening_92 : decode cX6_evening 92 = .ok (.istore 5, 2) := by decide +kernel
theorem dX6_evening_94 : decode cX6_evening 94 = .ok (.iload 5, 2) := by decide +kernel
theorem dX6_evening_96 : decode cX6_evening 96 = .ok (.invokestatic 119, 3) := by decide +kernel
theorem dX6_evening_99 : decode cX6_evening 99 = .ok (.istore 10, 2) := by decide +kernel
theorem dX6_evening_101 : decode cX6_evening 101 = .ok (.iload 6, 2) := by decide +kernel
theorem dX6_evening_103 : decode cX6_evening 103 = .ok (.aload_n 0, 1) := by decide +kernel
theorem dX6_evening_104 : decode cX6_evening 104 = .ok (.iload 10, 2) := by decide +kernel
theorem dX6_evening_106 : decode cX6_evening 106 = .ok (.iload 8, 2) := by decide +kernel
theorem dX6_evening_108 : decode cX6_evening 108 = .ok (.invokevirtual 123, 3) := by decide +kernel
theorem dX6_evening_111 : decode cX6_evening 111 = .ok (.ifCond .eq 7, 3) := by decide +kernel
theorem dX6_evening_114 : decode cX6_evening 114 = .ok (.iconst 1, 1) := by decide +kernel
theorem dX6_evening_115 : decode cX6_evening 115 = .ok (.goto 4, 3) := by decide +kernel
theorem dX6_evening_118 : decode cX6_evening 118 = .ok (.iconst 0, 1) := by decide +kernel
theorem dX6_evening_119 : decode cX6_evening 119 = .ok (.iadd, 1) := by decide +kernel
theorem dX6_evening_120 : decode cX6_evening 120 = .ok (.istore 6, 2) := by decide +kernel
theorem dX6_evening_122 : decode cX6_evening 122 = .ok (.iload 10, 2) := by decide +kernel
theorem dX6_evening_124 : decode cX6_evening 124 = .ok (.iload 7, 2) := by decide +kernel
theorem dX6_evening_126 : decode cX6_evening 126 = .ok (.if_icmp .le 8, 3) := by decide +kernel
theorem dX6_evening_129 : decode cX6_evening 129 = .ok (.iload 10, 2) := by decide +kernel
theorem dX6_evening_131 : decode cX6_evening 131 = .ok (.goto 5, 3) := by decide +kernel
theorem dX6_evening_134 : decode cX6_evening 134 = .ok (.iload 7, 2) := by decide +kernel
theorem dX6_evening_136 : decode cX6_evening 136 = .ok (.istore 7, 2) := by decide +kernel
theorem dX6_evening_138 : decode cX6_evening 138 = .ok (.iload 10, 2) := by decide +kernel
theorem dX6_evening_140 : decode cX6_evening 140 = .ok (.istore 8, 2) := by decide +kernel
theorem dX6_evening_142 : decode cX6_evening 142 = .ok (.iinc 9 1, 3) := by decide +kernel
theorem dX6_evening_145 : decode cX6_evening 145 = .ok (.goto (-87), 3) := by decide +kernel
theorem dX6_evening_148 : decode cX6_evening 148 = .ok (.iload_n 3, 1) := by decide +kernel
theorem dX6_evening_149 : decode cX6_evening 149 = .ok (.ifCond .ne 8, 3) := by decide +kernel
theorem dX6_evening_152 : decode cX6_evening 152 = .ok (.iload 6, 2) := by decide +kernel
theorem dX6_evening_154 : decode cX6_evening 154 = .ok (.goto 18, 3) := by decide +kernel
theorem dX6_evening_157 : decode cX6_evening 157 = .ok (.iload_n 3, 1) := by decide +kernel
theorem dX6_evening_158 : decode cX6_evening 158 = .ok (.iconst 1, 1) := by decide +kernel
theorem dX6_evening_159 : decode cX6_evening 159 = .ok (.if_icmp .ne 11, 3) := by decide +kernel
theorem dX6_evening_162 : decode cX6_evening 162 = .ok (.iload 5, 2) := by decide +kernel
theorem dX6_evening_164 : decode cX6_evening 164 = .ok (.invokestatic 119, 3) := by decide +kernel
theorem dX6_evening_167 : decode cX6_evening 167 = .ok (.goto 5, 3) := by decide +kernel
theorem dX6_evening_170 : decode cX6_evening 170 = .ok (.iload 7, 2) := by decide +kernel
theorem dX6_evening_172 : decode cX6_evening 172 = .ok (.ireturn, 1) := by decide +kernel
theorem dX6_pass_0 : decode cX6_pass 0 = .ok (.aload_n 0, 1) := by decide +kernel
theorem dX6_pass_1 : decode cX6_pass 1 = .ok (.getfield 209, 3) := by decide +kernel
theorem dX6_pass_4 : decode cX6_pass 4 = .ok (.ifCond .eq 7, 3) := by decide +kernel
theorem dX6_pass_7 : decode cX6_pass 7 = .ok (.iload_n 1, 1) := by decide +kernel
theorem dX6_pass_8 : decode cX6_pass 8 = .ok (.goto 12, 3) := by decide +kernel
theorem dX6_pass_11 : decode cX6_pass 11 = .ok (.aload_n 0, 1) := by decide +kernel
theorem dX6_pass_12 : decode cX6_pass 12 = .ok (.getfield 49, 3) := by decide +kernel
theorem dX6_pass_15 : decode cX6_pass 15 = .ok (.aload_n 0, 1) := by decide +kernel
theorem dX6_pass_16 : decode cX6_pass 16 = .ok (.getfield 213, 3) := by decide +kernel
theorem dX6_pass_19 : decode cX6_pass 19 = .ok (.iaload, 1) := by decide +kernel
theorem dX6_pass_20 : decode cX6_pass 20 = .ok (.istore_n 2, 1) := by decide +kernel
theorem dX6_pass_21 : decode cX6_pass 21 = .ok (.aload_n 0, 1) := by decide +kernel
theorem dX6_pass_22 : decode cX6_pass 22 = .ok (.getfield 49, 3) := by decide +kernel
theorem dX6_pass_25 : decode cX6_pass 25 = .ok (.aload_n 0, 1) := by decide +kernel
theorem dX6_pass_26 : decode cX6_pass 26 = .ok (.getfield 213, 3) := by decide +kernel
theorem dX6_pass_29 : decode cX6_pass 29 = .ok (.iload_n 2, 1) := by decide +kernel
theorem dX6_pass_30 : decode cX6_pass 30 = .ok (.iastore, 1) := by decide +kernel
theorem dX6_pass_31 : decode cX6_pass 31 = .ok (.aload_n 0, 1) := by decide +kernel
theorem dX6_pass_32 : decode cX6_pass 32 = .ok (.dup, 1) := by decide +kernel
theorem dX6_pass_33 : decode cX6_pass 33 = .ok (.getfield 213, 3) := by decide +kernel
theorem dX6_pass_36 : decode cX6_pass 36 = .ok (.iconst 1, 1) := by decide +kernel
theorem dX6_pass_37 : decode cX6_pass 37 = .ok (.iadd, 1) := by decide +kernel
theorem dX6_pass_38 : decode cX6_pass 38 = .ok (.putfield 213, 3) := by decide +kernel
theorem dX6_pass_41 : decode cX6_pass 41 = .ok (.iload_n 2, 1) := by decide +kernel
theorem dX6_pass_42 : decode cX6_pass 42 = .ok (.ireturn, 1) := by decide +kernel
theorem dX6_passAll_0 : decode cX6_passAll 0 = .ok (.aload_n 0, 1) := by decide +kernel
theorem dX6_passAll_1 : decode cX6_passAll 1 = .ok (.aload_n 0, 1) := by decide +kernel
theorem dX6_passAll_2 : decode cX6_passAll 2 = .ok (.aload_n 0, 1) := by decide +kernel
theorem dX6_passAll_3 : decode cX6_passAll 3 = .ok (.getfield 72, 3) := by decide +kernel
theorem dX6_passAll_6 : decode cX6_passAll 6 = .ok (.invokevirtual 216, 3) := by decide +kernel
theorem dX6_passAll_9 : decode cX6_passAll 9 = .ok (.putfield 72, 3) := by decide +kernel
theorem dX6_passAll_12 : decode cX6_passAll 12 = .ok (.aload_n 0, 1) := by decide +kernel
theorem dX6_passAll_13 : decode cX6_passAll 13 = .ok (.aload_n 0, 1) := by decide +kernel
theorem dX6_passAll_14 : decode cX6_passAll 14 = .ok (.aload_n 0, 1) := by decide +kernel
theorem dX6_passAll_15 : decode cX6_passAll 15 = .ok (.getfield 56, 3) := by decide +kernel
theorem dX6_passAll_18 : decode cX6_passAll 18 = .ok (.invokevirtual 216, 3) := by decide +kernel
theorem dX6_passAll_21 : decode cX6_passAll 21 = .ok (.putfield 56, 3) := by decide +kernel
theorem dX6_passAll_24 : decode cX6_passAll 24 = .ok (.aload_n 0, 1) := by decide +kernel
theorem dX6_passAll_25 : decode cX6_passAll 25 = .ok (.aload_n 0, 1) := by decide +kernel
theorem dX6_passAll_26 : decode cX6_passAll 26 = .ok (.aload_n 0, 1) := by decide +kernel
theorem dX6_passAll_27 : decode cX6_passAll 27 = .ok (.getfield 75, 3) := by decide +kernel
theorem dX6_passAll_30 : decode cX6_passAll 30 = .ok (.invokevirtual 216, 3) := by decide +kernel
theorem dX6_passAll_33 : decode cX6_passAll 33 = .ok (.putfield 75, 3) := by decide +kernel
theorem dX6_passAll_36 : decode cX6_passAll 36 = .ok (.aload_n 0, 1) := by decide +kernel
theorem dX6_passAll_37 : decode cX6_passAll 37 = .ok (.aload_n 0, 1) := by decide +kernel
theorem dX6_passAll_38 : decode cX6_passAll 38 = .ok (.aload_n 0, 1) := by decide +kernel
theorem dX6_passAll_39 : decode cX6_passAll 39 = .ok (.getfield 179, 3) := by decide +kernel
theorem dX6_passAll_42 : decode cX6_passAll 42 = .ok (.invokevirtual 216, 3) := by decide +kernel
theorem dX6_passAll_45 : decode cX6_passAll 45 = .ok (.putfield 179, 3) := by decide +kernel
theorem dX6_passAll_48 : decode cX6_passAll 48 = .ok (.aload_n 0, 1) := by decide +kernel
theorem dX6_passAll_49 : decode cX6_passAll 49 = .ok (.aload_n 0, 1) := by decide +kernel
theorem dX6_passAll_50 : decode cX6_passAll 50 = .ok (.aload_n 0, 1) := by decide +kernel
theorem dX6_passAll_51 : decode cX6_passAll 51 = .ok (.getfield 190, 3) := by decide +kernel
theorem dX6_passAll_54 : decode cX6_passAll 54 = .ok (.invokevirtual 216, 3) := by decide +kernel
theorem dX6_passAll_57 : decode cX6_passAll 57 = .ok (.putfield 190, 3) := by decide +kernel
theorem dX6_passAll_60 : decode cX6_passAll 60 = .ok (.iconst 0, 1) := by decide +kernel
theorem dX6_passAll_61 : decode cX6_passAll 61 = .ok (.istore_n 1, 1) := by decide +kernel
theorem dX6_passAll_62 : decode cX6_passAll 62 = .ok (.iload_n 1, 1) := by decide +kernel
theorem dX6_passAll_63 : decode cX6_passAll 63 = .ok (.bipush 64, 2) := by decide +kernel
theorem dX6_passAll_65 : decode cX6_passAll 65 = .ok (.if_icmp .ge 25, 3) := by decide +kernel
theorem dX6_passAll_68 : decode cX6_passAll 68 = .ok (.aload_n 0, 1) := by decide +kernel
theorem dX6_passAll_69 : decode cX6_passAll 69 = .ok (.getfield 7, 3) := by decide +kernel
theorem dX6_passAll_72 : decode cX6_passAll 72 = .ok (.iload_n 1, 1) := by decide +kernel
theorem dX6_passAll_73 : decode cX6_passAll 73 = .ok (.aload_n 0, 1) := by decide +kernel
theorem dX6_passAll_74 : decode cX6_passAll 74 = .ok (.aload_n 0, 1) := by decide +kernel
theorem dX6_passAll_75 : decode cX6_passAll 75 = .ok (.getfield 7, 3) := by decide +kernel
theorem dX6_passAll_78 : decode cX6_passAll 78 = .ok (.iload_n 1, 1) := by decide +kernel
theorem dX6_passAll_79 : decode cX6_passAll 79 = .ok (.iaload, 1) := by decide +kernel
theorem dX6_passAll_80 : decode cX6_passAll 80 = .ok (.invokevirtual 216, 3) := by decide +kernel
theorem dX6_passAll_83 : decode cX6_passAll 83 = .ok (.iastore, 1) := by decide +kernel
theorem dX6_passAll_84 : decode cX6_passAll 84 = .ok (.iinc 1 1, 3) := by decide +kernel
theorem dX6_passAll_87 : decode cX6_passAll 87 = .ok (.goto (-25), 3) := by decide +kernel
theorem dX6_passAll_90 : decode cX6_passAll 90 = .ok (.iconst 0, 1) := by decide +kernel
theorem dX6_passAll_91 : decode cX6_passAll 91 = .ok (.istore_n 1, 1) := by decide +kernel
theorem dX6_passAll_92 : decode cX6_passAll 92 = .ok (.iload_n 1, 1) := by decide +kernel
theorem dX6_passAll_93 : decode cX6_passAll 93 = .ok (.bipush 6, 2) := by decide +kernel
theorem dX6_passAll_95 : decode cX6_passAll 95 = .ok (.if_icmp .ge 57, 3) := by decide +kernel
theorem dX6_passAll_98 : decode cX6_passAll 98 = .ok (.aload_n 0, 1) := by decide +kernel
theorem dX6_passAll_99 : decode cX6_passAll 99 = .ok (.getfield 13, 3) := by decide +kernel
theorem dX6_passAll_102 : decode cX6_passAll 102 = .ok (.iload_n 1, 1) := by decide +kernel
theorem dX6_passAll_103 : decode cX6_passAll 103 = .ok (.aload_n 0, 1) := by decide +kernel
theorem dX6_passAll_104 : decode cX6_passAll 104 = .ok (.aload_n 0, 1) := by decide +kernel
theorem dX6_passAll_105 : decode cX6_passAll 105 = .ok (.getfield 13, 3) := by decide +kernel
theorem dX6_passAll_108 : decode cX6_passAll 108 = .ok (.iload_n 1, 1) := by decide +kernel
theorem dX6_passAll_109 : decode cX6_passAll 109 = .ok (.iaload, 1) := by decide +kernel
theorem dX6_passAll_110 : decode cX6_passAll 110 = .ok (.invokevirtual 216, 3) := by decide +kernel
theorem dX6_passAll_113 : decode cX6_passAll 113 = .ok (.iastore, 1) := by decide +kernel
theorem dX6_passAll_114 : decode cX6_passAll 114 = .ok (.aload_n 0, 1) := by decide +kernel
theorem dX6_passAll_115 : decode cX6_passAll 115 = .ok (.getfield 16, 3) := by decide +kernel
theorem dX6_passAll_118 : decode cX6_passAll 118 = .ok (.iload_n 1, 1) := by decide +kernel
theorem dX6_passAll_119 : decode cX6_passAll 119 = .ok (.aload_n 0, 1) := by decide +kernel
theorem dX6_passAll_120 : decode cX6_passAll 120 = .ok (.aload_n 0, 1) := by decide +kernel
theorem dX6_passAll_121 : decode cX6_passAll 121 = .ok (.getfield 16, 3) := by decide +kernel
theorem dX6_passAll_124 : decode cX6_passAll 124 = .ok (.iload_n 1, 1) := by decide +kernel
theorem dX6_passAll_125 : decode cX6_passAll 125 = .ok (.iaload, 1) := by decide +kernel
theorem dX6_passAll_126 : decode cX6_passAll 126 = .ok (.invokevirtual 216, 3) := by decide +kernel
theorem dX6_passAll_129 : decode cX6_passAll 129 = .ok (.iastore, 1) := by decide +kernel
theorem dX6_passAll_130 : decode cX6_passAll 130 = .ok (.aload_n 0, 1) := by decide +kernel
theorem dX6_passAll_131 : decode cX6_passAll 131 = .ok (.getfield 19, 3) := by decide +kernel
theorem dX6_passAll_134 : decode cX6_passAll 134 = .ok (.iload_n 1, 1) := by decide +kernel
theorem dX6_passAll_135 : decode cX6_passAll 135 = .ok (.aload_n 0, 1) := by decide +kernel
theorem dX6_passAll_136 : decode cX6_passAll 136 = .ok (.aload_n 0, 1) := by decide +kernel
theorem dX6_passAll_137 : decode cX6_passAll 137 = .ok (.getfield 19, 3) := by decide +kernel
theorem dX6_passAll_140 : decode cX6_passAll 140 = .ok (.iload_n 1, 1) := by decide +kernel
theorem dX6_passAll_141 : decode cX6_passAll 141 = .ok (.iaload, 1) := by decide +kernel
theorem dX6_passAll_142 : decode cX6_passAll 142 = .ok (.invokevirtual 216, 3) := by decide +kernel
theorem dX6_passAll_145 : decode cX6_passAll 145 = .ok (.iastore, 1) := by decide +kernel
theorem dX6_passAll_146 : decode cX6_passAll 146 = .ok (.iinc 1 1, 3) := by decide +kernel
theorem dX6_passAll_149 : decode cX6_passAll 149 = .ok (.goto (-57), 3) := by decide +kernel
theorem dX6_passAll_152 : decode cX6_passAll 152 = .ok (.return_, 1) := by decide +kernel
theorem dX6_image_0 : decode cX6_image 0 = .ok (.iload_n 1, 1) := by decide +kernel
theorem dX6_image_1 : decode cX6_image 1 = .ok (.i2l, 1) := by decide +kernel
theorem dX6_image_2 : decode cX6_image 2 = .ok (.lconst 0, 1) := by decide +kernel
theorem dX6_image_3 : decode cX6_image 3 = .ok (.lconst 1, 1) := by decide +kernel
theorem dX6_image_4 : decode cX6_image 4 = .ok (.invokestatic 62, 3) := by decide +kernel
theorem dX6_image_7 : decode cX6_image 7 = .ok (.ifCond .ne 6, 3) := by decide +kernel
theorem dX6_image_10 : decode cX6_image 10 = .ok (.bipush (-2), 2) := by decide +kernel
theorem dX6_image_12 : decode cX6_image 12 = .ok (.ireturn, 1) := by decide +kernel
theorem dX6_image_13 : decode cX6_image 13 = .ok (.aload_n 0, 1) := by decide +kernel
theorem dX6_image_14 : decode cX6_image 14 = .ok (.bipush 100, 2) := by decide +kernel
theorem dX6_image_16 : decode cX6_image 16 = .ok (.iload_n 1, 1) := by decide +kernel
theorem dX6_image_17 : decode cX6_image 17 = .ok (.imul, 1) := by decide +kernel
theorem dX6_image_18 : decode cX6_image 18 = .ok (.putfield 213, 3) := by decide +kernel
theorem dX6_image_21 : decode cX6_image 21 = .ok (.aload_n 0, 1) := by decide +kernel
theorem dX6_image_22 : decode cX6_image 22 = .ok (.iconst 1, 1) := by decide +kernel
theorem dX6_image_23 : decode cX6_image 23 = .ok (.putfield 209, 3) := by decide +kernel
theorem dX6_image_26 : decode cX6_image 26 = .ok (.aload_n 0, 1) := by decide +kernel
theorem dX6_image_27 : decode cX6_image 27 = .ok (.invokevirtual 219, 3) := by decide +kernel
theorem dX6_image_30 : decode cX6_image 30 = .ok (.aload_n 0, 1) := by decide +kernel
theorem dX6_image_31 : decode cX6_image 31 = .ok (.getfield 52, 3) := by decide +kernel
theorem dX6_image_34 : decode cX6_image 34 = .ok (.iload_n 1, 1) := by decide +kernel
theorem dX6_image_35 : decode cX6_image 35 = .ok (.iconst 1, 1) := by decide +kernel
theorem dX6_image_36 : decode cX6_image 36 = .ok (.bastore, 1) := by decide +kernel
theorem dX6_image_37 : decode cX6_image 37 = .ok (.iconst 1, 1) := by decide +kernel
theorem dX6_image_38 : decode cX6_image 38 = .ok (.ireturn, 1) := by decide +kernel
theorem dX6_restore_0 : decode cX6_restore 0 = .ok (.iload_n 1, 1) := by decide +kernel
theorem dX6_restore_1 : decode cX6_restore 1 = .ok (.i2l, 1) := by decide +kernel
theorem dX6_restore_2 : decode cX6_restore 2 = .ok (.lconst 0, 1) := by decide +kernel
theorem dX6_restore_3 : decode cX6_restore 3 = .ok (.lconst 1, 1) := by decide +kernel
theorem dX6_restore_4 : decode cX6_restore 4 = .ok (.invokestatic 62, 3) := by decide +kernel
theorem dX6_restore_7 : decode cX6_restore 7 = .ok (.ifCond .ne 6, 3) := by decide +kernel
theorem dX6_restore_10 : decode cX6_restore 10 = .ok (.bipush (-2), 2) := by decide +kernel
theorem dX6_restore_12 : decode cX6_restore 12 = .ok (.ireturn, 1) := by decide +kernel
theorem dX6_restore_13 : decode cX6_restore 13 = .ok (.aload_n 0, 1) := by decide +kernel
theorem dX6_restore_14 : decode cX6_restore 14 = .ok (.getfield 52, 3) := by decide +kernel
theorem dX6_restore_17 : decode cX6_restore 17 = .ok (.iload_n 1, 1) := by decide +kernel
theorem dX6_restore_18 : decode cX6_restore 18 = .ok (.baload, 1) := by decide +kernel
theorem dX6_restore_19 : decode cX6_restore 19 = .ok (.ifCond .ne 6, 3) := by decide +kernel
theorem dX6_restore_22 : decode cX6_restore 22 = .ok (.bipush (-3), 2) := by decide +kernel
theorem dX6_restore_24 : decode cX6_restore 24 = .ok (.ireturn, 1) := by decide +kernel
theorem dX6_restore_25 : decode cX6_restore 25 = .ok (.aload_n 0, 1) := by decide +kernel
theorem dX6_restore_26 : decode cX6_restore 26 = .ok (.bipush 100, 2) := by decide +kernel
theorem dX6_restore_28 : decode cX6_restore 28 = .ok (.iload_n 1, 1) := by decide +kernel
theorem dX6_restore_29 : decode cX6_restore 29 = .ok (.imul, 1) := by decide +kernel
theorem dX6_restore_30 : decode cX6_restore 30 = .ok (.putfield 213, 3) := by decide +kernel
theorem dX6_restore_33 : decode cX6_restore 33 = .ok (.aload_n 0, 1) := by decide +kernel
theorem dX6_restore_34 : decode cX6_restore 34 = .ok (.iconst 0, 1) := by decide +kernel
theorem dX6_restore_35 : decode cX6_restore 35 = .ok (.putfield 209, 3) := by decide +kernel
theorem dX6_restore_38 : decode cX6_restore 38 = .ok (.aload_n 0, 1) := by decide +kernel
theorem dX6_restore_39 : decode cX6_restore 39 = .ok (.invokevirtual 219, 3) := by decide +kernel
theorem dX6_restore_42 : decode cX6_restore 42 = .ok (.iconst 1, 1) := by decide +kernel
theorem dX6_restore_43 : decode cX6_restore 43 = .ok (.ireturn, 1) := by decide +kernel
theorem dX6_told_0 : decode cX6_told 0 = .ok (.iload_n 1, 1) := by decide +kernel
theorem dX6_told_1 : decode cX6_told 1 = .ok (.i2l, 1) := by decide +kernel
theorem dX6_told_2 : decode cX6_told 2 = .ok (.ldc2_w 145, 3) := by decide +kernel
theorem dX6_told_5 : decode cX6_told 5 = .ok (.bipush 9, 2) := by decide +kernel
theorem dX6_told_7 : decode cX6_told 7 = .ok (.aload_n 0, 1) := by decide +kernel
theorem dX6_told_8 : decode cX6_told 8 = .ok (.getfield 179, 3) := by decide +kernel
theorem dX6_told_11 : decode cX6_told 11 = .ok (.iadd, 1) := by decide +kernel
theorem dX6_told_12 : decode cX6_told 12 = .ok (.i2l, 1) := by decide +kernel
theorem dX6_told_13 : decode cX6_told 13 = .ok (.invokestatic 62, 3) := by decide +kernel
theorem dX6_told_16 : decode cX6_told 16 = .ok (.ifCond .eq 13, 3) := by decide +kernel
theorem dX6_told_19 : decode cX6_told 19 = .ok (.aload_n 0, 1) := by decide +kernel
theorem dX6_told_20 : decode cX6_told 20 = .ok (.getfield 13, 3) := by decide +kernel
theorem dX6_told_23 : decode cX6_told 23 = .ok (.iload_n 1, 1) := by decide +kernel
theorem dX6_told_24 : decode cX6_told 24 = .ok (.bipush 10, 2) := by decide +kernel
theorem dX6_told_26 : decode cX6_told 26 = .ok (.isub, 1) := by decide +kernel
theorem dX6_told_27 : decode cX6_told 27 = .ok (.iaload, 1) := by decide +kernel
theorem dX6_told_28 : decode cX6_told 28 = .ok (.ireturn, 1) := by decide +kernel
theorem dX6_told_29 : decode cX6_told 29 = .ok (.iload_n 1, 1) := by decide +kernel
theorem dX6_told_30 : decode cX6_told 30 = .ok (.tableswitch 68 0 5 #[38, 43, 48, 53, 58, 63], 38) := by decide +kernel
theorem dX6_told_68 : decode cX6_told 68 = .ok (.aload_n 0, 1) := by decide +kernel
theorem dX6_told_69 : decode cX6_told 69 = .ok (.getfield 82, 3) := by decide +kernel
theorem dX6_told_72 : decode cX6_told 72 = .ok (.ireturn, 1) := by decide +kernel
theorem dX6_told_73 : decode cX6_told 73 = .ok (.aload_n 0, 1) := by decide +kernel
theorem dX6_told_74 : decode cX6_told 74 = .ok (.getfield 72, 3) := by decide +kernel
theorem dX6_told_77 : decode cX6_told 77 = .ok (.ireturn, 1) := by decide +kernel
theorem dX6_told_78 : decode cX6_told 78 = .ok (.aload_n 0, 1) := by decide +kernel
theorem dX6_told_79 : decode cX6_told 79 = .ok (.getfield 56, 3) := by decide +kernel
theorem dX6_told_82 : decode cX6_told 82 = .ok (.ireturn, 1) := by decide +kernel
theorem dX6_told_83 : decode cX6_told 83 = .ok (.aload_n 0, 1) := by decide +kernel
theorem dX6_told_84 : decode cX6_told 84 = .ok (.getfield 75, 3) := by decide +kernel
theorem dX6_told_87 : decode cX6_told 87 = .ok (.ireturn, 1) := by decide +kernel
theorem dX6_told_88 : decode cX6_told 88 = .ok (.aload_n 0, 1) := by decide +kernel
theorem dX6_told_89 : decode cX6_told 89 = .ok (.getfield 179, 3) := by decide +kernel
theorem dX6_told_92 : decode cX6_told 92 = .ok (.ireturn, 1) := by decide +kernel
theorem dX6_told_93 : decode cX6_told 93 = .ok (.aload_n 0, 1) := by decide +kernel
theorem dX6_told_94 : decode cX6_told 94 = .ok (.getfield 190, 3) := by decide +kernel
theorem dX6_told_97 : decode cX6_told 97 = .ok (.ireturn, 1) := by decide +kernel
theorem dX6_told_98 : decode cX6_told 98 = .ok (.bipush (-2), 2) := by decide +kernel
theorem dX6_told_100 : decode cX6_told 100 = .ok (.ireturn, 1) := by decide +kernel
theorem dL_law_0 : decode cL_law 0 = .ok (.new 7, 3) := by decide +kernel
theorem dL_law_3 : decode cL_law 3 = .ok (.dup, 1) := by decide +kernel
theorem dL_law_4 : decode cL_law 4 = .ok (.invokespecial 9, 3) := by decide +kernel
theorem dL_law_7 : decode cL_law 7 = .ok (.astore_n 1, 1) := by decide +kernel
theorem dL_law_8 : decode cL_law 8 = .ok (.new 10, 3) := by decide +kernel
theorem dL_law_11 : decode cL_law 11 = .ok (.dup, 1) := by decide +kernel
theorem dL_law_12 : decode cL_law 12 = .ok (.invokespecial 12, 3) := by decide +kernel
theorem dL_law_15 : decode cL_law 15 = .ok (.astore_n 2, 1) := by decide +kernel
theorem dL_law_16 : decode cL_law 16 = .ok (.iconst 0, 1) := by decide +kernel
theorem dL_law_17 : decode cL_law 17 = .ok (.istore_n 3, 1) := by decide +kernel
theorem dL_law_18 : decode cL_law 18 = .ok (.iload_n 3, 1) := by decide +kernel
theorem dL_law_19 : decode cL_law 19 = .ok (.aload_n 0, 1) := by decide +kernel
theorem dL_law_20 : decode cL_law 20 = .ok (.arraylength, 1) := by decide +kernel
theorem dL_law_21 : decode cL_law 21 = .ok (.iconst 4, 1) := by decide +kernel
theorem dL_law_22 : decode cL_law 22 = .ok (.isub, 1) := by decide +kernel
theorem dL_law_23 : decode cL_law 23 = .ok (.if_icmp .gt 689, 3) := by decide +kernel
theorem dL_law_26 : decode cL_law 26 = .ok (.aload_n 0, 1) := by decide +kernel
theorem dL_law_27 : decode cL_law 27 = .ok (.iload_n 3, 1) := by decide +kernel
theorem dL_law_28 : decode cL_law 28 = .ok (.iaload, 1) := by decide +kernel
theorem dL_law_29 : decode cL_law 29 = .ok (.bipush 31, 2) := by decide +kernel
theorem dL_law_31 : decode cL_law 31 = .ok (.iand, 1) := by decide +kernel
theorem dL_law_32 : decode cL_law 32 = .ok (.tableswitch 674 0 23 #[112, 145, 168, 181, 194, 217, 240, 263, 306, 319, 342, 355, 378, 411, 434, 447, 470, 503, 516, 539, 562, 605, 628, 651], 112) := by decide +kernel
theorem dL_law_144 : decode cL_law 144 = .ok (.aload_n 1, 1) := by decide +kernel
theorem dL_law_145 : decode cL_law 145 = .ok (.aload_n 0, 1) := by decide +kernel
theorem dL_law_146 : decode cL_law 146 = .ok (.iload_n 3, 1) := by decide +kernel
theorem dL_law_147 : decode cL_law 147 = .ok (.iconst 1, 1) := by decide +kernel
theorem dL_law_148 : decode cL_law 148 = .ok (.iadd, 1) := by decide +kernel
theorem dL_law_149 : decode cL_law 149 = .ok (.iaload, 1) := by decide +kernel
theorem dL_law_150 : decode cL_law 150 = .ok (.aload_n 0, 1) := by decide +kernel
theorem dL_law_151 : decode cL_law 151 = .ok (.iload_n 3, 1) := by decide +kernel
theorem dL_law_152 : decode cL_law 152 = .ok (.iconst 2, 1) := by decide +kernel
theorem dL_law_153 : decode cL_law 153 = .ok (.iadd, 1) := by decide +kernel
theorem dL_law_154 : decode cL_law 154 = .ok (.iaload, 1) := by decide +kernel
theorem dL_law_155 : decode cL_law 155 = .ok (.invokevirtual 13, 3) := by decide +kernel
theorem dL_law_158 : decode cL_law 158 = .ok (.aload_n 2, 1) := by decide +kernel
theorem dL_law_159 : decode cL_law 159 = .ok (.aload_n 0, 1) := by decide +kernel
theorem dL_law_160 : decode cL_law 160 = .ok (.iload_n 3, 1) := by decide +kernel
theorem dL_law_161 : decode cL_law 161 = .ok (.iconst 1, 1) := by decide +kernel
theorem dL_law_162 : decode cL_law 162 = .ok (.iadd, 1) := by decide +kernel
theorem dL_law_163 : decode cL_law 163 = .ok (.iaload, 1) := by decide +kernel
theorem dL_law_164 : decode cL_law 164 = .ok (.aload_n 0, 1) := by decide +kernel
theorem dL_law_165 : decode cL_law 165 = .ok (.iload_n 3, 1) := by decide +kernel
theorem dL_law_166 : decode cL_law 166 = .ok (.iconst 2, 1) := by decide +kernel
theorem dL_law_167 : decode cL_law 167 = .ok (.iadd, 1) := by decide +kernel
theorem dL_law_168 : decode cL_law 168 = .ok (.iaload, 1) := by decide +kernel
theorem dL_law_169 : decode cL_law 169 = .ok (.invokevirtual 17, 3) := by decide +kernel
theorem dL_law_172 : decode cL_law 172 = .ok (.if_icmp .eq 534, 3) := by decide +kernel
theorem dL_law_175 : decode cL_law 175 = .ok (.iconst 0, 1) := by decide +kernel
theorem dL_law_176 : decode cL_law 176 = .ok (.ireturn, 1) := by decide +kernel
theorem dL_law_177 : decode cL_law 177 = .ok (.aload_n 1, 1) := by decide +kernel
theorem dL_law_178 : decode cL_law 178 = .ok (.aload_n 0, 1) := by decide +kernel
theorem dL_law_179 : decode cL_law 179 = .ok (.iload_n 3, 1) := by decide +kernel
theorem dL_law_180 : decode cL_law 180 = .ok (.iconst 1, 1) := by decide +kernel
theorem dL_law_181 : decode cL_law 181 = .ok (.iadd, 1) := by decide +kernel
theorem dL_law_182 : decode cL_law 182 = .ok (.iaload, 1) := by decide +kernel
theorem dL_law_183 : decode cL_law 183 = .ok (.invokevirtual 18, 3) := by decide +kernel
theorem dL_law_186 : decode cL_law 186 = .ok (.aload_n 2, 1) := by decide +kernel
theorem dL_law_187 : decode cL_law 187 = .ok (.aload_n 0, 1) := by decide +kernel
theorem dL_law_188 : decode cL_law 188 = .ok (.iload_n 3, 1) := by decide +kernel
theorem dL_law_189 : decode cL_law 189 = .ok (.iconst 1, 1) := by decide +kernel
theorem dL_law_190 : decode cL_law 190 = .ok (.iadd, 1) := by decide +kernel
theorem dL_law_191 : decode cL_law 191 = .ok (.iaload, 1) := by decide +kernel
theorem dL_law_192 : decode cL_law 192 = .ok (.invokevirtual 22, 3) := by decide +kernel
theorem dL_law_195 : decode cL_law 195 = .ok (.if_icmp .eq 511, 3) := by decide +kernel
theorem dL_law_198 : decode cL_law 198 = .ok (.iconst 0, 1) := by decide +kernel
theorem dL_law_199 : decode cL_law 199 = .ok (.ireturn, 1) := by decide +kernel
theorem dL_law_200 : decode cL_law 200 = .ok (.aload_n 1, 1) := by decide +kernel
theorem dL_law_201 : decode cL_law 201 = .ok (.invokevirtual 23, 3) := by decide +kernel
theorem dL_law_204 : decode cL_law 204 = .ok (.aload_n 2, 1) := by decide +kernel
theorem dL_law_205 : decode cL_law 205 = .ok (.invokevirtual 27, 3) := by decide +kernel
theorem dL_law_208 : decode cL_law 208 = .ok (.if_icmp .eq 498, 3) := by decide +kernel
theorem dL_law_211 : decode cL_law 211 = .ok (.iconst 0, 1) := by decide +kernel
theorem dL_law_212 : decode cL_law 212 = .ok (.ireturn, 1) := by decide +kernel
theorem dL_law_213 : decode cL_law 213 = .ok (.aload_n 1, 1) := by decide +kernel
theorem dL_law_214 : decode cL_law 214 = .ok (.invokevirtual 28, 3) := by decide +kernel
theorem dL_law_217 : decode cL_law 217 = .ok (.aload_n 2, 1) := by decide +kernel
theorem dL_law_218 : decode cL_law 218 = .ok (.invokevirtual 31, 3) := by decide +kernel
theorem dL_law_221 : decode cL_law 221 = .ok (.if_icmp .eq 485, 3) := by decide +kernel
theorem dL_law_224 : decode cL_law 224 = .ok (.iconst 0, 1) := by decide +kernel
theorem dL_law_225 : decode cL_law 225 = .ok (.ireturn, 1) := by decide +kernel
theorem dL_law_226 : decode cL_law 226 = .ok (.aload_n 1, 1) := by decide +kernel
theorem dL_law_227 : decode cL_law 227 = .ok (.aload_n 0, 1) := by decide +kernel
theorem dL_law_228 : decode cL_law 228 = .ok (.iload_n 3, 1) := by decide +kernel
theorem dL_law_229 : decode cL_law 229 = .ok (.iconst 1, 1) := by decide +kernel
theorem dL_law_230 : decode cL_law 230 = .ok (.iadd, 1) := by decide +kernel
theorem dL_law_231 : decode cL_law 231 = .ok (.iaload, 1) := by decide +kernel
theorem dL_law_232 : decode cL_law 232 = .ok (.invokevirtual 32, 3) := by decide +kernel
theorem dL_law_235 : decode cL_law 235 = .ok (.aload_n 2, 1) := by decide +kernel
theorem dL_law_236 : decode cL_law 236 = .ok (.aload_n 0, 1) := by decide +kernel
theorem dL_law_237 : decode cL_law 237 = .ok (.iload_n 3, 1) := by decide +kernel
theorem dL_law_238 : decode cL_law 238 = .ok (.iconst 1, 1) := by decide +kernel
theorem dL_law_239 : decode cL_law 239 = .ok (.iadd, 1) := by decide +kernel
theorem dL_law_240 : decode cL_law 240 = .ok (.iaload, 1) := by decide +kernel
theorem dL_law_241 : decode cL_law 241 = .ok (.invokevirtual 35, 3) := by decide +kernel
theorem dL_law_244 : decode cL_law 244 = .ok (.if_icmp .eq 462, 3) := by decide +kernel
theorem dL_law_247 : decode cL_law 247 = .ok (.iconst 0, 1) := by decide +kernel
theorem dL_law_248 : decode cL_law 248 = .ok (.ireturn, 1) := by decide +kernel
theorem dL_law_249 : decode cL_law 249 = .ok (.aload_n 1, 1) := by decide +kernel
theorem dL_law_250 : decode cL_law 250 = .ok (.aload_n 0, 1) := by decide +kernel
theorem dL_law_251 : decode cL_law 251 = .ok (.iload_n 3, 1) := by decide +kernel
theorem dL_law_252 : decode cL_law 252 = .ok (.iconst 1, 1) := by decide +kernel
theorem dL_law_253 : decode cL_law 253 = .ok (.iadd, 1) := by decide +kernel
theorem dL_law_254 : decode cL_law 254 = .ok (.iaload, 1) := by decide +kernel
theorem dL_law_255 : decode cL_law 255 = .ok (.invokevirtual 36, 3) := by decide +kernel
theorem dL_law_258 : decode cL_law 258 = .ok (.aload_n 2, 1) := by decide +kernel
theorem dL_law_259 : decode cL_law 259 = .ok (.aload_n 0, 1) := by decide +kernel
theorem dL_law_260 : decode cL_law 260 = .ok (.iload_n 3, 1) := by decide +kernel
theorem dL_law_261 : decode cL_law 261 = .ok (.iconst 1, 1) := by decide +kernel
theorem dL_law_262 : decode cL_law 262 = .ok (.iadd, 1) := by decide +kernel
theorem dL_law_263 : decode cL_law 263 = .ok (.iaload, 1) := by decide +kernel
theorem dL_law_264 : decode cL_law 264 = .ok (.invokevirtual 39, 3) := by decide +kernel
theorem dL_law_267 : decode cL_law 267 = .ok (.if_icmp .eq 439, 3) := by decide +kernel
theorem dL_law_270 : decode cL_law 270 = .ok (.iconst 0, 1) := by decide +kernel
theorem dL_law_271 : decode cL_law 271 = .ok (.ireturn, 1) := by decide +kernel
theorem dL_law_272 : decode cL_law 272 = .ok (.aload_n 1, 1) := by decide +kernel
theorem dL_law_273 : decode cL_law 273 = .ok (.aload_n 0, 1) := by decide +kernel
theorem dL_law_274 : decode cL_law 274 = .ok (.iload_n 3, 1) := by decide +kernel
theorem dL_law_275 : decode cL_law 275 = .ok (.iconst 1, 1) := by decide +kernel
theorem dL_law_276 : decode cL_law 276 = .ok (.iadd, 1) := by decide +kernel
theorem dL_law_277 : decode cL_law 277 = .ok (.iaload, 1) := by decide +kernel
theorem dL_law_278 : decode cL_law 278 = .ok (.invokevirtual 40, 3) := by decide +kernel
theorem dL_law_281 : decode cL_law 281 = .ok (.aload_n 2, 1) := by decide +kernel
theorem dL_law_282 : decode cL_law 282 = .ok (.aload_n 0, 1) := by decide +kernel
theorem dL_law_283 : decode cL_law 283 = .ok (.iload_n 3, 1) := by decide +kernel
theorem dL_law_284 : decode cL_law 284 = .ok (.iconst 1, 1) := by decide +kernel
theorem dL_law_285 : decode cL_law 285 = .ok (.iadd, 1) := by decide +kernel
theorem dL_law_286 : decode cL_law 286 = .ok (.iaload, 1) := by decide +kernel
theorem dL_law_287 : decode cL_law 287 = .ok (.invokevirtual 43, 3) := by decide +kernel
theorem dL_law_290 : decode cL_law 290 = .ok (.if_icmp .eq 416, 3) := by decide +kernel
theorem dL_law_293 : decode cL_law 293 = .ok (.iconst 0, 1) := by decide +kernel
theorem dL_law_294 : decode cL_law 294 = .ok (.ireturn, 1) := by decide +kernel
theorem dL_law_295 : decode cL_law 295 = .ok (.aload_n 1, 1) := by decide +kernel
theorem dL_law_296 : decode cL_law 296 = .ok (.aload_n 0, 1) := by decide +kernel
theorem dL_law_297 : decode cL_law 297 = .ok (.iload_n 3, 1) := by decide +kernel
theorem dL_law_298 : decode cL_law 298 = .ok (.iconst 1, 1) := by decide +kernel
theorem dL_law_299 : decode cL_law 299 = .ok (.iadd, 1) := by decide +kernel
theorem dL_law_300 : decode cL_law 300 = .ok (.iaload, 1) := by decide +kernel
theorem dL_law_301 : decode cL_law 301 = .ok (.aload_n 0, 1) := by decide +kernel
theorem dL_law_302 : decode cL_law 302 = .ok (.iload_n 3, 1) := by decide +kernel
theorem dL_law_303 : decode cL_law 303 = .ok (.iconst 2, 1) := by decide +kernel
theorem dL_law_304 : decode cL_law 304 = .ok (.iadd, 1) := by decide +kernel
theorem dL_law_305 : decode cL_law 305 = .ok (.iaload, 1) := by decide +kernel
theorem dL_law_306 : decode cL_law 306 = .ok (.aload_n 0, 1) := by decide +kernel
theorem dL_law_307 : decode cL_law 307 = .ok (.iload_n 3, 1) := by decide +kernel
theorem dL_law_308 : decode cL_law 308 = .ok (.iconst 3, 1) := by decide +kernel
theorem dL_law_309 : decode cL_law 309 = .ok (.iadd, 1) := by decide +kernel
theorem dL_law_310 : decode cL_law 310 = .ok (.iaload, 1) := by decide +kernel
theorem dL_law_311 : decode cL_law 311 = .ok (.invokevirtual 44, 3) := by decide +kernel
theorem dL_law_314 : decode cL_law 314 = .ok (.aload_n 2, 1) := by decide +kernel
theorem dL_law_315 : decode cL_law 315 = .ok (.aload_n 0, 1) := by decide +kernel
theorem dL_law_316 : decode cL_law 316 = .ok (.iload_n 3, 1) := by decide +kernel
theorem dL_law_317 : decode cL_law 317 = .ok (.iconst 1, 1) := by decide +kernel
theorem dL_law_318 : decode cL_law 318 = .ok (.iadd, 1) := by decide +kernel
theorem dL_law_319 : decode cL_law 319 = .ok (.iaload, 1) := by decide +kernel
theorem dL_law_320 : decode cL_law 320 = .ok (.aload_n 0, 1) := by decide +kernel
theorem dL_law_321 : decode cL_law 321 = .ok (.iload_n 3, 1) := by decide +kernel
theorem dL_law_322 : decode cL_law 322 = .ok (.iconst 2, 1) := by decide +kernel
theorem dL_law_323 : decode cL_law 323 = .ok (.iadd, 1) := by decide +kernel
theorem dL_law_324 : decode cL_law 324 = .ok (.iaload, 1) := by decide +kernel
theorem dL_law_325 : decode cL_law 325 = .ok (.aload_n 0, 1) := by decide +kernel
theorem dL_law_326 : decode cL_law 326 = .ok (.iload_n 3, 1) := by decide +kernel
theorem dL_law_327 : decode cL_law 327 = .ok (.iconst 3, 1) := by decide +kernel
theorem dL_law_328 : decode cL_law 328 = .ok (.iadd, 1) := by decide +kernel
theorem dL_law_329 : decode cL_law 329 = .ok (.iaload, 1) := by decide +kernel
theorem dL_law_330 : decode cL_law 330 = .ok (.invokevirtual 48, 3) := by decide +kernel
theorem dL_law_333 : decode cL_law 333 = .ok (.if_icmp .eq 373, 3) := by decide +kernel
theorem dL_law_336 : decode cL_law 336 = .ok (.iconst 0, 1) := by decide +kernel
theorem dL_law_337 : decode cL_law 337 = .ok (.ireturn, 1) := by decide +kernel
theorem dL_law_338 : decode cL_law 338 = .ok (.aload_n 1, 1) := by decide +kernel
theorem dL_law_339 : decode cL_law 339 = .ok (.invokevirtual 49, 3) := by decide +kernel
theorem dL_law_342 : decode cL_law 342 = .ok (.aload_n 2, 1) := by decide +kernel
theorem dL_law_343 : decode cL_law 343 = .ok (.invokevirtual 52, 3) := by decide +kernel
theorem dL_law_346 : decode cL_law 346 = .ok (.if_icmp .eq 360, 3) := by decide +kernel
theorem dL_law_349 : decode cL_law 349 = .ok (.iconst 0, 1) := by decide +kernel
theorem dL_law_350 : decode cL_law 350 = .ok (.ireturn, 1) := by decide +kernel
theorem dL_law_351 : decode cL_law 351 = .ok (.aload_n 1, 1) := by decide +kernel
theorem dL_law_352 : decode cL_law 352 = .ok (.aload_n 0, 1) := by decide +kernel
theorem dL_law_353 : decode cL_law 353 = .ok (.iload_n 3, 1) := by decide +kernel
theorem dL_law_354 : decode cL_law 354 = .ok (.iconst 1, 1) := by decide +kernel
theorem dL_law_355 : decode cL_law 355 = .ok (.iadd, 1) := by decide +kernel
theorem dL_law_356 : decode cL_law 356 = .ok (.iaload, 1) := by decide +kernel
theorem dL_law_357 : decode cL_law 357 = .ok (.invokevirtual 53, 3) := by decide +kernel
theorem dL_law_360 : decode cL_law 360 = .ok (.aload_n 2, 1) := by decide +kernel
theorem dL_law_361 : decode cL_law 361 = .ok (.aload_n 0, 1) := by decide +kernel
theorem dL_law_362 : decode cL_law 362 = .ok (.iload_n 3, 1) := by decide +kernel
theorem dL_law_363 : decode cL_law 363 = .ok (.iconst 1, 1) := by decide +kernel
theorem dL_law_364 : decode cL_law 364 = .ok (.iadd, 1) := by decide +kernel
theorem dL_law_365 : decode cL_law 365 = .ok (.iaload, 1) := by decide +kernel
theorem dL_law_366 : decode cL_law 366 = .ok (.invokevirtual 56, 3) := by decide +kernel
theorem dL_law_369 : decode cL_law 369 = .ok (.if_icmp .eq 337, 3) := by decide +kernel
theorem dL_law_372 : decode cL_law 372 = .ok (.iconst 0, 1) := by decide +kernel
theorem dL_law_373 : decode cL_law 373 = .ok (.ireturn, 1) := by decide +kernel
theorem dL_law_374 : decode cL_law 374 = .ok (.aload_n 1, 1) := by decide +kernel
theorem dL_law_375 : decode cL_law 375 = .ok (.invokevirtual 57, 3) := by decide +kernel
theorem dL_law_378 : decode cL_law 378 = .ok (.aload_n 2, 1) := by decide +kernel
theorem dL_law_379 : decode cL_law 379 = .ok (.invokevirtual 60, 3) := by decide +kernel
theorem dL_law_382 : decode cL_law 382 = .ok (.if_icmp .eq 324, 3) := by decide +kernel
theorem dL_law_385 : decode cL_law 385 = .ok (.iconst 0, 1) := by decide +kernel
theorem dL_law_386 : decode cL_law 386 = .ok (.ireturn, 1) := by decide +kernel
theorem dL_law_387 : decode cL_law 387 = .ok (.aload_n 1, 1) := by decide +kernel
theorem dL_law_388 : decode cL_law 388 = .ok (.aload_n 0, 1) := by decide +kernel
theorem dL_law_389 : decode cL_law 389 = .ok (.iload_n 3, 1) := by decide +kernel
theorem dL_law_390 : decode cL_law 390 = .ok (.iconst 1, 1) := by decide +kernel
theorem dL_law_391 : decode cL_law 391 = .ok (.iadd, 1) := by decide +kernel
theorem dL_law_392 : decode cL_law 392 = .ok (.iaload, 1) := by decide +kernel
theorem dL_law_393 : decode cL_law 393 = .ok (.invokevirtual 61, 3) := by decide +kernel
theorem dL_law_396 : decode cL_law 396 = .ok (.aload_n 2, 1) := by decide +kernel
theorem dL_law_397 : decode cL_law 397 = .ok (.aload_n 0, 1) := by decide +kernel
theorem dL_law_398 : decode cL_law 398 = .ok (.iload_n 3, 1) := by decide +kernel
theorem dL_law_399 : decode cL_law 399 = .ok (.iconst 1, 1) := by decide +kernel
theorem dL_law_400 : decode cL_law 400 = .ok (.iadd, 1) := by decide +kernel
theorem dL_law_401 : decode cL_law 401 = .ok (.iaload, 1) := by decide +kernel
theorem dL_law_402 : decode cL_law 402 = .ok (.invokevirtual 64, 3) := by decide +kernel
theorem dL_law_405 : decode cL_law 405 = .ok (.if_icmp .eq 301, 3) := by decide +kernel
theorem dL_law_408 : decode cL_law 408 = .ok (.iconst 0, 1) := by decide +kernel
theorem dL_law_409 : decode cL_law 409 = .ok (.ireturn, 1) := by decide +kernel
theorem dL_law_410 : decode cL_law 410 = .ok (.aload_n 1, 1) := by decide +kernel
theorem dL_law_411 : decode cL_law 411 = .ok (.aload_n 0, 1) := by decide +kernel
theorem dL_law_412 : decode cL_law 412 = .ok (.iload_n 3, 1) := by decide +kernel
theorem dL_law_413 : decode cL_law 413 = .ok (.iconst 1, 1) := by decide +kernel
theorem dL_law_414 : decode cL_law 414 = .ok (.iadd, 1) := by decide +kernel
theorem dL_law_415 : decode cL_law 415 = .ok (.iaload, 1) := by decide +kernel
theorem dL_law_416 : decode cL_law 416 = .ok (.aload_n 0, 1) := by decide +kernel
theorem dL_law_417 : decode cL_law 417 = .ok (.iload_n 3, 1) := by decide +kernel
theorem dL_law_418 : decode cL_law 418 = .ok (.iconst 2, 1) := by decide +kernel
theorem dL_law_419 : decode cL_law 419 = .ok (.iadd, 1) := by decide +kernel
theorem dL_law_420 : decode cL_law 420 = .ok (.iaload, 1) := by decide +kernel
theorem dL_law_421 : decode cL_law 421 = .ok (.invokevirtual 65, 3) := by decide +kernel
theorem dL_law_424 : decode cL_law 424 = .ok (.aload_n 2, 1) := by decide +kernel
theorem dL_law_425 : decode cL_law 425 = .ok (.aload_n 0, 1) := by decide +kernel
theorem dL_law_426 : decode cL_law 426 = .ok (.iload_n 3, 1) := by decide +kernel
theorem dL_law_427 : decode cL_law 427 = .ok (.iconst 1, 1) := by decide +kernel
theorem dL_law_428 : decode cL_law 428 = .ok (.iadd, 1) := by decide +kernel
theorem dL_law_429 : decode cL_law 429 = .ok (.iaload, 1) := by decide +kernel
theorem dL_law_430 : decode cL_law 430 = .ok (.aload_n 0, 1) := by decide +kernel
theorem dL_law_431 : decode cL_law 431 = .ok (.iload_n 3, 1) := by decide +kernel
theorem dL_law_432 : decode cL_law 432 = .ok (.iconst 2, 1) := by decide +kernel
theorem dL_law_433 : decode cL_law 433 = .ok (.iadd, 1) := by decide +kernel
theorem dL_law_434 : decode cL_law 434 = .ok (.iaload, 1) := by decide +kernel
theorem dL_law_435 : decode cL_law 435 = .ok (.invokevirtual 68, 3) := by decide +kernel
theorem dL_law_438 : decode cL_law 438 = .ok (.if_icmp .eq 268, 3) := by decide +kernel
theorem dL_law_441 : decode cL_law 441 = .ok (.iconst 0, 1) := by decide +kernel
theorem dL_law_442 : decode cL_law 442 = .ok (.ireturn, 1) := by decide +kernel
theorem dL_law_443 : decode cL_law 443 = .ok (.aload_n 1, 1) := by decide +kernel
theorem dL_law_444 : decode cL_law 444 = .ok (.aload_n 0, 1) := by decide +kernel
theorem dL_law_445 : decode cL_law 445 = .ok (.iload_n 3, 1) := by decide +kernel
theorem dL_law_446 : decode cL_law 446 = .ok (.iconst 1, 1) := by decide +kernel
theorem dL_law_447 : decode cL_law 447 = .ok (.iadd, 1) := by decide +kernel
theorem dL_law_448 : decode cL_law 448 = .ok (.iaload, 1) := by decide +kernel
theorem dL_law_449 : decode cL_law 449 = .ok (.invokevirtual 69, 3) := by decide +kernel
theorem dL_law_452 : decode cL_law 452 = .ok (.aload_n 2, 1) := by decide +kernel
theorem dL_law_453 : decode cL_law 453 = .ok (.aload_n 0, 1) := by decide +kernel
theorem dL_law_454 : decode cL_law 454 = .ok (.iload_n 3, 1) := by decide +kernel
theorem dL_law_455 : decode cL_law 455 = .ok (.iconst 1, 1) := by decide +kernel
theorem dL_law_456 : decode cL_law 456 = .ok (.iadd, 1) := by decide +kernel
theorem dL_law_457 : decode cL_law 457 = .ok (.iaload, 1) := by decide +kernel
theorem dL_law_458 : decode cL_law 458 = .ok (.invokevirtual 72, 3) := by decide +kernel
theorem dL_law_461 : decode cL_law 461 = .ok (.if_icmp .eq 245, 3) := by decide +kernel
theorem dL_law_464 : decode cL_law 464 = .ok (.iconst 0, 1) := by decide +kernel
theorem dL_law_465 : decode cL_law 465 = .ok (.ireturn, 1) := by decide +kernel
theorem dL_law_466 : decode cL_law 466 = .ok (.aload_n 1, 1) := by decide +kernel
theorem dL_law_467 : decode cL_law 467 = .ok (.invokevirtual 73, 3) := by decide +kernel
theorem dL_law_470 : decode cL_law 470 = .ok (.aload_n 2, 1) := by decide +kernel
theorem dL_law_471 : decode cL_law 471 = .ok (.invokevirtual 76, 3) := by decide +kernel
theorem dL_law_474 : decode cL_law 474 = .ok (.if_icmp .eq 232, 3) := by decide +kernel
theorem dL_law_477 : decode cL_law 477 = .ok (.iconst 0, 1) := by decide +kernel
theorem dL_law_478 : decode cL_law 478 = .ok (.ireturn, 1) := by decide +kernel
theorem dL_law_479 : decode cL_law 479 = .ok (.aload_n 1, 1) := by decide +kernel
theorem dL_law_480 : decode cL_law 480 = .ok (.aload_n 0, 1) := by decide +kernel
theorem dL_law_481 : decode cL_law 481 = .ok (.iload_n 3, 1) := by decide +kernel
theorem dL_law_482 : decode cL_law 482 = .ok (.iconst 1, 1) := by decide +kernel
theorem dL_law_483 : decode cL_law 483 = .ok (.iadd, 1) := by decide +kernel
theorem dL_law_484 : decode cL_law 484 = .ok (.iaload, 1) := by decide +kernel
theorem dL_law_485 : decode cL_law 485 = .ok (.invokevirtual 77, 3) := by decide +kernel
theorem dL_law_488 : decode cL_law 488 = .ok (.aload_n 2, 1) := by decide +kernel
theorem dL_law_489 : decode cL_law 489 = .ok (.aload_n 0, 1) := by decide +kernel
theorem dL_law_490 : decode cL_law 490 = .ok (.iload_n 3, 1) := by decide +kernel
theorem dL_law_491 : decode cL_law 491 = .ok (.iconst 1, 1) := by decide +kernel
theorem dL_law_492 : decode cL_law 492 = .ok (.iadd, 1) := by decide +kernel
theorem dL_law_493 : decode cL_law 493 = .ok (.iaload, 1) := by decide +kernel
theorem dL_law_494 : decode cL_law 494 = .ok (.invokevirtual 80, 3) := by decide +kernel
theorem dL_law_497 : decode cL_law 497 = .ok (.if_icmp .eq 209, 3) := by decide +kernel
theorem dL_law_500 : decode cL_law 500 = .ok (.iconst 0, 1) := by decide +kernel
theorem dL_law_501 : decode cL_law 501 = .ok (.ireturn, 1) := by decide +kernel
theorem dL_law_502 : decode cL_law 502 = .ok (.aload_n 1, 1) := by decide +kernel
theorem dL_law_503 : decode cL_law 503 = .ok (.aload_n 0, 1) := by decide +kernel
theorem dL_law_504 : decode cL_law 504 = .ok (.iload_n 3, 1) := by decide +kernel
theorem dL_law_505 : decode cL_law 505 = .ok (.iconst 1, 1) := by decide +kernel
theorem dL_law_506 : decode cL_law 506 = .ok (.iadd, 1) := by decide +kernel
theorem dL_law_507 : decode cL_law 507 = .ok (.iaload, 1) := by decide +kernel
theorem dL_law_508 : decode cL_law 508 = .ok (.aload_n 0, 1) := by decide +kernel
theorem dL_law_509 : decode cL_law 509 = .ok (.iload_n 3, 1) := by decide +kernel
theorem dL_law_510 : decode cL_law 510 = .ok (.iconst 2, 1) := by decide +kernel
theorem dL_law_511 : decode cL_law 511 = .ok (.iadd, 1) := by decide +kernel
theorem dL_law_512 : decode cL_law 512 = .ok (.iaload, 1) := by decide +kernel
theorem dL_law_513 : decode cL_law 513 = .ok (.invokevirtual 81, 3) := by decide +kernel
theorem dL_law_516 : decode cL_law 516 = .ok (.aload_n 2, 1) := by decide +kernel
theorem dL_law_517 : decode cL_law 517 = .ok (.aload_n 0, 1) := by decide +kernel
theorem dL_law_518 : decode cL_law 518 = .ok (.iload_n 3, 1) := by decide +kernel
theorem dL_law_519 : decode cL_law 519 = .ok (.iconst 1, 1) := by decide +kernel
theorem dL_law_520 : decode cL_law 520 = .ok (.iadd, 1) := by decide +kernel
theorem dL_law_521 : decode cL_law 521 = .ok (.iaload, 1) := by decide +kernel
theorem dL_law_522 : decode cL_law 522 = .ok (.aload_n 0, 1) := by decide +kernel
theorem dL_law_523 : decode cL_law 523 = .ok (.iload_n 3, 1) := by decide +kernel
theorem dL_law_524 : decode cL_law 524 = .ok (.iconst 2, 1) := by decide +kernel
theorem dL_law_525 : decode cL_law 525 = .ok (.iadd, 1) := by decide +kernel
theorem dL_law_526 : decode cL_law 526 = .ok (.iaload, 1) := by decide +kernel
theorem dL_law_527 : decode cL_law 527 = .ok (.invokevirtual 84, 3) := by decide +kernel
theorem dL_law_530 : decode cL_law 530 = .ok (.if_icmp .eq 176, 3) := by decide +kernel
theorem dL_law_533 : decode cL_law 533 = .ok (.iconst 0, 1) := by decide +kernel
theorem dL_law_534 : decode cL_law 534 = .ok (.ireturn, 1) := by decide +kernel
theorem dL_law_535 : decode cL_law 535 = .ok (.aload_n 1, 1) := by decide +kernel
theorem dL_law_536 : decode cL_law 536 = .ok (.invokevirtual 85, 3) := by decide +kernel
theorem dL_law_539 : decode cL_law 539 = .ok (.aload_n 2, 1) := by decide +kernel
theorem dL_law_540 : decode cL_law 540 = .ok (.invokevirtual 88, 3) := by decide +kernel
theorem dL_law_543 : decode cL_law 543 = .ok (.if_icmp .eq 163, 3) := by decide +kernel
theorem dL_law_546 : decode cL_law 546 = .ok (.iconst 0, 1) := by decide +kernel
theorem dL_law_547 : decode cL_law 547 = .ok (.ireturn, 1) := by decide +kernel
theorem dL_law_548 : decode cL_law 548 = .ok (.aload_n 1, 1) := by decide +kernel
theorem dL_law_549 : decode cL_law 549 = .ok (.aload_n 0, 1) := by decide +kernel
theorem dL_law_550 : decode cL_law 550 = .ok (.iload_n 3, 1) := by decide +kernel
theorem dL_law_551 : decode cL_law 551 = .ok (.iconst 1, 1) := by decide +kernel
theorem dL_law_552 : decode cL_law 552 = .ok (.iadd, 1) := by decide +kernel
theorem dL_law_553 : decode cL_law 553 = .ok (.iaload, 1) := by decide +kernel
theorem dL_law_554 : decode cL_law 554 = .ok (.invokevirtual 89, 3) := by decide +kernel
theorem dL_law_557 : decode cL_law 557 = .ok (.aload_n 2, 1) := by decide +kernel
theorem dL_law_558 : decode cL_law 558 = .ok (.aload_n 0, 1) := by decide +kernel
theorem dL_law_559 : decode cL_law 559 = .ok (.iload_n 3, 1) := by decide +kernel
theorem dL_law_560 : decode cL_law 560 = .ok (.iconst 1, 1) := by decide +kernel
theorem dL_law_561 : decode cL_law 561 = .ok (.iadd, 1) := by decide +kernel
theorem dL_law_562 : decode cL_law 562 = .ok (.iaload, 1) := by decide +kernel
theorem dL_law_563 : decode cL_law 563 = .ok (.invokevirtual 92, 3) := by decide +kernel
theorem dL_law_566 : decode cL_law 566 = .ok (.if_icmp .eq 140, 3) := by decide +kernel
theorem dL_law_569 : decode cL_law 569 = .ok (.iconst 0, 1) := by decide +kernel
theorem dL_law_570 : decode cL_law 570 = .ok (.ireturn, 1) := by decide +kernel
theorem dL_law_571 : decode cL_law 571 = .ok (.aload_n 1, 1) := by decide +kernel
theorem dL_law_572 : decode cL_law 572 = .ok (.aload_n 0, 1) := by decide +kernel
theorem dL_law_573 : decode cL_law 573 = .ok (.iload_n 3, 1) := by decide +kernel
theorem dL_law_574 : decode cL_law 574 = .ok (.iconst 1, 1) := by decide +kernel
theorem dL_law_575 : decode cL_law 575 = .ok (.iadd, 1) := by decide +kernel
theorem dL_law_576 : decode cL_law 576 = .ok (.iaload, 1) := by decide +kernel
theorem dL_law_577 : decode cL_law 577 = .ok (.invokevirtual 93, 3) := by decide +kernel
theorem dL_law_580 : decode cL_law 580 = .ok (.aload_n 2, 1) := by decide +kernel
theorem dL_law_581 : decode cL_law 581 = .ok (.aload_n 0, 1) := by decide +kernel
theorem dL_law_582 : decode cL_law 582 = .ok (.iload_n 3, 1) := by decide +kernel
theorem dL_law_583 : decode cL_law 583 = .ok (.iconst 1, 1) := by decide +kernel
theorem dL_law_584 : decode cL_law 584 = .ok (.iadd, 1) := by decide +kernel
theorem dL_law_585 : decode cL_law 585 = .ok (.iaload, 1) := by decide +kernel
theorem dL_law_586 : decode cL_law 586 = .ok (.invokevirtual 96, 3) := by decide +kernel
theorem dL_law_589 : decode cL_law 589 = .ok (.if_icmp .eq 117, 3) := by decide +kernel
theorem dL_law_592 : decode cL_law 592 = .ok (.iconst 0, 1) := by decide +kernel
theorem dL_law_593 : decode cL_law 593 = .ok (.ireturn, 1) := by decide +kernel
theorem dL_law_594 : decode cL_law 594 = .ok (.aload_n 1, 1) := by decide +kernel
theorem dL_law_595 : decode cL_law 595 = .ok (.aload_n 0, 1) := by decide +kernel
theorem dL_law_596 : decode cL_law 596 = .ok (.iload_n 3, 1) := by decide +kernel
theorem dL_law_597 : decode cL_law 597 = .ok (.iconst 1, 1) := by decide +kernel
theorem dL_law_598 : decode cL_law 598 = .ok (.iadd, 1) := by decide +kernel
theorem dL_law_599 : decode cL_law 599 = .ok (.iaload, 1) := by decide +kernel
theorem dL_law_600 : decode cL_law 600 = .ok (.aload_n 0, 1) := by decide +kernel
theorem dL_law_601 : decode cL_law 601 = .ok (.iload_n 3, 1) := by decide +kernel
theorem dL_law_602 : decode cL_law 602 = .ok (.iconst 2, 1) := by decide +kernel
theorem dL_law_603 : decode cL_law 603 = .ok (.iadd, 1) := by decide +kernel
theorem dL_law_604 : decode cL_law 604 = .ok (.iaload, 1) := by decide +kernel
theorem dL_law_605 : decode cL_law 605 = .ok (.aload_n 0, 1) := by decide +kernel
theorem dL_law_606 : decode cL_law 606 = .ok (.iload_n 3, 1) := by decide +kernel
theorem dL_law_607 : decode cL_law 607 = .ok (.iconst 3, 1) := by decide +kernel
theorem dL_law_608 : decode cL_law 608 = .ok (.iadd, 1) := by decide +kernel
theorem dL_law_609 : decode cL_law 609 = .ok (.iaload, 1) := by decide +kernel
theorem dL_law_610 : decode cL_law 610 = .ok (.invokevirtual 97, 3) := by decide +kernel
theorem dL_law_613 : decode cL_law 613 = .ok (.aload_n 2, 1) := by decide +kernel
theorem dL_law_614 : decode cL_law 614 = .ok (.aload_n 0, 1) := by decide +kernel
theorem dL_law_615 : decode cL_law 615 = .ok (.iload_n 3, 1) := by decide +kernel
theorem dL_law_616 : decode cL_law 616 = .ok (.iconst 1, 1) := by decide +kernel
theorem dL_law_617 : decode cL_law 617 = .ok (.iadd, 1) := by decide +kernel
theorem dL_law_618 : decode cL_law 618 = .ok (.iaload, 1) := by decide +kernel
theorem dL_law_619 : decode cL_law 619 = .ok (.aload_n 0, 1) := by decide +kernel
theorem dL_law_620 : decode cL_law 620 = .ok (.iload_n 3, 1) := by decide +kernel
theorem dL_law_621 : decode cL_law 621 = .ok (.iconst 2, 1) := by decide +kernel
theorem dL_law_622 : decode cL_law 622 = .ok (.iadd, 1) := by decide +kernel
theorem dL_law_623 : decode cL_law 623 = .ok (.iaload, 1) := by decide +kernel
theorem dL_law_624 : decode cL_law 624 = .ok (.aload_n 0, 1) := by decide +kernel
theorem dL_law_625 : decode cL_law 625 = .ok (.iload_n 3, 1) := by decide +kernel
theorem dL_law_626 : decode cL_law 626 = .ok (.iconst 3, 1) := by decide +kernel
theorem dL_law_627 : decode cL_law 627 = .ok (.iadd, 1) := by decide +kernel
theorem dL_law_628 : decode cL_law 628 = .ok (.iaload, 1) := by decide +kernel
theorem dL_law_629 : decode cL_law 629 = .ok (.invokevirtual 100, 3) := by decide +kernel
theorem dL_law_632 : decode cL_law 632 = .ok (.if_icmp .eq 74, 3) := by decide +kernel
theorem dL_law_635 : decode cL_law 635 = .ok (.iconst 0, 1) := by decide +kernel
theorem dL_law_636 : decode cL_law 636 = .ok (.ireturn, 1) := by decide +kernel
theorem dL_law_637 : decode cL_law 637 = .ok (.aload_n 1, 1) := by decide +kernel
theorem dL_law_638 : decode cL_law 638 = .ok (.aload_n 0, 1) := by decide +kernel
theorem dL_law_639 : decode cL_law 639 = .ok (.iload_n 3, 1) := by decide +kernel
theorem dL_law_640 : decode cL_law 640 = .ok (.iconst 1, 1) := by decide +kernel
theorem dL_law_641 : decode cL_law 641 = .ok (.iadd, 1) := by decide +kernel
theorem dL_law_642 : decode cL_law 642 = .ok (.iaload, 1) := by decide +kernel
theorem dL_law_643 : decode cL_law 643 = .ok (.invokevirtual 101, 3) := by decide +kernel
theorem dL_law_646 : decode cL_law 646 = .ok (.aload_n 2, 1) := by decide +kernel
theorem dL_law_647 : decode cL_law 647 = .ok (.aload_n 0, 1) := by decide +kernel
theorem dL_law_648 : decode cL_law 648 = .ok (.iload_n 3, 1) := by decide +kernel
theorem dL_law_649 : decode cL_law 649 = .ok (.iconst 1, 1) := by decide +kernel
theorem dL_law_650 : decode cL_law 650 = .ok (.iadd, 1) := by decide +kernel
theorem dL_law_651 : decode cL_law 651 = .ok (.iaload, 1) := by decide +kernel
theorem dL_law_652 : decode cL_law 652 = .ok (.invokevirtual 104, 3) := by decide +kernel
theorem dL_law_655 : decode cL_law 655 = .ok (.if_icmp .eq 51, 3) := by decide +kernel
theorem dL_law_658 : decode cL_law 658 = .ok (.iconst 0, 1) := by decide +kernel
theorem dL_law_659 : decode cL_law 659 = .ok (.ireturn, 1) := by decide +kernel
theorem dL_law_660 : decode cL_law 660 = .ok (.aload_n 1, 1) := by decide +kernel
theorem dL_law_661 : decode cL_law 661 = .ok (.aload_n 0, 1) := by decide +kernel
theorem dL_law_662 : decode cL_law 662 = .ok (.iload_n 3, 1) := by decide +kernel
theorem dL_law_663 : decode cL_law 663 = .ok (.iconst 1, 1) := by decide +kernel
theorem dL_law_664 : decode cL_law 664 = .ok (.iadd, 1) := by decide +kernel
theorem dL_law_665 : decode cL_law 665 = .ok (.iaload, 1) := by decide +kernel
theorem dL_law_666 : decode cL_law 666 = .ok (.invokevirtual 105, 3) := by decide +kernel
theorem dL_law_669 : decode cL_law 669 = .ok (.aload_n 2, 1) := by decide +kernel
theorem dL_law_670 : decode cL_law 670 = .ok (.aload_n 0, 1) := by decide +kernel
theorem dL_law_671 : decode cL_law 671 = .ok (.iload_n 3, 1) := by decide +kernel
theorem dL_law_672 : decode cL_law 672 = .ok (.iconst 1, 1) := by decide +kernel
theorem dL_law_673 : decode cL_law 673 = .ok (.iadd, 1) := by decide +kernel
theorem dL_law_674 : decode cL_law 674 = .ok (.iaload, 1) := by decide +kernel
theorem dL_law_675 : decode cL_law 675 = .ok (.invokevirtual 108, 3) := by decide +kernel
theorem dL_law_678 : decode cL_law 678 = .ok (.if_icmp .eq 28, 3) := by decide +kernel
theorem dL_law_681 : decode cL_law 681 = .ok (.iconst 0, 1) := by decide +kernel
theorem dL_law_682 : decode cL_law 682 = .ok (.ireturn, 1) := by decide +kernel
theorem dL_law_683 : decode cL_law 683 = .ok (.aload_n 1, 1) := by decide +kernel
theorem dL_law_684 : decode cL_law 684 = .ok (.aload_n 0, 1) := by decide +kernel
theorem dL_law_685 : decode cL_law 685 = .ok (.iload_n 3, 1) := by decide +kernel
theorem dL_law_686 : decode cL_law 686 = .ok (.iconst 1, 1) := by decide +kernel
theorem dL_law_687 : decode cL_law 687 = .ok (.iadd, 1) := by decide +kernel
theorem dL_law_688 : decode cL_law 688 = .ok (.iaload, 1) := by decide +kernel
theorem dL_law_689 : decode cL_law 689 = .ok (.invokevirtual 109, 3) := by decide +kernel
theorem dL_law_692 : decode cL_law 692 = .ok (.aload_n 2, 1) := by decide +kernel
theorem dL_law_693 : decode cL_law 693 = .ok (.aload_n 0, 1) := by decide +kernel
theorem dL_law_694 : decode cL_law 694 = .ok (.iload_n 3, 1) := by decide +kernel
theorem dL_law_695 : decode cL_law 695 = .ok (.iconst 1, 1) := by decide +kernel
theorem dL_law_696 : decode cL_law 696 = .ok (.iadd, 1) := by decide +kernel
theorem dL_law_697 : decode cL_law 697 = .ok (.iaload, 1) := by decide +kernel
theorem dL_law_698 : decode cL_law 698 = .ok (.invokevirtual 112, 3) := by decide +kernel
theorem dL_law_701 : decode cL_law 701 = .ok (.if_icmp .eq 5, 3) := by decide +kernel
theorem dL_law_704 : decode cL_law 704 = .ok (.iconst 0, 1) := by decide +kernel
theorem dL_law_705 : decode cL_law 705 = .ok (.ireturn, 1) := by decide +kernel
theorem dL_law_706 : decode cL_law 706 = .ok (.iinc 3 4, 3) := by decide +kernel
theorem dL_law_709 : decode cL_law 709 = .ok (.goto (-691), 3) := by decide +kernel
theorem dL_law_712 : decode cL_law 712 = .ok (.iconst 1, 1) := by decide +kernel
theorem dL_law_713 : decode cL_law 713 = .ok (.ireturn, 1) := by decide +kernel
