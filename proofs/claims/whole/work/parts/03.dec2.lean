/-! decode rows (printed) -/
theorem dX4_init_0 : decode cX4_init 0 = .ok (.aload_n 0, 1) := by decide +kernel
theorem dX4_init_1 : decode cX4_init 1 = .ok (.invokespecial 1, 3) := by decide +kernel
theorem dX4_init_4 : decode cX4_init 4 = .ok (.aload_n 0, 1) := by decide +kernel
theorem dX4_init_5 : decode cX4_init 5 = .ok (.bipush 40, 2) := by decide +kernel
theorem dX4_init_7 : decode cX4_init 7 = .ok (.newarray .int, 2) := by decide +kernel
theorem dX4_init_9 : decode cX4_init 9 = .ok (.putfield 7, 3) := by decide +kernel
theorem dX4_init_12 : decode cX4_init 12 = .ok (.aload_n 0, 1) := by decide +kernel
theorem dX4_init_13 : decode cX4_init 13 = .ok (.bipush 6, 2) := by decide +kernel
theorem dX4_init_15 : decode cX4_init 15 = .ok (.newarray .int, 2) := by decide +kernel
theorem dX4_init_17 : decode cX4_init 17 = .ok (.putfield 13, 3) := by decide +kernel
theorem dX4_init_20 : decode cX4_init 20 = .ok (.aload_n 0, 1) := by decide +kernel
theorem dX4_init_21 : decode cX4_init 21 = .ok (.bipush 25, 2) := by decide +kernel
theorem dX4_init_23 : decode cX4_init 23 = .ok (.newarray .int, 2) := by decide +kernel
theorem dX4_init_25 : decode cX4_init 25 = .ok (.putfield 16, 3) := by decide +kernel
theorem dX4_init_28 : decode cX4_init 28 = .ok (.aload_n 0, 1) := by decide +kernel
theorem dX4_init_29 : decode cX4_init 29 = .ok (.bipush 6, 2) := by decide +kernel
theorem dX4_init_31 : decode cX4_init 31 = .ok (.newarray .int, 2) := by decide +kernel
theorem dX4_init_33 : decode cX4_init 33 = .ok (.putfield 19, 3) := by decide +kernel
theorem dX4_init_36 : decode cX4_init 36 = .ok (.aload_n 0, 1) := by decide +kernel
theorem dX4_init_37 : decode cX4_init 37 = .ok (.bipush 25, 2) := by decide +kernel
theorem dX4_init_39 : decode cX4_init 39 = .ok (.newarray .int, 2) := by decide +kernel
theorem dX4_init_41 : decode cX4_init 41 = .ok (.putfield 22, 3) := by decide +kernel
theorem dX4_init_44 : decode cX4_init 44 = .ok (.aload_n 0, 1) := by decide +kernel
theorem dX4_init_45 : decode cX4_init 45 = .ok (.sipush 350, 3) := by decide +kernel
theorem dX4_init_48 : decode cX4_init 48 = .ok (.newarray .int, 2) := by decide +kernel
theorem dX4_init_50 : decode cX4_init 50 = .ok (.putfield 25, 3) := by decide +kernel
theorem dX4_init_53 : decode cX4_init 53 = .ok (.aload_n 0, 1) := by decide +kernel
theorem dX4_init_54 : decode cX4_init 54 = .ok (.bipush 50, 2) := by decide +kernel
theorem dX4_init_56 : decode cX4_init 56 = .ok (.newarray .int, 2) := by decide +kernel
theorem dX4_init_58 : decode cX4_init 58 = .ok (.putfield 28, 3) := by decide +kernel
theorem dX4_init_61 : decode cX4_init 61 = .ok (.aload_n 0, 1) := by decide +kernel
theorem dX4_init_62 : decode cX4_init 62 = .ok (.iconst 2, 1) := by decide +kernel
theorem dX4_init_63 : decode cX4_init 63 = .ok (.newarray .boolean, 2) := by decide +kernel
theorem dX4_init_65 : decode cX4_init 65 = .ok (.putfield 31, 3) := by decide +kernel
theorem dX4_init_68 : decode cX4_init 68 = .ok (.aload_n 0, 1) := by decide +kernel
theorem dX4_init_69 : decode cX4_init 69 = .ok (.bipush 6, 2) := by decide +kernel
theorem dX4_init_71 : decode cX4_init 71 = .ok (.newarray .int, 2) := by decide +kernel
theorem dX4_init_73 : decode cX4_init 73 = .ok (.putfield 35, 3) := by decide +kernel
theorem dX4_init_76 : decode cX4_init 76 = .ok (.aload_n 0, 1) := by decide +kernel
theorem dX4_init_77 : decode cX4_init 77 = .ok (.bipush 6, 2) := by decide +kernel
theorem dX4_init_79 : decode cX4_init 79 = .ok (.newarray .boolean, 2) := by decide +kernel
theorem dX4_init_81 : decode cX4_init 81 = .ok (.putfield 38, 3) := by decide +kernel
theorem dX4_init_84 : decode cX4_init 84 = .ok (.aload_n 0, 1) := by decide +kernel
theorem dX4_init_85 : decode cX4_init 85 = .ok (.bipush 25, 2) := by decide +kernel
theorem dX4_init_87 : decode cX4_init 87 = .ok (.newarray .int, 2) := by decide +kernel
theorem dX4_init_89 : decode cX4_init 89 = .ok (.putfield 41, 3) := by decide +kernel
theorem dX4_init_92 : decode cX4_init 92 = .ok (.aload_n 0, 1) := by decide +kernel
theorem dX4_init_93 : decode cX4_init 93 = .ok (.bipush 6, 2) := by decide +kernel
theorem dX4_init_95 : decode cX4_init 95 = .ok (.newarray .int, 2) := by decide +kernel
theorem dX4_init_97 : decode cX4_init 97 = .ok (.putfield 44, 3) := by decide +kernel
theorem dX4_init_100 : decode cX4_init 100 = .ok (.aload_n 0, 1) := by decide +kernel
theorem dX4_init_101 : decode cX4_init 101 = .ok (.bipush 7, 2) := by decide +kernel
theorem dX4_init_103 : decode cX4_init 103 = .ok (.newarray .int, 2) := by decide +kernel
theorem dX4_init_105 : decode cX4_init 105 = .ok (.putfield 47, 3) := by decide +kernel
theorem dX4_init_108 : decode cX4_init 108 = .ok (.aload_n 0, 1) := by decide +kernel
theorem dX4_init_109 : decode cX4_init 109 = .ok (.bipush 6, 2) := by decide +kernel
theorem dX4_init_111 : decode cX4_init 111 = .ok (.newarray .int, 2) := by decide +kernel
theorem dX4_init_113 : decode cX4_init 113 = .ok (.putfield 50, 3) := by decide +kernel
theorem dX4_init_116 : decode cX4_init 116 = .ok (.iconst 0, 1) := by decide +kernel
theorem dX4_init_117 : decode cX4_init 117 = .ok (.istore_n 1, 1) := by decide +kernel
theorem dX4_init_118 : decode cX4_init 118 = .ok (.iload_n 1, 1) := by decide +kernel
theorem dX4_init_119 : decode cX4_init 119 = .ok (.iconst 3, 1) := by decide +kernel
theorem dX4_init_120 : decode cX4_init 120 = .ok (.if_icmp .ge 16, 3) := by decide +kernel
theorem dX4_init_123 : decode cX4_init 123 = .ok (.aload_n 0, 1) := by decide +kernel
theorem dX4_init_124 : decode cX4_init 124 = .ok (.getfield 16, 3) := by decide +kernel
theorem dX4_init_127 : decode cX4_init 127 = .ok (.iload_n 1, 1) := by decide +kernel
theorem dX4_init_128 : decode cX4_init 128 = .ok (.iconst 1, 1) := by decide +kernel
theorem dX4_init_129 : decode cX4_init 129 = .ok (.iastore, 1) := by decide +kernel
theorem dX4_init_130 : decode cX4_init 130 = .ok (.iinc 1 1, 3) := by decide +kernel
theorem dX4_init_133 : decode cX4_init 133 = .ok (.goto (-15), 3) := by decide +kernel
theorem dX4_init_136 : decode cX4_init 136 = .ok (.return_, 1) := by decide +kernel
theorem dX4_in_0 : decode cX4_in 0 = .ok (.lload_n 0, 1) := by decide +kernel
theorem dX4_in_1 : decode cX4_in 1 = .ok (.lload_n 2, 1) := by decide +kernel
theorem dX4_in_2 : decode cX4_in 2 = .ok (.lcmp, 1) := by decide +kernel
theorem dX4_in_3 : decode cX4_in 3 = .ok (.ifCond .lt 14, 3) := by decide +kernel
theorem dX4_in_6 : decode cX4_in 6 = .ok (.lload_n 0, 1) := by decide +kernel
theorem dX4_in_7 : decode cX4_in 7 = .ok (.lload 4, 2) := by decide +kernel
theorem dX4_in_9 : decode cX4_in 9 = .ok (.lcmp, 1) := by decide +kernel
theorem dX4_in_10 : decode cX4_in 10 = .ok (.ifCond .gt 7, 3) := by decide +kernel
theorem dX4_in_13 : decode cX4_in 13 = .ok (.iconst 1, 1) := by decide +kernel
theorem dX4_in_14 : decode cX4_in 14 = .ok (.goto 4, 3) := by decide +kernel
theorem dX4_in_17 : decode cX4_in 17 = .ok (.iconst 0, 1) := by decide +kernel
theorem dX4_in_18 : decode cX4_in 18 = .ok (.ireturn, 1) := by decide +kernel
theorem dX4_has_0 : decode cX4_has 0 = .ok (.iload_n 0, 1) := by decide +kernel
theorem dX4_has_1 : decode cX4_has 1 = .ok (.iload_n 1, 1) := by decide +kernel
theorem dX4_has_2 : decode cX4_has 2 = .ok (.ishr, 1) := by decide +kernel
theorem dX4_has_3 : decode cX4_has 3 = .ok (.iconst 1, 1) := by decide +kernel
theorem dX4_has_4 : decode cX4_has 4 = .ok (.iand, 1) := by decide +kernel
theorem dX4_has_5 : decode cX4_has 5 = .ok (.iconst 1, 1) := by decide +kernel
theorem dX4_has_6 : decode cX4_has 6 = .ok (.if_icmp .ne 7, 3) := by decide +kernel
theorem dX4_has_9 : decode cX4_has 9 = .ok (.iconst 1, 1) := by decide +kernel
theorem dX4_has_10 : decode cX4_has 10 = .ok (.goto 4, 3) := by decide +kernel
theorem dX4_has_13 : decode cX4_has 13 = .ok (.iconst 0, 1) := by decide +kernel
theorem dX4_has_14 : decode cX4_has 14 = .ok (.ireturn, 1) := by decide +kernel
theorem dX4_many_0 : decode cX4_many 0 = .ok (.iconst 0, 1) := by decide +kernel
theorem dX4_many_1 : decode cX4_many 1 = .ok (.istore_n 1, 1) := by decide +kernel
theorem dX4_many_2 : decode cX4_many 2 = .ok (.iconst 0, 1) := by decide +kernel
theorem dX4_many_3 : decode cX4_many 3 = .ok (.istore_n 2, 1) := by decide +kernel
theorem dX4_many_4 : decode cX4_many 4 = .ok (.iload_n 2, 1) := by decide +kernel
theorem dX4_many_5 : decode cX4_many 5 = .ok (.bipush 6, 2) := by decide +kernel
theorem dX4_many_7 : decode cX4_many 7 = .ok (.if_icmp .ge 17, 3) := by decide +kernel
theorem dX4_many_10 : decode cX4_many 10 = .ok (.iload_n 1, 1) := by decide +kernel
theorem dX4_many_11 : decode cX4_many 11 = .ok (.iload_n 0, 1) := by decide +kernel
theorem dX4_many_12 : decode cX4_many 12 = .ok (.iload_n 2, 1) := by decide +kernel
theorem dX4_many_13 : decode cX4_many 13 = .ok (.ishr, 1) := by decide +kernel
theorem dX4_many_14 : decode cX4_many 14 = .ok (.iconst 1, 1) := by decide +kernel
theorem dX4_many_15 : decode cX4_many 15 = .ok (.iand, 1) := by decide +kernel
theorem dX4_many_16 : decode cX4_many 16 = .ok (.iadd, 1) := by decide +kernel
theorem dX4_many_17 : decode cX4_many 17 = .ok (.istore_n 1, 1) := by decide +kernel
theorem dX4_many_18 : decode cX4_many 18 = .ok (.iinc 2 1, 3) := by decide +kernel
theorem dX4_many_21 : decode cX4_many 21 = .ok (.goto (-17), 3) := by decide +kernel
theorem dX4_many_24 : decode cX4_many 24 = .ok (.iload_n 1, 1) := by decide +kernel
theorem dX4_many_25 : decode cX4_many 25 = .ok (.ireturn, 1) := by decide +kernel
theorem dX4_noOne_0 : decode cX4_noOne 0 = .ok (.iload_n 1, 1) := by decide +kernel
theorem dX4_noOne_1 : decode cX4_noOne 1 = .ok (.i2l, 1) := by decide +kernel
theorem dX4_noOne_2 : decode cX4_noOne 2 = .ok (.lconst 0, 1) := by decide +kernel
theorem dX4_noOne_3 : decode cX4_noOne 3 = .ok (.aload_n 0, 1) := by decide +kernel
theorem dX4_noOne_4 : decode cX4_noOne 4 = .ok (.getfield 57, 3) := by decide +kernel
theorem dX4_noOne_7 : decode cX4_noOne 7 = .ok (.iconst 1, 1) := by decide +kernel
theorem dX4_noOne_8 : decode cX4_noOne 8 = .ok (.isub, 1) := by decide +kernel
theorem dX4_noOne_9 : decode cX4_noOne 9 = .ok (.i2l, 1) := by decide +kernel
theorem dX4_noOne_10 : decode cX4_noOne 10 = .ok (.invokestatic 60, 3) := by decide +kernel
theorem dX4_noOne_13 : decode cX4_noOne 13 = .ok (.ifCond .ne 7, 3) := by decide +kernel
theorem dX4_noOne_16 : decode cX4_noOne 16 = .ok (.iconst 1, 1) := by decide +kernel
theorem dX4_noOne_17 : decode cX4_noOne 17 = .ok (.goto 4, 3) := by decide +kernel
theorem dX4_noOne_20 : decode cX4_noOne 20 = .ok (.iconst 0, 1) := by decide +kernel
theorem dX4_noOne_21 : decode cX4_noOne 21 = .ok (.ireturn, 1) := by decide +kernel
theorem dX4_write_0 : decode cX4_write 0 = .ok (.aload_n 0, 1) := by decide +kernel
theorem dX4_write_1 : decode cX4_write 1 = .ok (.iconst 0, 1) := by decide +kernel
theorem dX4_write_2 : decode cX4_write 2 = .ok (.putfield 53, 3) := by decide +kernel
theorem dX4_write_5 : decode cX4_write 5 = .ok (.iload_n 1, 1) := by decide +kernel
theorem dX4_write_6 : decode cX4_write 6 = .ok (.i2l, 1) := by decide +kernel
theorem dX4_write_7 : decode cX4_write 7 = .ok (.lconst 0, 1) := by decide +kernel
theorem dX4_write_8 : decode cX4_write 8 = .ok (.ldc2_w 64, 3) := by decide +kernel
theorem dX4_write_11 : decode cX4_write 11 = .ok (.invokestatic 60, 3) := by decide +kernel
theorem dX4_write_14 : decode cX4_write 14 = .ok (.ifCond .ne 6, 3) := by decide +kernel
theorem dX4_write_17 : decode cX4_write 17 = .ok (.bipush (-2), 2) := by decide +kernel
theorem dX4_write_19 : decode cX4_write 19 = .ok (.ireturn, 1) := by decide +kernel
theorem dX4_write_20 : decode cX4_write 20 = .ok (.aload_n 0, 1) := by decide +kernel
theorem dX4_write_21 : decode cX4_write 21 = .ok (.getfield 66, 3) := by decide +kernel
theorem dX4_write_24 : decode cX4_write 24 = .ok (.bipush 40, 2) := by decide +kernel
theorem dX4_write_26 : decode cX4_write 26 = .ok (.if_icmp .ne 6, 3) := by decide +kernel
theorem dX4_write_29 : decode cX4_write 29 = .ok (.bipush (-4), 2) := by decide +kernel
theorem dX4_write_31 : decode cX4_write 31 = .ok (.ireturn, 1) := by decide +kernel
theorem dX4_write_32 : decode cX4_write 32 = .ok (.aload_n 0, 1) := by decide +kernel
theorem dX4_write_33 : decode cX4_write 33 = .ok (.getfield 7, 3) := by decide +kernel
theorem dX4_write_36 : decode cX4_write 36 = .ok (.aload_n 0, 1) := by decide +kernel
theorem dX4_write_37 : decode cX4_write 37 = .ok (.getfield 66, 3) := by decide +kernel
theorem dX4_write_40 : decode cX4_write 40 = .ok (.iload_n 1, 1) := by decide +kernel
theorem dX4_write_41 : decode cX4_write 41 = .ok (.iastore, 1) := by decide +kernel
theorem dX4_write_42 : decode cX4_write 42 = .ok (.aload_n 0, 1) := by decide +kernel
theorem dX4_write_43 : decode cX4_write 43 = .ok (.dup, 1) := by decide +kernel
theorem dX4_write_44 : decode cX4_write 44 = .ok (.getfield 66, 3) := by decide +kernel
theorem dX4_write_47 : decode cX4_write 47 = .ok (.iconst 1, 1) := by decide +kernel
theorem dX4_write_48 : decode cX4_write 48 = .ok (.iadd, 1) := by decide +kernel
theorem dX4_write_49 : decode cX4_write 49 = .ok (.putfield 66, 3) := by decide +kernel
theorem dX4_write_52 : decode cX4_write 52 = .ok (.aload_n 0, 1) := by decide +kernel
theorem dX4_write_53 : decode cX4_write 53 = .ok (.getfield 66, 3) := by decide +kernel
theorem dX4_write_56 : decode cX4_write 56 = .ok (.ireturn, 1) := by decide +kernel
theorem dX4_wipe_0 : decode cX4_wipe 0 = .ok (.aload_n 0, 1) := by decide +kernel
theorem dX4_wipe_1 : decode cX4_wipe 1 = .ok (.iconst 0, 1) := by decide +kernel
theorem dX4_wipe_2 : decode cX4_wipe 2 = .ok (.putfield 53, 3) := by decide +kernel
theorem dX4_wipe_5 : decode cX4_wipe 5 = .ok (.aload_n 0, 1) := by decide +kernel
theorem dX4_wipe_6 : decode cX4_wipe 6 = .ok (.getfield 66, 3) := by decide +kernel
theorem dX4_wipe_9 : decode cX4_wipe 9 = .ok (.istore_n 1, 1) := by decide +kernel
theorem dX4_wipe_10 : decode cX4_wipe 10 = .ok (.aload_n 0, 1) := by decide +kernel
theorem dX4_wipe_11 : decode cX4_wipe 11 = .ok (.iconst 0, 1) := by decide +kernel
theorem dX4_wipe_12 : decode cX4_wipe 12 = .ok (.putfield 66, 3) := by decide +kernel
theorem dX4_wipe_15 : decode cX4_wipe 15 = .ok (.iload_n 1, 1) := by decide +kernel
theorem dX4_wipe_16 : decode cX4_wipe 16 = .ok (.ireturn, 1) := by decide +kernel
theorem dX4_figure_0 : decode cX4_figure 0 = .ok (.aload_n 0, 1) := by decide +kernel
theorem dX4_figure_1 : decode cX4_figure 1 = .ok (.getfield 69, 3) := by decide +kernel
theorem dX4_figure_4 : decode cX4_figure 4 = .ok (.aload_n 0, 1) := by decide +kernel
theorem dX4_figure_5 : decode cX4_figure 5 = .ok (.getfield 66, 3) := by decide +kernel
theorem dX4_figure_8 : decode cX4_figure 8 = .ok (.if_icmp .eq 26, 3) := by decide +kernel
theorem dX4_figure_11 : decode cX4_figure 11 = .ok (.aload_n 0, 1) := by decide +kernel
theorem dX4_figure_12 : decode cX4_figure 12 = .ok (.getfield 7, 3) := by decide +kernel
theorem dX4_figure_15 : decode cX4_figure 15 = .ok (.aload_n 0, 1) := by decide +kernel
theorem dX4_figure_16 : decode cX4_figure 16 = .ok (.getfield 69, 3) := by decide +kernel
theorem dX4_figure_19 : decode cX4_figure 19 = .ok (.iaload, 1) := by decide +kernel
theorem dX4_figure_20 : decode cX4_figure 20 = .ok (.bipush 48, 2) := by decide +kernel
theorem dX4_figure_22 : decode cX4_figure 22 = .ok (.isub, 1) := by decide +kernel
theorem dX4_figure_23 : decode cX4_figure 23 = .ok (.i2l, 1) := by decide +kernel
theorem dX4_figure_24 : decode cX4_figure 24 = .ok (.iload_n 1, 1) := by decide +kernel
theorem dX4_figure_25 : decode cX4_figure 25 = .ok (.i2l, 1) := by decide +kernel
theorem dX4_figure_26 : decode cX4_figure 26 = .ok (.iload_n 2, 1) := by decide +kernel
theorem dX4_figure_27 : decode cX4_figure 27 = .ok (.i2l, 1) := by decide +kernel
theorem dX4_figure_28 : decode cX4_figure 28 = .ok (.invokestatic 60, 3) := by decide +kernel
theorem dX4_figure_31 : decode cX4_figure 31 = .ok (.ifCond .ne 6, 3) := by decide +kernel
theorem dX4_figure_34 : decode cX4_figure 34 = .ok (.bipush (-9), 2) := by decide +kernel
theorem dX4_figure_36 : decode cX4_figure 36 = .ok (.ireturn, 1) := by decide +kernel
theorem dX4_figure_37 : decode cX4_figure 37 = .ok (.aload_n 0, 1) := by decide +kernel
theorem dX4_figure_38 : decode cX4_figure 38 = .ok (.dup, 1) := by decide +kernel
theorem dX4_figure_39 : decode cX4_figure 39 = .ok (.getfield 69, 3) := by decide +kernel
theorem dX4_figure_42 : decode cX4_figure 42 = .ok (.iconst 1, 1) := by decide +kernel
theorem dX4_figure_43 : decode cX4_figure 43 = .ok (.iadd, 1) := by decide +kernel
theorem dX4_figure_44 : decode cX4_figure 44 = .ok (.putfield 69, 3) := by decide +kernel
theorem dX4_figure_47 : decode cX4_figure 47 = .ok (.aload_n 0, 1) := by decide +kernel
theorem dX4_figure_48 : decode cX4_figure 48 = .ok (.getfield 7, 3) := by decide +kernel
theorem dX4_figure_51 : decode cX4_figure 51 = .ok (.aload_n 0, 1) := by decide +kernel
theorem dX4_figure_52 : decode cX4_figure 52 = .ok (.getfield 69, 3) := by decide +kernel
theorem dX4_figure_55 : decode cX4_figure 55 = .ok (.iconst 1, 1) := by decide +kernel
theorem dX4_figure_56 : decode cX4_figure 56 = .ok (.isub, 1) := by decide +kernel
theorem dX4_figure_57 : decode cX4_figure 57 = .ok (.iaload, 1) := by decide +kernel
theorem dX4_figure_58 : decode cX4_figure 58 = .ok (.bipush 48, 2) := by decide +kernel
theorem dX4_figure_60 : decode cX4_figure 60 = .ok (.isub, 1) := by decide +kernel
theorem dX4_figure_61 : decode cX4_figure 61 = .ok (.ireturn, 1) := by decide +kernel
theorem dX4_readPerson_0 : decode cX4_readPerson 0 = .ok (.iconst 0, 1) := by decide +kernel
theorem dX4_readPerson_1 : decode cX4_readPerson 1 = .ok (.istore_n 1, 1) := by decide +kernel
theorem dX4_readPerson_2 : decode cX4_readPerson 2 = .ok (.iload_n 1, 1) := by decide +kernel
theorem dX4_readPerson_3 : decode cX4_readPerson 3 = .ok (.iconst 3, 1) := by decide +kernel
theorem dX4_readPerson_4 : decode cX4_readPerson 4 = .ok (.if_icmp .ge 41, 3) := by decide +kernel
theorem dX4_readPerson_7 : decode cX4_readPerson 7 = .ok (.aload_n 0, 1) := by decide +kernel
theorem dX4_readPerson_8 : decode cX4_readPerson 8 = .ok (.iconst 0, 1) := by decide +kernel
theorem dX4_readPerson_9 : decode cX4_readPerson 9 = .ok (.bipush 9, 2) := by decide +kernel
theorem dX4_readPerson_11 : decode cX4_readPerson 11 = .ok (.invokevirtual 72, 3) := by decide +kernel
theorem dX4_readPerson_14 : decode cX4_readPerson 14 = .ok (.istore_n 2, 1) := by decide +kernel
theorem dX4_readPerson_15 : decode cX4_readPerson 15 = .ok (.iload_n 2, 1) := by decide +kernel
theorem dX4_readPerson_16 : decode cX4_readPerson 16 = .ok (.bipush (-9), 2) := by decide +kernel
theorem dX4_readPerson_18 : decode cX4_readPerson 18 = .ok (.if_icmp .ne 5, 3) := by decide +kernel
theorem dX4_readPerson_21 : decode cX4_readPerson 21 = .ok (.iconst 0, 1) := by decide +kernel
theorem dX4_readPerson_22 : decode cX4_readPerson 22 = .ok (.ireturn, 1) := by decide +kernel
theorem dX4_readPerson_23 : decode cX4_readPerson 23 = .ok (.aload_n 0, 1) := by decide +kernel
theorem dX4_readPerson_24 : decode cX4_readPerson 24 = .ok (.getfield 22, 3) := by decide +kernel
theorem dX4_readPerson_27 : decode cX4_readPerson 27 = .ok (.iconst 3, 1) := by decide +kernel
theorem dX4_readPerson_28 : decode cX4_readPerson 28 = .ok (.iconst 3, 1) := by decide +kernel
theorem dX4_readPerson_29 : decode cX4_readPerson 29 = .ok (.aload_n 0, 1) := by decide +kernel
theorem dX4_readPerson_30 : decode cX4_readPerson 30 = .ok (.getfield 76, 3) := by decide +kernel
theorem dX4_readPerson_33 : decode cX4_readPerson 33 = .ok (.imul, 1) := by decide +kernel
theorem dX4_readPerson_34 : decode cX4_readPerson 34 = .ok (.iadd, 1) := by decide +kernel
theorem dX4_readPerson_35 : decode cX4_readPerson 35 = .ok (.iload_n 1, 1) := by decide +kernel
theorem dX4_readPerson_36 : decode cX4_readPerson 36 = .ok (.iadd, 1) := by decide +kernel
theorem dX4_readPerson_37 : decode cX4_readPerson 37 = .ok (.iload_n 2, 1) := by decide +kernel
theorem dX4_readPerson_38 : decode cX4_readPerson 38 = .ok (.iastore, 1) := by decide +kernel
theorem dX4_readPerson_39 : decode cX4_readPerson 39 = .ok (.iinc 1 1, 3) := by decide +kernel
theorem dX4_readPerson_42 : decode cX4_readPerson 42 = .ok (.goto (-40), 3) := by decide +kernel
theorem dX4_readPerson_45 : decode cX4_readPerson 45 = .ok (.aload_n 0, 1) := by decide +kernel
theorem dX4_readPerson_46 : decode cX4_readPerson 46 = .ok (.iconst 0, 1) := by decide +kernel
theorem dX4_readPerson_47 : decode cX4_readPerson 47 = .ok (.iconst 2, 1) := by decide +kernel
theorem dX4_readPerson_48 : decode cX4_readPerson 48 = .ok (.invokevirtual 72, 3) := by decide +kernel
theorem dX4_readPerson_51 : decode cX4_readPerson 51 = .ok (.istore_n 1, 1) := by decide +kernel
theorem dX4_readPerson_52 : decode cX4_readPerson 52 = .ok (.iload_n 1, 1) := by decide +kernel
theorem dX4_readPerson_53 : decode cX4_readPerson 53 = .ok (.bipush (-9), 2) := by decide +kernel
theorem dX4_readPerson_55 : decode cX4_readPerson 55 = .ok (.if_icmp .ne 5, 3) := by decide +kernel
theorem dX4_readPerson_58 : decode cX4_readPerson 58 = .ok (.iconst 0, 1) := by decide +kernel
theorem dX4_readPerson_59 : decode cX4_readPerson 59 = .ok (.ireturn, 1) := by decide +kernel
theorem dX4_readPerson_60 : decode cX4_readPerson 60 = .ok (.aload_n 0, 1) := by decide +kernel
theorem dX4_readPerson_61 : decode cX4_readPerson 61 = .ok (.getfield 19, 3) := by decide +kernel
theorem dX4_readPerson_64 : decode cX4_readPerson 64 = .ok (.aload_n 0, 1) := by decide +kernel
theorem dX4_readPerson_65 : decode cX4_readPerson 65 = .ok (.getfield 76, 3) := by decide +kernel
theorem dX4_readPerson_68 : decode cX4_readPerson 68 = .ok (.iload_n 1, 1) := by decide +kernel
theorem dX4_readPerson_69 : decode cX4_readPerson 69 = .ok (.iastore, 1) := by decide +kernel
theorem dX4_readPerson_70 : decode cX4_readPerson 70 = .ok (.aload_n 0, 1) := by decide +kernel
theorem dX4_readPerson_71 : decode cX4_readPerson 71 = .ok (.getfield 22, 3) := by decide +kernel
theorem dX4_readPerson_74 : decode cX4_readPerson 74 = .ok (.bipush 21, 2) := by decide +kernel
theorem dX4_readPerson_76 : decode cX4_readPerson 76 = .ok (.dup2, 1) := by decide +kernel
theorem dX4_readPerson_77 : decode cX4_readPerson 77 = .ok (.iaload, 1) := by decide +kernel
theorem dX4_readPerson_78 : decode cX4_readPerson 78 = .ok (.iconst 1, 1) := by decide +kernel
theorem dX4_readPerson_79 : decode cX4_readPerson 79 = .ok (.aload_n 0, 1) := by decide +kernel
theorem dX4_readPerson_80 : decode cX4_readPerson 80 = .ok (.getfield 76, 3) := by decide +kernel
theorem dX4_readPerson_83 : decode cX4_readPerson 83 = .ok (.ishl, 1) := by decide +kernel
theorem dX4_readPerson_84 : decode cX4_readPerson 84 = .ok (.ior, 1) := by decide +kernel
theorem dX4_readPerson_85 : decode cX4_readPerson 85 = .ok (.iastore, 1) := by decide +kernel
theorem dX4_readPerson_86 : decode cX4_readPerson 86 = .ok (.aload_n 0, 1) := by decide +kernel
theorem dX4_readPerson_87 : decode cX4_readPerson 87 = .ok (.dup, 1) := by decide +kernel
theorem dX4_readPerson_88 : decode cX4_readPerson 88 = .ok (.getfield 76, 3) := by decide +kernel
theorem dX4_readPerson_91 : decode cX4_readPerson 91 = .ok (.iconst 1, 1) := by decide +kernel
theorem dX4_readPerson_92 : decode cX4_readPerson 92 = .ok (.iadd, 1) := by decide +kernel
theorem dX4_readPerson_93 : decode cX4_readPerson 93 = .ok (.putfield 76, 3) := by decide +kernel
theorem dX4_readPerson_96 : decode cX4_readPerson 96 = .ok (.iconst 1, 1) := by decide +kernel
theorem dX4_readPerson_97 : decode cX4_readPerson 97 = .ok (.ireturn, 1) := by decide +kernel
theorem dX4_readCourt_0 : decode cX4_readCourt 0 = .ok (.aload_n 0, 1) := by decide +kernel
theorem dX4_readCourt_1 : decode cX4_readCourt 1 = .ok (.iconst 0, 1) := by decide +kernel
theorem dX4_readCourt_2 : decode cX4_readCourt 2 = .ok (.putfield 69, 3) := by decide +kernel
theorem dX4_readCourt_5 : decode cX4_readCourt 5 = .ok (.aload_n 0, 1) := by decide +kernel
theorem dX4_readCourt_6 : decode cX4_readCourt 6 = .ok (.iconst 0, 1) := by decide +kernel
theorem dX4_readCourt_7 : decode cX4_readCourt 7 = .ok (.putfield 76, 3) := by decide +kernel
theorem dX4_readCourt_10 : decode cX4_readCourt 10 = .ok (.iconst 0, 1) := by decide +kernel
theorem dX4_readCourt_11 : decode cX4_readCourt 11 = .ok (.istore_n 1, 1) := by decide +kernel
theorem dX4_readCourt_12 : decode cX4_readCourt 12 = .ok (.iload_n 1, 1) := by decide +kernel
theorem dX4_readCourt_13 : decode cX4_readCourt 13 = .ok (.bipush 25, 2) := by decide +kernel
theorem dX4_readCourt_15 : decode cX4_readCourt 15 = .ok (.if_icmp .ge 16, 3) := by decide +kernel
theorem dX4_readCourt_18 : decode cX4_readCourt 18 = .ok (.aload_n 0, 1) := by decide +kernel
theorem dX4_readCourt_19 : decode cX4_readCourt 19 = .ok (.getfield 22, 3) := by decide +kernel
theorem dX4_readCourt_22 : decode cX4_readCourt 22 = .ok (.iload_n 1, 1) := by decide +kernel
theorem dX4_readCourt_23 : decode cX4_readCourt 23 = .ok (.iconst 0, 1) := by decide +kernel
theorem dX4_readCourt_24 : decode cX4_readCourt 24 = .ok (.iastore, 1) := by decide +kernel
theorem dX4_readCourt_25 : decode cX4_readCourt 25 = .ok (.iinc 1 1, 3) := by decide +kernel
theorem dX4_readCourt_28 : decode cX4_readCourt 28 = .ok (.goto (-16), 3) := by decide +kernel
theorem dX4_readCourt_31 : decode cX4_readCourt 31 = .ok (.aload_n 0, 1) := by decide +kernel
theorem dX4_readCourt_32 : decode cX4_readCourt 32 = .ok (.getfield 66, 3) := by decide +kernel
theorem dX4_readCourt_35 : decode cX4_readCourt 35 = .ok (.ifCond .eq 14, 3) := by decide +kernel
theorem dX4_readCourt_38 : decode cX4_readCourt 38 = .ok (.aload_n 0, 1) := by decide +kernel
theorem dX4_readCourt_39 : decode cX4_readCourt 39 = .ok (.getfield 7, 3) := by decide +kernel
theorem dX4_readCourt_42 : decode cX4_readCourt 42 = .ok (.iconst 0, 1) := by decide +kernel
theorem dX4_readCourt_43 : decode cX4_readCourt 43 = .ok (.iaload, 1) := by decide +kernel
theorem dX4_readCourt_44 : decode cX4_readCourt 44 = .ok (.bipush 81, 2) := by decide +kernel
theorem dX4_readCourt_46 : decode cX4_readCourt 46 = .ok (.if_icmp .eq 5, 3) := by decide +kernel
theorem dX4_readCourt_49 : decode cX4_readCourt 49 = .ok (.iconst 0, 1) := by decide +kernel
theorem dX4_readCourt_50 : decode cX4_readCourt 50 = .ok (.ireturn, 1) := by decide +kernel
theorem dX4_readCourt_51 : decode cX4_readCourt 51 = .ok (.aload_n 0, 1) := by decide +kernel
theorem dX4_readCourt_52 : decode cX4_readCourt 52 = .ok (.iconst 1, 1) := by decide +kernel
theorem dX4_readCourt_53 : decode cX4_readCourt 53 = .ok (.putfield 69, 3) := by decide +kernel
theorem dX4_readCourt_56 : decode cX4_readCourt 56 = .ok (.iconst 0, 1) := by decide +kernel
theorem dX4_readCourt_57 : decode cX4_readCourt 57 = .ok (.istore_n 1, 1) := by decide +kernel
theorem dX4_readCourt_58 : decode cX4_readCourt 58 = .ok (.iload_n 1, 1) := by decide +kernel
theorem dX4_readCourt_59 : decode cX4_readCourt 59 = .ok (.iconst 3, 1) := by decide +kernel
theorem dX4_readCourt_60 : decode cX4_readCourt 60 = .ok (.if_icmp .ge 60, 3) := by decide +kernel
theorem dX4_readCourt_63 : decode cX4_readCourt 63 = .ok (.aload_n 0, 1) := by decide +kernel
theorem dX4_readCourt_64 : decode cX4_readCourt 64 = .ok (.iload_n 1, 1) := by decide +kernel
theorem dX4_readCourt_65 : decode cX4_readCourt 65 = .ok (.iconst 2, 1) := by decide +kernel
theorem dX4_readCourt_66 : decode cX4_readCourt 66 = .ok (.if_icmp .ne 23, 3) := by decide +kernel
theorem dX4_readCourt_69 : decode cX4_readCourt 69 = .ok (.aload_n 0, 1) := by decide +kernel
theorem dX4_readCourt_70 : decode cX4_readCourt 70 = .ok (.getfield 22, 3) := by decide +kernel
theorem dX4_readCourt_73 : decode cX4_readCourt 73 = .ok (.iconst 0, 1) := by decide +kernel
theorem dX4_readCourt_74 : decode cX4_readCourt 74 = .ok (.iaload, 1) := by decide +kernel
theorem dX4_readCourt_75 : decode cX4_readCourt 75 = .ok (.aload_n 0, 1) := by decide +kernel
theorem dX4_readCourt_76 : decode cX4_readCourt 76 = .ok (.getfield 22, 3) := by decide +kernel
theorem dX4_readCourt_79 : decode cX4_readCourt 79 = .ok (.iconst 1, 1) := by decide +kernel
theorem dX4_readCourt_80 : decode cX4_readCourt 80 = .ok (.iaload, 1) := by decide +kernel
theorem dX4_readCourt_81 : decode cX4_readCourt 81 = .ok (.iadd, 1) := by decide +kernel
theorem dX4_readCourt_82 : decode cX4_readCourt 82 = .ok (.ifCond .ne 7, 3) := by decide +kernel
theorem dX4_readCourt_85 : decode cX4_readCourt 85 = .ok (.iconst 1, 1) := by decide +kernel
theorem dX4_readCourt_86 : decode cX4_readCourt 86 = .ok (.goto 4, 3) := by decide +kernel
theorem dX4_readCourt_89 : decode cX4_readCourt 89 = .ok (.iconst 0, 1) := by decide +kernel
theorem dX4_readCourt_90 : decode cX4_readCourt 90 = .ok (.bipush 9, 2) := by decide +kernel
theorem dX4_readCourt_92 : decode cX4_readCourt 92 = .ok (.invokevirtual 72, 3) := by decide +kernel
theorem dX4_readCourt_95 : decode cX4_readCourt 95 = .ok (.istore_n 2, 1) := by decide +kernel
theorem dX4_readCourt_96 : decode cX4_readCourt 96 = .ok (.iload_n 2, 1) := by decide +kernel
theorem dX4_readCourt_97 : decode cX4_readCourt 97 = .ok (.bipush (-9), 2) := by decide +kernel
theorem dX4_readCourt_99 : decode cX4_readCourt 99 = .ok (.if_icmp .ne 8, 3) := by decide +kernel
theorem dX4_readCourt_102 : decode cX4_readCourt 102 = .ok (.aload_n 0, 1) := by decide +kernel
theorem dX4_readCourt_103 : decode cX4_readCourt 103 = .ok (.getfield 69, 3) := by decide +kernel
theorem dX4_readCourt_106 : decode cX4_readCourt 106 = .ok (.ireturn, 1) := by decide +kernel
theorem dX4_readCourt_107 : decode cX4_readCourt 107 = .ok (.aload_n 0, 1) := by decide +kernel
theorem dX4_readCourt_108 : decode cX4_readCourt 108 = .ok (.getfield 22, 3) := by decide +kernel
theorem dX4_readCourt_111 : decode cX4_readCourt 111 = .ok (.iload_n 1, 1) := by decide +kernel
theorem dX4_readCourt_112 : decode cX4_readCourt 112 = .ok (.iload_n 2, 1) := by decide +kernel
theorem dX4_readCourt_113 : decode cX4_readCourt 113 = .ok (.iastore, 1) := by decide +kernel
theorem dX4_readCourt_114 : decode cX4_readCourt 114 = .ok (.iinc 1 1, 3) := by decide +kernel
theorem dX4_readCourt_117 : decode cX4_readCourt 117 = .ok (.goto (-59), 3) := by decide +kernel
theorem dX4_readCourt_120 : decode cX4_readCourt 120 = .ok (.aload_n 0, 1) := by decide +kernel
theorem dX4_readCourt_121 : decode cX4_readCourt 121 = .ok (.getfield 69, 3) := by decide +kernel
theorem dX4_readCourt_124 : decode cX4_readCourt 124 = .ok (.aload_n 0, 1) := by decide +kernel
theorem dX4_readCourt_125 : decode cX4_readCourt 125 = .ok (.getfield 66, 3) := by decide +kernel
theorem dX4_readCourt_128 : decode cX4_readCourt 128 = .ok (.if_icmp .ge 53, 3) := by decide +kernel
theorem dX4_readCourt_131 : decode cX4_readCourt 131 = .ok (.aload_n 0, 1) := by decide +kernel
theorem dX4_readCourt_132 : decode cX4_readCourt 132 = .ok (.getfield 7, 3) := by decide +kernel
theorem dX4_readCourt_135 : decode cX4_readCourt 135 = .ok (.aload_n 0, 1) := by decide +kernel
theorem dX4_readCourt_136 : decode cX4_readCourt 136 = .ok (.getfield 69, 3) := by decide +kernel
theorem dX4_readCourt_139 : decode cX4_readCourt 139 = .ok (.iaload, 1) := by decide +kernel
theorem dX4_readCourt_140 : decode cX4_readCourt 140 = .ok (.bipush 80, 2) := by decide +kernel
theorem dX4_readCourt_142 : decode cX4_readCourt 142 = .ok (.if_icmp .ne 12, 3) := by decide +kernel
theorem dX4_readCourt_145 : decode cX4_readCourt 145 = .ok (.aload_n 0, 1) := by decide +kernel
theorem dX4_readCourt_146 : decode cX4_readCourt 146 = .ok (.getfield 76, 3) := by decide +kernel
theorem dX4_readCourt_149 : decode cX4_readCourt 149 = .ok (.bipush 6, 2) := by decide +kernel
theorem dX4_readCourt_151 : decode cX4_readCourt 151 = .ok (.if_icmp .ne 8, 3) := by decide +kernel
theorem dX4_readCourt_154 : decode cX4_readCourt 154 = .ok (.aload_n 0, 1) := by decide +kernel
theorem dX4_readCourt_155 : decode cX4_readCourt 155 = .ok (.getfield 69, 3) := by decide +kernel
theorem dX4_readCourt_158 : decode cX4_readCourt 158 = .ok (.ireturn, 1) := by decide +kernel
theorem dX4_readCourt_159 : decode cX4_readCourt 159 = .ok (.aload_n 0, 1) := by decide +kernel
theorem dX4_readCourt_160 : decode cX4_readCourt 160 = .ok (.dup, 1) := by decide +kernel
theorem dX4_readCourt_161 : decode cX4_readCourt 161 = .ok (.getfield 69, 3) := by decide +kernel
theorem dX4_readCourt_164 : decode cX4_readCourt 164 = .ok (.iconst 1, 1) := by decide +kernel
theorem dX4_readCourt_165 : decode cX4_readCourt 165 = .ok (.iadd, 1) := by decide +kernel
theorem dX4_readCourt_166 : decode cX4_readCourt 166 = .ok (.putfield 69, 3) := by decide +kernel
theorem dX4_readCourt_169 : decode cX4_readCourt 169 = .ok (.aload_n 0, 1) := by decide +kernel
theorem dX4_readCourt_170 : decode cX4_readCourt 170 = .ok (.invokevirtual 79, 3) := by decide +kernel
theorem dX4_readCourt_173 : decode cX4_readCourt 173 = .ok (.ifCond .ne (-53), 3) := by decide +kernel
theorem dX4_readCourt_176 : decode cX4_readCourt 176 = .ok (.aload_n 0, 1) := by decide +kernel
theorem dX4_readCourt_177 : decode cX4_readCourt 177 = .ok (.getfield 69, 3) := by decide +kernel
theorem dX4_readCourt_180 : decode cX4_readCourt 180 = .ok (.ireturn, 1) := by decide +kernel
theorem dX4_readCourt_181 : decode cX4_readCourt 181 = .ok (.bipush (-9), 2) := by decide +kernel
theorem dX4_readCourt_183 : decode cX4_readCourt 183 = .ok (.ireturn, 1) := by decide +kernel
theorem dX4_fault_0 : decode cX4_fault 0 = .ok (.aload_n 0, 1) := by decide +kernel
theorem dX4_fault_1 : decode cX4_fault 1 = .ok (.iconst 0, 1) := by decide +kernel
theorem dX4_fault_2 : decode cX4_fault 2 = .ok (.putfield 53, 3) := by decide +kernel
theorem dX4_fault_5 : decode cX4_fault 5 = .ok (.aload_n 0, 1) := by decide +kernel
theorem dX4_fault_6 : decode cX4_fault 6 = .ok (.invokevirtual 83, 3) := by decide +kernel
theorem dX4_fault_9 : decode cX4_fault 9 = .ok (.ireturn, 1) := by decide +kernel
theorem dX4_court_0 : decode cX4_court 0 = .ok (.aload_n 0, 1) := by decide +kernel
theorem dX4_court_1 : decode cX4_court 1 = .ok (.iconst 0, 1) := by decide +kernel
theorem dX4_court_2 : decode cX4_court 2 = .ok (.putfield 53, 3) := by decide +kernel
theorem dX4_court_5 : decode cX4_court 5 = .ok (.aload_n 0, 1) := by decide +kernel
theorem dX4_court_6 : decode cX4_court 6 = .ok (.invokevirtual 83, 3) := by decide +kernel
theorem dX4_court_9 : decode cX4_court 9 = .ok (.bipush (-9), 2) := by decide +kernel
theorem dX4_court_11 : decode cX4_court 11 = .ok (.if_icmp .eq 6, 3) := by decide +kernel
theorem dX4_court_14 : decode cX4_court 14 = .ok (.bipush (-3), 2) := by decide +kernel
theorem dX4_court_16 : decode cX4_court 16 = .ok (.ireturn, 1) := by decide +kernel
theorem dX4_court_17 : decode cX4_court 17 = .ok (.aload_n 0, 1) := by decide +kernel
theorem dX4_court_18 : decode cX4_court 18 = .ok (.aload_n 0, 1) := by decide +kernel
theorem dX4_court_19 : decode cX4_court 19 = .ok (.getfield 76, 3) := by decide +kernel
theorem dX4_court_22 : decode cX4_court 22 = .ok (.putfield 57, 3) := by decide +kernel
theorem dX4_court_25 : decode cX4_court 25 = .ok (.iconst 0, 1) := by decide +kernel
theorem dX4_court_26 : decode cX4_court 26 = .ok (.istore_n 1, 1) := by decide +kernel
theorem dX4_court_27 : decode cX4_court 27 = .ok (.iload_n 1, 1) := by decide +kernel
theorem dX4_court_28 : decode cX4_court 28 = .ok (.aload_n 0, 1) := by decide +kernel
theorem dX4_court_29 : decode cX4_court 29 = .ok (.getfield 57, 3) := by decide +kernel
theorem dX4_court_32 : decode cX4_court 32 = .ok (.if_icmp .ge 21, 3) := by decide +kernel
theorem dX4_court_35 : decode cX4_court 35 = .ok (.aload_n 0, 1) := by decide +kernel
theorem dX4_court_36 : decode cX4_court 36 = .ok (.getfield 13, 3) := by decide +kernel
theorem dX4_court_39 : decode cX4_court 39 = .ok (.iload_n 1, 1) := by decide +kernel
theorem dX4_court_40 : decode cX4_court 40 = .ok (.aload_n 0, 1) := by decide +kernel
theorem dX4_court_41 : decode cX4_court 41 = .ok (.getfield 19, 3) := by decide +kernel
theorem dX4_court_44 : decode cX4_court 44 = .ok (.iload_n 1, 1) := by decide +kernel
theorem dX4_court_45 : decode cX4_court 45 = .ok (.iaload, 1) := by decide +kernel
theorem dX4_court_46 : decode cX4_court 46 = .ok (.iastore, 1) := by decide +kernel
theorem dX4_court_47 : decode cX4_court 47 = .ok (.iinc 1 1, 3) := by decide +kernel
theorem dX4_court_50 : decode cX4_court 50 = .ok (.goto (-23), 3) := by decide +kernel
theorem dX4_court_53 : decode cX4_court 53 = .ok (.iconst 0, 1) := by decide +kernel
theorem dX4_court_54 : decode cX4_court 54 = .ok (.istore_n 1, 1) := by decide +kernel
theorem dX4_court_55 : decode cX4_court 55 = .ok (.iload_n 1, 1) := by decide +kernel
theorem dX4_court_56 : decode cX4_court 56 = .ok (.bipush 25, 2) := by decide +kernel
theorem dX4_court_58 : decode cX4_court 58 = .ok (.if_icmp .ge 21, 3) := by decide +kernel
theorem dX4_court_61 : decode cX4_court 61 = .ok (.aload_n 0, 1) := by decide +kernel
theorem dX4_court_62 : decode cX4_court 62 = .ok (.getfield 16, 3) := by decide +kernel
theorem dX4_court_65 : decode cX4_court 65 = .ok (.iload_n 1, 1) := by decide +kernel
theorem dX4_court_66 : decode cX4_court 66 = .ok (.aload_n 0, 1) := by decide +kernel
theorem dX4_court_67 : decode cX4_court 67 = .ok (.getfield 22, 3) := by decide +kernel
theorem dX4_court_70 : decode cX4_court 70 = .ok (.iload_n 1, 1) := by decide +kernel
theorem dX4_court_71 : decode cX4_court 71 = .ok (.iaload, 1) := by decide +kernel
theorem dX4_court_72 : decode cX4_court 72 = .ok (.iastore, 1) := by decide +kernel
theorem dX4_court_73 : decode cX4_court 73 = .ok (.iinc 1 1, 3) := by decide +kernel
theorem dX4_court_76 : decode cX4_court 76 = .ok (.goto (-21), 3) := by decide +kernel
theorem dX4_court_79 : decode cX4_court 79 = .ok (.aload_n 0, 1) := by decide +kernel
theorem dX4_court_80 : decode cX4_court 80 = .ok (.iconst 0, 1) := by decide +kernel
theorem dX4_court_81 : decode cX4_court 81 = .ok (.putfield 87, 3) := by decide +kernel
theorem dX4_court_84 : decode cX4_court 84 = .ok (.aload_n 0, 1) := by decide +kernel
theorem dX4_court_85 : decode cX4_court 85 = .ok (.getfield 31, 3) := by decide +kernel
theorem dX4_court_88 : decode cX4_court 88 = .ok (.iconst 0, 1) := by decide +kernel
theorem dX4_court_89 : decode cX4_court 89 = .ok (.iconst 0, 1) := by decide +kernel
theorem dX4_court_90 : decode cX4_court 90 = .ok (.bastore, 1) := by decide +kernel
theorem dX4_court_91 : decode cX4_court 91 = .ok (.aload_n 0, 1) := by decide +kernel
theorem dX4_court_92 : decode cX4_court 92 = .ok (.getfield 31, 3) := by decide +kernel
theorem dX4_court_95 : decode cX4_court 95 = .ok (.iconst 1, 1) := by decide +kernel
theorem dX4_court_96 : decode cX4_court 96 = .ok (.iconst 0, 1) := by decide +kernel
theorem dX4_court_97 : decode cX4_court 97 = .ok (.bastore, 1) := by decide +kernel
theorem dX4_court_98 : decode cX4_court 98 = .ok (.aload_n 0, 1) := by decide +kernel
theorem dX4_court_99 : decode cX4_court 99 = .ok (.getfield 57, 3) := by decide +kernel
theorem dX4_court_102 : decode cX4_court 102 = .ok (.ireturn, 1) := by decide +kernel
theorem dX4_valueOf_0 : decode cX4_valueOf 0 = .ok (.aload_n 0, 1) := by decide +kernel
theorem dX4_valueOf_1 : decode cX4_valueOf 1 = .ok (.iconst 3, 1) := by decide +kernel
theorem dX4_valueOf_2 : decode cX4_valueOf 2 = .ok (.iconst 3, 1) := by decide +kernel
theorem dX4_valueOf_3 : decode cX4_valueOf 3 = .ok (.iload_n 1, 1) := by decide +kernel
theorem dX4_valueOf_4 : decode cX4_valueOf 4 = .ok (.imul, 1) := by decide +kernel
theorem dX4_valueOf_5 : decode cX4_valueOf 5 = .ok (.iadd, 1) := by decide +kernel
theorem dX4_valueOf_6 : decode cX4_valueOf 6 = .ok (.iaload, 1) := by decide +kernel
theorem dX4_valueOf_7 : decode cX4_valueOf 7 = .ok (.iload_n 2, 1) := by decide +kernel
theorem dX4_valueOf_8 : decode cX4_valueOf 8 = .ok (.bipush 100, 2) := by decide +kernel
theorem dX4_valueOf_10 : decode cX4_valueOf 10 = .ok (.idiv, 1) := by decide +kernel
theorem dX4_valueOf_11 : decode cX4_valueOf 11 = .ok (.imul, 1) := by decide +kernel
theorem dX4_valueOf_12 : decode cX4_valueOf 12 = .ok (.aload_n 0, 1) := by decide +kernel
theorem dX4_valueOf_13 : decode cX4_valueOf 13 = .ok (.iconst 4, 1) := by decide +kernel
theorem dX4_valueOf_14 : decode cX4_valueOf 14 = .ok (.iconst 3, 1) := by decide +kernel
theorem dX4_valueOf_15 : decode cX4_valueOf 15 = .ok (.iload_n 1, 1) := by decide +kernel
theorem dX4_valueOf_16 : decode cX4_valueOf 16 = .ok (.imul, 1) := by decide +kernel
theorem dX4_valueOf_17 : decode cX4_valueOf 17 = .ok (.iadd, 1) := by decide +kernel
theorem dX4_valueOf_18 : decode cX4_valueOf 18 = .ok (.iaload, 1) := by decide +kernel
theorem dX4_valueOf_19 : decode cX4_valueOf 19 = .ok (.iload_n 2, 1) := by decide +kernel
theorem dX4_valueOf_20 : decode cX4_valueOf 20 = .ok (.bipush 10, 2) := by decide +kernel
theorem dX4_valueOf_22 : decode cX4_valueOf 22 = .ok (.idiv, 1) := by decide +kernel
theorem dX4_valueOf_23 : decode cX4_valueOf 23 = .ok (.bipush 10, 2) := by decide +kernel
theorem dX4_valueOf_25 : decode cX4_valueOf 25 = .ok (.irem, 1) := by decide +kernel
theorem dX4_valueOf_26 : decode cX4_valueOf 26 = .ok (.imul, 1) := by decide +kernel
theorem dX4_valueOf_27 : decode cX4_valueOf 27 = .ok (.iadd, 1) := by decide +kernel
theorem dX4_valueOf_28 : decode cX4_valueOf 28 = .ok (.aload_n 0, 1) := by decide +kernel
theorem dX4_valueOf_29 : decode cX4_valueOf 29 = .ok (.iconst 5, 1) := by decide +kernel
theorem dX4_valueOf_30 : decode cX4_valueOf 30 = .ok (.iconst 3, 1) := by decide +kernel
theorem dX4_valueOf_31 : decode cX4_valueOf 31 = .ok (.iload_n 1, 1) := by decide +kernel
theorem dX4_valueOf_32 : decode cX4_valueOf 32 = .ok (.imul, 1) := by decide +kernel
theorem dX4_valueOf_33 : decode cX4_valueOf 33 = .ok (.iadd, 1) := by decide +kernel
theorem dX4_valueOf_34 : decode cX4_valueOf 34 = .ok (.iaload, 1) := by decide +kernel
theorem dX4_valueOf_35 : decode cX4_valueOf 35 = .ok (.iload_n 2, 1) := by decide +kernel
theorem dX4_valueOf_36 : decode cX4_valueOf 36 = .ok (.bipush 10, 2) := by decide +kernel
theorem dX4_valueOf_38 : decode cX4_valueOf 38 = .ok (.irem, 1) := by decide +kernel
theorem dX4_valueOf_39 : decode cX4_valueOf 39 = .ok (.imul, 1) := by decide +kernel
theorem dX4_valueOf_40 : decode cX4_valueOf 40 = .ok (.iadd, 1) := by decide +kernel
theorem dX4_valueOf_41 : decode cX4_valueOf 41 = .ok (.ireturn, 1) := by decide +kernel
theorem dX4_weightsOf_0 : decode cX4_weightsOf 0 = .ok (.bipush 100, 2) := by decide +kernel
theorem dX4_weightsOf_2 : decode cX4_weightsOf 2 = .ok (.aload_n 0, 1) := by decide +kernel
theorem dX4_weightsOf_3 : decode cX4_weightsOf 3 = .ok (.iconst 0, 1) := by decide +kernel
theorem dX4_weightsOf_4 : decode cX4_weightsOf 4 = .ok (.iaload, 1) := by decide +kernel
theorem dX4_weightsOf_5 : decode cX4_weightsOf 5 = .ok (.imul, 1) := by decide +kernel
theorem dX4_weightsOf_6 : decode cX4_weightsOf 6 = .ok (.bipush 10, 2) := by decide +kernel
theorem dX4_weightsOf_8 : decode cX4_weightsOf 8 = .ok (.aload_n 0, 1) := by decide +kernel
theorem dX4_weightsOf_9 : decode cX4_weightsOf 9 = .ok (.iconst 1, 1) := by decide +kernel
theorem dX4_weightsOf_10 : decode cX4_weightsOf 10 = .ok (.iaload, 1) := by decide +kernel
theorem dX4_weightsOf_11 : decode cX4_weightsOf 11 = .ok (.imul, 1) := by decide +kernel
theorem dX4_weightsOf_12 : decode cX4_weightsOf 12 = .ok (.iadd, 1) := by decide +kernel
theorem dX4_weightsOf_13 : decode cX4_weightsOf 13 = .ok (.aload_n 0, 1) := by decide +kernel
theorem dX4_weightsOf_14 : decode cX4_weightsOf 14 = .ok (.iconst 2, 1) := by decide +kernel
theorem dX4_weightsOf_15 : decode cX4_weightsOf 15 = .ok (.iaload, 1) := by decide +kernel
theorem dX4_weightsOf_16 : decode cX4_weightsOf 16 = .ok (.iadd, 1) := by decide +kernel
theorem dX4_weightsOf_17 : decode cX4_weightsOf 17 = .ok (.ireturn, 1) := by decide +kernel
theorem dX4_fairestOf_0 : decode cX4_fairestOf 0 = .ok (.bipush (-9), 2) := by decide +kernel
theorem dX4_fairestOf_2 : decode cX4_fairestOf 2 = .ok (.istore 4, 2) := by decide +kernel
theorem dX4_fairestOf_4 : decode cX4_fairestOf 4 = .ok (.iconst 0, 1) := by decide +kernel
theorem dX4_fairestOf_5 : decode cX4_fairestOf 5 = .ok (.istore 5, 2) := by decide +kernel
theorem dX4_fairestOf_7 : decode cX4_fairestOf 7 = .ok (.iconst 0, 1) := by decide +kernel
theorem dX4_fairestOf_8 : decode cX4_fairestOf 8 = .ok (.istore 6, 2) := by decide +kernel
theorem dX4_fairestOf_10 : decode cX4_fairestOf 10 = .ok (.iload 6, 2) := by decide +kernel
theorem dX4_fairestOf_12 : decode cX4_fairestOf 12 = .ok (.aload_n 0, 1) := by decide +kernel
theorem dX4_fairestOf_13 : decode cX4_fairestOf 13 = .ok (.getfield 57, 3) := by decide +kernel
theorem dX4_fairestOf_16 : decode cX4_fairestOf 16 = .ok (.if_icmp .ge 78, 3) := by decide +kernel
theorem dX4_fairestOf_19 : decode cX4_fairestOf 19 = .ok (.iload_n 2, 1) := by decide +kernel
theorem dX4_fairestOf_20 : decode cX4_fairestOf 20 = .ok (.iload 6, 2) := by decide +kernel
theorem dX4_fairestOf_22 : decode cX4_fairestOf 22 = .ok (.invokestatic 90, 3) := by decide +kernel
theorem dX4_fairestOf_25 : decode cX4_fairestOf 25 = .ok (.ifCond .eq 63, 3) := by decide +kernel
theorem dX4_fairestOf_28 : decode cX4_fairestOf 28 = .ok (.aload_n 1, 1) := by decide +kernel
theorem dX4_fairestOf_29 : decode cX4_fairestOf 29 = .ok (.iload 6, 2) := by decide +kernel
theorem dX4_fairestOf_31 : decode cX4_fairestOf 31 = .ok (.iload_n 3, 1) := by decide +kernel
theorem dX4_fairestOf_32 : decode cX4_fairestOf 32 = .ok (.invokestatic 94, 3) := by decide +kernel
theorem dX4_fairestOf_35 : decode cX4_fairestOf 35 = .ok (.istore 7, 2) := by decide +kernel
theorem dX4_fairestOf_37 : decode cX4_fairestOf 37 = .ok (.iload 7, 2) := by decide +kernel
theorem dX4_fairestOf_39 : decode cX4_fairestOf 39 = .ok (.iload 4, 2) := by decide +kernel
theorem dX4_fairestOf_41 : decode cX4_fairestOf 41 = .ok (.if_icmp .le 10, 3) := by decide +kernel
theorem dX4_fairestOf_44 : decode cX4_fairestOf 44 = .ok (.iconst 1, 1) := by decide +kernel
theorem dX4_fairestOf_45 : decode cX4_fairestOf 45 = .ok (.iload 6, 2) := by decide +kernel
theorem dX4_fairestOf_47 : decode cX4_fairestOf 47 = .ok (.ishl, 1) := by decide +kernel
theorem dX4_fairestOf_48 : decode cX4_fairestOf 48 = .ok (.goto 22, 3) := by decide +kernel
theorem dX4_fairestOf_51 : decode cX4_fairestOf 51 = .ok (.iload 7, 2) := by decide +kernel
theorem dX4_fairestOf_53 : decode cX4_fairestOf 53 = .ok (.iload 4, 2) := by decide +kernel
theorem dX4_fairestOf_55 : decode cX4_fairestOf 55 = .ok (.if_icmp .ne 13, 3) := by decide +kernel
theorem dX4_fairestOf_58 : decode cX4_fairestOf 58 = .ok (.iload 5, 2) := by decide +kernel
theorem dX4_fairestOf_60 : decode cX4_fairestOf 60 = .ok (.iconst 1, 1) := by decide +kernel
theorem dX4_fairestOf_61 : decode cX4_fairestOf 61 = .ok (.iload 6, 2) := by decide +kernel
theorem dX4_fairestOf_63 : decode cX4_fairestOf 63 = .ok (.ishl, 1) := by decide +kernel
theorem dX4_fairestOf_64 : decode cX4_fairestOf 64 = .ok (.ior, 1) := by decide +kernel
theorem dX4_fairestOf_65 : decode cX4_fairestOf 65 = .ok (.goto 5, 3) := by decide +kernel
theorem dX4_fairestOf_68 : decode cX4_fairestOf 68 = .ok (.iload 5, 2) := by decide +kernel
theorem dX4_fairestOf_70 : decode cX4_fairestOf 70 = .ok (.istore 5, 2) := by decide +kernel
theorem dX4_fairestOf_72 : decode cX4_fairestOf 72 = .ok (.iload 7, 2) := by decide +kernel
theorem dX4_fairestOf_74 : decode cX4_fairestOf 74 = .ok (.iload 4, 2) := by decide +kernel
theorem dX4_fairestOf_76 : decode cX4_fairestOf 76 = .ok (.if_icmp .le 8, 3) := by decide +kernel
theorem dX4_fairestOf_79 : decode cX4_fairestOf 79 = .ok (.iload 7, 2) := by decide +kernel
theorem dX4_fairestOf_81 : decode cX4_fairestOf 81 = .ok (.goto 5, 3) := by decide +kernel
theorem dX4_fairestOf_84 : decode cX4_fairestOf 84 = .ok (.iload 4, 2) := by decide +kernel
theorem dX4_fairestOf_86 : decode cX4_fairestOf 86 = .ok (.istore 4, 2) := by decide +kernel
theorem dX4_fairestOf_88 : decode cX4_fairestOf 88 = .ok (.iinc 6 1, 3) := by decide +kernel
theorem dX4_fairestOf_91 : decode cX4_fairestOf 91 = .ok (.goto (-81), 3) := by decide +kernel
theorem dX4_fairestOf_94 : decode cX4_fairestOf 94 = .ok (.iload 5, 2) := by decide +kernel
theorem dX4_fairestOf_96 : decode cX4_fairestOf 96 = .ok (.ireturn, 1) := by decide +kernel
theorem dX4_fairest_0 : decode cX4_fairest 0 = .ok (.aload_n 0, 1) := by decide +kernel
theorem dX4_fairest_1 : decode cX4_fairest 1 = .ok (.aload_n 0, 1) := by decide +kernel
theorem dX4_fairest_2 : decode cX4_fairest 2 = .ok (.getfield 16, 3) := by decide +kernel
theorem dX4_fairest_5 : decode cX4_fairest 5 = .ok (.aload_n 0, 1) := by decide +kernel
theorem dX4_fairest_6 : decode cX4_fairest 6 = .ok (.getfield 16, 3) := by decide +kernel
theorem dX4_fairest_9 : decode cX4_fairest 9 = .ok (.bipush 21, 2) := by decide +kernel
theorem dX4_fairest_11 : decode cX4_fairest 11 = .ok (.iaload, 1) := by decide +kernel
theorem dX4_fairest_12 : decode cX4_fairest 12 = .ok (.aload_n 0, 1) := by decide +kernel
theorem dX4_fairest_13 : decode cX4_fairest 13 = .ok (.getfield 16, 3) := by decide +kernel
theorem dX4_fairest_16 : decode cX4_fairest 16 = .ok (.invokestatic 98, 3) := by decide +kernel
theorem dX4_fairest_19 : decode cX4_fairest 19 = .ok (.invokevirtual 102, 3) := by decide +kernel
theorem dX4_fairest_22 : decode cX4_fairest 22 = .ok (.ireturn, 1) := by decide +kernel
theorem dX4_about_0 : decode cX4_about 0 = .ok (.aload_n 0, 1) := by decide +kernel
theorem dX4_about_1 : decode cX4_about 1 = .ok (.iconst 0, 1) := by decide +kernel
theorem dX4_about_2 : decode cX4_about 2 = .ok (.putfield 53, 3) := by decide +kernel
theorem dX4_about_5 : decode cX4_about 5 = .ok (.iload_n 1, 1) := by decide +kernel
theorem dX4_about_6 : decode cX4_about 6 = .ok (.tableswitch 119 0 9 #[54, 59, 67, 75, 80, 88, 96, 104, 109, 114], 54) := by decide +kernel
theorem dX4_about_60 : decode cX4_about 60 = .ok (.aload_n 0, 1) := by decide +kernel
theorem dX4_about_61 : decode cX4_about 61 = .ok (.getfield 57, 3) := by decide +kernel
theorem dX4_about_64 : decode cX4_about 64 = .ok (.ireturn, 1) := by decide +kernel
theorem dX4_about_65 : decode cX4_about 65 = .ok (.aload_n 0, 1) := by decide +kernel
theorem dX4_about_66 : decode cX4_about 66 = .ok (.getfield 16, 3) := by decide +kernel
theorem dX4_about_69 : decode cX4_about 69 = .ok (.bipush 21, 2) := by decide +kernel
theorem dX4_about_71 : decode cX4_about 71 = .ok (.iaload, 1) := by decide +kernel
theorem dX4_about_72 : decode cX4_about 72 = .ok (.ireturn, 1) := by decide +kernel
theorem dX4_about_73 : decode cX4_about 73 = .ok (.aload_n 0, 1) := by decide +kernel
theorem dX4_about_74 : decode cX4_about 74 = .ok (.getfield 16, 3) := by decide +kernel
theorem dX4_about_77 : decode cX4_about 77 = .ok (.bipush 22, 2) := by decide +kernel
theorem dX4_about_79 : decode cX4_about 79 = .ok (.iaload, 1) := by decide +kernel
theorem dX4_about_80 : decode cX4_about 80 = .ok (.ireturn, 1) := by decide +kernel
theorem dX4_about_81 : decode cX4_about 81 = .ok (.aload_n 0, 1) := by decide +kernel
theorem dX4_about_82 : decode cX4_about 82 = .ok (.invokevirtual 105, 3) := by decide +kernel
theorem dX4_about_85 : decode cX4_about 85 = .ok (.ireturn, 1) := by decide +kernel
theorem dX4_about_86 : decode cX4_about 86 = .ok (.aload_n 0, 1) := by decide +kernel
theorem dX4_about_87 : decode cX4_about 87 = .ok (.getfield 16, 3) := by decide +kernel
theorem dX4_about_90 : decode cX4_about 90 = .ok (.bipush 23, 2) := by decide +kernel
theorem dX4_about_92 : decode cX4_about 92 = .ok (.iaload, 1) := by decide +kernel
theorem dX4_about_93 : decode cX4_about 93 = .ok (.ireturn, 1) := by decide +kernel
theorem dX4_about_94 : decode cX4_about 94 = .ok (.aload_n 0, 1) := by decide +kernel
theorem dX4_about_95 : decode cX4_about 95 = .ok (.getfield 16, 3) := by decide +kernel
theorem dX4_about_98 : decode cX4_about 98 = .ok (.bipush 24, 2) := by decide +kernel
theorem dX4_about_100 : decode cX4_about 100 = .ok (.iaload, 1) := by decide +kernel
theorem dX4_about_101 : decode cX4_about 101 = .ok (.ireturn, 1) := by decide +kernel
theorem dX4_about_102 : decode cX4_about 102 = .ok (.aload_n 0, 1) := by decide +kernel
theorem dX4_about_103 : decode cX4_about 103 = .ok (.getfield 16, 3) := by decide +kernel
theorem dX4_about_106 : decode cX4_about 106 = .ok (.invokestatic 98, 3) := by decide +kernel
theorem dX4_about_109 : decode cX4_about 109 = .ok (.ireturn, 1) := by decide +kernel
theorem dX4_about_110 : decode cX4_about 110 = .ok (.aload_n 0, 1) := by decide +kernel
theorem dX4_about_111 : decode cX4_about 111 = .ok (.getfield 87, 3) := by decide +kernel
theorem dX4_about_114 : decode cX4_about 114 = .ok (.ireturn, 1) := by decide +kernel
theorem dX4_about_115 : decode cX4_about 115 = .ok (.aload_n 0, 1) := by decide +kernel
theorem dX4_about_116 : decode cX4_about 116 = .ok (.getfield 108, 3) := by decide +kernel
theorem dX4_about_119 : decode cX4_about 119 = .ok (.ireturn, 1) := by decide +kernel
theorem dX4_about_120 : decode cX4_about 120 = .ok (.aload_n 0, 1) := by decide +kernel
theorem dX4_about_121 : decode cX4_about 121 = .ok (.getfield 66, 3) := by decide +kernel
theorem dX4_about_124 : decode cX4_about 124 = .ok (.ireturn, 1) := by decide +kernel
theorem dX4_about_125 : decode cX4_about 125 = .ok (.bipush (-2), 2) := by decide +kernel
theorem dX4_about_127 : decode cX4_about 127 = .ok (.ireturn, 1) := by decide +kernel
theorem dX4_person_0 : decode cX4_person 0 = .ok (.aload_n 0, 1) := by decide +kernel
theorem dX4_person_1 : decode cX4_person 1 = .ok (.iconst 0, 1) := by decide +kernel
theorem dX4_person_2 : decode cX4_person 2 = .ok (.putfield 53, 3) := by decide +kernel
theorem dX4_person_5 : decode cX4_person 5 = .ok (.aload_n 0, 1) := by decide +kernel
theorem dX4_person_6 : decode cX4_person 6 = .ok (.iload_n 1, 1) := by decide +kernel
theorem dX4_person_7 : decode cX4_person 7 = .ok (.invokevirtual 111, 3) := by decide +kernel
theorem dX4_person_10 : decode cX4_person 10 = .ok (.ifCond .eq 5, 3) := by decide +kernel
theorem dX4_person_13 : decode cX4_person 13 = .ok (.iconst (-1), 1) := by decide +kernel
theorem dX4_person_14 : decode cX4_person 14 = .ok (.ireturn, 1) := by decide +kernel
theorem dX4_person_15 : decode cX4_person 15 = .ok (.iload_n 2, 1) := by decide +kernel
theorem dX4_person_16 : decode cX4_person 16 = .ok (.tableswitch 120 0 6 #[44, 44, 44, 57, 64, 84, 104], 44) := by decide +kernel
theorem dX4_person_60 : decode cX4_person 60 = .ok (.aload_n 0, 1) := by decide +kernel
theorem dX4_person_61 : decode cX4_person 61 = .ok (.getfield 16, 3) := by decide +kernel
theorem dX4_person_64 : decode cX4_person 64 = .ok (.iconst 3, 1) := by decide +kernel
theorem dX4_person_65 : decode cX4_person 65 = .ok (.iconst 3, 1) := by decide +kernel
theorem dX4_person_66 : decode cX4_person 66 = .ok (.iload_n 1, 1) := by decide +kernel
theorem dX4_person_67 : decode cX4_person 67 = .ok (.imul, 1) := by decide +kernel
theorem dX4_person_68 : decode cX4_person 68 = .ok (.iadd, 1) := by decide +kernel
theorem dX4_person_69 : decode cX4_person 69 = .ok (.iload_n 2, 1) := by decide +kernel
theorem dX4_person_70 : decode cX4_person 70 = .ok (.iadd, 1) := by decide +kernel
theorem dX4_person_71 : decode cX4_person 71 = .ok (.iaload, 1) := by decide +kernel
theorem dX4_person_72 : decode cX4_person 72 = .ok (.ireturn, 1) := by decide +kernel
theorem dX4_person_73 : decode cX4_person 73 = .ok (.aload_n 0, 1) := by decide +kernel
theorem dX4_person_74 : decode cX4_person 74 = .ok (.getfield 13, 3) := by decide +kernel
theorem dX4_person_77 : decode cX4_person 77 = .ok (.iload_n 1, 1) := by decide +kernel
theorem dX4_person_78 : decode cX4_person 78 = .ok (.iaload, 1) := by decide +kernel
theorem dX4_person_79 : decode cX4_person 79 = .ok (.ireturn, 1) := by decide +kernel
theorem dX4_person_80 : decode cX4_person 80 = .ok (.aload_n 0, 1) := by decide +kernel
theorem dX4_person_81 : decode cX4_person 81 = .ok (.getfield 16, 3) := by decide +kernel
theorem dX4_person_84 : decode cX4_person 84 = .ok (.bipush 21, 2) := by decide +kernel
theorem dX4_person_86 : decode cX4_person 86 = .ok (.iaload, 1) := by decide +kernel
theorem dX4_person_87 : decode cX4_person 87 = .ok (.iload_n 1, 1) := by decide +kernel
theorem dX4_person_88 : decode cX4_person 88 = .ok (.invokestatic 90, 3) := by decide +kernel
theorem dX4_person_91 : decode cX4_person 91 = .ok (.ifCond .eq 7, 3) := by decide +kernel
theorem dX4_person_94 : decode cX4_person 94 = .ok (.iconst 1, 1) := by decide +kernel
theorem dX4_person_95 : decode cX4_person 95 = .ok (.goto 4, 3) := by decide +kernel
theorem dX4_person_98 : decode cX4_person 98 = .ok (.iconst 0, 1) := by decide +kernel
theorem dX4_person_99 : decode cX4_person 99 = .ok (.ireturn, 1) := by decide +kernel
theorem dX4_person_100 : decode cX4_person 100 = .ok (.aload_n 0, 1) := by decide +kernel
theorem dX4_person_101 : decode cX4_person 101 = .ok (.getfield 16, 3) := by decide +kernel
theorem dX4_person_104 : decode cX4_person 104 = .ok (.bipush 22, 2) := by decide +kernel
theorem dX4_person_106 : decode cX4_person 106 = .ok (.iaload, 1) := by decide +kernel
theorem dX4_person_107 : decode cX4_person 107 = .ok (.iload_n 1, 1) := by decide +kernel
theorem dX4_person_108 : decode cX4_person 108 = .ok (.invokestatic 90, 3) := by decide +kernel
theorem dX4_person_111 : decode cX4_person 111 = .ok (.ifCond .eq 7, 3) := by decide +kernel
theorem dX4_person_114 : decode cX4_person 114 = .ok (.iconst 1, 1) := by decide +kernel
theorem dX4_person_115 : decode cX4_person 115 = .ok (.goto 4, 3) := by decide +kernel
theorem dX4_person_118 : decode cX4_person 118 = .ok (.iconst 0, 1) := by decide +kernel
theorem dX4_person_119 : decode cX4_person 119 = .ok (.ireturn, 1) := by decide +kernel
theorem dX4_person_120 : decode cX4_person 120 = .ok (.aload_n 0, 1) := by decide +kernel
theorem dX4_person_121 : decode cX4_person 121 = .ok (.getfield 16, 3) := by decide +kernel
theorem dX4_person_124 : decode cX4_person 124 = .ok (.iload_n 1, 1) := by decide +kernel
theorem dX4_person_125 : decode cX4_person 125 = .ok (.aload_n 0, 1) := by decide +kernel
theorem dX4_person_126 : decode cX4_person 126 = .ok (.getfield 16, 3) := by decide +kernel
theorem dX4_person_129 : decode cX4_person 129 = .ok (.invokestatic 98, 3) := by decide +kernel
theorem dX4_person_132 : decode cX4_person 132 = .ok (.invokestatic 94, 3) := by decide +kernel
theorem dX4_person_135 : decode cX4_person 135 = .ok (.ireturn, 1) := by decide +kernel
theorem dX4_person_136 : decode cX4_person 136 = .ok (.bipush (-2), 2) := by decide +kernel
theorem dX4_person_138 : decode cX4_person 138 = .ok (.ireturn, 1) := by decide +kernel
theorem dX4_note_0 : decode cX4_note 0 = .ok (.aload_n 0, 1) := by decide +kernel
theorem dX4_note_1 : decode cX4_note 1 = .ok (.getfield 87, 3) := by decide +kernel
theorem dX4_note_4 : decode cX4_note 4 = .ok (.bipush 14, 2) := by decide +kernel
theorem dX4_note_6 : decode cX4_note 6 = .ok (.if_icmp .ne 43, 3) := by decide +kernel
theorem dX4_note_9 : decode cX4_note 9 = .ok (.iconst 0, 1) := by decide +kernel
theorem dX4_note_10 : decode cX4_note 10 = .ok (.istore_n 1, 1) := by decide +kernel
theorem dX4_note_11 : decode cX4_note 11 = .ok (.iload_n 1, 1) := by decide +kernel
theorem dX4_note_12 : decode cX4_note 12 = .ok (.sipush 325, 3) := by decide +kernel
theorem dX4_note_15 : decode cX4_note 15 = .ok (.if_icmp .ge 24, 3) := by decide +kernel
theorem dX4_note_18 : decode cX4_note 18 = .ok (.aload_n 0, 1) := by decide +kernel
theorem dX4_note_19 : decode cX4_note 19 = .ok (.getfield 25, 3) := by decide +kernel
theorem dX4_note_22 : decode cX4_note 22 = .ok (.iload_n 1, 1) := by decide +kernel
theorem dX4_note_23 : decode cX4_note 23 = .ok (.aload_n 0, 1) := by decide +kernel
theorem dX4_note_24 : decode cX4_note 24 = .ok (.getfield 25, 3) := by decide +kernel
theorem dX4_note_27 : decode cX4_note 27 = .ok (.iload_n 1, 1) := by decide +kernel
theorem dX4_note_28 : decode cX4_note 28 = .ok (.bipush 25, 2) := by decide +kernel
theorem dX4_note_30 : decode cX4_note 30 = .ok (.iadd, 1) := by decide +kernel
theorem dX4_note_31 : decode cX4_note 31 = .ok (.iaload, 1) := by decide +kernel
theorem dX4_note_32 : decode cX4_note 32 = .ok (.iastore, 1) := by decide +kernel
theorem dX4_note_33 : decode cX4_note 33 = .ok (.iinc 1 1, 3) := by decide +kernel
theorem dX4_note_36 : decode cX4_note 36 = .ok (.goto (-25), 3) := by decide +kernel
theorem dX4_note_39 : decode cX4_note 39 = .ok (.aload_n 0, 1) := by decide +kernel
theorem dX4_note_40 : decode cX4_note 40 = .ok (.dup, 1) := by decide +kernel
theorem dX4_note_41 : decode cX4_note 41 = .ok (.getfield 87, 3) := by decide +kernel
theorem dX4_note_44 : decode cX4_note 44 = .ok (.iconst 1, 1) := by decide +kernel
theorem dX4_note_45 : decode cX4_note 45 = .ok (.isub, 1) := by decide +kernel
theorem dX4_note_46 : decode cX4_note 46 = .ok (.putfield 87, 3) := by decide +kernel
theorem dX4_note_49 : decode cX4_note 49 = .ok (.iconst 0, 1) := by decide +kernel
theorem dX4_note_50 : decode cX4_note 50 = .ok (.istore_n 1, 1) := by decide +kernel
theorem dX4_note_51 : decode cX4_note 51 = .ok (.iload_n 1, 1) := by decide +kernel
theorem dX4_note_52 : decode cX4_note 52 = .ok (.bipush 25, 2) := by decide +kernel
theorem dX4_note_54 : decode cX4_note 54 = .ok (.if_icmp .ge 29, 3) := by decide +kernel
theorem dX4_note_57 : decode cX4_note 57 = .ok (.aload_n 0, 1) := by decide +kernel
theorem dX4_note_58 : decode cX4_note 58 = .ok (.getfield 25, 3) := by decide +kernel
theorem dX4_note_61 : decode cX4_note 61 = .ok (.bipush 25, 2) := by decide +kernel
theorem dX4_note_63 : decode cX4_note 63 = .ok (.aload_n 0, 1) := by decide +kernel
theorem dX4_note_64 : decode cX4_note 64 = .ok (.getfield 87, 3) := by decide +kernel
theorem dX4_note_67 : decode cX4_note 67 = .ok (.imul, 1) := by decide +kernel
theorem dX4_note_68 : decode cX4_note 68 = .ok (.iload_n 1, 1) := by decide +kernel
theorem dX4_note_69 : decode cX4_note 69 = .ok (.iadd, 1) := by decide +kernel
theorem dX4_note_70 : decode cX4_note 70 = .ok (.aload_n 0, 1) := by decide +kernel
theorem dX4_note_71 : decode cX4_note 71 = .ok (.getfield 16, 3) := by decide +kernel
theorem dX4_note_74 : decode cX4_note 74 = .ok (.iload_n 1, 1) := by decide +kernel
theorem dX4_note_75 : decode cX4_note 75 = .ok (.iaload, 1) := by decide +kernel
theorem dX4_note_76 : decode cX4_note 76 = .ok (.iastore, 1) := by decide +kernel
theorem dX4_note_77 : decode cX4_note 77 = .ok (.iinc 1 1, 3) := by decide +kernel
theorem dX4_note_80 : decode cX4_note 80 = .ok (.goto (-29), 3) := by decide +kernel
theorem dX4_note_83 : decode cX4_note 83 = .ok (.aload_n 0, 1) := by decide +kernel
theorem dX4_note_84 : decode cX4_note 84 = .ok (.dup, 1) := by decide +kernel
theorem dX4_note_85 : decode cX4_note 85 = .ok (.getfield 87, 3) := by decide +kernel
theorem dX4_note_88 : decode cX4_note 88 = .ok (.iconst 1, 1) := by decide +kernel
theorem dX4_note_89 : decode cX4_note 89 = .ok (.iadd, 1) := by decide +kernel
theorem dX4_note_90 : decode cX4_note 90 = .ok (.putfield 87, 3) := by decide +kernel
theorem dX4_note_93 : decode cX4_note 93 = .ok (.return_, 1) := by decide +kernel
theorem dX4_goMorning_0 : decode cX4_goMorning 0 = .ok (.aload_n 1, 1) := by decide +kernel
theorem dX4_goMorning_1 : decode cX4_goMorning 1 = .ok (.bipush 23, 2) := by decide +kernel
theorem dX4_goMorning_3 : decode cX4_goMorning 3 = .ok (.dup2, 1) := by decide +kernel
theorem dX4_goMorning_4 : decode cX4_goMorning 4 = .ok (.iaload, 1) := by decide +kernel
theorem dX4_goMorning_5 : decode cX4_goMorning 5 = .ok (.iconst 1, 1) := by decide +kernel
theorem dX4_goMorning_6 : decode cX4_goMorning 6 = .ok (.iadd, 1) := by decide +kernel
theorem dX4_goMorning_7 : decode cX4_goMorning 7 = .ok (.iastore, 1) := by decide +kernel
theorem dX4_goMorning_8 : decode cX4_goMorning 8 = .ok (.aload_n 0, 1) := by decide +kernel
theorem dX4_goMorning_9 : decode cX4_goMorning 9 = .ok (.aload_n 1, 1) := by decide +kernel
theorem dX4_goMorning_10 : decode cX4_goMorning 10 = .ok (.aload_n 1, 1) := by decide +kernel
theorem dX4_goMorning_11 : decode cX4_goMorning 11 = .ok (.bipush 21, 2) := by decide +kernel
theorem dX4_goMorning_13 : decode cX4_goMorning 13 = .ok (.iaload, 1) := by decide +kernel
theorem dX4_goMorning_14 : decode cX4_goMorning 14 = .ok (.bipush (-2), 2) := by decide +kernel
theorem dX4_goMorning_16 : decode cX4_goMorning 16 = .ok (.iand, 1) := by decide +kernel
theorem dX4_goMorning_17 : decode cX4_goMorning 17 = .ok (.aload_n 1, 1) := by decide +kernel
theorem dX4_goMorning_18 : decode cX4_goMorning 18 = .ok (.invokestatic 98, 3) := by decide +kernel
theorem dX4_goMorning_21 : decode cX4_goMorning 21 = .ok (.invokevirtual 102, 3) := by decide +kernel
theorem dX4_goMorning_24 : decode cX4_goMorning 24 = .ok (.istore_n 2, 1) := by decide +kernel
theorem dX4_goMorning_25 : decode cX4_goMorning 25 = .ok (.iload_n 2, 1) := by decide +kernel
theorem dX4_goMorning_26 : decode cX4_goMorning 26 = .ok (.ifCond .ne 4, 3) := by decide +kernel
theorem dX4_goMorning_29 : decode cX4_goMorning 29 = .ok (.return_, 1) := by decide +kernel
theorem dX4_goMorning_30 : decode cX4_goMorning 30 = .ok (.iconst 1, 1) := by decide +kernel
theorem dX4_goMorning_31 : decode cX4_goMorning 31 = .ok (.istore_n 3, 1) := by decide +kernel
theorem dX4_goMorning_32 : decode cX4_goMorning 32 = .ok (.iload_n 2, 1) := by decide +kernel
theorem dX4_goMorning_33 : decode cX4_goMorning 33 = .ok (.iload_n 3, 1) := by decide +kernel
theorem dX4_goMorning_34 : decode cX4_goMorning 34 = .ok (.invokestatic 90, 3) := by decide +kernel
theorem dX4_goMorning_37 : decode cX4_goMorning 37 = .ok (.ifCond .ne 9, 3) := by decide +kernel
theorem dX4_goMorning_40 : decode cX4_goMorning 40 = .ok (.iinc 3 1, 3) := by decide +kernel
theorem dX4_goMorning_43 : decode cX4_goMorning 43 = .ok (.goto (-11), 3) := by decide +kernel
theorem dX4_goMorning_46 : decode cX4_goMorning 46 = .ok (.bipush (-9), 2) := by decide +kernel
theorem dX4_goMorning_48 : decode cX4_goMorning 48 = .ok (.istore 4, 2) := by decide +kernel
theorem dX4_goMorning_50 : decode cX4_goMorning 50 = .ok (.iconst 0, 1) := by decide +kernel
theorem dX4_goMorning_51 : decode cX4_goMorning 51 = .ok (.istore 5, 2) := by decide +kernel
theorem dX4_goMorning_53 : decode cX4_goMorning 53 = .ok (.iconst 0, 1) := by decide +kernel
theorem dX4_goMorning_54 : decode cX4_goMorning 54 = .ok (.istore 6, 2) := by decide +kernel
theorem dX4_goMorning_56 : decode cX4_goMorning 56 = .ok (.iload 6, 2) := by decide +kernel
theorem dX4_goMorning_58 : decode cX4_goMorning 58 = .ok (.iconst 3, 1) := by decide +kernel
theorem dX4_goMorning_59 : decode cX4_goMorning 59 = .ok (.if_icmp .ge 60, 3) := by decide +kernel
theorem dX4_goMorning_62 : decode cX4_goMorning 62 = .ok (.aload_n 1, 1) := by decide +kernel
theorem dX4_goMorning_63 : decode cX4_goMorning 63 = .ok (.iconst 3, 1) := by decide +kernel
theorem dX4_goMorning_64 : decode cX4_goMorning 64 = .ok (.iconst 3, 1) := by decide +kernel
theorem dX4_goMorning_65 : decode cX4_goMorning 65 = .ok (.iload_n 3, 1) := by decide +kernel
theorem dX4_goMorning_66 : decode cX4_goMorning 66 = .ok (.imul, 1) := by decide +kernel
theorem dX4_goMorning_67 : decode cX4_goMorning 67 = .ok (.iadd, 1) := by decide +kernel
theorem dX4_goMorning_68 : decode cX4_goMorning 68 = .ok (.iload 6, 2) := by decide +kernel
theorem dX4_goMorning_70 : decode cX4_goMorning 70 = .ok (.iadd, 1) := by decide +kernel
theorem dX4_goMorning_71 : decode cX4_goMorning 71 = .ok (.iaload, 1) := by decide +kernel
theorem dX4_goMorning_72 : decode cX4_goMorning 72 = .ok (.aload_n 1, 1) := by decide +kernel
theorem dX4_goMorning_73 : decode cX4_goMorning 73 = .ok (.iconst 3, 1) := by decide +kernel
theorem dX4_goMorning_74 : decode cX4_goMorning 74 = .ok (.iload 6, 2) := by decide +kernel
theorem dX4_goMorning_76 : decode cX4_goMorning 76 = .ok (.iadd, 1) := by decide +kernel
theorem dX4_goMorning_77 : decode cX4_goMorning 77 = .ok (.iaload, 1) := by decide +kernel
theorem dX4_goMorning_78 : decode cX4_goMorning 78 = .ok (.isub, 1) := by decide +kernel
theorem dX4_goMorning_79 : decode cX4_goMorning 79 = .ok (.istore 7, 2) := by decide +kernel
theorem dX4_goMorning_81 : decode cX4_goMorning 81 = .ok (.iload 7, 2) := by decide +kernel
theorem dX4_goMorning_83 : decode cX4_goMorning 83 = .ok (.iload 5, 2) := by decide +kernel
theorem dX4_goMorning_85 : decode cX4_goMorning 85 = .ok (.if_icmp .le 8, 3) := by decide +kernel
theorem dX4_goMorning_88 : decode cX4_goMorning 88 = .ok (.iload 6, 2) := by decide +kernel
theorem dX4_goMorning_90 : decode cX4_goMorning 90 = .ok (.goto 5, 3) := by decide +kernel
theorem dX4_goMorning_93 : decode cX4_goMorning 93 = .ok (.iload 4, 2) := by decide +kernel
theorem dX4_goMorning_95 : decode cX4_goMorning 95 = .ok (.istore 4, 2) := by decide +kernel
theorem dX4_goMorning_97 : decode cX4_goMorning 97 = .ok (.iload 7, 2) := by decide +kernel
theorem dX4_goMorning_99 : decode cX4_goMorning 99 = .ok (.iload 5, 2) := by decide +kernel
theorem dX4_goMorning_101 : decode cX4_goMorning 101 = .ok (.if_icmp .le 8, 3) := by decide +kernel
theorem dX4_goMorning_104 : decode cX4_goMorning 104 = .ok (.iload 7, 2) := by decide +kernel
theorem dX4_goMorning_106 : decode cX4_goMorning 106 = .ok (.goto 5, 3) := by decide +kernel
theorem dX4_goMorning_109 : decode cX4_goMorning 109 = .ok (.iload 5, 2) := by decide +kernel
theorem dX4_goMorning_111 : decode cX4_goMorning 111 = .ok (.istore 5, 2) := by decide +kernel
theorem dX4_goMorning_113 : decode cX4_goMorning 113 = .ok (.iinc 6 1, 3) := by decide +kernel
theorem dX4_goMorning_116 : decode cX4_goMorning 116 = .ok (.goto (-60), 3) := by decide +kernel
theorem dX4_goMorning_119 : decode cX4_goMorning 119 = .ok (.iload 4, 2) := by decide +kernel
theorem dX4_goMorning_121 : decode cX4_goMorning 121 = .ok (.bipush (-9), 2) := by decide +kernel
theorem dX4_goMorning_123 : decode cX4_goMorning 123 = .ok (.if_icmp .eq 33, 3) := by decide +kernel
theorem dX4_goMorning_126 : decode cX4_goMorning 126 = .ok (.aload_n 1, 1) := by decide +kernel
theorem dX4_goMorning_127 : decode cX4_goMorning 127 = .ok (.iload 4, 2) := by decide +kernel
theorem dX4_goMorning_129 : decode cX4_goMorning 129 = .ok (.iaload, 1) := by decide +kernel
theorem dX4_goMorning_130 : decode cX4_goMorning 130 = .ok (.ifCond .le 26, 3) := by decide +kernel
theorem dX4_goMorning_133 : decode cX4_goMorning 133 = .ok (.aload_n 1, 1) := by decide +kernel
theorem dX4_goMorning_134 : decode cX4_goMorning 134 = .ok (.iconst 0, 1) := by decide +kernel
theorem dX4_goMorning_135 : decode cX4_goMorning 135 = .ok (.iaload, 1) := by decide +kernel
theorem dX4_goMorning_136 : decode cX4_goMorning 136 = .ok (.aload_n 1, 1) := by decide +kernel
theorem dX4_goMorning_137 : decode cX4_goMorning 137 = .ok (.iconst 1, 1) := by decide +kernel
theorem dX4_goMorning_138 : decode cX4_goMorning 138 = .ok (.iaload, 1) := by decide +kernel
theorem dX4_goMorning_139 : decode cX4_goMorning 139 = .ok (.iadd, 1) := by decide +kernel
theorem dX4_goMorning_140 : decode cX4_goMorning 140 = .ok (.aload_n 1, 1) := by decide +kernel
theorem dX4_goMorning_141 : decode cX4_goMorning 141 = .ok (.iconst 2, 1) := by decide +kernel
theorem dX4_goMorning_142 : decode cX4_goMorning 142 = .ok (.iaload, 1) := by decide +kernel
theorem dX4_goMorning_143 : decode cX4_goMorning 143 = .ok (.iadd, 1) := by decide +kernel
theorem dX4_goMorning_144 : decode cX4_goMorning 144 = .ok (.iconst 1, 1) := by decide +kernel
theorem dX4_goMorning_145 : decode cX4_goMorning 145 = .ok (.if_icmp .le 11, 3) := by decide +kernel
theorem dX4_goMorning_148 : decode cX4_goMorning 148 = .ok (.aload_n 1, 1) := by decide +kernel
theorem dX4_goMorning_149 : decode cX4_goMorning 149 = .ok (.iload 4, 2) := by decide +kernel
theorem dX4_goMorning_151 : decode cX4_goMorning 151 = .ok (.dup2, 1) := by decide +kernel
theorem dX4_goMorning_152 : decode cX4_goMorning 152 = .ok (.iaload, 1) := by decide +kernel
theorem dX4_goMorning_153 : decode cX4_goMorning 153 = .ok (.iconst 1, 1) := by decide +kernel
theorem dX4_goMorning_154 : decode cX4_goMorning 154 = .ok (.isub, 1) := by decide +kernel
theorem dX4_goMorning_155 : decode cX4_goMorning 155 = .ok (.iastore, 1) := by decide +kernel
theorem dX4_goMorning_156 : decode cX4_goMorning 156 = .ok (.return_, 1) := by decide +kernel
theorem dX4_goYear_0 : decode cX4_goYear 0 = .ok (.aload_n 1, 1) := by decide +kernel
theorem dX4_goYear_1 : decode cX4_goYear 1 = .ok (.bipush 24, 2) := by decide +kernel
theorem dX4_goYear_3 : decode cX4_goYear 3 = .ok (.dup2, 1) := by decide +kernel
theorem dX4_goYear_4 : decode cX4_goYear 4 = .ok (.iaload, 1) := by decide +kernel
theorem dX4_goYear_5 : decode cX4_goYear 5 = .ok (.iconst 1, 1) := by decide +kernel
theorem dX4_goYear_6 : decode cX4_goYear 6 = .ok (.iadd, 1) := by decide +kernel
theorem dX4_goYear_7 : decode cX4_goYear 7 = .ok (.iastore, 1) := by decide +kernel
theorem dX4_goYear_8 : decode cX4_goYear 8 = .ok (.iconst 0, 1) := by decide +kernel
theorem dX4_goYear_9 : decode cX4_goYear 9 = .ok (.istore_n 2, 1) := by decide +kernel
theorem dX4_goYear_10 : decode cX4_goYear 10 = .ok (.iload_n 2, 1) := by decide +kernel
theorem dX4_goYear_11 : decode cX4_goYear 11 = .ok (.aload_n 0, 1) := by decide +kernel
theorem dX4_goYear_12 : decode cX4_goYear 12 = .ok (.getfield 57, 3) := by decide +kernel
theorem dX4_goYear_15 : decode cX4_goYear 15 = .ok (.if_icmp .ge 71, 3) := by decide +kernel
theorem dX4_goYear_18 : decode cX4_goYear 18 = .ok (.iconst 0, 1) := by decide +kernel
theorem dX4_goYear_19 : decode cX4_goYear 19 = .ok (.istore_n 3, 1) := by decide +kernel
theorem dX4_goYear_20 : decode cX4_goYear 20 = .ok (.iload_n 3, 1) := by decide +kernel
theorem dX4_goYear_21 : decode cX4_goYear 21 = .ok (.iconst 3, 1) := by decide +kernel
theorem dX4_goYear_22 : decode cX4_goYear 22 = .ok (.if_icmp .ge 58, 3) := by decide +kernel
theorem dX4_goYear_25 : decode cX4_goYear 25 = .ok (.aload_n 1, 1) := by decide +kernel
theorem dX4_goYear_26 : decode cX4_goYear 26 = .ok (.bipush 21, 2) := by decide +kernel
theorem dX4_goYear_28 : decode cX4_goYear 28 = .ok (.iaload, 1) := by decide +kernel
theorem dX4_goYear_29 : decode cX4_goYear 29 = .ok (.iload_n 2, 1) := by decide +kernel
theorem dX4_goYear_30 : decode cX4_goYear 30 = .ok (.invokestatic 90, 3) := by decide +kernel
theorem dX4_goYear_33 : decode cX4_goYear 33 = .ok (.ifCond .eq 47, 3) := by decide +kernel
theorem dX4_goYear_36 : decode cX4_goYear 36 = .ok (.aload_n 1, 1) := by decide +kernel
theorem dX4_goYear_37 : decode cX4_goYear 37 = .ok (.iconst 3, 1) := by decide +kernel
theorem dX4_goYear_38 : decode cX4_goYear 38 = .ok (.iconst 3, 1) := by decide +kernel
theorem dX4_goYear_39 : decode cX4_goYear 39 = .ok (.iload_n 2, 1) := by decide +kernel
theorem dX4_goYear_40 : decode cX4_goYear 40 = .ok (.imul, 1) := by decide +kernel
theorem dX4_goYear_41 : decode cX4_goYear 41 = .ok (.iadd, 1) := by decide +kernel
theorem dX4_goYear_42 : decode cX4_goYear 42 = .ok (.iload_n 3, 1) := by decide +kernel
theorem dX4_goYear_43 : decode cX4_goYear 43 = .ok (.iadd, 1) := by decide +kernel
theorem dX4_goYear_44 : decode cX4_goYear 44 = .ok (.iaload, 1) := by decide +kernel
theorem dX4_goYear_45 : decode cX4_goYear 45 = .ok (.aload_n 0, 1) := by decide +kernel
theorem dX4_goYear_46 : decode cX4_goYear 46 = .ok (.getfield 13, 3) := by decide +kernel
theorem dX4_goYear_49 : decode cX4_goYear 49 = .ok (.iload_n 2, 1) := by decide +kernel
theorem dX4_goYear_50 : decode cX4_goYear 50 = .ok (.iaload, 1) := by decide +kernel
theorem dX4_goYear_51 : decode cX4_goYear 51 = .ok (.isub, 1) := by decide +kernel
theorem dX4_goYear_52 : decode cX4_goYear 52 = .ok (.istore 4, 2) := by decide +kernel
theorem dX4_goYear_54 : decode cX4_goYear 54 = .ok (.aload_n 1, 1) := by decide +kernel
theorem dX4_goYear_55 : decode cX4_goYear 55 = .ok (.iconst 3, 1) := by decide +kernel
theorem dX4_goYear_56 : decode cX4_goYear 56 = .ok (.iconst 3, 1) := by decide +kernel
theorem dX4_goYear_57 : decode cX4_goYear 57 = .ok (.iload_n 2, 1) := by decide +kernel
theorem dX4_goYear_58 : decode cX4_goYear 58 = .ok (.imul, 1) := by decide +kernel
theorem dX4_goYear_59 : decode cX4_goYear 59 = .ok (.iadd, 1) := by decide +kernel
theorem dX4_goYear_60 : decode cX4_goYear 60 = .ok (.iload_n 3, 1) := by decide +kernel
theorem dX4_goYear_61 : decode cX4_goYear 61 = .ok (.iadd, 1) := by decide +kernel
theorem dX4_goYear_62 : decode cX4_goYear 62 = .ok (.iload 4, 2) := by decide +kernel
theorem dX4_goYear_64 : decode cX4_goYear 64 = .ok (.ifCond .ge 7, 3) := by decide +kernel
theorem dX4_goYear_67 : decode cX4_goYear 67 = .ok (.iconst 0, 1) := by decide +kernel
theorem dX4_goYear_68 : decode cX4_goYear 68 = .ok (.goto 5, 3) := by decide +kernel
theorem dX4_goYear_71 : decode cX4_goYear 71 = .ok (.iload 4, 2) := by decide +kernel
theorem dX4_goYear_73 : decode cX4_goYear 73 = .ok (.iastore, 1) := by decide +kernel
theorem dX4_goYear_74 : decode cX4_goYear 74 = .ok (.iinc 3 1, 3) := by decide +kernel
theorem dX4_goYear_77 : decode cX4_goYear 77 = .ok (.goto (-57), 3) := by decide +kernel
theorem dX4_goYear_80 : decode cX4_goYear 80 = .ok (.iinc 2 1, 3) := by decide +kernel
theorem dX4_goYear_83 : decode cX4_goYear 83 = .ok (.goto (-73), 3) := by decide +kernel
theorem dX4_goYear_86 : decode cX4_goYear 86 = .ok (.return_, 1) := by decide +kernel
theorem dX4_morning_0 : decode cX4_morning 0 = .ok (.aload_n 0, 1) := by decide +kernel
theorem dX4_morning_1 : decode cX4_morning 1 = .ok (.iconst 0, 1) := by decide +kernel
theorem dX4_morning_2 : decode cX4_morning 2 = .ok (.putfield 53, 3) := by decide +kernel
theorem dX4_morning_5 : decode cX4_morning 5 = .ok (.aload_n 0, 1) := by decide +kernel
theorem dX4_morning_6 : decode cX4_morning 6 = .ok (.getfield 57, 3) := by decide +kernel
theorem dX4_morning_9 : decode cX4_morning 9 = .ok (.ifCond .ne 6, 3) := by decide +kernel
theorem dX4_morning_12 : decode cX4_morning 12 = .ok (.bipush (-3), 2) := by decide +kernel
theorem dX4_morning_14 : decode cX4_morning 14 = .ok (.ireturn, 1) := by decide +kernel
theorem dX4_morning_15 : decode cX4_morning 15 = .ok (.aload_n 0, 1) := by decide +kernel
theorem dX4_morning_16 : decode cX4_morning 16 = .ok (.invokevirtual 115, 3) := by decide +kernel
theorem dX4_morning_19 : decode cX4_morning 19 = .ok (.aload_n 0, 1) := by decide +kernel
theorem dX4_morning_20 : decode cX4_morning 20 = .ok (.invokevirtual 105, 3) := by decide +kernel
theorem dX4_morning_23 : decode cX4_morning 23 = .ok (.istore_n 1, 1) := by decide +kernel
theorem dX4_morning_24 : decode cX4_morning 24 = .ok (.aload_n 0, 1) := by decide +kernel
theorem dX4_morning_25 : decode cX4_morning 25 = .ok (.aload_n 0, 1) := by decide +kernel
theorem dX4_morning_26 : decode cX4_morning 26 = .ok (.getfield 16, 3) := by decide +kernel
theorem dX4_morning_29 : decode cX4_morning 29 = .ok (.invokevirtual 118, 3) := by decide +kernel
theorem dX4_morning_32 : decode cX4_morning 32 = .ok (.iload_n 1, 1) := by decide +kernel
theorem dX4_morning_33 : decode cX4_morning 33 = .ok (.ireturn, 1) := by decide +kernel
theorem dX4_year_0 : decode cX4_year 0 = .ok (.aload_n 0, 1) := by decide +kernel
theorem dX4_year_1 : decode cX4_year 1 = .ok (.iconst 0, 1) := by decide +kernel
theorem dX4_year_2 : decode cX4_year 2 = .ok (.putfield 53, 3) := by decide +kernel
theorem dX4_year_5 : decode cX4_year 5 = .ok (.aload_n 0, 1) := by decide +kernel
theorem dX4_year_6 : decode cX4_year 6 = .ok (.invokevirtual 115, 3) := by decide +kernel
theorem dX4_year_9 : decode cX4_year 9 = .ok (.aload_n 0, 1) := by decide +kernel
theorem dX4_year_10 : decode cX4_year 10 = .ok (.aload_n 0, 1) := by decide +kernel
theorem dX4_year_11 : decode cX4_year 11 = .ok (.getfield 16, 3) := by decide +kernel
theorem dX4_year_14 : decode cX4_year 14 = .ok (.invokevirtual 122, 3) := by decide +kernel
theorem dX4_year_17 : decode cX4_year 17 = .ok (.aload_n 0, 1) := by decide +kernel
theorem dX4_year_18 : decode cX4_year 18 = .ok (.getfield 16, 3) := by decide +kernel
theorem dX4_year_21 : decode cX4_year 21 = .ok (.bipush 24, 2) := by decide +kernel
theorem dX4_year_23 : decode cX4_year 23 = .ok (.iaload, 1) := by decide +kernel
theorem dX4_year_24 : decode cX4_year 24 = .ok (.ireturn, 1) := by decide +kernel
theorem dX4_plain_0 : decode cX4_plain 0 = .ok (.aload_n 0, 1) := by decide +kernel
theorem dX4_plain_1 : decode cX4_plain 1 = .ok (.iconst 0, 1) := by decide +kernel
theorem dX4_plain_2 : decode cX4_plain 2 = .ok (.putfield 53, 3) := by decide +kernel
theorem dX4_plain_5 : decode cX4_plain 5 = .ok (.aload_n 0, 1) := by decide +kernel
theorem dX4_plain_6 : decode cX4_plain 6 = .ok (.iload_n 1, 1) := by decide +kernel
theorem dX4_plain_7 : decode cX4_plain 7 = .ok (.invokevirtual 111, 3) := by decide +kernel
theorem dX4_plain_10 : decode cX4_plain 10 = .ok (.ifCond .ne 15, 3) := by decide +kernel
theorem dX4_plain_13 : decode cX4_plain 13 = .ok (.iload_n 2, 1) := by decide +kernel
theorem dX4_plain_14 : decode cX4_plain 14 = .ok (.i2l, 1) := by decide +kernel
theorem dX4_plain_15 : decode cX4_plain 15 = .ok (.lconst 0, 1) := by decide +kernel
theorem dX4_plain_16 : decode cX4_plain 16 = .ok (.ldc2_w 125, 3) := by decide +kernel
theorem dX4_plain_19 : decode cX4_plain 19 = .ok (.invokestatic 60, 3) := by decide +kernel
theorem dX4_plain_22 : decode cX4_plain 22 = .ok (.ifCond .ne 5, 3) := by decide +kernel
theorem dX4_plain_25 : decode cX4_plain 25 = .ok (.iconst (-1), 1) := by decide +kernel
theorem dX4_plain_26 : decode cX4_plain 26 = .ok (.ireturn, 1) := by decide +kernel
theorem dX4_plain_27 : decode cX4_plain 27 = .ok (.aload_n 0, 1) := by decide +kernel
theorem dX4_plain_28 : decode cX4_plain 28 = .ok (.getfield 16, 3) := by decide +kernel
theorem dX4_plain_31 : decode cX4_plain 31 = .ok (.bipush 21, 2) := by decide +kernel
theorem dX4_plain_33 : decode cX4_plain 33 = .ok (.iaload, 1) := by decide +kernel
theorem dX4_plain_34 : decode cX4_plain 34 = .ok (.iload_n 1, 1) := by decide +kernel
theorem dX4_plain_35 : decode cX4_plain 35 = .ok (.invokestatic 90, 3) := by decide +kernel
theorem dX4_plain_38 : decode cX4_plain 38 = .ok (.ifCond .eq 18, 3) := by decide +kernel
theorem dX4_plain_41 : decode cX4_plain 41 = .ok (.aload_n 0, 1) := by decide +kernel
theorem dX4_plain_42 : decode cX4_plain 42 = .ok (.getfield 16, 3) := by decide +kernel
theorem dX4_plain_45 : decode cX4_plain 45 = .ok (.iconst 3, 1) := by decide +kernel
theorem dX4_plain_46 : decode cX4_plain 46 = .ok (.iconst 3, 1) := by decide +kernel
theorem dX4_plain_47 : decode cX4_plain 47 = .ok (.iload_n 1, 1) := by decide +kernel
theorem dX4_plain_48 : decode cX4_plain 48 = .ok (.imul, 1) := by decide +kernel
theorem dX4_plain_49 : decode cX4_plain 49 = .ok (.iadd, 1) := by decide +kernel
theorem dX4_plain_50 : decode cX4_plain 50 = .ok (.iload_n 2, 1) := by decide +kernel
theorem dX4_plain_51 : decode cX4_plain 51 = .ok (.iadd, 1) := by decide +kernel
theorem dX4_plain_52 : decode cX4_plain 52 = .ok (.iaload, 1) := by decide +kernel
theorem dX4_plain_53 : decode cX4_plain 53 = .ok (.ifCond .ne 6, 3) := by decide +kernel
theorem dX4_plain_56 : decode cX4_plain 56 = .ok (.bipush (-3), 2) := by decide +kernel
theorem dX4_plain_58 : decode cX4_plain 58 = .ok (.ireturn, 1) := by decide +kernel
theorem dX4_plain_59 : decode cX4_plain 59 = .ok (.aload_n 0, 1) := by decide +kernel
theorem dX4_plain_60 : decode cX4_plain 60 = .ok (.invokevirtual 115, 3) := by decide +kernel
theorem dX4_plain_63 : decode cX4_plain 63 = .ok (.aload_n 0, 1) := by decide +kernel
theorem dX4_plain_64 : decode cX4_plain 64 = .ok (.getfield 16, 3) := by decide +kernel
theorem dX4_plain_67 : decode cX4_plain 67 = .ok (.iconst 3, 1) := by decide +kernel
theorem dX4_plain_68 : decode cX4_plain 68 = .ok (.iconst 3, 1) := by decide +kernel
theorem dX4_plain_69 : decode cX4_plain 69 = .ok (.iload_n 1, 1) := by decide +kernel
theorem dX4_plain_70 : decode cX4_plain 70 = .ok (.imul, 1) := by decide +kernel
theorem dX4_plain_71 : decode cX4_plain 71 = .ok (.iadd, 1) := by decide +kernel
theorem dX4_plain_72 : decode cX4_plain 72 = .ok (.iload_n 2, 1) := by decide +kernel
theorem dX4_plain_73 : decode cX4_plain 73 = .ok (.iadd, 1) := by decide +kernel
theorem dX4_plain_74 : decode cX4_plain 74 = .ok (.dup2, 1) := by decide +kernel
theorem dX4_plain_75 : decode cX4_plain 75 = .ok (.iaload, 1) := by decide +kernel
theorem dX4_plain_76 : decode cX4_plain 76 = .ok (.iconst 1, 1) := by decide +kernel
theorem dX4_plain_77 : decode cX4_plain 77 = .ok (.isub, 1) := by decide +kernel
theorem dX4_plain_78 : decode cX4_plain 78 = .ok (.iastore, 1) := by decide +kernel
theorem dX4_plain_79 : decode cX4_plain 79 = .ok (.aload_n 0, 1) := by decide +kernel
theorem dX4_plain_80 : decode cX4_plain 80 = .ok (.getfield 16, 3) := by decide +kernel
theorem dX4_plain_83 : decode cX4_plain 83 = .ok (.iconst 3, 1) := by decide +kernel
theorem dX4_plain_84 : decode cX4_plain 84 = .ok (.iconst 3, 1) := by decide +kernel
theorem dX4_plain_85 : decode cX4_plain 85 = .ok (.iload_n 1, 1) := by decide +kernel
theorem dX4_plain_86 : decode cX4_plain 86 = .ok (.imul, 1) := by decide +kernel
theorem dX4_plain_87 : decode cX4_plain 87 = .ok (.iadd, 1) := by decide +kernel
theorem dX4_plain_88 : decode cX4_plain 88 = .ok (.iload_n 2, 1) := by decide +kernel
theorem dX4_plain_89 : decode cX4_plain 89 = .ok (.iadd, 1) := by decide +kernel
theorem dX4_plain_90 : decode cX4_plain 90 = .ok (.iaload, 1) := by decide +kernel
theorem dX4_plain_91 : decode cX4_plain 91 = .ok (.ireturn, 1) := by decide +kernel
theorem dX4_hunt_0 : decode cX4_hunt 0 = .ok (.aload_n 0, 1) := by decide +kernel
theorem dX4_hunt_1 : decode cX4_hunt 1 = .ok (.iconst 0, 1) := by decide +kernel
theorem dX4_hunt_2 : decode cX4_hunt 2 = .ok (.putfield 53, 3) := by decide +kernel
theorem dX4_hunt_5 : decode cX4_hunt 5 = .ok (.aload_n 0, 1) := by decide +kernel
theorem dX4_hunt_6 : decode cX4_hunt 6 = .ok (.iload_n 1, 1) := by decide +kernel
theorem dX4_hunt_7 : decode cX4_hunt 7 = .ok (.invokevirtual 111, 3) := by decide +kernel
theorem dX4_hunt_10 : decode cX4_hunt 10 = .ok (.ifCond .eq 5, 3) := by decide +kernel
theorem dX4_hunt_13 : decode cX4_hunt 13 = .ok (.iconst (-1), 1) := by decide +kernel
theorem dX4_hunt_14 : decode cX4_hunt 14 = .ok (.ireturn, 1) := by decide +kernel
theorem dX4_hunt_15 : decode cX4_hunt 15 = .ok (.iload_n 1, 1) := by decide +kernel
theorem dX4_hunt_16 : decode cX4_hunt 16 = .ok (.ifCond .ne 6, 3) := by decide +kernel
theorem dX4_hunt_19 : decode cX4_hunt 19 = .ok (.bipush (-2), 2) := by decide +kernel
theorem dX4_hunt_21 : decode cX4_hunt 21 = .ok (.ireturn, 1) := by decide +kernel
theorem dX4_hunt_22 : decode cX4_hunt 22 = .ok (.aload_n 0, 1) := by decide +kernel
theorem dX4_hunt_23 : decode cX4_hunt 23 = .ok (.getfield 16, 3) := by decide +kernel
theorem dX4_hunt_26 : decode cX4_hunt 26 = .ok (.bipush 21, 2) := by decide +kernel
theorem dX4_hunt_28 : decode cX4_hunt 28 = .ok (.iaload, 1) := by decide +kernel
theorem dX4_hunt_29 : decode cX4_hunt 29 = .ok (.iload_n 1, 1) := by decide +kernel
theorem dX4_hunt_30 : decode cX4_hunt 30 = .ok (.invokestatic 90, 3) := by decide +kernel
theorem dX4_hunt_33 : decode cX4_hunt 33 = .ok (.ifCond .eq 17, 3) := by decide +kernel
theorem dX4_hunt_36 : decode cX4_hunt 36 = .ok (.aload_n 0, 1) := by decide +kernel
theorem dX4_hunt_37 : decode cX4_hunt 37 = .ok (.getfield 16, 3) := by decide +kernel
theorem dX4_hunt_40 : decode cX4_hunt 40 = .ok (.bipush 22, 2) := by decide +kernel
theorem dX4_hunt_42 : decode cX4_hunt 42 = .ok (.iaload, 1) := by decide +kernel
theorem dX4_hunt_43 : decode cX4_hunt 43 = .ok (.iload_n 1, 1) := by decide +kernel
theorem dX4_hunt_44 : decode cX4_hunt 44 = .ok (.invokestatic 90, 3) := by decide +kernel
theorem dX4_hunt_47 : decode cX4_hunt 47 = .ok (.ifCond .eq 6, 3) := by decide +kernel
theorem dX4_hunt_50 : decode cX4_hunt 50 = .ok (.bipush (-3), 2) := by decide +kernel
theorem dX4_hunt_52 : decode cX4_hunt 52 = .ok (.ireturn, 1) := by decide +kernel
theorem dX4_hunt_53 : decode cX4_hunt 53 = .ok (.aload_n 0, 1) := by decide +kernel
theorem dX4_hunt_54 : decode cX4_hunt 54 = .ok (.invokevirtual 115, 3) := by decide +kernel
theorem dX4_hunt_57 : decode cX4_hunt 57 = .ok (.aload_n 0, 1) := by decide +kernel
theorem dX4_hunt_58 : decode cX4_hunt 58 = .ok (.getfield 16, 3) := by decide +kernel
theorem dX4_hunt_61 : decode cX4_hunt 61 = .ok (.bipush 22, 2) := by decide +kernel
theorem dX4_hunt_63 : decode cX4_hunt 63 = .ok (.dup2, 1) := by decide +kernel
theorem dX4_hunt_64 : decode cX4_hunt 64 = .ok (.iaload, 1) := by decide +kernel
theorem dX4_hunt_65 : decode cX4_hunt 65 = .ok (.iconst 1, 1) := by decide +kernel
theorem dX4_hunt_66 : decode cX4_hunt 66 = .ok (.iload_n 1, 1) := by decide +kernel
theorem dX4_hunt_67 : decode cX4_hunt 67 = .ok (.ishl, 1) := by decide +kernel
theorem dX4_hunt_68 : decode cX4_hunt 68 = .ok (.ior, 1) := by decide +kernel
theorem dX4_hunt_69 : decode cX4_hunt 69 = .ok (.iastore, 1) := by decide +kernel
theorem dX4_hunt_70 : decode cX4_hunt 70 = .ok (.aload_n 0, 1) := by decide +kernel
theorem dX4_hunt_71 : decode cX4_hunt 71 = .ok (.getfield 16, 3) := by decide +kernel
theorem dX4_hunt_74 : decode cX4_hunt 74 = .ok (.bipush 21, 2) := by decide +kernel
theorem dX4_hunt_76 : decode cX4_hunt 76 = .ok (.dup2, 1) := by decide +kernel
theorem dX4_hunt_77 : decode cX4_hunt 77 = .ok (.iaload, 1) := by decide +kernel
theorem dX4_hunt_78 : decode cX4_hunt 78 = .ok (.iload_n 2, 1) := by decide +kernel
theorem dX4_hunt_79 : decode cX4_hunt 79 = .ok (.ifCond .eq 13, 3) := by decide +kernel
theorem dX4_hunt_82 : decode cX4_hunt 82 = .ok (.aload_n 0, 1) := by decide +kernel
theorem dX4_hunt_83 : decode cX4_hunt 83 = .ok (.getfield 16, 3) := by decide +kernel
theorem dX4_hunt_86 : decode cX4_hunt 86 = .ok (.bipush 21, 2) := by decide +kernel
theorem dX4_hunt_88 : decode cX4_hunt 88 = .ok (.iaload, 1) := by decide +kernel
theorem dX4_hunt_89 : decode cX4_hunt 89 = .ok (.goto 8, 3) := by decide +kernel
theorem dX4_hunt_92 : decode cX4_hunt 92 = .ok (.iconst 1, 1) := by decide +kernel
theorem dX4_hunt_93 : decode cX4_hunt 93 = .ok (.iload_n 1, 1) := by decide +kernel
theorem dX4_hunt_94 : decode cX4_hunt 94 = .ok (.ishl, 1) := by decide +kernel
theorem dX4_hunt_95 : decode cX4_hunt 95 = .ok (.iconst (-1), 1) := by decide +kernel
theorem dX4_hunt_96 : decode cX4_hunt 96 = .ok (.ixor, 1) := by decide +kernel
theorem dX4_hunt_97 : decode cX4_hunt 97 = .ok (.iand, 1) := by decide +kernel
theorem dX4_hunt_98 : decode cX4_hunt 98 = .ok (.iastore, 1) := by decide +kernel
theorem dX4_hunt_99 : decode cX4_hunt 99 = .ok (.aload_n 0, 1) := by decide +kernel
theorem dX4_hunt_100 : decode cX4_hunt 100 = .ok (.getfield 16, 3) := by decide +kernel
theorem dX4_hunt_103 : decode cX4_hunt 103 = .ok (.bipush 21, 2) := by decide +kernel
theorem dX4_hunt_105 : decode cX4_hunt 105 = .ok (.iaload, 1) := by decide +kernel
theorem dX4_hunt_106 : decode cX4_hunt 106 = .ok (.invokestatic 127, 3) := by decide +kernel
theorem dX4_hunt_109 : decode cX4_hunt 109 = .ok (.ireturn, 1) := by decide +kernel
theorem dX4_undo_0 : decode cX4_undo 0 = .ok (.aload_n 0, 1) := by decide +kernel
theorem dX4_undo_1 : decode cX4_undo 1 = .ok (.iconst 0, 1) := by decide +kernel
theorem dX4_undo_2 : decode cX4_undo 2 = .ok (.putfield 53, 3) := by decide +kernel
theorem dX4_undo_5 : decode cX4_undo 5 = .ok (.aload_n 0, 1) := by decide +kernel
theorem dX4_undo_6 : decode cX4_undo 6 = .ok (.getfield 87, 3) := by decide +kernel
theorem dX4_undo_9 : decode cX4_undo 9 = .ok (.ifCond .ne 6, 3) := by decide +kernel
theorem dX4_undo_12 : decode cX4_undo 12 = .ok (.bipush (-3), 2) := by decide +kernel
theorem dX4_undo_14 : decode cX4_undo 14 = .ok (.ireturn, 1) := by decide +kernel
theorem dX4_undo_15 : decode cX4_undo 15 = .ok (.aload_n 0, 1) := by decide +kernel
theorem dX4_undo_16 : decode cX4_undo 16 = .ok (.dup, 1) := by decide +kernel
theorem dX4_undo_17 : decode cX4_undo 17 = .ok (.getfield 87, 3) := by decide +kernel
theorem dX4_undo_20 : decode cX4_undo 20 = .ok (.iconst 1, 1) := by decide +kernel
theorem dX4_undo_21 : decode cX4_undo 21 = .ok (.isub, 1) := by decide +kernel
theorem dX4_undo_22 : decode cX4_undo 22 = .ok (.putfield 87, 3) := by decide +kernel
theorem dX4_undo_25 : decode cX4_undo 25 = .ok (.iconst 0, 1) := by decide +kernel
theorem dX4_undo_26 : decode cX4_undo 26 = .ok (.istore_n 1, 1) := by decide +kernel
theorem dX4_undo_27 : decode cX4_undo 27 = .ok (.iload_n 1, 1) := by decide +kernel
theorem dX4_undo_28 : decode cX4_undo 28 = .ok (.bipush 25, 2) := by decide +kernel
theorem dX4_undo_30 : decode cX4_undo 30 = .ok (.if_icmp .ge 29, 3) := by decide +kernel
theorem dX4_undo_33 : decode cX4_undo 33 = .ok (.aload_n 0, 1) := by decide +kernel
theorem dX4_undo_34 : decode cX4_undo 34 = .ok (.getfield 16, 3) := by decide +kernel
theorem dX4_undo_37 : decode cX4_undo 37 = .ok (.iload_n 1, 1) := by decide +kernel
theorem dX4_undo_38 : decode cX4_undo 38 = .ok (.aload_n 0, 1) := by decide +kernel
theorem dX4_undo_39 : decode cX4_undo 39 = .ok (.getfield 25, 3) := by decide +kernel
theorem dX4_undo_42 : decode cX4_undo 42 = .ok (.bipush 25, 2) := by decide +kernel
theorem dX4_undo_44 : decode cX4_undo 44 = .ok (.aload_n 0, 1) := by decide +kernel
theorem dX4_undo_45 : decode cX4_undo 45 = .ok (.getfield 87, 3) := by decide +kernel
theorem dX4_undo_48 : decode cX4_undo 48 = .ok (.imul, 1) := by decide +kernel
theorem dX4_undo_49 : decode cX4_undo 49 = .ok (.iload_n 1, 1) := by decide +kernel
theorem dX4_undo_50 : decode cX4_undo 50 = .ok (.iadd, 1) := by decide +kernel
theorem dX4_undo_51 : decode cX4_undo 51 = .ok (.iaload, 1) := by decide +kernel
theorem dX4_undo_52 : decode cX4_undo 52 = .ok (.iastore, 1) := by decide +kernel
theorem dX4_undo_53 : decode cX4_undo 53 = .ok (.iinc 1 1, 3) := by decide +kernel
theorem dX4_undo_56 : decode cX4_undo 56 = .ok (.goto (-29), 3) := by decide +kernel
theorem dX4_undo_59 : decode cX4_undo 59 = .ok (.aload_n 0, 1) := by decide +kernel
theorem dX4_undo_60 : decode cX4_undo 60 = .ok (.getfield 87, 3) := by decide +kernel
theorem dX4_undo_63 : decode cX4_undo 63 = .ok (.ireturn, 1) := by decide +kernel
theorem dX4_begin_0 : decode cX4_begin 0 = .ok (.iconst 0, 1) := by decide +kernel
theorem dX4_begin_1 : decode cX4_begin 1 = .ok (.istore_n 1, 1) := by decide +kernel
theorem dX4_begin_2 : decode cX4_begin 2 = .ok (.iload_n 1, 1) := by decide +kernel
theorem dX4_begin_3 : decode cX4_begin 3 = .ok (.bipush 25, 2) := by decide +kernel
theorem dX4_begin_5 : decode cX4_begin 5 = .ok (.if_icmp .ge 21, 3) := by decide +kernel
theorem dX4_begin_8 : decode cX4_begin 8 = .ok (.aload_n 0, 1) := by decide +kernel
theorem dX4_begin_9 : decode cX4_begin 9 = .ok (.getfield 41, 3) := by decide +kernel
theorem dX4_begin_12 : decode cX4_begin 12 = .ok (.iload_n 1, 1) := by decide +kernel
theorem dX4_begin_13 : decode cX4_begin 13 = .ok (.aload_n 0, 1) := by decide +kernel
theorem dX4_begin_14 : decode cX4_begin 14 = .ok (.getfield 16, 3) := by decide +kernel
theorem dX4_begin_17 : decode cX4_begin 17 = .ok (.iload_n 1, 1) := by decide +kernel
theorem dX4_begin_18 : decode cX4_begin 18 = .ok (.iaload, 1) := by decide +kernel
theorem dX4_begin_19 : decode cX4_begin 19 = .ok (.iastore, 1) := by decide +kernel
theorem dX4_begin_20 : decode cX4_begin 20 = .ok (.iinc 1 1, 3) := by decide +kernel
theorem dX4_begin_23 : decode cX4_begin 23 = .ok (.goto (-21), 3) := by decide +kernel
theorem dX4_begin_26 : decode cX4_begin 26 = .ok (.return_, 1) := by decide +kernel
theorem dX4_ten_0 : decode cX4_ten 0 = .ok (.iconst 1, 1) := by decide +kernel
theorem dX4_ten_1 : decode cX4_ten 1 = .ok (.istore_n 1, 1) := by decide +kernel
theorem dX4_ten_2 : decode cX4_ten 2 = .ok (.iconst 0, 1) := by decide +kernel
theorem dX4_ten_3 : decode cX4_ten 3 = .ok (.istore_n 2, 1) := by decide +kernel
theorem dX4_ten_4 : decode cX4_ten 4 = .ok (.iload_n 2, 1) := by decide +kernel
theorem dX4_ten_5 : decode cX4_ten 5 = .ok (.iload_n 0, 1) := by decide +kernel
theorem dX4_ten_6 : decode cX4_ten 6 = .ok (.if_icmp .ge 14, 3) := by decide +kernel
theorem dX4_ten_9 : decode cX4_ten 9 = .ok (.iload_n 1, 1) := by decide +kernel
theorem dX4_ten_10 : decode cX4_ten 10 = .ok (.bipush 10, 2) := by decide +kernel
theorem dX4_ten_12 : decode cX4_ten 12 = .ok (.imul, 1) := by decide +kernel
theorem dX4_ten_13 : decode cX4_ten 13 = .ok (.istore_n 1, 1) := by decide +kernel
theorem dX4_ten_14 : decode cX4_ten 14 = .ok (.iinc 2 1, 3) := by decide +kernel
theorem dX4_ten_17 : decode cX4_ten 17 = .ok (.goto (-13), 3) := by decide +kernel
theorem dX4_ten_20 : decode cX4_ten 20 = .ok (.iload_n 1, 1) := by decide +kernel
theorem dX4_ten_21 : decode cX4_ten 21 = .ok (.ireturn, 1) := by decide +kernel
theorem dX4_judged_0 : decode cX4_judged 0 = .ok (.aload_n 0, 1) := by decide +kernel
theorem dX4_judged_1 : decode cX4_judged 1 = .ok (.iconst 0, 1) := by decide +kernel
theorem dX4_judged_2 : decode cX4_judged 2 = .ok (.putfield 53, 3) := by decide +kernel
theorem dX4_judged_5 : decode cX4_judged 5 = .ok (.iload_n 1, 1) := by decide +kernel
theorem dX4_judged_6 : decode cX4_judged 6 = .ok (.i2l, 1) := by decide +kernel
theorem dX4_judged_7 : decode cX4_judged 7 = .ok (.lconst 1, 1) := by decide +kernel
theorem dX4_judged_8 : decode cX4_judged 8 = .ok (.ldc2_w 131, 3) := by decide +kernel
theorem dX4_judged_11 : decode cX4_judged 11 = .ok (.invokestatic 60, 3) := by decide +kernel
theorem dX4_judged_14 : decode cX4_judged 14 = .ok (.ifCond .eq 19, 3) := by decide +kernel
theorem dX4_judged_17 : decode cX4_judged 17 = .ok (.iload_n 2, 1) := by decide +kernel
theorem dX4_judged_18 : decode cX4_judged 18 = .ok (.i2l, 1) := by decide +kernel
theorem dX4_judged_19 : decode cX4_judged 19 = .ok (.lconst 0, 1) := by decide +kernel
theorem dX4_judged_20 : decode cX4_judged 20 = .ok (.iload_n 1, 1) := by decide +kernel
theorem dX4_judged_21 : decode cX4_judged 21 = .ok (.invokestatic 133, 3) := by decide +kernel
theorem dX4_judged_24 : decode cX4_judged 24 = .ok (.iconst 1, 1) := by decide +kernel
theorem dX4_judged_25 : decode cX4_judged 25 = .ok (.isub, 1) := by decide +kernel
theorem dX4_judged_26 : decode cX4_judged 26 = .ok (.i2l, 1) := by decide +kernel
theorem dX4_judged_27 : decode cX4_judged 27 = .ok (.invokestatic 60, 3) := by decide +kernel
theorem dX4_judged_30 : decode cX4_judged 30 = .ok (.ifCond .ne 6, 3) := by decide +kernel
theorem dX4_judged_33 : decode cX4_judged 33 = .ok (.bipush (-2), 2) := by decide +kernel
theorem dX4_judged_35 : decode cX4_judged 35 = .ok (.ireturn, 1) := by decide +kernel
theorem dX4_judged_36 : decode cX4_judged 36 = .ok (.aload_n 0, 1) := by decide +kernel
theorem dX4_judged_37 : decode cX4_judged 37 = .ok (.invokevirtual 136, 3) := by decide +kernel
theorem dX4_judged_40 : decode cX4_judged 40 = .ok (.iconst 0, 1) := by decide +kernel
theorem dX4_judged_41 : decode cX4_judged 41 = .ok (.istore_n 3, 1) := by decide +kernel
theorem dX4_judged_42 : decode cX4_judged 42 = .ok (.iload_n 3, 1) := by decide +kernel
theorem dX4_judged_43 : decode cX4_judged 43 = .ok (.iload_n 1, 1) := by decide +kernel
theorem dX4_judged_44 : decode cX4_judged 44 = .ok (.if_icmp .ge 64, 3) := by decide +kernel
theorem dX4_judged_47 : decode cX4_judged 47 = .ok (.iload_n 2, 1) := by decide +kernel
theorem dX4_judged_48 : decode cX4_judged 48 = .ok (.iload_n 1, 1) := by decide +kernel
theorem dX4_judged_49 : decode cX4_judged 49 = .ok (.iconst 1, 1) := by decide +kernel
theorem dX4_judged_50 : decode cX4_judged 50 = .ok (.isub, 1) := by decide +kernel
theorem dX4_judged_51 : decode cX4_judged 51 = .ok (.iload_n 3, 1) := by decide +kernel
theorem dX4_judged_52 : decode cX4_judged 52 = .ok (.isub, 1) := by decide +kernel
theorem dX4_judged_53 : decode cX4_judged 53 = .ok (.invokestatic 133, 3) := by decide +kernel
theorem dX4_judged_56 : decode cX4_judged 56 = .ok (.idiv, 1) := by decide +kernel
theorem dX4_judged_57 : decode cX4_judged 57 = .ok (.bipush 10, 2) := by decide +kernel
theorem dX4_judged_59 : decode cX4_judged 59 = .ok (.irem, 1) := by decide +kernel
theorem dX4_judged_60 : decode cX4_judged 60 = .ok (.istore 4, 2) := by decide +kernel
theorem dX4_judged_62 : decode cX4_judged 62 = .ok (.aload_n 0, 1) := by decide +kernel
theorem dX4_judged_63 : decode cX4_judged 63 = .ok (.aload_n 0, 1) := by decide +kernel
theorem dX4_judged_64 : decode cX4_judged 64 = .ok (.getfield 41, 3) := by decide +kernel
theorem dX4_judged_67 : decode cX4_judged 67 = .ok (.aload_n 0, 1) := by decide +kernel
theorem dX4_judged_68 : decode cX4_judged 68 = .ok (.getfield 41, 3) := by decide +kernel
theorem dX4_judged_71 : decode cX4_judged 71 = .ok (.bipush 21, 2) := by decide +kernel
theorem dX4_judged_73 : decode cX4_judged 73 = .ok (.iaload, 1) := by decide +kernel
theorem dX4_judged_74 : decode cX4_judged 74 = .ok (.aload_n 0, 1) := by decide +kernel
theorem dX4_judged_75 : decode cX4_judged 75 = .ok (.getfield 41, 3) := by decide +kernel
theorem dX4_judged_78 : decode cX4_judged 78 = .ok (.invokestatic 98, 3) := by decide +kernel
theorem dX4_judged_81 : decode cX4_judged 81 = .ok (.invokevirtual 102, 3) := by decide +kernel
theorem dX4_judged_84 : decode cX4_judged 84 = .ok (.iload 4, 2) := by decide +kernel
theorem dX4_judged_86 : decode cX4_judged 86 = .ok (.invokestatic 90, 3) := by decide +kernel
theorem dX4_judged_89 : decode cX4_judged 89 = .ok (.ifCond .ne 5, 3) := by decide +kernel
theorem dX4_judged_92 : decode cX4_judged 92 = .ok (.iload_n 3, 1) := by decide +kernel
theorem dX4_judged_93 : decode cX4_judged 93 = .ok (.ireturn, 1) := by decide +kernel
theorem dX4_judged_94 : decode cX4_judged 94 = .ok (.aload_n 0, 1) := by decide +kernel
theorem dX4_judged_95 : decode cX4_judged 95 = .ok (.aload_n 0, 1) := by decide +kernel
theorem dX4_judged_96 : decode cX4_judged 96 = .ok (.getfield 41, 3) := by decide +kernel
theorem dX4_judged_99 : decode cX4_judged 99 = .ok (.invokevirtual 118, 3) := by decide +kernel
theorem dX4_judged_102 : decode cX4_judged 102 = .ok (.iinc 3 1, 3) := by decide +kernel
theorem dX4_judged_105 : decode cX4_judged 105 = .ok (.goto (-63), 3) := by decide +kernel
theorem dX4_judged_108 : decode cX4_judged 108 = .ok (.bipush (-9), 2) := by decide +kernel
theorem dX4_judged_110 : decode cX4_judged 110 = .ok (.ireturn, 1) := by decide +kernel
theorem dX4_hear_0 : decode cX4_hear 0 = .ok (.aload_n 0, 1) := by decide +kernel
theorem dX4_hear_1 : decode cX4_hear 1 = .ok (.iconst 0, 1) := by decide +kernel
theorem dX4_hear_2 : decode cX4_hear 2 = .ok (.putfield 53, 3) := by decide +kernel
theorem dX4_hear_5 : decode cX4_hear 5 = .ok (.aload_n 0, 1) := by decide +kernel
theorem dX4_hear_6 : decode cX4_hear 6 = .ok (.iload_n 1, 1) := by decide +kernel
theorem dX4_hear_7 : decode cX4_hear 7 = .ok (.invokevirtual 111, 3) := by decide +kernel
theorem dX4_hear_10 : decode cX4_hear 10 = .ok (.ifCond .eq 5, 3) := by decide +kernel
theorem dX4_hear_13 : decode cX4_hear 13 = .ok (.iconst (-1), 1) := by decide +kernel
theorem dX4_hear_14 : decode cX4_hear 14 = .ok (.ireturn, 1) := by decide +kernel
theorem dX4_hear_15 : decode cX4_hear 15 = .ok (.aload_n 0, 1) := by decide +kernel
theorem dX4_hear_16 : decode cX4_hear 16 = .ok (.getfield 108, 3) := by decide +kernel
theorem dX4_hear_19 : decode cX4_hear 19 = .ok (.bipush 6, 2) := by decide +kernel
theorem dX4_hear_21 : decode cX4_hear 21 = .ok (.if_icmp .ne 6, 3) := by decide +kernel
theorem dX4_hear_24 : decode cX4_hear 24 = .ok (.bipush (-4), 2) := by decide +kernel
theorem dX4_hear_26 : decode cX4_hear 26 = .ok (.ireturn, 1) := by decide +kernel
theorem dX4_hear_27 : decode cX4_hear 27 = .ok (.aload_n 0, 1) := by decide +kernel
theorem dX4_hear_28 : decode cX4_hear 28 = .ok (.getfield 35, 3) := by decide +kernel
theorem dX4_hear_31 : decode cX4_hear 31 = .ok (.aload_n 0, 1) := by decide +kernel
theorem dX4_hear_32 : decode cX4_hear 32 = .ok (.getfield 108, 3) := by decide +kernel
theorem dX4_hear_35 : decode cX4_hear 35 = .ok (.iload_n 1, 1) := by decide +kernel
theorem dX4_hear_36 : decode cX4_hear 36 = .ok (.iastore, 1) := by decide +kernel
theorem dX4_hear_37 : decode cX4_hear 37 = .ok (.aload_n 0, 1) := by decide +kernel
theorem dX4_hear_38 : decode cX4_hear 38 = .ok (.getfield 38, 3) := by decide +kernel
theorem dX4_hear_41 : decode cX4_hear 41 = .ok (.aload_n 0, 1) := by decide +kernel
theorem dX4_hear_42 : decode cX4_hear 42 = .ok (.getfield 108, 3) := by decide +kernel
theorem dX4_hear_45 : decode cX4_hear 45 = .ok (.iload_n 2, 1) := by decide +kernel
theorem dX4_hear_46 : decode cX4_hear 46 = .ok (.bastore, 1) := by decide +kernel
theorem dX4_hear_47 : decode cX4_hear 47 = .ok (.aload_n 0, 1) := by decide +kernel
theorem dX4_hear_48 : decode cX4_hear 48 = .ok (.dup, 1) := by decide +kernel
theorem dX4_hear_49 : decode cX4_hear 49 = .ok (.getfield 108, 3) := by decide +kernel
theorem dX4_hear_52 : decode cX4_hear 52 = .ok (.iconst 1, 1) := by decide +kernel
theorem dX4_hear_53 : decode cX4_hear 53 = .ok (.iadd, 1) := by decide +kernel
theorem dX4_hear_54 : decode cX4_hear 54 = .ok (.putfield 108, 3) := by decide +kernel
theorem dX4_hear_57 : decode cX4_hear 57 = .ok (.aload_n 0, 1) := by decide +kernel
theorem dX4_hear_58 : decode cX4_hear 58 = .ok (.getfield 108, 3) := by decide +kernel
theorem dX4_hear_61 : decode cX4_hear 61 = .ok (.ireturn, 1) := by decide +kernel
theorem dX4_unhear_0 : decode cX4_unhear 0 = .ok (.aload_n 0, 1) := by decide +kernel
theorem dX4_unhear_1 : decode cX4_unhear 1 = .ok (.iconst 0, 1) := by decide +kernel
theorem dX4_unhear_2 : decode cX4_unhear 2 = .ok (.putfield 53, 3) := by decide +kernel
theorem dX4_unhear_5 : decode cX4_unhear 5 = .ok (.aload_n 0, 1) := by decide +kernel
theorem dX4_unhear_6 : decode cX4_unhear 6 = .ok (.getfield 108, 3) := by decide +kernel
theorem dX4_unhear_9 : decode cX4_unhear 9 = .ok (.istore_n 1, 1) := by decide +kernel
theorem dX4_unhear_10 : decode cX4_unhear 10 = .ok (.aload_n 0, 1) := by decide +kernel
theorem dX4_unhear_11 : decode cX4_unhear 11 = .ok (.iconst 0, 1) := by decide +kernel
theorem dX4_unhear_12 : decode cX4_unhear 12 = .ok (.putfield 108, 3) := by decide +kernel
theorem dX4_unhear_15 : decode cX4_unhear 15 = .ok (.iload_n 1, 1) := by decide +kernel
theorem dX4_unhear_16 : decode cX4_unhear 16 = .ok (.ireturn, 1) := by decide +kernel
theorem dX4_laySets_0 : decode cX4_laySets 0 = .ok (.iconst 1, 1) := by decide +kernel
theorem dX4_laySets_1 : decode cX4_laySets 1 = .ok (.aload_n 0, 1) := by decide +kernel
theorem dX4_laySets_2 : decode cX4_laySets 2 = .ok (.getfield 57, 3) := by decide +kernel
theorem dX4_laySets_5 : decode cX4_laySets 5 = .ok (.ishl, 1) := by decide +kernel
theorem dX4_laySets_6 : decode cX4_laySets 6 = .ok (.iconst 1, 1) := by decide +kernel
theorem dX4_laySets_7 : decode cX4_laySets 7 = .ok (.isub, 1) := by decide +kernel
theorem dX4_laySets_8 : decode cX4_laySets 8 = .ok (.istore_n 1, 1) := by decide +kernel
theorem dX4_laySets_9 : decode cX4_laySets 9 = .ok (.aload_n 0, 1) := by decide +kernel
theorem dX4_laySets_10 : decode cX4_laySets 10 = .ok (.iconst 0, 1) := by decide +kernel
theorem dX4_laySets_11 : decode cX4_laySets 11 = .ok (.putfield 139, 3) := by decide +kernel
theorem dX4_laySets_14 : decode cX4_laySets 14 = .ok (.aload_n 0, 1) := by decide +kernel
theorem dX4_laySets_15 : decode cX4_laySets 15 = .ok (.iload_n 1, 1) := by decide +kernel
theorem dX4_laySets_16 : decode cX4_laySets 16 = .ok (.putfield 142, 3) := by decide +kernel
theorem dX4_laySets_19 : decode cX4_laySets 19 = .ok (.iconst 0, 1) := by decide +kernel
theorem dX4_laySets_20 : decode cX4_laySets 20 = .ok (.istore_n 2, 1) := by decide +kernel
theorem dX4_laySets_21 : decode cX4_laySets 21 = .ok (.iload_n 2, 1) := by decide +kernel
theorem dX4_laySets_22 : decode cX4_laySets 22 = .ok (.bipush 6, 2) := by decide +kernel
theorem dX4_laySets_24 : decode cX4_laySets 24 = .ok (.if_icmp .ge 16, 3) := by decide +kernel
theorem dX4_laySets_27 : decode cX4_laySets 27 = .ok (.aload_n 0, 1) := by decide +kernel
theorem dX4_laySets_28 : decode cX4_laySets 28 = .ok (.getfield 50, 3) := by decide +kernel
theorem dX4_laySets_31 : decode cX4_laySets 31 = .ok (.iload_n 2, 1) := by decide +kernel
theorem dX4_laySets_32 : decode cX4_laySets 32 = .ok (.iconst 0, 1) := by decide +kernel
theorem dX4_laySets_33 : decode cX4_laySets 33 = .ok (.iastore, 1) := by decide +kernel
theorem dX4_laySets_34 : decode cX4_laySets 34 = .ok (.iinc 2 1, 3) := by decide +kernel
theorem dX4_laySets_37 : decode cX4_laySets 37 = .ok (.goto (-16), 3) := by decide +kernel
theorem dX4_laySets_40 : decode cX4_laySets 40 = .ok (.iconst 0, 1) := by decide +kernel
theorem dX4_laySets_41 : decode cX4_laySets 41 = .ok (.istore_n 2, 1) := by decide +kernel
theorem dX4_laySets_42 : decode cX4_laySets 42 = .ok (.iload_n 2, 1) := by decide +kernel
theorem dX4_laySets_43 : decode cX4_laySets 43 = .ok (.iload_n 1, 1) := by decide +kernel
theorem dX4_laySets_44 : decode cX4_laySets 44 = .ok (.if_icmp .gt 181, 3) := by decide +kernel
theorem dX4_laySets_47 : decode cX4_laySets 47 = .ok (.iload_n 2, 1) := by decide +kernel
theorem dX4_laySets_48 : decode cX4_laySets 48 = .ok (.iconst (-1), 1) := by decide +kernel
theorem dX4_laySets_49 : decode cX4_laySets 49 = .ok (.ixor, 1) := by decide +kernel
theorem dX4_laySets_50 : decode cX4_laySets 50 = .ok (.iload_n 1, 1) := by decide +kernel
theorem dX4_laySets_51 : decode cX4_laySets 51 = .ok (.iand, 1) := by decide +kernel
theorem dX4_laySets_52 : decode cX4_laySets 52 = .ok (.aload_n 0, 1) := by decide +kernel
theorem dX4_laySets_53 : decode cX4_laySets 53 = .ok (.getfield 16, 3) := by decide +kernel
theorem dX4_laySets_56 : decode cX4_laySets 56 = .ok (.bipush 22, 2) := by decide +kernel
theorem dX4_laySets_58 : decode cX4_laySets 58 = .ok (.iaload, 1) := by decide +kernel
theorem dX4_laySets_59 : decode cX4_laySets 59 = .ok (.iconst (-1), 1) := by decide +kernel
theorem dX4_laySets_60 : decode cX4_laySets 60 = .ok (.ixor, 1) := by decide +kernel
theorem dX4_laySets_61 : decode cX4_laySets 61 = .ok (.iand, 1) := by decide +kernel
theorem dX4_laySets_62 : decode cX4_laySets 62 = .ok (.ifCond .ne 7, 3) := by decide +kernel
theorem dX4_laySets_65 : decode cX4_laySets 65 = .ok (.iconst 1, 1) := by decide +kernel
theorem dX4_laySets_66 : decode cX4_laySets 66 = .ok (.goto 4, 3) := by decide +kernel
theorem dX4_laySets_69 : decode cX4_laySets 69 = .ok (.iconst 0, 1) := by decide +kernel
theorem dX4_laySets_70 : decode cX4_laySets 70 = .ok (.istore_n 3, 1) := by decide +kernel
theorem dX4_laySets_71 : decode cX4_laySets 71 = .ok (.aload_n 0, 1) := by decide +kernel
theorem dX4_laySets_72 : decode cX4_laySets 72 = .ok (.aload_n 0, 1) := by decide +kernel
theorem dX4_laySets_73 : decode cX4_laySets 73 = .ok (.getfield 16, 3) := by decide +kernel
theorem dX4_laySets_76 : decode cX4_laySets 76 = .ok (.iload_n 2, 1) := by decide +kernel
theorem dX4_laySets_77 : decode cX4_laySets 77 = .ok (.aload_n 0, 1) := by decide +kernel
theorem dX4_laySets_78 : decode cX4_laySets 78 = .ok (.getfield 16, 3) := by decide +kernel
theorem dX4_laySets_81 : decode cX4_laySets 81 = .ok (.invokestatic 98, 3) := by decide +kernel
theorem dX4_laySets_84 : decode cX4_laySets 84 = .ok (.invokevirtual 102, 3) := by decide +kernel
theorem dX4_laySets_87 : decode cX4_laySets 87 = .ok (.istore 4, 2) := by decide +kernel
theorem dX4_laySets_89 : decode cX4_laySets 89 = .ok (.iconst 0, 1) := by decide +kernel
theorem dX4_laySets_90 : decode cX4_laySets 90 = .ok (.istore 5, 2) := by decide +kernel
theorem dX4_laySets_92 : decode cX4_laySets 92 = .ok (.iload 5, 2) := by decide +kernel
theorem dX4_laySets_94 : decode cX4_laySets 94 = .ok (.aload_n 0, 1) := by decide +kernel
theorem dX4_laySets_95 : decode cX4_laySets 95 = .ok (.getfield 108, 3) := by decide +kernel
theorem dX4_laySets_98 : decode cX4_laySets 98 = .ok (.if_icmp .ge 55, 3) := by decide +kernel
theorem dX4_laySets_101 : decode cX4_laySets 101 = .ok (.iload_n 3, 1) := by decide +kernel
theorem dX4_laySets_102 : decode cX4_laySets 102 = .ok (.ifCond .eq 51, 3) := by decide +kernel
theorem dX4_laySets_105 : decode cX4_laySets 105 = .ok (.aload_n 0, 1) := by decide +kernel
theorem dX4_laySets_106 : decode cX4_laySets 106 = .ok (.getfield 35, 3) := by decide +kernel
theorem dX4_laySets_109 : decode cX4_laySets 109 = .ok (.iload 5, 2) := by decide +kernel
theorem dX4_laySets_111 : decode cX4_laySets 111 = .ok (.iaload, 1) := by decide +kernel
theorem dX4_laySets_112 : decode cX4_laySets 112 = .ok (.aload_n 0, 1) := by decide +kernel
theorem dX4_laySets_113 : decode cX4_laySets 113 = .ok (.getfield 57, 3) := by decide +kernel
theorem dX4_laySets_116 : decode cX4_laySets 116 = .ok (.if_icmp .ge 25, 3) := by decide +kernel
theorem dX4_laySets_119 : decode cX4_laySets 119 = .ok (.iload 4, 2) := by decide +kernel
theorem dX4_laySets_121 : decode cX4_laySets 121 = .ok (.aload_n 0, 1) := by decide +kernel
theorem dX4_laySets_122 : decode cX4_laySets 122 = .ok (.getfield 35, 3) := by decide +kernel
theorem dX4_laySets_125 : decode cX4_laySets 125 = .ok (.iload 5, 2) := by decide +kernel
theorem dX4_laySets_127 : decode cX4_laySets 127 = .ok (.iaload, 1) := by decide +kernel
theorem dX4_laySets_128 : decode cX4_laySets 128 = .ok (.invokestatic 90, 3) := by decide +kernel
theorem dX4_laySets_131 : decode cX4_laySets 131 = .ok (.aload_n 0, 1) := by decide +kernel
theorem dX4_laySets_132 : decode cX4_laySets 132 = .ok (.getfield 38, 3) := by decide +kernel
theorem dX4_laySets_135 : decode cX4_laySets 135 = .ok (.iload 5, 2) := by decide +kernel
theorem dX4_laySets_137 : decode cX4_laySets 137 = .ok (.baload, 1) := by decide +kernel
theorem dX4_laySets_138 : decode cX4_laySets 138 = .ok (.if_icmp .ne 7, 3) := by decide +kernel
theorem dX4_laySets_141 : decode cX4_laySets 141 = .ok (.iconst 1, 1) := by decide +kernel
theorem dX4_laySets_142 : decode cX4_laySets 142 = .ok (.goto 4, 3) := by decide +kernel
theorem dX4_laySets_145 : decode cX4_laySets 145 = .ok (.iconst 0, 1) := by decide +kernel
theorem dX4_laySets_146 : decode cX4_laySets 146 = .ok (.istore_n 3, 1) := by decide +kernel
theorem dX4_laySets_147 : decode cX4_laySets 147 = .ok (.iinc 5 1, 3) := by decide +kernel
theorem dX4_laySets_150 : decode cX4_laySets 150 = .ok (.goto (-58), 3) := by decide +kernel
theorem dX4_laySets_153 : decode cX4_laySets 153 = .ok (.iload_n 3, 1) := by decide +kernel
theorem dX4_laySets_154 : decode cX4_laySets 154 = .ok (.ifCond .eq 65, 3) := by decide +kernel
theorem dX4_laySets_157 : decode cX4_laySets 157 = .ok (.aload_n 0, 1) := by decide +kernel
theorem dX4_laySets_158 : decode cX4_laySets 158 = .ok (.dup, 1) := by decide +kernel
theorem dX4_laySets_159 : decode cX4_laySets 159 = .ok (.getfield 139, 3) := by decide +kernel
theorem dX4_laySets_162 : decode cX4_laySets 162 = .ok (.iconst 1, 1) := by decide +kernel
theorem dX4_laySets_163 : decode cX4_laySets 163 = .ok (.iadd, 1) := by decide +kernel
theorem dX4_laySets_164 : decode cX4_laySets 164 = .ok (.putfield 139, 3) := by decide +kernel
theorem dX4_laySets_167 : decode cX4_laySets 167 = .ok (.aload_n 0, 1) := by decide +kernel
theorem dX4_laySets_168 : decode cX4_laySets 168 = .ok (.dup, 1) := by decide +kernel
theorem dX4_laySets_169 : decode cX4_laySets 169 = .ok (.getfield 142, 3) := by decide +kernel
theorem dX4_laySets_172 : decode cX4_laySets 172 = .ok (.iload_n 2, 1) := by decide +kernel
theorem dX4_laySets_173 : decode cX4_laySets 173 = .ok (.iand, 1) := by decide +kernel
theorem dX4_laySets_174 : decode cX4_laySets 174 = .ok (.putfield 142, 3) := by decide +kernel
theorem dX4_laySets_177 : decode cX4_laySets 177 = .ok (.iconst 0, 1) := by decide +kernel
theorem dX4_laySets_178 : decode cX4_laySets 178 = .ok (.istore 5, 2) := by decide +kernel
theorem dX4_laySets_180 : decode cX4_laySets 180 = .ok (.iload 5, 2) := by decide +kernel
theorem dX4_laySets_182 : decode cX4_laySets 182 = .ok (.aload_n 0, 1) := by decide +kernel
theorem dX4_laySets_183 : decode cX4_laySets 183 = .ok (.getfield 57, 3) := by decide +kernel
theorem dX4_laySets_186 : decode cX4_laySets 186 = .ok (.if_icmp .ge 33, 3) := by decide +kernel
theorem dX4_laySets_189 : decode cX4_laySets 189 = .ok (.aload_n 0, 1) := by decide +kernel
theorem dX4_laySets_190 : decode cX4_laySets 190 = .ok (.getfield 50, 3) := by decide +kernel
theorem dX4_laySets_193 : decode cX4_laySets 193 = .ok (.iload 5, 2) := by decide +kernel
theorem dX4_laySets_195 : decode cX4_laySets 195 = .ok (.dup2, 1) := by decide +kernel
theorem dX4_laySets_196 : decode cX4_laySets 196 = .ok (.iaload, 1) := by decide +kernel
theorem dX4_laySets_197 : decode cX4_laySets 197 = .ok (.iload_n 2, 1) := by decide +kernel
theorem dX4_laySets_198 : decode cX4_laySets 198 = .ok (.iload 5, 2) := by decide +kernel
theorem dX4_laySets_200 : decode cX4_laySets 200 = .ok (.invokestatic 90, 3) := by decide +kernel
theorem dX4_laySets_203 : decode cX4_laySets 203 = .ok (.ifCond .eq 7, 3) := by decide +kernel
theorem dX4_laySets_206 : decode cX4_laySets 206 = .ok (.iconst 1, 1) := by decide +kernel
theorem dX4_laySets_207 : decode cX4_laySets 207 = .ok (.goto 4, 3) := by decide +kernel
theorem dX4_laySets_210 : decode cX4_laySets 210 = .ok (.iconst 0, 1) := by decide +kernel
theorem dX4_laySets_211 : decode cX4_laySets 211 = .ok (.iadd, 1) := by decide +kernel
theorem dX4_laySets_212 : decode cX4_laySets 212 = .ok (.iastore, 1) := by decide +kernel
theorem dX4_laySets_213 : decode cX4_laySets 213 = .ok (.iinc 5 1, 3) := by decide +kernel
theorem dX4_laySets_216 : decode cX4_laySets 216 = .ok (.goto (-36), 3) := by decide +kernel
theorem dX4_laySets_219 : decode cX4_laySets 219 = .ok (.iinc 2 1, 3) := by decide +kernel
theorem dX4_laySets_222 : decode cX4_laySets 222 = .ok (.goto (-180), 3) := by decide +kernel
theorem dX4_laySets_225 : decode cX4_laySets 225 = .ok (.return_, 1) := by decide +kernel
theorem dX4_worlds_0 : decode cX4_worlds 0 = .ok (.aload_n 0, 1) := by decide +kernel
theorem dX4_worlds_1 : decode cX4_worlds 1 = .ok (.iconst 0, 1) := by decide +kernel
theorem dX4_worlds_2 : decode cX4_worlds 2 = .ok (.putfield 53, 3) := by decide +kernel
theorem dX4_worlds_5 : decode cX4_worlds 5 = .ok (.iload_n 1, 1) := by decide +kernel
theorem dX4_worlds_6 : decode cX4_worlds 6 = .ok (.i2l, 1) := by decide +kernel
theorem dX4_worlds_7 : decode cX4_worlds 7 = .ok (.lconst 0, 1) := by decide +kernel
theorem dX4_worlds_8 : decode cX4_worlds 8 = .ok (.lconst 1, 1) := by decide +kernel
theorem dX4_worlds_9 : decode cX4_worlds 9 = .ok (.invokestatic 60, 3) := by decide +kernel
theorem dX4_worlds_12 : decode cX4_worlds 12 = .ok (.ifCond .ne 6, 3) := by decide +kernel
theorem dX4_worlds_15 : decode cX4_worlds 15 = .ok (.bipush (-2), 2) := by decide +kernel
theorem dX4_worlds_17 : decode cX4_worlds 17 = .ok (.ireturn, 1) := by decide +kernel
theorem dX4_worlds_18 : decode cX4_worlds 18 = .ok (.aload_n 0, 1) := by decide +kernel
theorem dX4_worlds_19 : decode cX4_worlds 19 = .ok (.invokevirtual 145, 3) := by decide +kernel
theorem dX4_worlds_22 : decode cX4_worlds 22 = .ok (.iload_n 1, 1) := by decide +kernel
theorem dX4_worlds_23 : decode cX4_worlds 23 = .ok (.ifCond .ne 10, 3) := by decide +kernel
theorem dX4_worlds_26 : decode cX4_worlds 26 = .ok (.aload_n 0, 1) := by decide +kernel
theorem dX4_worlds_27 : decode cX4_worlds 27 = .ok (.getfield 139, 3) := by decide +kernel
theorem dX4_worlds_30 : decode cX4_worlds 30 = .ok (.goto 19, 3) := by decide +kernel
theorem dX4_worlds_33 : decode cX4_worlds 33 = .ok (.aload_n 0, 1) := by decide +kernel
theorem dX4_worlds_34 : decode cX4_worlds 34 = .ok (.getfield 139, 3) := by decide +kernel
theorem dX4_worlds_37 : decode cX4_worlds 37 = .ok (.ifCond .ne 8, 3) := by decide +kernel
theorem dX4_worlds_40 : decode cX4_worlds 40 = .ok (.bipush (-9), 2) := by decide +kernel
theorem dX4_worlds_42 : decode cX4_worlds 42 = .ok (.goto 7, 3) := by decide +kernel
theorem dX4_worlds_45 : decode cX4_worlds 45 = .ok (.aload_n 0, 1) := by decide +kernel
theorem dX4_worlds_46 : decode cX4_worlds 46 = .ok (.getfield 142, 3) := by decide +kernel
theorem dX4_worlds_49 : decode cX4_worlds 49 = .ok (.ireturn, 1) := by decide +kernel
theorem dX4_toAsk_0 : decode cX4_toAsk 0 = .ok (.aload_n 0, 1) := by decide +kernel
theorem dX4_toAsk_1 : decode cX4_toAsk 1 = .ok (.iconst 0, 1) := by decide +kernel
theorem dX4_toAsk_2 : decode cX4_toAsk 2 = .ok (.putfield 53, 3) := by decide +kernel
theorem dX4_toAsk_5 : decode cX4_toAsk 5 = .ok (.aload_n 0, 1) := by decide +kernel
theorem dX4_toAsk_6 : decode cX4_toAsk 6 = .ok (.invokevirtual 145, 3) := by decide +kernel
theorem dX4_toAsk_9 : decode cX4_toAsk 9 = .ok (.bipush (-9), 2) := by decide +kernel
theorem dX4_toAsk_11 : decode cX4_toAsk 11 = .ok (.istore_n 1, 1) := by decide +kernel
theorem dX4_toAsk_12 : decode cX4_toAsk 12 = .ok (.bipush (-9), 2) := by decide +kernel
theorem dX4_toAsk_14 : decode cX4_toAsk 14 = .ok (.istore_n 2, 1) := by decide +kernel
theorem dX4_toAsk_15 : decode cX4_toAsk 15 = .ok (.iconst 0, 1) := by decide +kernel
theorem dX4_toAsk_16 : decode cX4_toAsk 16 = .ok (.istore_n 3, 1) := by decide +kernel
theorem dX4_toAsk_17 : decode cX4_toAsk 17 = .ok (.iload_n 3, 1) := by decide +kernel
theorem dX4_toAsk_18 : decode cX4_toAsk 18 = .ok (.aload_n 0, 1) := by decide +kernel
theorem dX4_toAsk_19 : decode cX4_toAsk 19 = .ok (.getfield 57, 3) := by decide +kernel
theorem dX4_toAsk_22 : decode cX4_toAsk 22 = .ok (.if_icmp .ge 83, 3) := by decide +kernel
theorem dX4_toAsk_25 : decode cX4_toAsk 25 = .ok (.aload_n 0, 1) := by decide +kernel
theorem dX4_toAsk_26 : decode cX4_toAsk 26 = .ok (.getfield 139, 3) := by decide +kernel
theorem dX4_toAsk_29 : decode cX4_toAsk 29 = .ok (.ifCond .le 76, 3) := by decide +kernel
theorem dX4_toAsk_32 : decode cX4_toAsk 32 = .ok (.aload_n 0, 1) := by decide +kernel
theorem dX4_toAsk_33 : decode cX4_toAsk 33 = .ok (.getfield 50, 3) := by decide +kernel
theorem dX4_toAsk_36 : decode cX4_toAsk 36 = .ok (.iload_n 3, 1) := by decide +kernel
theorem dX4_toAsk_37 : decode cX4_toAsk 37 = .ok (.iaload, 1) := by decide +kernel
theorem dX4_toAsk_38 : decode cX4_toAsk 38 = .ok (.aload_n 0, 1) := by decide +kernel
theorem dX4_toAsk_39 : decode cX4_toAsk 39 = .ok (.getfield 139, 3) := by decide +kernel
theorem dX4_toAsk_42 : decode cX4_toAsk 42 = .ok (.aload_n 0, 1) := by decide +kernel
theorem dX4_toAsk_43 : decode cX4_toAsk 43 = .ok (.getfield 50, 3) := by decide +kernel
theorem dX4_toAsk_46 : decode cX4_toAsk 46 = .ok (.iload_n 3, 1) := by decide +kernel
theorem dX4_toAsk_47 : decode cX4_toAsk 47 = .ok (.iaload, 1) := by decide +kernel
theorem dX4_toAsk_48 : decode cX4_toAsk 48 = .ok (.isub, 1) := by decide +kernel
theorem dX4_toAsk_49 : decode cX4_toAsk 49 = .ok (.if_icmp .ge 12, 3) := by decide +kernel
theorem dX4_toAsk_52 : decode cX4_toAsk 52 = .ok (.aload_n 0, 1) := by decide +kernel
theorem dX4_toAsk_53 : decode cX4_toAsk 53 = .ok (.getfield 50, 3) := by decide +kernel
theorem dX4_toAsk_56 : decode cX4_toAsk 56 = .ok (.iload_n 3, 1) := by decide +kernel
theorem dX4_toAsk_57 : decode cX4_toAsk 57 = .ok (.iaload, 1) := by decide +kernel
theorem dX4_toAsk_58 : decode cX4_toAsk 58 = .ok (.goto 14, 3) := by decide +kernel
theorem dX4_toAsk_61 : decode cX4_toAsk 61 = .ok (.aload_n 0, 1) := by decide +kernel
theorem dX4_toAsk_62 : decode cX4_toAsk 62 = .ok (.getfield 139, 3) := by decide +kernel
theorem dX4_toAsk_65 : decode cX4_toAsk 65 = .ok (.aload_n 0, 1) := by decide +kernel
theorem dX4_toAsk_66 : decode cX4_toAsk 66 = .ok (.getfield 50, 3) := by decide +kernel
theorem dX4_toAsk_69 : decode cX4_toAsk 69 = .ok (.iload_n 3, 1) := by decide +kernel
theorem dX4_toAsk_70 : decode cX4_toAsk 70 = .ok (.iaload, 1) := by decide +kernel
theorem dX4_toAsk_71 : decode cX4_toAsk 71 = .ok (.isub, 1) := by decide +kernel
theorem dX4_toAsk_72 : decode cX4_toAsk 72 = .ok (.istore 4, 2) := by decide +kernel
theorem dX4_toAsk_74 : decode cX4_toAsk 74 = .ok (.aload_n 0, 1) := by decide +kernel
theorem dX4_toAsk_75 : decode cX4_toAsk 75 = .ok (.getfield 16, 3) := by decide +kernel
theorem dX4_toAsk_78 : decode cX4_toAsk 78 = .ok (.bipush 22, 2) := by decide +kernel
theorem dX4_toAsk_80 : decode cX4_toAsk 80 = .ok (.iaload, 1) := by decide +kernel
theorem dX4_toAsk_81 : decode cX4_toAsk 81 = .ok (.iload_n 3, 1) := by decide +kernel
theorem dX4_toAsk_82 : decode cX4_toAsk 82 = .ok (.invokestatic 90, 3) := by decide +kernel
theorem dX4_toAsk_85 : decode cX4_toAsk 85 = .ok (.ifCond .eq 14, 3) := by decide +kernel
theorem dX4_toAsk_88 : decode cX4_toAsk 88 = .ok (.iload 4, 2) := by decide +kernel
theorem dX4_toAsk_90 : decode cX4_toAsk 90 = .ok (.iload_n 2, 1) := by decide +kernel
theorem dX4_toAsk_91 : decode cX4_toAsk 91 = .ok (.if_icmp .le 8, 3) := by decide +kernel
theorem dX4_toAsk_94 : decode cX4_toAsk 94 = .ok (.iload_n 3, 1) := by decide +kernel
theorem dX4_toAsk_95 : decode cX4_toAsk 95 = .ok (.istore_n 1, 1) := by decide +kernel
theorem dX4_toAsk_96 : decode cX4_toAsk 96 = .ok (.iload 4, 2) := by decide +kernel
theorem dX4_toAsk_98 : decode cX4_toAsk 98 = .ok (.istore_n 2, 1) := by decide +kernel
theorem dX4_toAsk_99 : decode cX4_toAsk 99 = .ok (.iinc 3 1, 3) := by decide +kernel
theorem dX4_toAsk_102 : decode cX4_toAsk 102 = .ok (.goto (-85), 3) := by decide +kernel
theorem dX4_toAsk_105 : decode cX4_toAsk 105 = .ok (.iload_n 1, 1) := by decide +kernel
theorem dX4_toAsk_106 : decode cX4_toAsk 106 = .ok (.ireturn, 1) := by decide +kernel
theorem dX4_answer_0 : decode cX4_answer 0 = .ok (.aload_n 0, 1) := by decide +kernel
theorem dX4_answer_1 : decode cX4_answer 1 = .ok (.iconst 0, 1) := by decide +kernel
theorem dX4_answer_2 : decode cX4_answer 2 = .ok (.putfield 53, 3) := by decide +kernel
theorem dX4_answer_5 : decode cX4_answer 5 = .ok (.iload_n 1, 1) := by decide +kernel
theorem dX4_answer_6 : decode cX4_answer 6 = .ok (.i2l, 1) := by decide +kernel
theorem dX4_answer_7 : decode cX4_answer 7 = .ok (.lconst 0, 1) := by decide +kernel
theorem dX4_answer_8 : decode cX4_answer 8 = .ok (.ldc2_w 148, 3) := by decide +kernel
theorem dX4_answer_11 : decode cX4_answer 11 = .ok (.invokestatic 60, 3) := by decide +kernel
theorem dX4_answer_14 : decode cX4_answer 14 = .ok (.ifCond .ne 6, 3) := by decide +kernel
theorem dX4_answer_17 : decode cX4_answer 17 = .ok (.bipush (-2), 2) := by decide +kernel
theorem dX4_answer_19 : decode cX4_answer 19 = .ok (.ireturn, 1) := by decide +kernel
theorem dX4_answer_20 : decode cX4_answer 20 = .ok (.iconst 0, 1) := by decide +kernel
theorem dX4_answer_21 : decode cX4_answer 21 = .ok (.istore_n 3, 1) := by decide +kernel
theorem dX4_answer_22 : decode cX4_answer 22 = .ok (.bipush (-9), 2) := by decide +kernel
theorem dX4_answer_24 : decode cX4_answer 24 = .ok (.istore 4, 2) := by decide +kernel
theorem dX4_answer_26 : decode cX4_answer 26 = .ok (.iconst 0, 1) := by decide +kernel
theorem dX4_answer_27 : decode cX4_answer 27 = .ok (.istore 5, 2) := by decide +kernel
theorem dX4_answer_29 : decode cX4_answer 29 = .ok (.iload 5, 2) := by decide +kernel
theorem dX4_answer_31 : decode cX4_answer 31 = .ok (.iconst 1, 1) := by decide +kernel
theorem dX4_answer_32 : decode cX4_answer 32 = .ok (.aload_n 0, 1) := by decide +kernel
theorem dX4_answer_33 : decode cX4_answer 33 = .ok (.getfield 57, 3) := by decide +kernel
theorem dX4_answer_36 : decode cX4_answer 36 = .ok (.ishl, 1) := by decide +kernel
theorem dX4_answer_37 : decode cX4_answer 37 = .ok (.if_icmp .ge 52, 3) := by decide +kernel
theorem dX4_answer_40 : decode cX4_answer 40 = .ok (.iload 5, 2) := by decide +kernel
theorem dX4_answer_42 : decode cX4_answer 42 = .ok (.invokestatic 127, 3) := by decide +kernel
theorem dX4_answer_45 : decode cX4_answer 45 = .ok (.iload_n 1, 1) := by decide +kernel
theorem dX4_answer_46 : decode cX4_answer 46 = .ok (.if_icmp .ne 37, 3) := by decide +kernel
theorem dX4_answer_49 : decode cX4_answer 49 = .ok (.iload 5, 2) := by decide +kernel
theorem dX4_answer_51 : decode cX4_answer 51 = .ok (.aload_n 0, 1) := by decide +kernel
theorem dX4_answer_52 : decode cX4_answer 52 = .ok (.getfield 16, 3) := by decide +kernel
theorem dX4_answer_55 : decode cX4_answer 55 = .ok (.bipush 21, 2) := by decide +kernel
theorem dX4_answer_57 : decode cX4_answer 57 = .ok (.iaload, 1) := by decide +kernel
theorem dX4_answer_58 : decode cX4_answer 58 = .ok (.iconst (-1), 1) := by decide +kernel
theorem dX4_answer_59 : decode cX4_answer 59 = .ok (.ixor, 1) := by decide +kernel
theorem dX4_answer_60 : decode cX4_answer 60 = .ok (.iand, 1) := by decide +kernel
theorem dX4_answer_61 : decode cX4_answer 61 = .ok (.ifCond .ne 22, 3) := by decide +kernel
theorem dX4_answer_64 : decode cX4_answer 64 = .ok (.aload_n 0, 1) := by decide +kernel
theorem dX4_answer_65 : decode cX4_answer 65 = .ok (.invokevirtual 105, 3) := by decide +kernel
theorem dX4_answer_68 : decode cX4_answer 68 = .ok (.iload 5, 2) := by decide +kernel
theorem dX4_answer_70 : decode cX4_answer 70 = .ok (.iconst (-1), 1) := by decide +kernel
theorem dX4_answer_71 : decode cX4_answer 71 = .ok (.ixor, 1) := by decide +kernel
theorem dX4_answer_72 : decode cX4_answer 72 = .ok (.iand, 1) := by decide +kernel
theorem dX4_answer_73 : decode cX4_answer 73 = .ok (.ifCond .ne 10, 3) := by decide +kernel
theorem dX4_answer_76 : decode cX4_answer 76 = .ok (.iinc 3 1, 3) := by decide +kernel
theorem dX4_answer_79 : decode cX4_answer 79 = .ok (.iload 5, 2) := by decide +kernel
theorem dX4_answer_81 : decode cX4_answer 81 = .ok (.istore 4, 2) := by decide +kernel
theorem dX4_answer_83 : decode cX4_answer 83 = .ok (.iinc 5 1, 3) := by decide +kernel
theorem dX4_answer_86 : decode cX4_answer 86 = .ok (.goto (-57), 3) := by decide +kernel
theorem dX4_answer_89 : decode cX4_answer 89 = .ok (.iload_n 2, 1) := by decide +kernel
theorem dX4_answer_90 : decode cX4_answer 90 = .ok (.ifCond .eq 8, 3) := by decide +kernel
theorem dX4_answer_93 : decode cX4_answer 93 = .ok (.iload 4, 2) := by decide +kernel
theorem dX4_answer_95 : decode cX4_answer 95 = .ok (.goto 4, 3) := by decide +kernel
theorem dX4_answer_98 : decode cX4_answer 98 = .ok (.iload_n 3, 1) := by decide +kernel
theorem dX4_answer_99 : decode cX4_answer 99 = .ok (.ireturn, 1) := by decide +kernel
theorem dX4_plainIn_0 : decode cX4_plainIn 0 = .ok (.iload_n 1, 1) := by decide +kernel
theorem dX4_plainIn_1 : decode cX4_plainIn 1 = .ok (.istore_n 3, 1) := by decide +kernel
theorem dX4_plainIn_2 : decode cX4_plainIn 2 = .ok (.aload_n 0, 1) := by decide +kernel
theorem dX4_plainIn_3 : decode cX4_plainIn 3 = .ok (.getfield 150, 3) := by decide +kernel
theorem dX4_plainIn_6 : decode cX4_plainIn 6 = .ok (.iconst 1, 1) := by decide +kernel
theorem dX4_plainIn_7 : decode cX4_plainIn 7 = .ok (.isub, 1) := by decide +kernel
theorem dX4_plainIn_8 : decode cX4_plainIn 8 = .ok (.istore 4, 2) := by decide +kernel
theorem dX4_plainIn_10 : decode cX4_plainIn 10 = .ok (.iload 4, 2) := by decide +kernel
theorem dX4_plainIn_12 : decode cX4_plainIn 12 = .ok (.iload_n 2, 1) := by decide +kernel
theorem dX4_plainIn_13 : decode cX4_plainIn 13 = .ok (.if_icmp .le 13, 3) := by decide +kernel
theorem dX4_plainIn_16 : decode cX4_plainIn 16 = .ok (.iload_n 3, 1) := by decide +kernel
theorem dX4_plainIn_17 : decode cX4_plainIn 17 = .ok (.iconst 3, 1) := by decide +kernel
theorem dX4_plainIn_18 : decode cX4_plainIn 18 = .ok (.idiv, 1) := by decide +kernel
theorem dX4_plainIn_19 : decode cX4_plainIn 19 = .ok (.istore_n 3, 1) := by decide +kernel
theorem dX4_plainIn_20 : decode cX4_plainIn 20 = .ok (.iinc 4 (-1), 3) := by decide +kernel
theorem dX4_plainIn_23 : decode cX4_plainIn 23 = .ok (.goto (-13), 3) := by decide +kernel
theorem dX4_plainIn_26 : decode cX4_plainIn 26 = .ok (.iload_n 3, 1) := by decide +kernel
theorem dX4_plainIn_27 : decode cX4_plainIn 27 = .ok (.iconst 3, 1) := by decide +kernel
theorem dX4_plainIn_28 : decode cX4_plainIn 28 = .ok (.irem, 1) := by decide +kernel
theorem dX4_plainIn_29 : decode cX4_plainIn 29 = .ok (.ireturn, 1) := by decide +kernel
theorem dX4_worthIn_0 : decode cX4_worthIn 0 = .ok (.aload_n 0, 1) := by decide +kernel
theorem dX4_worthIn_1 : decode cX4_worthIn 1 = .ok (.invokevirtual 136, 3) := by decide +kernel
theorem dX4_worthIn_4 : decode cX4_worthIn 4 = .ok (.iconst 0, 1) := by decide +kernel
theorem dX4_worthIn_5 : decode cX4_worthIn 5 = .ok (.istore_n 3, 1) := by decide +kernel
theorem dX4_worthIn_6 : decode cX4_worthIn 6 = .ok (.iload_n 3, 1) := by decide +kernel
theorem dX4_worthIn_7 : decode cX4_worthIn 7 = .ok (.aload_n 0, 1) := by decide +kernel
theorem dX4_worthIn_8 : decode cX4_worthIn 8 = .ok (.getfield 150, 3) := by decide +kernel
theorem dX4_worthIn_11 : decode cX4_worthIn 11 = .ok (.if_icmp .ge 73, 3) := by decide +kernel
theorem dX4_worthIn_14 : decode cX4_worthIn 14 = .ok (.iconst 0, 1) := by decide +kernel
theorem dX4_worthIn_15 : decode cX4_worthIn 15 = .ok (.istore 4, 2) := by decide +kernel
theorem dX4_worthIn_17 : decode cX4_worthIn 17 = .ok (.iload 4, 2) := by decide +kernel
theorem dX4_worthIn_19 : decode cX4_worthIn 19 = .ok (.iconst 3, 1) := by decide +kernel
theorem dX4_worthIn_20 : decode cX4_worthIn 20 = .ok (.if_icmp .ge 58, 3) := by decide +kernel
theorem dX4_worthIn_23 : decode cX4_worthIn 23 = .ok (.iconst 3, 1) := by decide +kernel
theorem dX4_worthIn_24 : decode cX4_worthIn 24 = .ok (.iconst 3, 1) := by decide +kernel
theorem dX4_worthIn_25 : decode cX4_worthIn 25 = .ok (.aload_n 0, 1) := by decide +kernel
theorem dX4_worthIn_26 : decode cX4_worthIn 26 = .ok (.getfield 44, 3) := by decide +kernel
theorem dX4_worthIn_29 : decode cX4_worthIn 29 = .ok (.iload_n 3, 1) := by decide +kernel
theorem dX4_worthIn_30 : decode cX4_worthIn 30 = .ok (.iaload, 1) := by decide +kernel
theorem dX4_worthIn_31 : decode cX4_worthIn 31 = .ok (.imul, 1) := by decide +kernel
theorem dX4_worthIn_32 : decode cX4_worthIn 32 = .ok (.iadd, 1) := by decide +kernel
theorem dX4_worthIn_33 : decode cX4_worthIn 33 = .ok (.iload 4, 2) := by decide +kernel
theorem dX4_worthIn_35 : decode cX4_worthIn 35 = .ok (.iadd, 1) := by decide +kernel
theorem dX4_worthIn_36 : decode cX4_worthIn 36 = .ok (.istore 5, 2) := by decide +kernel
theorem dX4_worthIn_38 : decode cX4_worthIn 38 = .ok (.aload_n 0, 1) := by decide +kernel
theorem dX4_worthIn_39 : decode cX4_worthIn 39 = .ok (.getfield 41, 3) := by decide +kernel
theorem dX4_worthIn_42 : decode cX4_worthIn 42 = .ok (.iload 5, 2) := by decide +kernel
theorem dX4_worthIn_44 : decode cX4_worthIn 44 = .ok (.iaload, 1) := by decide +kernel
theorem dX4_worthIn_45 : decode cX4_worthIn 45 = .ok (.aload_n 0, 1) := by decide +kernel
theorem dX4_worthIn_46 : decode cX4_worthIn 46 = .ok (.iload_n 1, 1) := by decide +kernel
theorem dX4_worthIn_47 : decode cX4_worthIn 47 = .ok (.iload_n 3, 1) := by decide +kernel
theorem dX4_worthIn_48 : decode cX4_worthIn 48 = .ok (.invokevirtual 153, 3) := by decide +kernel
theorem dX4_worthIn_51 : decode cX4_worthIn 51 = .ok (.isub, 1) := by decide +kernel
theorem dX4_worthIn_52 : decode cX4_worthIn 52 = .ok (.istore 6, 2) := by decide +kernel
theorem dX4_worthIn_54 : decode cX4_worthIn 54 = .ok (.aload_n 0, 1) := by decide +kernel
theorem dX4_worthIn_55 : decode cX4_worthIn 55 = .ok (.getfield 41, 3) := by decide +kernel
theorem dX4_worthIn_58 : decode cX4_worthIn 58 = .ok (.iload 5, 2) := by decide +kernel
theorem dX4_worthIn_60 : decode cX4_worthIn 60 = .ok (.iload 6, 2) := by decide +kernel
theorem dX4_worthIn_62 : decode cX4_worthIn 62 = .ok (.ifCond .ge 7, 3) := by decide +kernel
theorem dX4_worthIn_65 : decode cX4_worthIn 65 = .ok (.iconst 0, 1) := by decide +kernel
theorem dX4_worthIn_66 : decode cX4_worthIn 66 = .ok (.goto 5, 3) := by decide +kernel
theorem dX4_worthIn_69 : decode cX4_worthIn 69 = .ok (.iload 6, 2) := by decide +kernel
theorem dX4_worthIn_71 : decode cX4_worthIn 71 = .ok (.iastore, 1) := by decide +kernel
theorem dX4_worthIn_72 : decode cX4_worthIn 72 = .ok (.iinc 4 1, 3) := by decide +kernel
theorem dX4_worthIn_75 : decode cX4_worthIn 75 = .ok (.goto (-58), 3) := by decide +kernel
theorem dX4_worthIn_78 : decode cX4_worthIn 78 = .ok (.iinc 3 1, 3) := by decide +kernel
theorem dX4_worthIn_81 : decode cX4_worthIn 81 = .ok (.goto (-75), 3) := by decide +kernel
theorem dX4_worthIn_84 : decode cX4_worthIn 84 = .ok (.aload_n 0, 1) := by decide +kernel
theorem dX4_worthIn_85 : decode cX4_worthIn 85 = .ok (.getfield 44, 3) := by decide +kernel
theorem dX4_worthIn_88 : decode cX4_worthIn 88 = .ok (.iload_n 2, 1) := by decide +kernel
theorem dX4_worthIn_89 : decode cX4_worthIn 89 = .ok (.iaload, 1) := by decide +kernel
theorem dX4_worthIn_90 : decode cX4_worthIn 90 = .ok (.istore_n 3, 1) := by decide +kernel
theorem dX4_worthIn_91 : decode cX4_worthIn 91 = .ok (.aload_n 0, 1) := by decide +kernel
theorem dX4_worthIn_92 : decode cX4_worthIn 92 = .ok (.aload_n 0, 1) := by decide +kernel
theorem dX4_worthIn_93 : decode cX4_worthIn 93 = .ok (.getfield 41, 3) := by decide +kernel
theorem dX4_worthIn_96 : decode cX4_worthIn 96 = .ok (.aload_n 0, 1) := by decide +kernel
theorem dX4_worthIn_97 : decode cX4_worthIn 97 = .ok (.getfield 41, 3) := by decide +kernel
theorem dX4_worthIn_100 : decode cX4_worthIn 100 = .ok (.bipush 21, 2) := by decide +kernel
theorem dX4_worthIn_102 : decode cX4_worthIn 102 = .ok (.iaload, 1) := by decide +kernel
theorem dX4_worthIn_103 : decode cX4_worthIn 103 = .ok (.aload_n 0, 1) := by decide +kernel
theorem dX4_worthIn_104 : decode cX4_worthIn 104 = .ok (.getfield 41, 3) := by decide +kernel
theorem dX4_worthIn_107 : decode cX4_worthIn 107 = .ok (.invokestatic 98, 3) := by decide +kernel
theorem dX4_worthIn_110 : decode cX4_worthIn 110 = .ok (.invokevirtual 102, 3) := by decide +kernel
theorem dX4_worthIn_113 : decode cX4_worthIn 113 = .ok (.iload_n 3, 1) := by decide +kernel
theorem dX4_worthIn_114 : decode cX4_worthIn 114 = .ok (.invokestatic 90, 3) := by decide +kernel
theorem dX4_worthIn_117 : decode cX4_worthIn 117 = .ok (.istore 4, 2) := by decide +kernel
theorem dX4_worthIn_119 : decode cX4_worthIn 119 = .ok (.iload 4, 2) := by decide +kernel
theorem dX4_worthIn_121 : decode cX4_worthIn 121 = .ok (.ifCond .eq 7, 3) := by decide +kernel
theorem dX4_worthIn_124 : decode cX4_worthIn 124 = .ok (.iconst (-1), 1) := by decide +kernel
theorem dX4_worthIn_125 : decode cX4_worthIn 125 = .ok (.goto 18, 3) := by decide +kernel
theorem dX4_worthIn_128 : decode cX4_worthIn 128 = .ok (.aload_n 0, 1) := by decide +kernel
theorem dX4_worthIn_129 : decode cX4_worthIn 129 = .ok (.getfield 41, 3) := by decide +kernel
theorem dX4_worthIn_132 : decode cX4_worthIn 132 = .ok (.iload_n 3, 1) := by decide +kernel
theorem dX4_worthIn_133 : decode cX4_worthIn 133 = .ok (.aload_n 0, 1) := by decide +kernel
theorem dX4_worthIn_134 : decode cX4_worthIn 134 = .ok (.getfield 41, 3) := by decide +kernel
theorem dX4_worthIn_137 : decode cX4_worthIn 137 = .ok (.invokestatic 98, 3) := by decide +kernel
theorem dX4_worthIn_140 : decode cX4_worthIn 140 = .ok (.invokestatic 94, 3) := by decide +kernel
theorem dX4_worthIn_143 : decode cX4_worthIn 143 = .ok (.ireturn, 1) := by decide +kernel
theorem dX4_findRow_0 : decode cX4_findRow 0 = .ok (.aload_n 0, 1) := by decide +kernel
theorem dX4_findRow_1 : decode cX4_findRow 1 = .ok (.iconst 0, 1) := by decide +kernel
theorem dX4_findRow_2 : decode cX4_findRow 2 = .ok (.putfield 150, 3) := by decide +kernel
theorem dX4_findRow_5 : decode cX4_findRow 5 = .ok (.iconst 1, 1) := by decide +kernel
theorem dX4_findRow_6 : decode cX4_findRow 6 = .ok (.istore_n 1, 1) := by decide +kernel
theorem dX4_findRow_7 : decode cX4_findRow 7 = .ok (.iconst 1, 1) := by decide +kernel
theorem dX4_findRow_8 : decode cX4_findRow 8 = .ok (.istore_n 2, 1) := by decide +kernel
theorem dX4_findRow_9 : decode cX4_findRow 9 = .ok (.iload_n 2, 1) := by decide +kernel
theorem dX4_findRow_10 : decode cX4_findRow 10 = .ok (.aload_n 0, 1) := by decide +kernel
theorem dX4_findRow_11 : decode cX4_findRow 11 = .ok (.getfield 57, 3) := by decide +kernel
theorem dX4_findRow_14 : decode cX4_findRow 14 = .ok (.if_icmp .ge 47, 3) := by decide +kernel
theorem dX4_findRow_17 : decode cX4_findRow 17 = .ok (.aload_n 0, 1) := by decide +kernel
theorem dX4_findRow_18 : decode cX4_findRow 18 = .ok (.getfield 16, 3) := by decide +kernel
theorem dX4_findRow_21 : decode cX4_findRow 21 = .ok (.bipush 21, 2) := by decide +kernel
theorem dX4_findRow_23 : decode cX4_findRow 23 = .ok (.iaload, 1) := by decide +kernel
theorem dX4_findRow_24 : decode cX4_findRow 24 = .ok (.iload_n 2, 1) := by decide +kernel
theorem dX4_findRow_25 : decode cX4_findRow 25 = .ok (.invokestatic 90, 3) := by decide +kernel
theorem dX4_findRow_28 : decode cX4_findRow 28 = .ok (.ifCond .eq 27, 3) := by decide +kernel
theorem dX4_findRow_31 : decode cX4_findRow 31 = .ok (.aload_n 0, 1) := by decide +kernel
theorem dX4_findRow_32 : decode cX4_findRow 32 = .ok (.getfield 44, 3) := by decide +kernel
theorem dX4_findRow_35 : decode cX4_findRow 35 = .ok (.aload_n 0, 1) := by decide +kernel
theorem dX4_findRow_36 : decode cX4_findRow 36 = .ok (.getfield 150, 3) := by decide +kernel
theorem dX4_findRow_39 : decode cX4_findRow 39 = .ok (.iload_n 2, 1) := by decide +kernel
theorem dX4_findRow_40 : decode cX4_findRow 40 = .ok (.iastore, 1) := by decide +kernel
theorem dX4_findRow_41 : decode cX4_findRow 41 = .ok (.aload_n 0, 1) := by decide +kernel
theorem dX4_findRow_42 : decode cX4_findRow 42 = .ok (.dup, 1) := by decide +kernel
theorem dX4_findRow_43 : decode cX4_findRow 43 = .ok (.getfield 150, 3) := by decide +kernel
theorem dX4_findRow_46 : decode cX4_findRow 46 = .ok (.iconst 1, 1) := by decide +kernel
theorem dX4_findRow_47 : decode cX4_findRow 47 = .ok (.iadd, 1) := by decide +kernel
theorem dX4_findRow_48 : decode cX4_findRow 48 = .ok (.putfield 150, 3) := by decide +kernel
theorem dX4_findRow_51 : decode cX4_findRow 51 = .ok (.iload_n 1, 1) := by decide +kernel
theorem dX4_findRow_52 : decode cX4_findRow 52 = .ok (.iconst 3, 1) := by decide +kernel
theorem dX4_findRow_53 : decode cX4_findRow 53 = .ok (.imul, 1) := by decide +kernel
theorem dX4_findRow_54 : decode cX4_findRow 54 = .ok (.istore_n 1, 1) := by decide +kernel
theorem dX4_findRow_55 : decode cX4_findRow 55 = .ok (.iinc 2 1, 3) := by decide +kernel
theorem dX4_findRow_58 : decode cX4_findRow 58 = .ok (.goto (-49), 3) := by decide +kernel
theorem dX4_findRow_61 : decode cX4_findRow 61 = .ok (.iconst 0, 1) := by decide +kernel
theorem dX4_findRow_62 : decode cX4_findRow 62 = .ok (.istore_n 2, 1) := by decide +kernel
theorem dX4_findRow_63 : decode cX4_findRow 63 = .ok (.iload_n 2, 1) := by decide +kernel
theorem dX4_findRow_64 : decode cX4_findRow 64 = .ok (.bipush 6, 2) := by decide +kernel
theorem dX4_findRow_66 : decode cX4_findRow 66 = .ok (.if_icmp .gt 17, 3) := by decide +kernel
theorem dX4_findRow_69 : decode cX4_findRow 69 = .ok (.aload_n 0, 1) := by decide +kernel
theorem dX4_findRow_70 : decode cX4_findRow 70 = .ok (.getfield 47, 3) := by decide +kernel
theorem dX4_findRow_73 : decode cX4_findRow 73 = .ok (.iload_n 2, 1) := by decide +kernel
theorem dX4_findRow_74 : decode cX4_findRow 74 = .ok (.bipush (-9), 2) := by decide +kernel
theorem dX4_findRow_76 : decode cX4_findRow 76 = .ok (.iastore, 1) := by decide +kernel
theorem dX4_findRow_77 : decode cX4_findRow 77 = .ok (.iinc 2 1, 3) := by decide +kernel
theorem dX4_findRow_80 : decode cX4_findRow 80 = .ok (.goto (-17), 3) := by decide +kernel
theorem dX4_findRow_83 : decode cX4_findRow 83 = .ok (.iconst 0, 1) := by decide +kernel
theorem dX4_findRow_84 : decode cX4_findRow 84 = .ok (.istore_n 2, 1) := by decide +kernel
theorem dX4_findRow_85 : decode cX4_findRow 85 = .ok (.iload_n 2, 1) := by decide +kernel
theorem dX4_findRow_86 : decode cX4_findRow 86 = .ok (.iload_n 1, 1) := by decide +kernel
theorem dX4_findRow_87 : decode cX4_findRow 87 = .ok (.if_icmp .ge 143, 3) := by decide +kernel
theorem dX4_findRow_90 : decode cX4_findRow 90 = .ok (.iload_n 2, 1) := by decide +kernel
theorem dX4_findRow_91 : decode cX4_findRow 91 = .ok (.istore_n 3, 1) := by decide +kernel
theorem dX4_findRow_92 : decode cX4_findRow 92 = .ok (.iconst 1, 1) := by decide +kernel
theorem dX4_findRow_93 : decode cX4_findRow 93 = .ok (.istore 4, 2) := by decide +kernel
theorem dX4_findRow_95 : decode cX4_findRow 95 = .ok (.iconst 1, 1) := by decide +kernel
theorem dX4_findRow_96 : decode cX4_findRow 96 = .ok (.istore 5, 2) := by decide +kernel
theorem dX4_findRow_98 : decode cX4_findRow 98 = .ok (.aload_n 0, 1) := by decide +kernel
theorem dX4_findRow_99 : decode cX4_findRow 99 = .ok (.getfield 150, 3) := by decide +kernel
theorem dX4_findRow_102 : decode cX4_findRow 102 = .ok (.iconst 1, 1) := by decide +kernel
theorem dX4_findRow_103 : decode cX4_findRow 103 = .ok (.isub, 1) := by decide +kernel
theorem dX4_findRow_104 : decode cX4_findRow 104 = .ok (.istore 6, 2) := by decide +kernel
theorem dX4_findRow_106 : decode cX4_findRow 106 = .ok (.iload 6, 2) := by decide +kernel
theorem dX4_findRow_108 : decode cX4_findRow 108 = .ok (.ifCond .lt 116, 3) := by decide +kernel
theorem dX4_findRow_111 : decode cX4_findRow 111 = .ok (.iload 5, 2) := by decide +kernel
theorem dX4_findRow_113 : decode cX4_findRow 113 = .ok (.ifCond .eq 111, 3) := by decide +kernel
theorem dX4_findRow_116 : decode cX4_findRow 116 = .ok (.aload_n 0, 1) := by decide +kernel
theorem dX4_findRow_117 : decode cX4_findRow 117 = .ok (.getfield 47, 3) := by decide +kernel
theorem dX4_findRow_120 : decode cX4_findRow 120 = .ok (.iload 6, 2) := by decide +kernel
theorem dX4_findRow_122 : decode cX4_findRow 122 = .ok (.aload_n 0, 1) := by decide +kernel
theorem dX4_findRow_123 : decode cX4_findRow 123 = .ok (.getfield 47, 3) := by decide +kernel
theorem dX4_findRow_126 : decode cX4_findRow 126 = .ok (.iload 6, 2) := by decide +kernel
theorem dX4_findRow_128 : decode cX4_findRow 128 = .ok (.iaload, 1) := by decide +kernel
theorem dX4_findRow_129 : decode cX4_findRow 129 = .ok (.bipush (-9), 2) := by decide +kernel
theorem dX4_findRow_131 : decode cX4_findRow 131 = .ok (.if_icmp .eq 26, 3) := by decide +kernel
theorem dX4_findRow_134 : decode cX4_findRow 134 = .ok (.aload_n 0, 1) := by decide +kernel
theorem dX4_findRow_135 : decode cX4_findRow 135 = .ok (.iload_n 3, 1) := by decide +kernel
theorem dX4_findRow_136 : decode cX4_findRow 136 = .ok (.iload 6, 2) := by decide +kernel
theorem dX4_findRow_138 : decode cX4_findRow 138 = .ok (.invokevirtual 156, 3) := by decide +kernel
theorem dX4_findRow_141 : decode cX4_findRow 141 = .ok (.aload_n 0, 1) := by decide +kernel
theorem dX4_findRow_142 : decode cX4_findRow 142 = .ok (.aload_n 0, 1) := by decide +kernel
theorem dX4_findRow_143 : decode cX4_findRow 143 = .ok (.getfield 47, 3) := by decide +kernel
theorem dX4_findRow_146 : decode cX4_findRow 146 = .ok (.iload 6, 2) := by decide +kernel
theorem dX4_findRow_148 : decode cX4_findRow 148 = .ok (.iaload, 1) := by decide +kernel
theorem dX4_findRow_149 : decode cX4_findRow 149 = .ok (.iload 6, 2) := by decide +kernel
theorem dX4_findRow_151 : decode cX4_findRow 151 = .ok (.invokevirtual 156, 3) := by decide +kernel
theorem dX4_findRow_154 : decode cX4_findRow 154 = .ok (.if_icmp .le 7, 3) := by decide +kernel
theorem dX4_findRow_157 : decode cX4_findRow 157 = .ok (.iload_n 3, 1) := by decide +kernel
theorem dX4_findRow_158 : decode cX4_findRow 158 = .ok (.goto 10, 3) := by decide +kernel
theorem dX4_findRow_161 : decode cX4_findRow 161 = .ok (.aload_n 0, 1) := by decide +kernel
theorem dX4_findRow_162 : decode cX4_findRow 162 = .ok (.getfield 47, 3) := by decide +kernel
theorem dX4_findRow_165 : decode cX4_findRow 165 = .ok (.iload 6, 2) := by decide +kernel
theorem dX4_findRow_167 : decode cX4_findRow 167 = .ok (.iaload, 1) := by decide +kernel
theorem dX4_findRow_168 : decode cX4_findRow 168 = .ok (.iastore, 1) := by decide +kernel
theorem dX4_findRow_169 : decode cX4_findRow 169 = .ok (.iload 4, 2) := by decide +kernel
theorem dX4_findRow_171 : decode cX4_findRow 171 = .ok (.iconst 3, 1) := by decide +kernel
theorem dX4_findRow_172 : decode cX4_findRow 172 = .ok (.imul, 1) := by decide +kernel
theorem dX4_findRow_173 : decode cX4_findRow 173 = .ok (.istore 4, 2) := by decide +kernel
theorem dX4_findRow_175 : decode cX4_findRow 175 = .ok (.iload_n 2, 1) := by decide +kernel
theorem dX4_findRow_176 : decode cX4_findRow 176 = .ok (.iconst 1, 1) := by decide +kernel
theorem dX4_findRow_177 : decode cX4_findRow 177 = .ok (.iadd, 1) := by decide +kernel
theorem dX4_findRow_178 : decode cX4_findRow 178 = .ok (.iload 4, 2) := by decide +kernel
theorem dX4_findRow_180 : decode cX4_findRow 180 = .ok (.irem, 1) := by decide +kernel
theorem dX4_findRow_181 : decode cX4_findRow 181 = .ok (.ifCond .ne 7, 3) := by decide +kernel
theorem dX4_findRow_184 : decode cX4_findRow 184 = .ok (.iconst 1, 1) := by decide +kernel
theorem dX4_findRow_185 : decode cX4_findRow 185 = .ok (.goto 4, 3) := by decide +kernel
theorem dX4_findRow_188 : decode cX4_findRow 188 = .ok (.iconst 0, 1) := by decide +kernel
theorem dX4_findRow_189 : decode cX4_findRow 189 = .ok (.istore 5, 2) := by decide +kernel
theorem dX4_findRow_191 : decode cX4_findRow 191 = .ok (.iload 5, 2) := by decide +kernel
theorem dX4_findRow_193 : decode cX4_findRow 193 = .ok (.ifCond .eq 25, 3) := by decide +kernel
theorem dX4_findRow_196 : decode cX4_findRow 196 = .ok (.iload 6, 2) := by decide +kernel
theorem dX4_findRow_198 : decode cX4_findRow 198 = .ok (.ifCond .le 20, 3) := by decide +kernel
theorem dX4_findRow_201 : decode cX4_findRow 201 = .ok (.aload_n 0, 1) := by decide +kernel
theorem dX4_findRow_202 : decode cX4_findRow 202 = .ok (.getfield 47, 3) := by decide +kernel
theorem dX4_findRow_205 : decode cX4_findRow 205 = .ok (.iload 6, 2) := by decide +kernel
theorem dX4_findRow_207 : decode cX4_findRow 207 = .ok (.iaload, 1) := by decide +kernel
theorem dX4_findRow_208 : decode cX4_findRow 208 = .ok (.istore_n 3, 1) := by decide +kernel
theorem dX4_findRow_209 : decode cX4_findRow 209 = .ok (.aload_n 0, 1) := by decide +kernel
theorem dX4_findRow_210 : decode cX4_findRow 210 = .ok (.getfield 47, 3) := by decide +kernel
theorem dX4_findRow_213 : decode cX4_findRow 213 = .ok (.iload 6, 2) := by decide +kernel
theorem dX4_findRow_215 : decode cX4_findRow 215 = .ok (.bipush (-9), 2) := by decide +kernel
theorem dX4_findRow_217 : decode cX4_findRow 217 = .ok (.iastore, 1) := by decide +kernel
theorem dX4_findRow_218 : decode cX4_findRow 218 = .ok (.iinc 6 (-1), 3) := by decide +kernel
theorem dX4_findRow_221 : decode cX4_findRow 221 = .ok (.goto (-115), 3) := by decide +kernel
theorem dX4_findRow_224 : decode cX4_findRow 224 = .ok (.iinc 2 1, 3) := by decide +kernel
theorem dX4_findRow_227 : decode cX4_findRow 227 = .ok (.goto (-142), 3) := by decide +kernel
theorem dX4_findRow_230 : decode cX4_findRow 230 = .ok (.aload_n 0, 1) := by decide +kernel
theorem dX4_findRow_231 : decode cX4_findRow 231 = .ok (.getfield 47, 3) := by decide +kernel
theorem dX4_findRow_234 : decode cX4_findRow 234 = .ok (.iconst 0, 1) := by decide +kernel
theorem dX4_findRow_235 : decode cX4_findRow 235 = .ok (.iaload, 1) := by decide +kernel
theorem dX4_findRow_236 : decode cX4_findRow 236 = .ok (.ireturn, 1) := by decide +kernel
theorem dX4_chooserOf_0 : decode cX4_chooserOf 0 = .ok (.aload_n 0, 1) := by decide +kernel
theorem dX4_chooserOf_1 : decode cX4_chooserOf 1 = .ok (.iload_n 1, 1) := by decide +kernel
theorem dX4_chooserOf_2 : decode cX4_chooserOf 2 = .ok (.invokevirtual 111, 3) := by decide +kernel
theorem dX4_chooserOf_5 : decode cX4_chooserOf 5 = .ok (.ifCond .eq 5, 3) := by decide +kernel
theorem dX4_chooserOf_8 : decode cX4_chooserOf 8 = .ok (.iconst (-1), 1) := by decide +kernel
theorem dX4_chooserOf_9 : decode cX4_chooserOf 9 = .ok (.ireturn, 1) := by decide +kernel
theorem dX4_chooserOf_10 : decode cX4_chooserOf 10 = .ok (.iload_n 1, 1) := by decide +kernel
theorem dX4_chooserOf_11 : decode cX4_chooserOf 11 = .ok (.ifCond .ne 6, 3) := by decide +kernel
theorem dX4_chooserOf_14 : decode cX4_chooserOf 14 = .ok (.bipush (-2), 2) := by decide +kernel
theorem dX4_chooserOf_16 : decode cX4_chooserOf 16 = .ok (.ireturn, 1) := by decide +kernel
theorem dX4_chooserOf_17 : decode cX4_chooserOf 17 = .ok (.aload_n 0, 1) := by decide +kernel
theorem dX4_chooserOf_18 : decode cX4_chooserOf 18 = .ok (.getfield 16, 3) := by decide +kernel
theorem dX4_chooserOf_21 : decode cX4_chooserOf 21 = .ok (.bipush 21, 2) := by decide +kernel
theorem dX4_chooserOf_23 : decode cX4_chooserOf 23 = .ok (.iaload, 1) := by decide +kernel
theorem dX4_chooserOf_24 : decode cX4_chooserOf 24 = .ok (.iload_n 1, 1) := by decide +kernel
theorem dX4_chooserOf_25 : decode cX4_chooserOf 25 = .ok (.invokestatic 90, 3) := by decide +kernel
theorem dX4_chooserOf_28 : decode cX4_chooserOf 28 = .ok (.ifCond .ne 6, 3) := by decide +kernel
theorem dX4_chooserOf_31 : decode cX4_chooserOf 31 = .ok (.bipush (-3), 2) := by decide +kernel
theorem dX4_chooserOf_33 : decode cX4_chooserOf 33 = .ok (.ireturn, 1) := by decide +kernel
theorem dX4_chooserOf_34 : decode cX4_chooserOf 34 = .ok (.aload_n 0, 1) := by decide +kernel
theorem dX4_chooserOf_35 : decode cX4_chooserOf 35 = .ok (.getfield 16, 3) := by decide +kernel
theorem dX4_chooserOf_38 : decode cX4_chooserOf 38 = .ok (.bipush 21, 2) := by decide +kernel
theorem dX4_chooserOf_40 : decode cX4_chooserOf 40 = .ok (.iaload, 1) := by decide +kernel
theorem dX4_chooserOf_41 : decode cX4_chooserOf 41 = .ok (.iconst 1, 1) := by decide +kernel
theorem dX4_chooserOf_42 : decode cX4_chooserOf 42 = .ok (.iload_n 1, 1) := by decide +kernel
theorem dX4_chooserOf_43 : decode cX4_chooserOf 43 = .ok (.ishl, 1) := by decide +kernel
theorem dX4_chooserOf_44 : decode cX4_chooserOf 44 = .ok (.iconst 2, 1) := by decide +kernel
theorem dX4_chooserOf_45 : decode cX4_chooserOf 45 = .ok (.isub, 1) := by decide +kernel
theorem dX4_chooserOf_46 : decode cX4_chooserOf 46 = .ok (.iand, 1) := by decide +kernel
theorem dX4_chooserOf_47 : decode cX4_chooserOf 47 = .ok (.invokestatic 127, 3) := by decide +kernel
theorem dX4_chooserOf_50 : decode cX4_chooserOf 50 = .ok (.ireturn, 1) := by decide +kernel
theorem dX4_chosen_0 : decode cX4_chosen 0 = .ok (.aload_n 0, 1) := by decide +kernel
theorem dX4_chosen_1 : decode cX4_chosen 1 = .ok (.iconst 0, 1) := by decide +kernel
theorem dX4_chosen_2 : decode cX4_chosen 2 = .ok (.putfield 53, 3) := by decide +kernel
theorem dX4_chosen_5 : decode cX4_chosen 5 = .ok (.aload_n 0, 1) := by decide +kernel
theorem dX4_chosen_6 : decode cX4_chosen 6 = .ok (.iload_n 1, 1) := by decide +kernel
theorem dX4_chosen_7 : decode cX4_chosen 7 = .ok (.invokevirtual 159, 3) := by decide +kernel
theorem dX4_chosen_10 : decode cX4_chosen 10 = .ok (.istore_n 2, 1) := by decide +kernel
theorem dX4_chosen_11 : decode cX4_chosen 11 = .ok (.iload_n 2, 1) := by decide +kernel
theorem dX4_chosen_12 : decode cX4_chosen 12 = .ok (.ifCond .ge 7, 3) := by decide +kernel
theorem dX4_chosen_15 : decode cX4_chosen 15 = .ok (.iload_n 2, 1) := by decide +kernel
theorem dX4_chosen_16 : decode cX4_chosen 16 = .ok (.goto 12, 3) := by decide +kernel
theorem dX4_chosen_19 : decode cX4_chosen 19 = .ok (.aload_n 0, 1) := by decide +kernel
theorem dX4_chosen_20 : decode cX4_chosen 20 = .ok (.aload_n 0, 1) := by decide +kernel
theorem dX4_chosen_21 : decode cX4_chosen 21 = .ok (.invokevirtual 162, 3) := by decide +kernel
theorem dX4_chosen_24 : decode cX4_chosen 24 = .ok (.iload_n 2, 1) := by decide +kernel
theorem dX4_chosen_25 : decode cX4_chosen 25 = .ok (.invokevirtual 153, 3) := by decide +kernel
theorem dX4_chosen_28 : decode cX4_chosen 28 = .ok (.ireturn, 1) := by decide +kernel
theorem dX4_chosenWorth_0 : decode cX4_chosenWorth 0 = .ok (.aload_n 0, 1) := by decide +kernel
theorem dX4_chosenWorth_1 : decode cX4_chosenWorth 1 = .ok (.iconst 0, 1) := by decide +kernel
theorem dX4_chosenWorth_2 : decode cX4_chosenWorth 2 = .ok (.putfield 53, 3) := by decide +kernel
theorem dX4_chosenWorth_5 : decode cX4_chosenWorth 5 = .ok (.aload_n 0, 1) := by decide +kernel
theorem dX4_chosenWorth_6 : decode cX4_chosenWorth 6 = .ok (.iload_n 1, 1) := by decide +kernel
theorem dX4_chosenWorth_7 : decode cX4_chosenWorth 7 = .ok (.invokevirtual 159, 3) := by decide +kernel
theorem dX4_chosenWorth_10 : decode cX4_chosenWorth 10 = .ok (.istore_n 2, 1) := by decide +kernel
theorem dX4_chosenWorth_11 : decode cX4_chosenWorth 11 = .ok (.iload_n 2, 1) := by decide +kernel
theorem dX4_chosenWorth_12 : decode cX4_chosenWorth 12 = .ok (.ifCond .ge 7, 3) := by decide +kernel
theorem dX4_chosenWorth_15 : decode cX4_chosenWorth 15 = .ok (.iload_n 2, 1) := by decide +kernel
theorem dX4_chosenWorth_16 : decode cX4_chosenWorth 16 = .ok (.goto 12, 3) := by decide +kernel
theorem dX4_chosenWorth_19 : decode cX4_chosenWorth 19 = .ok (.aload_n 0, 1) := by decide +kernel
theorem dX4_chosenWorth_20 : decode cX4_chosenWorth 20 = .ok (.aload_n 0, 1) := by decide +kernel
theorem dX4_chosenWorth_21 : decode cX4_chosenWorth 21 = .ok (.invokevirtual 162, 3) := by decide +kernel
theorem dX4_chosenWorth_24 : decode cX4_chosenWorth 24 = .ok (.iload_n 2, 1) := by decide +kernel
theorem dX4_chosenWorth_25 : decode cX4_chosenWorth 25 = .ok (.invokevirtual 156, 3) := by decide +kernel
theorem dX4_chosenWorth_28 : decode cX4_chosenWorth 28 = .ok (.ireturn, 1) := by decide +kernel
theorem dX4_isAlone_0 : decode cX4_isAlone 0 = .ok (.aload_n 0, 1) := by decide +kernel
theorem dX4_isAlone_1 : decode cX4_isAlone 1 = .ok (.aload_n 0, 1) := by decide +kernel
theorem dX4_isAlone_2 : decode cX4_isAlone 2 = .ok (.getfield 16, 3) := by decide +kernel
theorem dX4_isAlone_5 : decode cX4_isAlone 5 = .ok (.iload_n 2, 1) := by decide +kernel
theorem dX4_isAlone_6 : decode cX4_isAlone 6 = .ok (.iload_n 3, 1) := by decide +kernel
theorem dX4_isAlone_7 : decode cX4_isAlone 7 = .ok (.invokevirtual 102, 3) := by decide +kernel
theorem dX4_isAlone_10 : decode cX4_isAlone 10 = .ok (.iconst 1, 1) := by decide +kernel
theorem dX4_isAlone_11 : decode cX4_isAlone 11 = .ok (.iload_n 1, 1) := by decide +kernel
theorem dX4_isAlone_12 : decode cX4_isAlone 12 = .ok (.ishl, 1) := by decide +kernel
theorem dX4_isAlone_13 : decode cX4_isAlone 13 = .ok (.if_icmp .ne 7, 3) := by decide +kernel
theorem dX4_isAlone_16 : decode cX4_isAlone 16 = .ok (.iconst 1, 1) := by decide +kernel
theorem dX4_isAlone_17 : decode cX4_isAlone 17 = .ok (.goto 4, 3) := by decide +kernel
theorem dX4_isAlone_20 : decode cX4_isAlone 20 = .ok (.iconst 0, 1) := by decide +kernel
theorem dX4_isAlone_21 : decode cX4_isAlone 21 = .ok (.ireturn, 1) := by decide +kernel
theorem dX4_measures_0 : decode cX4_measures 0 = .ok (.aload_n 0, 1) := by decide +kernel
theorem dX4_measures_1 : decode cX4_measures 1 = .ok (.iconst 0, 1) := by decide +kernel
theorem dX4_measures_2 : decode cX4_measures 2 = .ok (.putfield 53, 3) := by decide +kernel
theorem dX4_measures_5 : decode cX4_measures 5 = .ok (.aload_n 0, 1) := by decide +kernel
theorem dX4_measures_6 : decode cX4_measures 6 = .ok (.iload_n 1, 1) := by decide +kernel
theorem dX4_measures_7 : decode cX4_measures 7 = .ok (.invokevirtual 111, 3) := by decide +kernel
theorem dX4_measures_10 : decode cX4_measures 10 = .ok (.ifCond .eq 5, 3) := by decide +kernel
theorem dX4_measures_13 : decode cX4_measures 13 = .ok (.iconst (-1), 1) := by decide +kernel
theorem dX4_measures_14 : decode cX4_measures 14 = .ok (.ireturn, 1) := by decide +kernel
theorem dX4_measures_15 : decode cX4_measures 15 = .ok (.aload_n 0, 1) := by decide +kernel
theorem dX4_measures_16 : decode cX4_measures 16 = .ok (.getfield 16, 3) := by decide +kernel
theorem dX4_measures_19 : decode cX4_measures 19 = .ok (.bipush 21, 2) := by decide +kernel
theorem dX4_measures_21 : decode cX4_measures 21 = .ok (.iaload, 1) := by decide +kernel
theorem dX4_measures_22 : decode cX4_measures 22 = .ok (.iload_n 1, 1) := by decide +kernel
theorem dX4_measures_23 : decode cX4_measures 23 = .ok (.invokestatic 90, 3) := by decide +kernel
theorem dX4_measures_26 : decode cX4_measures 26 = .ok (.ifCond .ne 6, 3) := by decide +kernel
theorem dX4_measures_29 : decode cX4_measures 29 = .ok (.bipush (-3), 2) := by decide +kernel
theorem dX4_measures_31 : decode cX4_measures 31 = .ok (.ireturn, 1) := by decide +kernel
theorem dX4_measures_32 : decode cX4_measures 32 = .ok (.iconst 0, 1) := by decide +kernel
theorem dX4_measures_33 : decode cX4_measures 33 = .ok (.istore_n 2, 1) := by decide +kernel
theorem dX4_measures_34 : decode cX4_measures 34 = .ok (.iconst 1, 1) := by decide +kernel
theorem dX4_measures_35 : decode cX4_measures 35 = .ok (.istore_n 3, 1) := by decide +kernel
theorem dX4_measures_36 : decode cX4_measures 36 = .ok (.iload_n 3, 1) := by decide +kernel
theorem dX4_measures_37 : decode cX4_measures 37 = .ok (.sipush 999, 3) := by decide +kernel
theorem dX4_measures_40 : decode cX4_measures 40 = .ok (.if_icmp .gt 33, 3) := by decide +kernel
theorem dX4_measures_43 : decode cX4_measures 43 = .ok (.iload_n 2, 1) := by decide +kernel
theorem dX4_measures_44 : decode cX4_measures 44 = .ok (.aload_n 0, 1) := by decide +kernel
theorem dX4_measures_45 : decode cX4_measures 45 = .ok (.iload_n 1, 1) := by decide +kernel
theorem dX4_measures_46 : decode cX4_measures 46 = .ok (.aload_n 0, 1) := by decide +kernel
theorem dX4_measures_47 : decode cX4_measures 47 = .ok (.getfield 16, 3) := by decide +kernel
theorem dX4_measures_50 : decode cX4_measures 50 = .ok (.bipush 21, 2) := by decide +kernel
theorem dX4_measures_52 : decode cX4_measures 52 = .ok (.iaload, 1) := by decide +kernel
theorem dX4_measures_53 : decode cX4_measures 53 = .ok (.iload_n 3, 1) := by decide +kernel
theorem dX4_measures_54 : decode cX4_measures 54 = .ok (.invokevirtual 165, 3) := by decide +kernel
theorem dX4_measures_57 : decode cX4_measures 57 = .ok (.ifCond .eq 7, 3) := by decide +kernel
theorem dX4_measures_60 : decode cX4_measures 60 = .ok (.iconst 1, 1) := by decide +kernel
theorem dX4_measures_61 : decode cX4_measures 61 = .ok (.goto 4, 3) := by decide +kernel
theorem dX4_measures_64 : decode cX4_measures 64 = .ok (.iconst 0, 1) := by decide +kernel
theorem dX4_measures_65 : decode cX4_measures 65 = .ok (.iadd, 1) := by decide +kernel
theorem dX4_measures_66 : decode cX4_measures 66 = .ok (.istore_n 2, 1) := by decide +kernel
theorem dX4_measures_67 : decode cX4_measures 67 = .ok (.iinc 3 1, 3) := by decide +kernel
theorem dX4_measures_70 : decode cX4_measures 70 = .ok (.goto (-34), 3) := by decide +kernel
theorem dX4_measures_73 : decode cX4_measures 73 = .ok (.iload_n 2, 1) := by decide +kernel
theorem dX4_measures_74 : decode cX4_measures 74 = .ok (.ireturn, 1) := by decide +kernel
theorem dX4_apart_0 : decode cX4_apart 0 = .ok (.iload_n 0, 1) := by decide +kernel
theorem dX4_apart_1 : decode cX4_apart 1 = .ok (.iload_n 1, 1) := by decide +kernel
theorem dX4_apart_2 : decode cX4_apart 2 = .ok (.if_icmp .ge 9, 3) := by decide +kernel
theorem dX4_apart_5 : decode cX4_apart 5 = .ok (.iload_n 1, 1) := by decide +kernel
theorem dX4_apart_6 : decode cX4_apart 6 = .ok (.iload_n 0, 1) := by decide +kernel
theorem dX4_apart_7 : decode cX4_apart 7 = .ok (.isub, 1) := by decide +kernel
theorem dX4_apart_8 : decode cX4_apart 8 = .ok (.goto 6, 3) := by decide +kernel
theorem dX4_apart_11 : decode cX4_apart 11 = .ok (.iload_n 0, 1) := by decide +kernel
theorem dX4_apart_12 : decode cX4_apart 12 = .ok (.iload_n 1, 1) := by decide +kernel
theorem dX4_apart_13 : decode cX4_apart 13 = .ok (.isub, 1) := by decide +kernel
theorem dX4_apart_14 : decode cX4_apart 14 = .ok (.ireturn, 1) := by decide +kernel
theorem dX4_nearest_0 : decode cX4_nearest 0 = .ok (.aload_n 0, 1) := by decide +kernel
theorem dX4_nearest_1 : decode cX4_nearest 1 = .ok (.iconst 0, 1) := by decide +kernel
theorem dX4_nearest_2 : decode cX4_nearest 2 = .ok (.putfield 53, 3) := by decide +kernel
theorem dX4_nearest_5 : decode cX4_nearest 5 = .ok (.aload_n 0, 1) := by decide +kernel
theorem dX4_nearest_6 : decode cX4_nearest 6 = .ok (.iload_n 1, 1) := by decide +kernel
theorem dX4_nearest_7 : decode cX4_nearest 7 = .ok (.invokevirtual 111, 3) := by decide +kernel
theorem dX4_nearest_10 : decode cX4_nearest 10 = .ok (.ifCond .eq 5, 3) := by decide +kernel
theorem dX4_nearest_13 : decode cX4_nearest 13 = .ok (.iconst (-1), 1) := by decide +kernel
theorem dX4_nearest_14 : decode cX4_nearest 14 = .ok (.ireturn, 1) := by decide +kernel
theorem dX4_nearest_15 : decode cX4_nearest 15 = .ok (.aload_n 0, 1) := by decide +kernel
theorem dX4_nearest_16 : decode cX4_nearest 16 = .ok (.getfield 16, 3) := by decide +kernel
theorem dX4_nearest_19 : decode cX4_nearest 19 = .ok (.bipush 21, 2) := by decide +kernel
theorem dX4_nearest_21 : decode cX4_nearest 21 = .ok (.iaload, 1) := by decide +kernel
theorem dX4_nearest_22 : decode cX4_nearest 22 = .ok (.iload_n 1, 1) := by decide +kernel
theorem dX4_nearest_23 : decode cX4_nearest 23 = .ok (.invokestatic 90, 3) := by decide +kernel
theorem dX4_nearest_26 : decode cX4_nearest 26 = .ok (.ifCond .ne 6, 3) := by decide +kernel
theorem dX4_nearest_29 : decode cX4_nearest 29 = .ok (.bipush (-3), 2) := by decide +kernel
theorem dX4_nearest_31 : decode cX4_nearest 31 = .ok (.ireturn, 1) := by decide +kernel
theorem dX4_nearest_32 : decode cX4_nearest 32 = .ok (.bipush (-9), 2) := by decide +kernel
theorem dX4_nearest_34 : decode cX4_nearest 34 = .ok (.istore_n 2, 1) := by decide +kernel
theorem dX4_nearest_35 : decode cX4_nearest 35 = .ok (.sipush 999, 3) := by decide +kernel
theorem dX4_nearest_38 : decode cX4_nearest 38 = .ok (.istore_n 3, 1) := by decide +kernel
theorem dX4_nearest_39 : decode cX4_nearest 39 = .ok (.iconst 1, 1) := by decide +kernel
theorem dX4_nearest_40 : decode cX4_nearest 40 = .ok (.istore 4, 2) := by decide +kernel
theorem dX4_nearest_42 : decode cX4_nearest 42 = .ok (.iload 4, 2) := by decide +kernel
theorem dX4_nearest_44 : decode cX4_nearest 44 = .ok (.sipush 999, 3) := by decide +kernel
theorem dX4_nearest_47 : decode cX4_nearest 47 = .ok (.if_icmp .gt 87, 3) := by decide +kernel
theorem dX4_nearest_50 : decode cX4_nearest 50 = .ok (.iload 4, 2) := by decide +kernel
theorem dX4_nearest_52 : decode cX4_nearest 52 = .ok (.bipush 100, 2) := by decide +kernel
theorem dX4_nearest_54 : decode cX4_nearest 54 = .ok (.idiv, 1) := by decide +kernel
theorem dX4_nearest_55 : decode cX4_nearest 55 = .ok (.aload_n 0, 1) := by decide +kernel
theorem dX4_nearest_56 : decode cX4_nearest 56 = .ok (.getfield 16, 3) := by decide +kernel
theorem dX4_nearest_59 : decode cX4_nearest 59 = .ok (.iconst 0, 1) := by decide +kernel
theorem dX4_nearest_60 : decode cX4_nearest 60 = .ok (.iaload, 1) := by decide +kernel
theorem dX4_nearest_61 : decode cX4_nearest 61 = .ok (.invokestatic 169, 3) := by decide +kernel
theorem dX4_nearest_64 : decode cX4_nearest 64 = .ok (.iload 4, 2) := by decide +kernel
theorem dX4_nearest_66 : decode cX4_nearest 66 = .ok (.bipush 10, 2) := by decide +kernel
theorem dX4_nearest_68 : decode cX4_nearest 68 = .ok (.idiv, 1) := by decide +kernel
theorem dX4_nearest_69 : decode cX4_nearest 69 = .ok (.bipush 10, 2) := by decide +kernel
theorem dX4_nearest_71 : decode cX4_nearest 71 = .ok (.irem, 1) := by decide +kernel
theorem dX4_nearest_72 : decode cX4_nearest 72 = .ok (.aload_n 0, 1) := by decide +kernel
theorem dX4_nearest_73 : decode cX4_nearest 73 = .ok (.getfield 16, 3) := by decide +kernel
theorem dX4_nearest_76 : decode cX4_nearest 76 = .ok (.iconst 1, 1) := by decide +kernel
theorem dX4_nearest_77 : decode cX4_nearest 77 = .ok (.iaload, 1) := by decide +kernel
theorem dX4_nearest_78 : decode cX4_nearest 78 = .ok (.invokestatic 169, 3) := by decide +kernel
theorem dX4_nearest_81 : decode cX4_nearest 81 = .ok (.iadd, 1) := by decide +kernel
theorem dX4_nearest_82 : decode cX4_nearest 82 = .ok (.iload 4, 2) := by decide +kernel
theorem dX4_nearest_84 : decode cX4_nearest 84 = .ok (.bipush 10, 2) := by decide +kernel
theorem dX4_nearest_86 : decode cX4_nearest 86 = .ok (.irem, 1) := by decide +kernel
theorem dX4_nearest_87 : decode cX4_nearest 87 = .ok (.aload_n 0, 1) := by decide +kernel
theorem dX4_nearest_88 : decode cX4_nearest 88 = .ok (.getfield 16, 3) := by decide +kernel
theorem dX4_nearest_91 : decode cX4_nearest 91 = .ok (.iconst 2, 1) := by decide +kernel
theorem dX4_nearest_92 : decode cX4_nearest 92 = .ok (.iaload, 1) := by decide +kernel
theorem dX4_nearest_93 : decode cX4_nearest 93 = .ok (.invokestatic 169, 3) := by decide +kernel
theorem dX4_nearest_96 : decode cX4_nearest 96 = .ok (.iadd, 1) := by decide +kernel
theorem dX4_nearest_97 : decode cX4_nearest 97 = .ok (.istore 5, 2) := by decide +kernel
theorem dX4_nearest_99 : decode cX4_nearest 99 = .ok (.iload 5, 2) := by decide +kernel
theorem dX4_nearest_101 : decode cX4_nearest 101 = .ok (.iload_n 3, 1) := by decide +kernel
theorem dX4_nearest_102 : decode cX4_nearest 102 = .ok (.if_icmp .ge 26, 3) := by decide +kernel
theorem dX4_nearest_105 : decode cX4_nearest 105 = .ok (.aload_n 0, 1) := by decide +kernel
theorem dX4_nearest_106 : decode cX4_nearest 106 = .ok (.iload_n 1, 1) := by decide +kernel
theorem dX4_nearest_107 : decode cX4_nearest 107 = .ok (.aload_n 0, 1) := by decide +kernel
theorem dX4_nearest_108 : decode cX4_nearest 108 = .ok (.getfield 16, 3) := by decide +kernel
theorem dX4_nearest_111 : decode cX4_nearest 111 = .ok (.bipush 21, 2) := by decide +kernel
theorem dX4_nearest_113 : decode cX4_nearest 113 = .ok (.iaload, 1) := by decide +kernel
theorem dX4_nearest_114 : decode cX4_nearest 114 = .ok (.iload 4, 2) := by decide +kernel
theorem dX4_nearest_116 : decode cX4_nearest 116 = .ok (.invokevirtual 165, 3) := by decide +kernel
theorem dX4_nearest_119 : decode cX4_nearest 119 = .ok (.ifCond .eq 9, 3) := by decide +kernel
theorem dX4_nearest_122 : decode cX4_nearest 122 = .ok (.iload 4, 2) := by decide +kernel
theorem dX4_nearest_124 : decode cX4_nearest 124 = .ok (.istore_n 2, 1) := by decide +kernel
theorem dX4_nearest_125 : decode cX4_nearest 125 = .ok (.iload 5, 2) := by decide +kernel
theorem dX4_nearest_127 : decode cX4_nearest 127 = .ok (.istore_n 3, 1) := by decide +kernel
theorem dX4_nearest_128 : decode cX4_nearest 128 = .ok (.iinc 4 1, 3) := by decide +kernel
theorem dX4_nearest_131 : decode cX4_nearest 131 = .ok (.goto (-89), 3) := by decide +kernel
theorem dX4_nearest_134 : decode cX4_nearest 134 = .ok (.iload_n 2, 1) := by decide +kernel
theorem dX4_nearest_135 : decode cX4_nearest 135 = .ok (.ireturn, 1) := by decide +kernel
theorem dX4_reign_0 : decode cX4_reign 0 = .ok (.aload_n 0, 1) := by decide +kernel
theorem dX4_reign_1 : decode cX4_reign 1 = .ok (.iconst 0, 1) := by decide +kernel
theorem dX4_reign_2 : decode cX4_reign 2 = .ok (.putfield 53, 3) := by decide +kernel
theorem dX4_reign_5 : decode cX4_reign 5 = .ok (.aload_n 0, 1) := by decide +kernel
theorem dX4_reign_6 : decode cX4_reign 6 = .ok (.getfield 57, 3) := by decide +kernel
theorem dX4_reign_9 : decode cX4_reign 9 = .ok (.ifCond .ne 6, 3) := by decide +kernel
theorem dX4_reign_12 : decode cX4_reign 12 = .ok (.bipush (-3), 2) := by decide +kernel
theorem dX4_reign_14 : decode cX4_reign 14 = .ok (.ireturn, 1) := by decide +kernel
theorem dX4_reign_15 : decode cX4_reign 15 = .ok (.aload_n 0, 1) := by decide +kernel
theorem dX4_reign_16 : decode cX4_reign 16 = .ok (.invokevirtual 136, 3) := by decide +kernel
theorem dX4_reign_19 : decode cX4_reign 19 = .ok (.iconst 0, 1) := by decide +kernel
theorem dX4_reign_20 : decode cX4_reign 20 = .ok (.istore_n 2, 1) := by decide +kernel
theorem dX4_reign_21 : decode cX4_reign 21 = .ok (.iload_n 2, 1) := by decide +kernel
theorem dX4_reign_22 : decode cX4_reign 22 = .ok (.bipush 30, 2) := by decide +kernel
theorem dX4_reign_24 : decode cX4_reign 24 = .ok (.if_icmp .gt 57, 3) := by decide +kernel
theorem dX4_reign_27 : decode cX4_reign 27 = .ok (.aload_n 0, 1) := by decide +kernel
theorem dX4_reign_28 : decode cX4_reign 28 = .ok (.aload_n 0, 1) := by decide +kernel
theorem dX4_reign_29 : decode cX4_reign 29 = .ok (.getfield 41, 3) := by decide +kernel
theorem dX4_reign_32 : decode cX4_reign 32 = .ok (.aload_n 0, 1) := by decide +kernel
theorem dX4_reign_33 : decode cX4_reign 33 = .ok (.getfield 41, 3) := by decide +kernel
theorem dX4_reign_36 : decode cX4_reign 36 = .ok (.bipush 21, 2) := by decide +kernel
theorem dX4_reign_38 : decode cX4_reign 38 = .ok (.iaload, 1) := by decide +kernel
theorem dX4_reign_39 : decode cX4_reign 39 = .ok (.aload_n 0, 1) := by decide +kernel
theorem dX4_reign_40 : decode cX4_reign 40 = .ok (.getfield 41, 3) := by decide +kernel
theorem dX4_reign_43 : decode cX4_reign 43 = .ok (.invokestatic 98, 3) := by decide +kernel
theorem dX4_reign_46 : decode cX4_reign 46 = .ok (.invokevirtual 102, 3) := by decide +kernel
theorem dX4_reign_49 : decode cX4_reign 49 = .ok (.iconst 1, 1) := by decide +kernel
theorem dX4_reign_50 : decode cX4_reign 50 = .ok (.if_icmp .eq 5, 3) := by decide +kernel
theorem dX4_reign_53 : decode cX4_reign 53 = .ok (.iload_n 2, 1) := by decide +kernel
theorem dX4_reign_54 : decode cX4_reign 54 = .ok (.ireturn, 1) := by decide +kernel
theorem dX4_reign_55 : decode cX4_reign 55 = .ok (.iload_n 1, 1) := by decide +kernel
theorem dX4_reign_56 : decode cX4_reign 56 = .ok (.ifCond .eq 11, 3) := by decide +kernel
theorem dX4_reign_59 : decode cX4_reign 59 = .ok (.aload_n 0, 1) := by decide +kernel
theorem dX4_reign_60 : decode cX4_reign 60 = .ok (.aload_n 0, 1) := by decide +kernel
theorem dX4_reign_61 : decode cX4_reign 61 = .ok (.getfield 41, 3) := by decide +kernel
theorem dX4_reign_64 : decode cX4_reign 64 = .ok (.invokevirtual 118, 3) := by decide +kernel
theorem dX4_reign_67 : decode cX4_reign 67 = .ok (.aload_n 0, 1) := by decide +kernel
theorem dX4_reign_68 : decode cX4_reign 68 = .ok (.aload_n 0, 1) := by decide +kernel
theorem dX4_reign_69 : decode cX4_reign 69 = .ok (.getfield 41, 3) := by decide +kernel
theorem dX4_reign_72 : decode cX4_reign 72 = .ok (.invokevirtual 122, 3) := by decide +kernel
theorem dX4_reign_75 : decode cX4_reign 75 = .ok (.iinc 2 1, 3) := by decide +kernel
theorem dX4_reign_78 : decode cX4_reign 78 = .ok (.goto (-57), 3) := by decide +kernel
theorem dX4_reign_81 : decode cX4_reign 81 = .ok (.bipush (-9), 2) := by decide +kernel
theorem dX4_reign_83 : decode cX4_reign 83 = .ok (.ireturn, 1) := by decide +kernel
theorem dX4_differs_0 : decode cX4_differs 0 = .ok (.aload_n 0, 1) := by decide +kernel
theorem dX4_differs_1 : decode cX4_differs 1 = .ok (.iconst 0, 1) := by decide +kernel
theorem dX4_differs_2 : decode cX4_differs 2 = .ok (.putfield 53, 3) := by decide +kernel
theorem dX4_differs_5 : decode cX4_differs 5 = .ok (.iload_n 1, 1) := by decide +kernel
theorem dX4_differs_6 : decode cX4_differs 6 = .ok (.i2l, 1) := by decide +kernel
theorem dX4_differs_7 : decode cX4_differs 7 = .ok (.lconst 1, 1) := by decide +kernel
theorem dX4_differs_8 : decode cX4_differs 8 = .ok (.ldc2_w 172, 3) := by decide +kernel
theorem dX4_differs_11 : decode cX4_differs 11 = .ok (.invokestatic 60, 3) := by decide +kernel
theorem dX4_differs_14 : decode cX4_differs 14 = .ok (.ifCond .eq 27, 3) := by decide +kernel
theorem dX4_differs_17 : decode cX4_differs 17 = .ok (.aload_n 0, 1) := by decide +kernel
theorem dX4_differs_18 : decode cX4_differs 18 = .ok (.invokevirtual 105, 3) := by decide +kernel
theorem dX4_differs_21 : decode cX4_differs 21 = .ok (.aload_n 0, 1) := by decide +kernel
theorem dX4_differs_22 : decode cX4_differs 22 = .ok (.aload_n 0, 1) := by decide +kernel
theorem dX4_differs_23 : decode cX4_differs 23 = .ok (.getfield 16, 3) := by decide +kernel
theorem dX4_differs_26 : decode cX4_differs 26 = .ok (.aload_n 0, 1) := by decide +kernel
theorem dX4_differs_27 : decode cX4_differs 27 = .ok (.getfield 16, 3) := by decide +kernel
theorem dX4_differs_30 : decode cX4_differs 30 = .ok (.bipush 21, 2) := by decide +kernel
theorem dX4_differs_32 : decode cX4_differs 32 = .ok (.iaload, 1) := by decide +kernel
theorem dX4_differs_33 : decode cX4_differs 33 = .ok (.iload_n 1, 1) := by decide +kernel
theorem dX4_differs_34 : decode cX4_differs 34 = .ok (.invokevirtual 102, 3) := by decide +kernel
theorem dX4_differs_37 : decode cX4_differs 37 = .ok (.ixor, 1) := by decide +kernel
theorem dX4_differs_38 : decode cX4_differs 38 = .ok (.goto 5, 3) := by decide +kernel
theorem dX4_differs_41 : decode cX4_differs 41 = .ok (.bipush (-2), 2) := by decide +kernel
theorem dX4_differs_43 : decode cX4_differs 43 = .ok (.ireturn, 1) := by decide +kernel
theorem dX4_divisor_0 : decode cX4_divisor 0 = .ok (.lload_n 0, 1) := by decide +kernel
theorem dX4_divisor_1 : decode cX4_divisor 1 = .ok (.lstore 4, 2) := by decide +kernel
theorem dX4_divisor_3 : decode cX4_divisor 3 = .ok (.lload_n 2, 1) := by decide +kernel
theorem dX4_divisor_4 : decode cX4_divisor 4 = .ok (.lstore 6, 2) := by decide +kernel
theorem dX4_divisor_6 : decode cX4_divisor 6 = .ok (.lload 6, 2) := by decide +kernel
theorem dX4_divisor_8 : decode cX4_divisor 8 = .ok (.lconst 0, 1) := by decide +kernel
theorem dX4_divisor_9 : decode cX4_divisor 9 = .ok (.lcmp, 1) := by decide +kernel
theorem dX4_divisor_10 : decode cX4_divisor 10 = .ok (.ifCond .eq 21, 3) := by decide +kernel
theorem dX4_divisor_13 : decode cX4_divisor 13 = .ok (.lload 4, 2) := by decide +kernel
theorem dX4_divisor_15 : decode cX4_divisor 15 = .ok (.lload 6, 2) := by decide +kernel
theorem dX4_divisor_17 : decode cX4_divisor 17 = .ok (.lrem, 1) := by decide +kernel
theorem dX4_divisor_18 : decode cX4_divisor 18 = .ok (.lstore 8, 2) := by decide +kernel
theorem dX4_divisor_20 : decode cX4_divisor 20 = .ok (.lload 6, 2) := by decide +kernel
theorem dX4_divisor_22 : decode cX4_divisor 22 = .ok (.lstore 4, 2) := by decide +kernel
theorem dX4_divisor_24 : decode cX4_divisor 24 = .ok (.lload 8, 2) := by decide +kernel
theorem dX4_divisor_26 : decode cX4_divisor 26 = .ok (.lstore 6, 2) := by decide +kernel
theorem dX4_divisor_28 : decode cX4_divisor 28 = .ok (.goto (-22), 3) := by decide +kernel
theorem dX4_divisor_31 : decode cX4_divisor 31 = .ok (.lload 4, 2) := by decide +kernel
theorem dX4_divisor_33 : decode cX4_divisor 33 = .ok (.lreturn, 1) := by decide +kernel
theorem dX4_fraction_0 : decode cX4_fraction 0 = .ok (.lload_n 0, 1) := by decide +kernel
theorem dX4_fraction_1 : decode cX4_fraction 1 = .ok (.lload_n 2, 1) := by decide +kernel
theorem dX4_fraction_2 : decode cX4_fraction 2 = .ok (.invokestatic 174, 3) := by decide +kernel
theorem dX4_fraction_5 : decode cX4_fraction 5 = .ok (.lstore 5, 2) := by decide +kernel
theorem dX4_fraction_7 : decode cX4_fraction 7 = .ok (.iload 4, 2) := by decide +kernel
theorem dX4_fraction_9 : decode cX4_fraction 9 = .ok (.ifCond .eq 10, 3) := by decide +kernel
theorem dX4_fraction_12 : decode cX4_fraction 12 = .ok (.lload_n 0, 1) := by decide +kernel
theorem dX4_fraction_13 : decode cX4_fraction 13 = .ok (.lload 5, 2) := by decide +kernel
theorem dX4_fraction_15 : decode cX4_fraction 15 = .ok (.ldiv, 1) := by decide +kernel
theorem dX4_fraction_16 : decode cX4_fraction 16 = .ok (.goto 7, 3) := by decide +kernel
theorem dX4_fraction_19 : decode cX4_fraction 19 = .ok (.lload_n 2, 1) := by decide +kernel
theorem dX4_fraction_20 : decode cX4_fraction 20 = .ok (.lload 5, 2) := by decide +kernel
theorem dX4_fraction_22 : decode cX4_fraction 22 = .ok (.ldiv, 1) := by decide +kernel
theorem dX4_fraction_23 : decode cX4_fraction 23 = .ok (.l2i, 1) := by decide +kernel
theorem dX4_fraction_24 : decode cX4_fraction 24 = .ok (.ireturn, 1) := by decide +kernel
theorem dX4_rate_0 : decode cX4_rate 0 = .ok (.aload_n 0, 1) := by decide +kernel
theorem dX4_rate_1 : decode cX4_rate 1 = .ok (.iconst 0, 1) := by decide +kernel
theorem dX4_rate_2 : decode cX4_rate 2 = .ok (.putfield 53, 3) := by decide +kernel
theorem dX4_rate_5 : decode cX4_rate 5 = .ok (.aload_n 0, 1) := by decide +kernel
theorem dX4_rate_6 : decode cX4_rate 6 = .ok (.iload_n 1, 1) := by decide +kernel
theorem dX4_rate_7 : decode cX4_rate 7 = .ok (.invokevirtual 111, 3) := by decide +kernel
theorem dX4_rate_10 : decode cX4_rate 10 = .ok (.ifCond .ne 11, 3) := by decide +kernel
theorem dX4_rate_13 : decode cX4_rate 13 = .ok (.aload_n 0, 1) := by decide +kernel
theorem dX4_rate_14 : decode cX4_rate 14 = .ok (.iload_n 2, 1) := by decide +kernel
theorem dX4_rate_15 : decode cX4_rate 15 = .ok (.invokevirtual 111, 3) := by decide +kernel
theorem dX4_rate_18 : decode cX4_rate 18 = .ok (.ifCond .eq 5, 3) := by decide +kernel
theorem dX4_rate_21 : decode cX4_rate 21 = .ok (.iconst (-1), 1) := by decide +kernel
theorem dX4_rate_22 : decode cX4_rate 22 = .ok (.ireturn, 1) := by decide +kernel
theorem dX4_rate_23 : decode cX4_rate 23 = .ok (.iload_n 1, 1) := by decide +kernel
theorem dX4_rate_24 : decode cX4_rate 24 = .ok (.iload_n 2, 1) := by decide +kernel
theorem dX4_rate_25 : decode cX4_rate 25 = .ok (.if_icmp .ne 6, 3) := by decide +kernel
theorem dX4_rate_28 : decode cX4_rate 28 = .ok (.bipush (-2), 2) := by decide +kernel
theorem dX4_rate_30 : decode cX4_rate 30 = .ok (.ireturn, 1) := by decide +kernel
theorem dX4_rate_31 : decode cX4_rate 31 = .ok (.iconst 0, 1) := by decide +kernel
theorem dX4_rate_32 : decode cX4_rate 32 = .ok (.istore 4, 2) := by decide +kernel
theorem dX4_rate_34 : decode cX4_rate 34 = .ok (.iconst 1, 1) := by decide +kernel
theorem dX4_rate_35 : decode cX4_rate 35 = .ok (.istore 5, 2) := by decide +kernel
theorem dX4_rate_37 : decode cX4_rate 37 = .ok (.iload 5, 2) := by decide +kernel
theorem dX4_rate_39 : decode cX4_rate 39 = .ok (.sipush 999, 3) := by decide +kernel
theorem dX4_rate_42 : decode cX4_rate 42 = .ok (.if_icmp .gt 42, 3) := by decide +kernel
theorem dX4_rate_45 : decode cX4_rate 45 = .ok (.iload 4, 2) := by decide +kernel
theorem dX4_rate_47 : decode cX4_rate 47 = .ok (.aload_n 0, 1) := by decide +kernel
theorem dX4_rate_48 : decode cX4_rate 48 = .ok (.getfield 16, 3) := by decide +kernel
theorem dX4_rate_51 : decode cX4_rate 51 = .ok (.iload_n 1, 1) := by decide +kernel
theorem dX4_rate_52 : decode cX4_rate 52 = .ok (.iload 5, 2) := by decide +kernel
theorem dX4_rate_54 : decode cX4_rate 54 = .ok (.invokestatic 94, 3) := by decide +kernel
theorem dX4_rate_57 : decode cX4_rate 57 = .ok (.aload_n 0, 1) := by decide +kernel
theorem dX4_rate_58 : decode cX4_rate 58 = .ok (.getfield 16, 3) := by decide +kernel
theorem dX4_rate_61 : decode cX4_rate 61 = .ok (.iload_n 2, 1) := by decide +kernel
theorem dX4_rate_62 : decode cX4_rate 62 = .ok (.iload 5, 2) := by decide +kernel
theorem dX4_rate_64 : decode cX4_rate 64 = .ok (.invokestatic 94, 3) := by decide +kernel
theorem dX4_rate_67 : decode cX4_rate 67 = .ok (.if_icmp .le 7, 3) := by decide +kernel
theorem dX4_rate_70 : decode cX4_rate 70 = .ok (.iconst 1, 1) := by decide +kernel
theorem dX4_rate_71 : decode cX4_rate 71 = .ok (.goto 4, 3) := by decide +kernel
theorem dX4_rate_74 : decode cX4_rate 74 = .ok (.iconst 0, 1) := by decide +kernel
theorem dX4_rate_75 : decode cX4_rate 75 = .ok (.iadd, 1) := by decide +kernel
theorem dX4_rate_76 : decode cX4_rate 76 = .ok (.istore 4, 2) := by decide +kernel
theorem dX4_rate_78 : decode cX4_rate 78 = .ok (.iinc 5 1, 3) := by decide +kernel
theorem dX4_rate_81 : decode cX4_rate 81 = .ok (.goto (-44), 3) := by decide +kernel
theorem dX4_rate_84 : decode cX4_rate 84 = .ok (.iload 4, 2) := by decide +kernel
theorem dX4_rate_86 : decode cX4_rate 86 = .ok (.i2l, 1) := by decide +kernel
theorem dX4_rate_87 : decode cX4_rate 87 = .ok (.ldc2_w 172, 3) := by decide +kernel
theorem dX4_rate_90 : decode cX4_rate 90 = .ok (.iload_n 3, 1) := by decide +kernel
theorem dX4_rate_91 : decode cX4_rate 91 = .ok (.invokestatic 178, 3) := by decide +kernel
theorem dX4_rate_94 : decode cX4_rate 94 = .ok (.ireturn, 1) := by decide +kernel
theorem dX4_saying_0 : decode cX4_saying 0 = .ok (.aload_n 0, 1) := by decide +kernel
theorem dX4_saying_1 : decode cX4_saying 1 = .ok (.iconst 0, 1) := by decide +kernel
theorem dX4_saying_2 : decode cX4_saying 2 = .ok (.putfield 53, 3) := by decide +kernel
theorem dX4_saying_5 : decode cX4_saying 5 = .ok (.aload_n 0, 1) := by decide +kernel
theorem dX4_saying_6 : decode cX4_saying 6 = .ok (.iload_n 1, 1) := by decide +kernel
theorem dX4_saying_7 : decode cX4_saying 7 = .ok (.invokevirtual 111, 3) := by decide +kernel
theorem dX4_saying_10 : decode cX4_saying 10 = .ok (.ifCond .eq 5, 3) := by decide +kernel
theorem dX4_saying_13 : decode cX4_saying 13 = .ok (.iconst (-1), 1) := by decide +kernel
theorem dX4_saying_14 : decode cX4_saying 14 = .ok (.ireturn, 1) := by decide +kernel
theorem dX4_saying_15 : decode cX4_saying 15 = .ok (.iload_n 2, 1) := by decide +kernel
theorem dX4_saying_16 : decode cX4_saying 16 = .ok (.i2l, 1) := by decide +kernel
theorem dX4_saying_17 : decode cX4_saying 17 = .ok (.lconst 0, 1) := by decide +kernel
theorem dX4_saying_18 : decode cX4_saying 18 = .ok (.ldc2_w 182, 3) := by decide +kernel
theorem dX4_saying_21 : decode cX4_saying 21 = .ok (.invokestatic 60, 3) := by decide +kernel
theorem dX4_saying_24 : decode cX4_saying 24 = .ok (.ifCond .ne 6, 3) := by decide +kernel
theorem dX4_saying_27 : decode cX4_saying 27 = .ok (.bipush (-2), 2) := by decide +kernel
theorem dX4_saying_29 : decode cX4_saying 29 = .ok (.ireturn, 1) := by decide +kernel
theorem dX4_saying_30 : decode cX4_saying 30 = .ok (.aload_n 0, 1) := by decide +kernel
theorem dX4_saying_31 : decode cX4_saying 31 = .ok (.getfield 16, 3) := by decide +kernel
theorem dX4_saying_34 : decode cX4_saying 34 = .ok (.bipush 21, 2) := by decide +kernel
theorem dX4_saying_36 : decode cX4_saying 36 = .ok (.iaload, 1) := by decide +kernel
theorem dX4_saying_37 : decode cX4_saying 37 = .ok (.iload_n 1, 1) := by decide +kernel
theorem dX4_saying_38 : decode cX4_saying 38 = .ok (.invokestatic 90, 3) := by decide +kernel
theorem dX4_saying_41 : decode cX4_saying 41 = .ok (.ifCond .ne 6, 3) := by decide +kernel
theorem dX4_saying_44 : decode cX4_saying 44 = .ok (.bipush (-3), 2) := by decide +kernel
theorem dX4_saying_46 : decode cX4_saying 46 = .ok (.ireturn, 1) := by decide +kernel
theorem dX4_saying_47 : decode cX4_saying 47 = .ok (.aload_n 0, 1) := by decide +kernel
theorem dX4_saying_48 : decode cX4_saying 48 = .ok (.getfield 16, 3) := by decide +kernel
theorem dX4_saying_51 : decode cX4_saying 51 = .ok (.bipush 21, 2) := by decide +kernel
theorem dX4_saying_53 : decode cX4_saying 53 = .ok (.iaload, 1) := by decide +kernel
theorem dX4_saying_54 : decode cX4_saying 54 = .ok (.invokestatic 127, 3) := by decide +kernel
theorem dX4_saying_57 : decode cX4_saying 57 = .ok (.istore 4, 2) := by decide +kernel
theorem dX4_saying_59 : decode cX4_saying 59 = .ok (.aload_n 0, 1) := by decide +kernel
theorem dX4_saying_60 : decode cX4_saying 60 = .ok (.invokevirtual 105, 3) := by decide +kernel
theorem dX4_saying_63 : decode cX4_saying 63 = .ok (.iload_n 1, 1) := by decide +kernel
theorem dX4_saying_64 : decode cX4_saying 64 = .ok (.invokestatic 90, 3) := by decide +kernel
theorem dX4_saying_67 : decode cX4_saying 67 = .ok (.ifCond .eq 20, 3) := by decide +kernel
theorem dX4_saying_70 : decode cX4_saying 70 = .ok (.aload_n 0, 1) := by decide +kernel
theorem dX4_saying_71 : decode cX4_saying 71 = .ok (.invokevirtual 105, 3) := by decide +kernel
theorem dX4_saying_74 : decode cX4_saying 74 = .ok (.iconst 1, 1) := by decide +kernel
theorem dX4_saying_75 : decode cX4_saying 75 = .ok (.iload_n 1, 1) := by decide +kernel
theorem dX4_saying_76 : decode cX4_saying 76 = .ok (.ishl, 1) := by decide +kernel
theorem dX4_saying_77 : decode cX4_saying 77 = .ok (.iconst 1, 1) := by decide +kernel
theorem dX4_saying_78 : decode cX4_saying 78 = .ok (.isub, 1) := by decide +kernel
theorem dX4_saying_79 : decode cX4_saying 79 = .ok (.iand, 1) := by decide +kernel
theorem dX4_saying_80 : decode cX4_saying 80 = .ok (.ifCond .ne 7, 3) := by decide +kernel
theorem dX4_saying_83 : decode cX4_saying 83 = .ok (.iconst 1, 1) := by decide +kernel
theorem dX4_saying_84 : decode cX4_saying 84 = .ok (.goto 4, 3) := by decide +kernel
theorem dX4_saying_87 : decode cX4_saying 87 = .ok (.iconst 0, 1) := by decide +kernel
theorem dX4_saying_88 : decode cX4_saying 88 = .ok (.istore 5, 2) := by decide +kernel
theorem dX4_saying_90 : decode cX4_saying 90 = .ok (.iload 5, 2) := by decide +kernel
theorem dX4_saying_92 : decode cX4_saying 92 = .ok (.ifCond .eq 10, 3) := by decide +kernel
theorem dX4_saying_95 : decode cX4_saying 95 = .ok (.iload_n 2, 1) := by decide +kernel
theorem dX4_saying_96 : decode cX4_saying 96 = .ok (.iload 4, 2) := by decide +kernel
theorem dX4_saying_98 : decode cX4_saying 98 = .ok (.imul, 1) := by decide +kernel
theorem dX4_saying_99 : decode cX4_saying 99 = .ok (.goto 4, 3) := by decide +kernel
theorem dX4_saying_102 : decode cX4_saying 102 = .ok (.iconst 0, 1) := by decide +kernel
theorem dX4_saying_103 : decode cX4_saying 103 = .ok (.bipush 10, 2) := by decide +kernel
theorem dX4_saying_105 : decode cX4_saying 105 = .ok (.iadd, 1) := by decide +kernel
theorem dX4_saying_106 : decode cX4_saying 106 = .ok (.iload_n 2, 1) := by decide +kernel
theorem dX4_saying_107 : decode cX4_saying 107 = .ok (.isub, 1) := by decide +kernel
theorem dX4_saying_108 : decode cX4_saying 108 = .ok (.i2l, 1) := by decide +kernel
theorem dX4_saying_109 : decode cX4_saying 109 = .ok (.ldc2_w 182, 3) := by decide +kernel
theorem dX4_saying_112 : decode cX4_saying 112 = .ok (.iload 4, 2) := by decide +kernel
theorem dX4_saying_114 : decode cX4_saying 114 = .ok (.i2l, 1) := by decide +kernel
theorem dX4_saying_115 : decode cX4_saying 115 = .ok (.lmul, 1) := by decide +kernel
theorem dX4_saying_116 : decode cX4_saying 116 = .ok (.iload_n 3, 1) := by decide +kernel
theorem dX4_saying_117 : decode cX4_saying 117 = .ok (.invokestatic 178, 3) := by decide +kernel
theorem dX4_saying_120 : decode cX4_saying 120 = .ok (.ireturn, 1) := by decide +kernel
theorem dX4_believed_0 : decode cX4_believed 0 = .ok (.aload_n 0, 1) := by decide +kernel
theorem dX4_believed_1 : decode cX4_believed 1 = .ok (.iconst 0, 1) := by decide +kernel
theorem dX4_believed_2 : decode cX4_believed 2 = .ok (.putfield 53, 3) := by decide +kernel
theorem dX4_believed_5 : decode cX4_believed 5 = .ok (.aload_n 0, 1) := by decide +kernel
theorem dX4_believed_6 : decode cX4_believed 6 = .ok (.iload_n 1, 1) := by decide +kernel
theorem dX4_believed_7 : decode cX4_believed 7 = .ok (.invokevirtual 111, 3) := by decide +kernel
theorem dX4_believed_10 : decode cX4_believed 10 = .ok (.ifCond .eq 5, 3) := by decide +kernel
theorem dX4_believed_13 : decode cX4_believed 13 = .ok (.iconst (-1), 1) := by decide +kernel
theorem dX4_believed_14 : decode cX4_believed 14 = .ok (.ireturn, 1) := by decide +kernel
theorem dX4_believed_15 : decode cX4_believed 15 = .ok (.iload_n 2, 1) := by decide +kernel
theorem dX4_believed_16 : decode cX4_believed 16 = .ok (.i2l, 1) := by decide +kernel
theorem dX4_believed_17 : decode cX4_believed 17 = .ok (.lconst 0, 1) := by decide +kernel
theorem dX4_believed_18 : decode cX4_believed 18 = .ok (.ldc2_w 182, 3) := by decide +kernel
theorem dX4_believed_21 : decode cX4_believed 21 = .ok (.invokestatic 60, 3) := by decide +kernel
theorem dX4_believed_24 : decode cX4_believed 24 = .ok (.ifCond .eq 15, 3) := by decide +kernel
theorem dX4_believed_27 : decode cX4_believed 27 = .ok (.iload_n 3, 1) := by decide +kernel
theorem dX4_believed_28 : decode cX4_believed 28 = .ok (.i2l, 1) := by decide +kernel
theorem dX4_believed_29 : decode cX4_believed 29 = .ok (.lconst 0, 1) := by decide +kernel
theorem dX4_believed_30 : decode cX4_believed 30 = .ok (.ldc2_w 182, 3) := by decide +kernel
theorem dX4_believed_33 : decode cX4_believed 33 = .ok (.invokestatic 60, 3) := by decide +kernel
theorem dX4_believed_36 : decode cX4_believed 36 = .ok (.ifCond .ne 6, 3) := by decide +kernel
theorem dX4_believed_39 : decode cX4_believed 39 = .ok (.bipush (-2), 2) := by decide +kernel
theorem dX4_believed_41 : decode cX4_believed 41 = .ok (.ireturn, 1) := by decide +kernel
theorem dX4_believed_42 : decode cX4_believed 42 = .ok (.aload_n 0, 1) := by decide +kernel
theorem dX4_believed_43 : decode cX4_believed 43 = .ok (.getfield 16, 3) := by decide +kernel
theorem dX4_believed_46 : decode cX4_believed 46 = .ok (.bipush 21, 2) := by decide +kernel
theorem dX4_believed_48 : decode cX4_believed 48 = .ok (.iaload, 1) := by decide +kernel
theorem dX4_believed_49 : decode cX4_believed 49 = .ok (.iload_n 1, 1) := by decide +kernel
theorem dX4_believed_50 : decode cX4_believed 50 = .ok (.invokestatic 90, 3) := by decide +kernel
theorem dX4_believed_53 : decode cX4_believed 53 = .ok (.ifCond .ne 6, 3) := by decide +kernel
theorem dX4_believed_56 : decode cX4_believed 56 = .ok (.bipush (-3), 2) := by decide +kernel
theorem dX4_believed_58 : decode cX4_believed 58 = .ok (.ireturn, 1) := by decide +kernel
theorem dX4_believed_59 : decode cX4_believed 59 = .ok (.aload_n 0, 1) := by decide +kernel
theorem dX4_believed_60 : decode cX4_believed 60 = .ok (.getfield 16, 3) := by decide +kernel
theorem dX4_believed_63 : decode cX4_believed 63 = .ok (.bipush 21, 2) := by decide +kernel
theorem dX4_believed_65 : decode cX4_believed 65 = .ok (.iaload, 1) := by decide +kernel
theorem dX4_believed_66 : decode cX4_believed 66 = .ok (.invokestatic 127, 3) := by decide +kernel
theorem dX4_believed_69 : decode cX4_believed 69 = .ok (.istore 5, 2) := by decide +kernel
theorem dX4_believed_71 : decode cX4_believed 71 = .ok (.iload_n 2, 1) := by decide +kernel
theorem dX4_believed_72 : decode cX4_believed 72 = .ok (.iload 5, 2) := by decide +kernel
theorem dX4_believed_74 : decode cX4_believed 74 = .ok (.imul, 1) := by decide +kernel
theorem dX4_believed_75 : decode cX4_believed 75 = .ok (.i2l, 1) := by decide +kernel
theorem dX4_believed_76 : decode cX4_believed 76 = .ok (.ldc2_w 182, 3) := by decide +kernel
theorem dX4_believed_79 : decode cX4_believed 79 = .ok (.ladd, 1) := by decide +kernel
theorem dX4_believed_80 : decode cX4_believed 80 = .ok (.iload_n 2, 1) := by decide +kernel
theorem dX4_believed_81 : decode cX4_believed 81 = .ok (.i2l, 1) := by decide +kernel
theorem dX4_believed_82 : decode cX4_believed 82 = .ok (.lsub, 1) := by decide +kernel
theorem dX4_believed_83 : decode cX4_believed 83 = .ok (.iload_n 3, 1) := by decide +kernel
theorem dX4_believed_84 : decode cX4_believed 84 = .ok (.iload 5, 2) := by decide +kernel
theorem dX4_believed_86 : decode cX4_believed 86 = .ok (.imul, 1) := by decide +kernel
theorem dX4_believed_87 : decode cX4_believed 87 = .ok (.i2l, 1) := by decide +kernel
theorem dX4_believed_88 : decode cX4_believed 88 = .ok (.ldc2_w 182, 3) := by decide +kernel
theorem dX4_believed_91 : decode cX4_believed 91 = .ok (.ladd, 1) := by decide +kernel
theorem dX4_believed_92 : decode cX4_believed 92 = .ok (.iload_n 3, 1) := by decide +kernel
theorem dX4_believed_93 : decode cX4_believed 93 = .ok (.i2l, 1) := by decide +kernel
theorem dX4_believed_94 : decode cX4_believed 94 = .ok (.lsub, 1) := by decide +kernel
theorem dX4_believed_95 : decode cX4_believed 95 = .ok (.lmul, 1) := by decide +kernel
theorem dX4_believed_96 : decode cX4_believed 96 = .ok (.lstore 6, 2) := by decide +kernel
theorem dX4_believed_98 : decode cX4_believed 98 = .ok (.iload 5, 2) := by decide +kernel
theorem dX4_believed_100 : decode cX4_believed 100 = .ok (.i2l, 1) := by decide +kernel
theorem dX4_believed_101 : decode cX4_believed 101 = .ok (.lconst 1, 1) := by decide +kernel
theorem dX4_believed_102 : decode cX4_believed 102 = .ok (.lsub, 1) := by decide +kernel
theorem dX4_believed_103 : decode cX4_believed 103 = .ok (.bipush 10, 2) := by decide +kernel
theorem dX4_believed_105 : decode cX4_believed 105 = .ok (.iload_n 2, 1) := by decide +kernel
theorem dX4_believed_106 : decode cX4_believed 106 = .ok (.isub, 1) := by decide +kernel
theorem dX4_believed_107 : decode cX4_believed 107 = .ok (.i2l, 1) := by decide +kernel
theorem dX4_believed_108 : decode cX4_believed 108 = .ok (.lmul, 1) := by decide +kernel
theorem dX4_believed_109 : decode cX4_believed 109 = .ok (.bipush 10, 2) := by decide +kernel
theorem dX4_believed_111 : decode cX4_believed 111 = .ok (.iload_n 3, 1) := by decide +kernel
theorem dX4_believed_112 : decode cX4_believed 112 = .ok (.isub, 1) := by decide +kernel
theorem dX4_believed_113 : decode cX4_believed 113 = .ok (.i2l, 1) := by decide +kernel
theorem dX4_believed_114 : decode cX4_believed 114 = .ok (.lmul, 1) := by decide +kernel
theorem dX4_believed_115 : decode cX4_believed 115 = .ok (.lstore 8, 2) := by decide +kernel
theorem dX4_believed_117 : decode cX4_believed 117 = .ok (.lload 6, 2) := by decide +kernel
theorem dX4_believed_119 : decode cX4_believed 119 = .ok (.lload 6, 2) := by decide +kernel
theorem dX4_believed_121 : decode cX4_believed 121 = .ok (.lload 8, 2) := by decide +kernel
theorem dX4_believed_123 : decode cX4_believed 123 = .ok (.ladd, 1) := by decide +kernel
theorem dX4_believed_124 : decode cX4_believed 124 = .ok (.iload 4, 2) := by decide +kernel
theorem dX4_believed_126 : decode cX4_believed 126 = .ok (.invokestatic 178, 3) := by decide +kernel
theorem dX4_believed_129 : decode cX4_believed 129 = .ok (.ireturn, 1) := by decide +kernel
theorem dX4_chance_0 : decode cX4_chance 0 = .ok (.aload_n 0, 1) := by decide +kernel
theorem dX4_chance_1 : decode cX4_chance 1 = .ok (.iconst 0, 1) := by decide +kernel
theorem dX4_chance_2 : decode cX4_chance 2 = .ok (.putfield 53, 3) := by decide +kernel
theorem dX4_chance_5 : decode cX4_chance 5 = .ok (.iload_n 1, 1) := by decide +kernel
theorem dX4_chance_6 : decode cX4_chance 6 = .ok (.i2l, 1) := by decide +kernel
theorem dX4_chance_7 : decode cX4_chance 7 = .ok (.lconst 0, 1) := by decide +kernel
theorem dX4_chance_8 : decode cX4_chance 8 = .ok (.ldc2_w 182, 3) := by decide +kernel
theorem dX4_chance_11 : decode cX4_chance 11 = .ok (.invokestatic 60, 3) := by decide +kernel
theorem dX4_chance_14 : decode cX4_chance 14 = .ok (.ifCond .ne 6, 3) := by decide +kernel
theorem dX4_chance_17 : decode cX4_chance 17 = .ok (.bipush (-2), 2) := by decide +kernel
theorem dX4_chance_19 : decode cX4_chance 19 = .ok (.ireturn, 1) := by decide +kernel
theorem dX4_chance_20 : decode cX4_chance 20 = .ok (.aload_n 0, 1) := by decide +kernel
theorem dX4_chance_21 : decode cX4_chance 21 = .ok (.getfield 57, 3) := by decide +kernel
theorem dX4_chance_24 : decode cX4_chance 24 = .ok (.ifCond .ne 6, 3) := by decide +kernel
theorem dX4_chance_27 : decode cX4_chance 27 = .ok (.bipush (-3), 2) := by decide +kernel
theorem dX4_chance_29 : decode cX4_chance 29 = .ok (.ireturn, 1) := by decide +kernel
theorem dX4_chance_30 : decode cX4_chance 30 = .ok (.iconst 1, 1) := by decide +kernel
theorem dX4_chance_31 : decode cX4_chance 31 = .ok (.aload_n 0, 1) := by decide +kernel
theorem dX4_chance_32 : decode cX4_chance 32 = .ok (.getfield 57, 3) := by decide +kernel
theorem dX4_chance_35 : decode cX4_chance 35 = .ok (.ishl, 1) := by decide +kernel
theorem dX4_chance_36 : decode cX4_chance 36 = .ok (.iconst 1, 1) := by decide +kernel
theorem dX4_chance_37 : decode cX4_chance 37 = .ok (.isub, 1) := by decide +kernel
theorem dX4_chance_38 : decode cX4_chance 38 = .ok (.istore_n 3, 1) := by decide +kernel
theorem dX4_chance_39 : decode cX4_chance 39 = .ok (.lconst 0, 1) := by decide +kernel
theorem dX4_chance_40 : decode cX4_chance 40 = .ok (.lstore 4, 2) := by decide +kernel
theorem dX4_chance_42 : decode cX4_chance 42 = .ok (.iconst 0, 1) := by decide +kernel
theorem dX4_chance_43 : decode cX4_chance 43 = .ok (.istore 6, 2) := by decide +kernel
theorem dX4_chance_45 : decode cX4_chance 45 = .ok (.iload 6, 2) := by decide +kernel
theorem dX4_chance_47 : decode cX4_chance 47 = .ok (.iload_n 3, 1) := by decide +kernel
theorem dX4_chance_48 : decode cX4_chance 48 = .ok (.if_icmp .gt 117, 3) := by decide +kernel
theorem dX4_chance_51 : decode cX4_chance 51 = .ok (.iload 6, 2) := by decide +kernel
theorem dX4_chance_53 : decode cX4_chance 53 = .ok (.iconst (-1), 1) := by decide +kernel
theorem dX4_chance_54 : decode cX4_chance 54 = .ok (.ixor, 1) := by decide +kernel
theorem dX4_chance_55 : decode cX4_chance 55 = .ok (.iload_n 3, 1) := by decide +kernel
theorem dX4_chance_56 : decode cX4_chance 56 = .ok (.iand, 1) := by decide +kernel
theorem dX4_chance_57 : decode cX4_chance 57 = .ok (.aload_n 0, 1) := by decide +kernel
theorem dX4_chance_58 : decode cX4_chance 58 = .ok (.getfield 16, 3) := by decide +kernel
theorem dX4_chance_61 : decode cX4_chance 61 = .ok (.bipush 22, 2) := by decide +kernel
theorem dX4_chance_63 : decode cX4_chance 63 = .ok (.iaload, 1) := by decide +kernel
theorem dX4_chance_64 : decode cX4_chance 64 = .ok (.iconst (-1), 1) := by decide +kernel
theorem dX4_chance_65 : decode cX4_chance 65 = .ok (.ixor, 1) := by decide +kernel
theorem dX4_chance_66 : decode cX4_chance 66 = .ok (.iand, 1) := by decide +kernel
theorem dX4_chance_67 : decode cX4_chance 67 = .ok (.ifCond .ne 92, 3) := by decide +kernel
theorem dX4_chance_70 : decode cX4_chance 70 = .ok (.aload_n 0, 1) := by decide +kernel
theorem dX4_chance_71 : decode cX4_chance 71 = .ok (.iconst 0, 1) := by decide +kernel
theorem dX4_chance_72 : decode cX4_chance 72 = .ok (.iload 6, 2) := by decide +kernel
theorem dX4_chance_74 : decode cX4_chance 74 = .ok (.aload_n 0, 1) := by decide +kernel
theorem dX4_chance_75 : decode cX4_chance 75 = .ok (.getfield 16, 3) := by decide +kernel
theorem dX4_chance_78 : decode cX4_chance 78 = .ok (.invokestatic 98, 3) := by decide +kernel
theorem dX4_chance_81 : decode cX4_chance 81 = .ok (.invokevirtual 165, 3) := by decide +kernel
theorem dX4_chance_84 : decode cX4_chance 84 = .ok (.ifCond .eq 75, 3) := by decide +kernel
theorem dX4_chance_87 : decode cX4_chance 87 = .ok (.lconst 1, 1) := by decide +kernel
theorem dX4_chance_88 : decode cX4_chance 88 = .ok (.lstore 7, 2) := by decide +kernel
theorem dX4_chance_90 : decode cX4_chance 90 = .ok (.iconst 0, 1) := by decide +kernel
theorem dX4_chance_91 : decode cX4_chance 91 = .ok (.istore 9, 2) := by decide +kernel
theorem dX4_chance_93 : decode cX4_chance 93 = .ok (.iload 9, 2) := by decide +kernel
theorem dX4_chance_95 : decode cX4_chance 95 = .ok (.aload_n 0, 1) := by decide +kernel
theorem dX4_chance_96 : decode cX4_chance 96 = .ok (.getfield 57, 3) := by decide +kernel
theorem dX4_chance_99 : decode cX4_chance 99 = .ok (.if_icmp .ge 53, 3) := by decide +kernel
theorem dX4_chance_102 : decode cX4_chance 102 = .ok (.lload 7, 2) := by decide +kernel
theorem dX4_chance_104 : decode cX4_chance 104 = .ok (.aload_n 0, 1) := by decide +kernel
theorem dX4_chance_105 : decode cX4_chance 105 = .ok (.getfield 16, 3) := by decide +kernel
theorem dX4_chance_108 : decode cX4_chance 108 = .ok (.bipush 22, 2) := by decide +kernel
theorem dX4_chance_110 : decode cX4_chance 110 = .ok (.iaload, 1) := by decide +kernel
theorem dX4_chance_111 : decode cX4_chance 111 = .ok (.iload 9, 2) := by decide +kernel
theorem dX4_chance_113 : decode cX4_chance 113 = .ok (.invokestatic 90, 3) := by decide +kernel
theorem dX4_chance_116 : decode cX4_chance 116 = .ok (.ifCond .ne 7, 3) := by decide +kernel
theorem dX4_chance_119 : decode cX4_chance 119 = .ok (.lconst 1, 1) := by decide +kernel
theorem dX4_chance_120 : decode cX4_chance 120 = .ok (.goto 23, 3) := by decide +kernel
theorem dX4_chance_123 : decode cX4_chance 123 = .ok (.iload 6, 2) := by decide +kernel
theorem dX4_chance_125 : decode cX4_chance 125 = .ok (.iload 9, 2) := by decide +kernel
theorem dX4_chance_127 : decode cX4_chance 127 = .ok (.invokestatic 90, 3) := by decide +kernel
theorem dX4_chance_130 : decode cX4_chance 130 = .ok (.ifCond .eq 8, 3) := by decide +kernel
theorem dX4_chance_133 : decode cX4_chance 133 = .ok (.iload_n 1, 1) := by decide +kernel
theorem dX4_chance_134 : decode cX4_chance 134 = .ok (.i2l, 1) := by decide +kernel
theorem dX4_chance_135 : decode cX4_chance 135 = .ok (.goto 8, 3) := by decide +kernel
theorem dX4_chance_138 : decode cX4_chance 138 = .ok (.bipush 10, 2) := by decide +kernel
theorem dX4_chance_140 : decode cX4_chance 140 = .ok (.iload_n 1, 1) := by decide +kernel
theorem dX4_chance_141 : decode cX4_chance 141 = .ok (.isub, 1) := by decide +kernel
theorem dX4_chance_142 : decode cX4_chance 142 = .ok (.i2l, 1) := by decide +kernel
theorem dX4_chance_143 : decode cX4_chance 143 = .ok (.lmul, 1) := by decide +kernel
theorem dX4_chance_144 : decode cX4_chance 144 = .ok (.lstore 7, 2) := by decide +kernel
theorem dX4_chance_146 : decode cX4_chance 146 = .ok (.iinc 9 1, 3) := by decide +kernel
theorem dX4_chance_149 : decode cX4_chance 149 = .ok (.goto (-56), 3) := by decide +kernel
theorem dX4_chance_152 : decode cX4_chance 152 = .ok (.lload 4, 2) := by decide +kernel
theorem dX4_chance_154 : decode cX4_chance 154 = .ok (.lload 7, 2) := by decide +kernel
theorem dX4_chance_156 : decode cX4_chance 156 = .ok (.ladd, 1) := by decide +kernel
theorem dX4_chance_157 : decode cX4_chance 157 = .ok (.lstore 4, 2) := by decide +kernel
theorem dX4_chance_159 : decode cX4_chance 159 = .ok (.iinc 6 1, 3) := by decide +kernel
theorem dX4_chance_162 : decode cX4_chance 162 = .ok (.goto (-117), 3) := by decide +kernel
theorem dX4_chance_165 : decode cX4_chance 165 = .ok (.lload 4, 2) := by decide +kernel
theorem dX4_chance_167 : decode cX4_chance 167 = .ok (.aload_n 0, 1) := by decide +kernel
theorem dX4_chance_168 : decode cX4_chance 168 = .ok (.getfield 16, 3) := by decide +kernel
theorem dX4_chance_171 : decode cX4_chance 171 = .ok (.bipush 22, 2) := by decide +kernel
theorem dX4_chance_173 : decode cX4_chance 173 = .ok (.iaload, 1) := by decide +kernel
theorem dX4_chance_174 : decode cX4_chance 174 = .ok (.invokestatic 127, 3) := by decide +kernel
theorem dX4_chance_177 : decode cX4_chance 177 = .ok (.invokestatic 133, 3) := by decide +kernel
theorem dX4_chance_180 : decode cX4_chance 180 = .ok (.i2l, 1) := by decide +kernel
theorem dX4_chance_181 : decode cX4_chance 181 = .ok (.iload_n 2, 1) := by decide +kernel
theorem dX4_chance_182 : decode cX4_chance 182 = .ok (.invokestatic 178, 3) := by decide +kernel
theorem dX4_chance_185 : decode cX4_chance 185 = .ok (.ireturn, 1) := by decide +kernel
theorem dX4_seed_0 : decode cX4_seed 0 = .ok (.aload_n 0, 1) := by decide +kernel
theorem dX4_seed_1 : decode cX4_seed 1 = .ok (.iconst 0, 1) := by decide +kernel
theorem dX4_seed_2 : decode cX4_seed 2 = .ok (.putfield 53, 3) := by decide +kernel
theorem dX4_seed_5 : decode cX4_seed 5 = .ok (.aload_n 0, 1) := by decide +kernel
theorem dX4_seed_6 : decode cX4_seed 6 = .ok (.getfield 184, 3) := by decide +kernel
theorem dX4_seed_9 : decode cX4_seed 9 = .ok (.lstore_n 3, 1) := by decide +kernel
theorem dX4_seed_10 : decode cX4_seed 10 = .ok (.aload_n 0, 1) := by decide +kernel
theorem dX4_seed_11 : decode cX4_seed 11 = .ok (.lload_n 1, 1) := by decide +kernel
theorem dX4_seed_12 : decode cX4_seed 12 = .ok (.putfield 184, 3) := by decide +kernel
theorem dX4_seed_15 : decode cX4_seed 15 = .ok (.lload_n 3, 1) := by decide +kernel
theorem dX4_seed_16 : decode cX4_seed 16 = .ok (.lreturn, 1) := by decide +kernel
theorem dX4_hunted_0 : decode cX4_hunted 0 = .ok (.aload_n 0, 1) := by decide +kernel
theorem dX4_hunted_1 : decode cX4_hunted 1 = .ok (.iconst 0, 1) := by decide +kernel
theorem dX4_hunted_2 : decode cX4_hunted 2 = .ok (.putfield 53, 3) := by decide +kernel
theorem dX4_hunted_5 : decode cX4_hunted 5 = .ok (.iload_n 1, 1) := by decide +kernel
theorem dX4_hunted_6 : decode cX4_hunted 6 = .ok (.i2l, 1) := by decide +kernel
theorem dX4_hunted_7 : decode cX4_hunted 7 = .ok (.lconst 1, 1) := by decide +kernel
theorem dX4_hunted_8 : decode cX4_hunted 8 = .ok (.ldc2_w 188, 3) := by decide +kernel
theorem dX4_hunted_11 : decode cX4_hunted 11 = .ok (.invokestatic 60, 3) := by decide +kernel
theorem dX4_hunted_14 : decode cX4_hunted 14 = .ok (.ifCond .ne 6, 3) := by decide +kernel
theorem dX4_hunted_17 : decode cX4_hunted 17 = .ok (.bipush (-2), 2) := by decide +kernel
theorem dX4_hunted_19 : decode cX4_hunted 19 = .ok (.ireturn, 1) := by decide +kernel
theorem dX4_hunted_20 : decode cX4_hunted 20 = .ok (.aload_n 0, 1) := by decide +kernel
theorem dX4_hunted_21 : decode cX4_hunted 21 = .ok (.getfield 57, 3) := by decide +kernel
theorem dX4_hunted_24 : decode cX4_hunted 24 = .ok (.ifCond .ne 6, 3) := by decide +kernel
theorem dX4_hunted_27 : decode cX4_hunted 27 = .ok (.bipush (-3), 2) := by decide +kernel
theorem dX4_hunted_29 : decode cX4_hunted 29 = .ok (.ireturn, 1) := by decide +kernel
theorem dX4_hunted_30 : decode cX4_hunted 30 = .ok (.aload_n 0, 1) := by decide +kernel
theorem dX4_hunted_31 : decode cX4_hunted 31 = .ok (.getfield 16, 3) := by decide +kernel
theorem dX4_hunted_34 : decode cX4_hunted 34 = .ok (.bipush 21, 2) := by decide +kernel
theorem dX4_hunted_36 : decode cX4_hunted 36 = .ok (.iaload, 1) := by decide +kernel
theorem dX4_hunted_37 : decode cX4_hunted 37 = .ok (.istore_n 2, 1) := by decide +kernel
theorem dX4_hunted_38 : decode cX4_hunted 38 = .ok (.iconst 0, 1) := by decide +kernel
theorem dX4_hunted_39 : decode cX4_hunted 39 = .ok (.istore_n 3, 1) := by decide +kernel
theorem dX4_hunted_40 : decode cX4_hunted 40 = .ok (.iload_n 3, 1) := by decide +kernel
theorem dX4_hunted_41 : decode cX4_hunted 41 = .ok (.iload_n 1, 1) := by decide +kernel
theorem dX4_hunted_42 : decode cX4_hunted 42 = .ok (.if_icmp .ge 59, 3) := by decide +kernel
theorem dX4_hunted_45 : decode cX4_hunted 45 = .ok (.aload_n 0, 1) := by decide +kernel
theorem dX4_hunted_46 : decode cX4_hunted 46 = .ok (.aload_n 0, 1) := by decide +kernel
theorem dX4_hunted_47 : decode cX4_hunted 47 = .ok (.getfield 184, 3) := by decide +kernel
theorem dX4_hunted_50 : decode cX4_hunted 50 = .ok (.ldc2_w 190, 3) := by decide +kernel
theorem dX4_hunted_53 : decode cX4_hunted 53 = .ok (.lmul, 1) := by decide +kernel
theorem dX4_hunted_54 : decode cX4_hunted 54 = .ok (.ldc2_w 192, 3) := by decide +kernel
theorem dX4_hunted_57 : decode cX4_hunted 57 = .ok (.ladd, 1) := by decide +kernel
theorem dX4_hunted_58 : decode cX4_hunted 58 = .ok (.putfield 184, 3) := by decide +kernel
theorem dX4_hunted_61 : decode cX4_hunted 61 = .ok (.aload_n 0, 1) := by decide +kernel
theorem dX4_hunted_62 : decode cX4_hunted 62 = .ok (.getfield 184, 3) := by decide +kernel
theorem dX4_hunted_65 : decode cX4_hunted 65 = .ok (.bipush 33, 2) := by decide +kernel
theorem dX4_hunted_67 : decode cX4_hunted 67 = .ok (.lushr, 1) := by decide +kernel
theorem dX4_hunted_68 : decode cX4_hunted 68 = .ok (.aload_n 0, 1) := by decide +kernel
theorem dX4_hunted_69 : decode cX4_hunted 69 = .ok (.getfield 57, 3) := by decide +kernel
theorem dX4_hunted_72 : decode cX4_hunted 72 = .ok (.i2l, 1) := by decide +kernel
theorem dX4_hunted_73 : decode cX4_hunted 73 = .ok (.lrem, 1) := by decide +kernel
theorem dX4_hunted_74 : decode cX4_hunted 74 = .ok (.l2i, 1) := by decide +kernel
theorem dX4_hunted_75 : decode cX4_hunted 75 = .ok (.istore 4, 2) := by decide +kernel
theorem dX4_hunted_77 : decode cX4_hunted 77 = .ok (.iload_n 2, 1) := by decide +kernel
theorem dX4_hunted_78 : decode cX4_hunted 78 = .ok (.iload 4, 2) := by decide +kernel
theorem dX4_hunted_80 : decode cX4_hunted 80 = .ok (.ifCond .ne 7, 3) := by decide +kernel
theorem dX4_hunted_83 : decode cX4_hunted 83 = .ok (.iload_n 2, 1) := by decide +kernel
theorem dX4_hunted_84 : decode cX4_hunted 84 = .ok (.goto 9, 3) := by decide +kernel
theorem dX4_hunted_87 : decode cX4_hunted 87 = .ok (.iconst 1, 1) := by decide +kernel
theorem dX4_hunted_88 : decode cX4_hunted 88 = .ok (.iload 4, 2) := by decide +kernel
theorem dX4_hunted_90 : decode cX4_hunted 90 = .ok (.ishl, 1) := by decide +kernel
theorem dX4_hunted_91 : decode cX4_hunted 91 = .ok (.iconst (-1), 1) := by decide +kernel
theorem dX4_hunted_92 : decode cX4_hunted 92 = .ok (.ixor, 1) := by decide +kernel
theorem dX4_hunted_93 : decode cX4_hunted 93 = .ok (.iand, 1) := by decide +kernel
theorem dX4_hunted_94 : decode cX4_hunted 94 = .ok (.istore_n 2, 1) := by decide +kernel
theorem dX4_hunted_95 : decode cX4_hunted 95 = .ok (.iinc 3 1, 3) := by decide +kernel
theorem dX4_hunted_98 : decode cX4_hunted 98 = .ok (.goto (-58), 3) := by decide +kernel
theorem dX4_hunted_101 : decode cX4_hunted 101 = .ok (.iload_n 2, 1) := by decide +kernel
theorem dX4_hunted_102 : decode cX4_hunted 102 = .ok (.invokestatic 127, 3) := by decide +kernel
theorem dX4_hunted_105 : decode cX4_hunted 105 = .ok (.ireturn, 1) := by decide +kernel
theorem dX4_keep_0 : decode cX4_keep 0 = .ok (.aload_n 0, 1) := by decide +kernel
theorem dX4_keep_1 : decode cX4_keep 1 = .ok (.iconst 0, 1) := by decide +kernel
theorem dX4_keep_2 : decode cX4_keep 2 = .ok (.putfield 53, 3) := by decide +kernel
theorem dX4_keep_5 : decode cX4_keep 5 = .ok (.iload_n 1, 1) := by decide +kernel
theorem dX4_keep_6 : decode cX4_keep 6 = .ok (.i2l, 1) := by decide +kernel
theorem dX4_keep_7 : decode cX4_keep 7 = .ok (.lconst 0, 1) := by decide +kernel
theorem dX4_keep_8 : decode cX4_keep 8 = .ok (.lconst 1, 1) := by decide +kernel
theorem dX4_keep_9 : decode cX4_keep 9 = .ok (.invokestatic 60, 3) := by decide +kernel
theorem dX4_keep_12 : decode cX4_keep 12 = .ok (.ifCond .ne 5, 3) := by decide +kernel
theorem dX4_keep_15 : decode cX4_keep 15 = .ok (.iconst (-1), 1) := by decide +kernel
theorem dX4_keep_16 : decode cX4_keep 16 = .ok (.ireturn, 1) := by decide +kernel
theorem dX4_keep_17 : decode cX4_keep 17 = .ok (.aload_n 0, 1) := by decide +kernel
theorem dX4_keep_18 : decode cX4_keep 18 = .ok (.getfield 31, 3) := by decide +kernel
theorem dX4_keep_21 : decode cX4_keep 21 = .ok (.iload_n 1, 1) := by decide +kernel
theorem dX4_keep_22 : decode cX4_keep 22 = .ok (.iconst 1, 1) := by decide +kernel
theorem dX4_keep_23 : decode cX4_keep 23 = .ok (.bastore, 1) := by decide +kernel
theorem dX4_keep_24 : decode cX4_keep 24 = .ok (.iconst 0, 1) := by decide +kernel
theorem dX4_keep_25 : decode cX4_keep 25 = .ok (.istore_n 2, 1) := by decide +kernel
theorem dX4_keep_26 : decode cX4_keep 26 = .ok (.iload_n 2, 1) := by decide +kernel
theorem dX4_keep_27 : decode cX4_keep 27 = .ok (.bipush 25, 2) := by decide +kernel
theorem dX4_keep_29 : decode cX4_keep 29 = .ok (.if_icmp .ge 26, 3) := by decide +kernel
theorem dX4_keep_32 : decode cX4_keep 32 = .ok (.aload_n 0, 1) := by decide +kernel
theorem dX4_keep_33 : decode cX4_keep 33 = .ok (.getfield 28, 3) := by decide +kernel
theorem dX4_keep_36 : decode cX4_keep 36 = .ok (.bipush 25, 2) := by decide +kernel
theorem dX4_keep_38 : decode cX4_keep 38 = .ok (.iload_n 1, 1) := by decide +kernel
theorem dX4_keep_39 : decode cX4_keep 39 = .ok (.imul, 1) := by decide +kernel
theorem dX4_keep_40 : decode cX4_keep 40 = .ok (.iload_n 2, 1) := by decide +kernel
theorem dX4_keep_41 : decode cX4_keep 41 = .ok (.iadd, 1) := by decide +kernel
theorem dX4_keep_42 : decode cX4_keep 42 = .ok (.aload_n 0, 1) := by decide +kernel
theorem dX4_keep_43 : decode cX4_keep 43 = .ok (.getfield 16, 3) := by decide +kernel
theorem dX4_keep_46 : decode cX4_keep 46 = .ok (.iload_n 2, 1) := by decide +kernel
theorem dX4_keep_47 : decode cX4_keep 47 = .ok (.iaload, 1) := by decide +kernel
theorem dX4_keep_48 : decode cX4_keep 48 = .ok (.iastore, 1) := by decide +kernel
theorem dX4_keep_49 : decode cX4_keep 49 = .ok (.iinc 2 1, 3) := by decide +kernel
theorem dX4_keep_52 : decode cX4_keep 52 = .ok (.goto (-26), 3) := by decide +kernel
theorem dX4_keep_55 : decode cX4_keep 55 = .ok (.aload_n 0, 1) := by decide +kernel
theorem dX4_keep_56 : decode cX4_keep 56 = .ok (.getfield 16, 3) := by decide +kernel
theorem dX4_keep_59 : decode cX4_keep 59 = .ok (.bipush 21, 2) := by decide +kernel
theorem dX4_keep_61 : decode cX4_keep 61 = .ok (.iaload, 1) := by decide +kernel
theorem dX4_keep_62 : decode cX4_keep 62 = .ok (.invokestatic 127, 3) := by decide +kernel
theorem dX4_keep_65 : decode cX4_keep 65 = .ok (.ireturn, 1) := by decide +kernel
theorem dX4_again_0 : decode cX4_again 0 = .ok (.aload_n 0, 1) := by decide +kernel
theorem dX4_again_1 : decode cX4_again 1 = .ok (.iconst 0, 1) := by decide +kernel
theorem dX4_again_2 : decode cX4_again 2 = .ok (.putfield 53, 3) := by decide +kernel
theorem dX4_again_5 : decode cX4_again 5 = .ok (.iload_n 1, 1) := by decide +kernel
theorem dX4_again_6 : decode cX4_again 6 = .ok (.i2l, 1) := by decide +kernel
theorem dX4_again_7 : decode cX4_again 7 = .ok (.lconst 0, 1) := by decide +kernel
theorem dX4_again_8 : decode cX4_again 8 = .ok (.lconst 1, 1) := by decide +kernel
theorem dX4_again_9 : decode cX4_again 9 = .ok (.invokestatic 60, 3) := by decide +kernel
theorem dX4_again_12 : decode cX4_again 12 = .ok (.ifCond .ne 5, 3) := by decide +kernel
theorem dX4_again_15 : decode cX4_again 15 = .ok (.iconst (-1), 1) := by decide +kernel
theorem dX4_again_16 : decode cX4_again 16 = .ok (.ireturn, 1) := by decide +kernel
theorem dX4_again_17 : decode cX4_again 17 = .ok (.aload_n 0, 1) := by decide +kernel
theorem dX4_again_18 : decode cX4_again 18 = .ok (.getfield 31, 3) := by decide +kernel
theorem dX4_again_21 : decode cX4_again 21 = .ok (.iload_n 1, 1) := by decide +kernel
theorem dX4_again_22 : decode cX4_again 22 = .ok (.baload, 1) := by decide +kernel
theorem dX4_again_23 : decode cX4_again 23 = .ok (.ifCond .ne 6, 3) := by decide +kernel
theorem dX4_again_26 : decode cX4_again 26 = .ok (.bipush (-3), 2) := by decide +kernel
theorem dX4_again_28 : decode cX4_again 28 = .ok (.ireturn, 1) := by decide +kernel
theorem dX4_again_29 : decode cX4_again 29 = .ok (.iconst 0, 1) := by decide +kernel
theorem dX4_again_30 : decode cX4_again 30 = .ok (.istore_n 2, 1) := by decide +kernel
theorem dX4_again_31 : decode cX4_again 31 = .ok (.iload_n 2, 1) := by decide +kernel
theorem dX4_again_32 : decode cX4_again 32 = .ok (.bipush 25, 2) := by decide +kernel
theorem dX4_again_34 : decode cX4_again 34 = .ok (.if_icmp .ge 26, 3) := by decide +kernel
theorem dX4_again_37 : decode cX4_again 37 = .ok (.aload_n 0, 1) := by decide +kernel
theorem dX4_again_38 : decode cX4_again 38 = .ok (.getfield 16, 3) := by decide +kernel
theorem dX4_again_41 : decode cX4_again 41 = .ok (.iload_n 2, 1) := by decide +kernel
theorem dX4_again_42 : decode cX4_again 42 = .ok (.aload_n 0, 1) := by decide +kernel
theorem dX4_again_43 : decode cX4_again 43 = .ok (.getfield 28, 3) := by decide +kernel
theorem dX4_again_46 : decode cX4_again 46 = .ok (.bipush 25, 2) := by decide +kernel
theorem dX4_again_48 : decode cX4_again 48 = .ok (.iload_n 1, 1) := by decide +kernel
theorem dX4_again_49 : decode cX4_again 49 = .ok (.imul, 1) := by decide +kernel
theorem dX4_again_50 : decode cX4_again 50 = .ok (.iload_n 2, 1) := by decide +kernel
theorem dX4_again_51 : decode cX4_again 51 = .ok (.iadd, 1) := by decide +kernel
theorem dX4_again_52 : decode cX4_again 52 = .ok (.iaload, 1) := by decide +kernel
theorem dX4_again_53 : decode cX4_again 53 = .ok (.iastore, 1) := by decide +kernel
theorem dX4_again_54 : decode cX4_again 54 = .ok (.iinc 2 1, 3) := by decide +kernel
theorem dX4_again_57 : decode cX4_again 57 = .ok (.goto (-26), 3) := by decide +kernel
theorem dX4_again_60 : decode cX4_again 60 = .ok (.aload_n 0, 1) := by decide +kernel
theorem dX4_again_61 : decode cX4_again 61 = .ok (.iconst 0, 1) := by decide +kernel
theorem dX4_again_62 : decode cX4_again 62 = .ok (.putfield 87, 3) := by decide +kernel
theorem dX4_again_65 : decode cX4_again 65 = .ok (.aload_n 0, 1) := by decide +kernel
theorem dX4_again_66 : decode cX4_again 66 = .ok (.getfield 16, 3) := by decide +kernel
theorem dX4_again_69 : decode cX4_again 69 = .ok (.bipush 21, 2) := by decide +kernel
theorem dX4_again_71 : decode cX4_again 71 = .ok (.iaload, 1) := by decide +kernel
theorem dX4_again_72 : decode cX4_again 72 = .ok (.invokestatic 127, 3) := by decide +kernel
theorem dX4_again_75 : decode cX4_again 75 = .ok (.ireturn, 1) := by decide +kernel
