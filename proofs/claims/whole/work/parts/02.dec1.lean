/-! decode rows (printed) -/
theorem dX0_init_0 : decode cX0_init 0 = .ok (.aload_n 0, 1) := by decide +kernel
theorem dX0_init_1 : decode cX0_init 1 = .ok (.invokespecial 3, 3) := by decide +kernel
theorem dX0_init_4 : decode cX0_init 4 = .ok (.aload_n 0, 1) := by decide +kernel
theorem dX0_init_5 : decode cX0_init 5 = .ok (.bipush 15, 2) := by decide +kernel
theorem dX0_init_7 : decode cX0_init 7 = .ok (.newarray .int, 2) := by decide +kernel
theorem dX0_init_9 : decode cX0_init 9 = .ok (.putfield 11, 3) := by decide +kernel
theorem dX0_init_12 : decode cX0_init 12 = .ok (.aload_n 0, 1) := by decide +kernel
theorem dX0_init_13 : decode cX0_init 13 = .ok (.bipush 6, 2) := by decide +kernel
theorem dX0_init_15 : decode cX0_init 15 = .ok (.newarray .int, 2) := by decide +kernel
theorem dX0_init_17 : decode cX0_init 17 = .ok (.putfield 15, 3) := by decide +kernel
theorem dX0_init_20 : decode cX0_init 20 = .ok (.aload_n 0, 1) := by decide +kernel
theorem dX0_init_21 : decode cX0_init 21 = .ok (.sipush 243, 3) := by decide +kernel
theorem dX0_init_24 : decode cX0_init 24 = .ok (.newarray .int, 2) := by decide +kernel
theorem dX0_init_26 : decode cX0_init 26 = .ok (.putfield 18, 3) := by decide +kernel
theorem dX0_init_29 : decode cX0_init 29 = .ok (.aload_n 0, 1) := by decide +kernel
theorem dX0_init_30 : decode cX0_init 30 = .ok (.iconst 0, 1) := by decide +kernel
theorem dX0_init_31 : decode cX0_init 31 = .ok (.putfield 21, 3) := by decide +kernel
theorem dX0_init_34 : decode cX0_init 34 = .ok (.aload_n 0, 1) := by decide +kernel
theorem dX0_init_35 : decode cX0_init 35 = .ok (.iconst 0, 1) := by decide +kernel
theorem dX0_init_36 : decode cX0_init 36 = .ok (.putfield 25, 3) := by decide +kernel
theorem dX0_init_39 : decode cX0_init 39 = .ok (.return_, 1) := by decide +kernel
theorem dX0_solve_0 : decode cX0_solve 0 = .ok (.aload_n 0, 1) := by decide +kernel
theorem dX0_solve_1 : decode cX0_solve 1 = .ok (.aload_n 1, 1) := by decide +kernel
theorem dX0_solve_2 : decode cX0_solve 2 = .ok (.invokevirtual 28, 3) := by decide +kernel
theorem dX0_solve_5 : decode cX0_solve 5 = .ok (.iconst 0, 1) := by decide +kernel
theorem dX0_solve_6 : decode cX0_solve 6 = .ok (.istore_n 2, 1) := by decide +kernel
theorem dX0_solve_7 : decode cX0_solve 7 = .ok (.iload_n 2, 1) := by decide +kernel
theorem dX0_solve_8 : decode cX0_solve 8 = .ok (.getstatic 32, 3) := by decide +kernel
theorem dX0_solve_11 : decode cX0_solve 11 = .ok (.aload_n 0, 1) := by decide +kernel
theorem dX0_solve_12 : decode cX0_solve 12 = .ok (.getfield 21, 3) := by decide +kernel
theorem dX0_solve_15 : decode cX0_solve 15 = .ok (.iaload, 1) := by decide +kernel
theorem dX0_solve_16 : decode cX0_solve 16 = .ok (.if_icmp .ge 16, 3) := by decide +kernel
theorem dX0_solve_19 : decode cX0_solve 19 = .ok (.aload_n 0, 1) := by decide +kernel
theorem dX0_solve_20 : decode cX0_solve 20 = .ok (.getfield 18, 3) := by decide +kernel
theorem dX0_solve_23 : decode cX0_solve 23 = .ok (.iload_n 2, 1) := by decide +kernel
theorem dX0_solve_24 : decode cX0_solve 24 = .ok (.iload_n 2, 1) := by decide +kernel
theorem dX0_solve_25 : decode cX0_solve 25 = .ok (.iastore, 1) := by decide +kernel
theorem dX0_solve_26 : decode cX0_solve 26 = .ok (.iinc 2 1, 3) := by decide +kernel
theorem dX0_solve_29 : decode cX0_solve 29 = .ok (.goto (-22), 3) := by decide +kernel
theorem dX0_solve_32 : decode cX0_solve 32 = .ok (.aload_n 0, 1) := by decide +kernel
theorem dX0_solve_33 : decode cX0_solve 33 = .ok (.getfield 21, 3) := by decide +kernel
theorem dX0_solve_36 : decode cX0_solve 36 = .ok (.iconst 1, 1) := by decide +kernel
theorem dX0_solve_37 : decode cX0_solve 37 = .ok (.isub, 1) := by decide +kernel
theorem dX0_solve_38 : decode cX0_solve 38 = .ok (.istore_n 2, 1) := by decide +kernel
theorem dX0_solve_39 : decode cX0_solve 39 = .ok (.iload_n 2, 1) := by decide +kernel
theorem dX0_solve_40 : decode cX0_solve 40 = .ok (.ifCond .lt 38, 3) := by decide +kernel
theorem dX0_solve_43 : decode cX0_solve 43 = .ok (.iconst 0, 1) := by decide +kernel
theorem dX0_solve_44 : decode cX0_solve 44 = .ok (.istore_n 3, 1) := by decide +kernel
theorem dX0_solve_45 : decode cX0_solve 45 = .ok (.iload_n 3, 1) := by decide +kernel
theorem dX0_solve_46 : decode cX0_solve 46 = .ok (.getstatic 32, 3) := by decide +kernel
theorem dX0_solve_49 : decode cX0_solve 49 = .ok (.iload_n 2, 1) := by decide +kernel
theorem dX0_solve_50 : decode cX0_solve 50 = .ok (.iaload, 1) := by decide +kernel
theorem dX0_solve_51 : decode cX0_solve 51 = .ok (.if_icmp .ge 21, 3) := by decide +kernel
theorem dX0_solve_54 : decode cX0_solve 54 = .ok (.aload_n 0, 1) := by decide +kernel
theorem dX0_solve_55 : decode cX0_solve 55 = .ok (.getfield 18, 3) := by decide +kernel
theorem dX0_solve_58 : decode cX0_solve 58 = .ok (.iload_n 3, 1) := by decide +kernel
theorem dX0_solve_59 : decode cX0_solve 59 = .ok (.aload_n 0, 1) := by decide +kernel
theorem dX0_solve_60 : decode cX0_solve 60 = .ok (.iload_n 2, 1) := by decide +kernel
theorem dX0_solve_61 : decode cX0_solve 61 = .ok (.iload_n 3, 1) := by decide +kernel
theorem dX0_solve_62 : decode cX0_solve 62 = .ok (.invokevirtual 35, 3) := by decide +kernel
theorem dX0_solve_65 : decode cX0_solve 65 = .ok (.iastore, 1) := by decide +kernel
theorem dX0_solve_66 : decode cX0_solve 66 = .ok (.iinc 3 1, 3) := by decide +kernel
theorem dX0_solve_69 : decode cX0_solve 69 = .ok (.goto (-24), 3) := by decide +kernel
theorem dX0_solve_72 : decode cX0_solve 72 = .ok (.iinc 2 (-1), 3) := by decide +kernel
theorem dX0_solve_75 : decode cX0_solve 75 = .ok (.goto (-36), 3) := by decide +kernel
theorem dX0_solve_78 : decode cX0_solve 78 = .ok (.return_, 1) := by decide +kernel
theorem dX0_meet_0 : decode cX0_meet 0 = .ok (.aload_n 0, 1) := by decide +kernel
theorem dX0_meet_1 : decode cX0_meet 1 = .ok (.aload_n 1, 1) := by decide +kernel
theorem dX0_meet_2 : decode cX0_meet 2 = .ok (.iconst 0, 1) := by decide +kernel
theorem dX0_meet_3 : decode cX0_meet 3 = .ok (.invokevirtual 39, 3) := by decide +kernel
theorem dX0_meet_6 : decode cX0_meet 6 = .ok (.putfield 25, 3) := by decide +kernel
theorem dX0_meet_9 : decode cX0_meet 9 = .ok (.aload_n 0, 1) := by decide +kernel
theorem dX0_meet_10 : decode cX0_meet 10 = .ok (.iconst 0, 1) := by decide +kernel
theorem dX0_meet_11 : decode cX0_meet 11 = .ok (.putfield 21, 3) := by decide +kernel
theorem dX0_meet_14 : decode cX0_meet 14 = .ok (.iconst 1, 1) := by decide +kernel
theorem dX0_meet_15 : decode cX0_meet 15 = .ok (.istore_n 2, 1) := by decide +kernel
theorem dX0_meet_16 : decode cX0_meet 16 = .ok (.iload_n 2, 1) := by decide +kernel
theorem dX0_meet_17 : decode cX0_meet 17 = .ok (.aload_n 1, 1) := by decide +kernel
theorem dX0_meet_18 : decode cX0_meet 18 = .ok (.getfield 45, 3) := by decide +kernel
theorem dX0_meet_21 : decode cX0_meet 21 = .ok (.if_icmp .ge 69, 3) := by decide +kernel
theorem dX0_meet_24 : decode cX0_meet 24 = .ok (.aload_n 1, 1) := by decide +kernel
theorem dX0_meet_25 : decode cX0_meet 25 = .ok (.iload_n 2, 1) := by decide +kernel
theorem dX0_meet_26 : decode cX0_meet 26 = .ok (.invokevirtual 48, 3) := by decide +kernel
theorem dX0_meet_29 : decode cX0_meet 29 = .ok (.ifCond .eq 55, 3) := by decide +kernel
theorem dX0_meet_32 : decode cX0_meet 32 = .ok (.aload_n 0, 1) := by decide +kernel
theorem dX0_meet_33 : decode cX0_meet 33 = .ok (.getfield 15, 3) := by decide +kernel
theorem dX0_meet_36 : decode cX0_meet 36 = .ok (.iload_n 2, 1) := by decide +kernel
theorem dX0_meet_37 : decode cX0_meet 37 = .ok (.aload_n 0, 1) := by decide +kernel
theorem dX0_meet_38 : decode cX0_meet 38 = .ok (.getfield 21, 3) := by decide +kernel
theorem dX0_meet_41 : decode cX0_meet 41 = .ok (.iastore, 1) := by decide +kernel
theorem dX0_meet_42 : decode cX0_meet 42 = .ok (.iconst 0, 1) := by decide +kernel
theorem dX0_meet_43 : decode cX0_meet 43 = .ok (.istore_n 3, 1) := by decide +kernel
theorem dX0_meet_44 : decode cX0_meet 44 = .ok (.iload_n 3, 1) := by decide +kernel
theorem dX0_meet_45 : decode cX0_meet 45 = .ok (.iconst 3, 1) := by decide +kernel
theorem dX0_meet_46 : decode cX0_meet 46 = .ok (.if_icmp .ge 28, 3) := by decide +kernel
theorem dX0_meet_49 : decode cX0_meet 49 = .ok (.aload_n 0, 1) := by decide +kernel
theorem dX0_meet_50 : decode cX0_meet 50 = .ok (.getfield 11, 3) := by decide +kernel
theorem dX0_meet_53 : decode cX0_meet 53 = .ok (.aload_n 0, 1) := by decide +kernel
theorem dX0_meet_54 : decode cX0_meet 54 = .ok (.getfield 21, 3) := by decide +kernel
theorem dX0_meet_57 : decode cX0_meet 57 = .ok (.iconst 3, 1) := by decide +kernel
theorem dX0_meet_58 : decode cX0_meet 58 = .ok (.imul, 1) := by decide +kernel
theorem dX0_meet_59 : decode cX0_meet 59 = .ok (.iload_n 3, 1) := by decide +kernel
theorem dX0_meet_60 : decode cX0_meet 60 = .ok (.iadd, 1) := by decide +kernel
theorem dX0_meet_61 : decode cX0_meet 61 = .ok (.aload_n 1, 1) := by decide +kernel
theorem dX0_meet_62 : decode cX0_meet 62 = .ok (.iload_n 2, 1) := by decide +kernel
theorem dX0_meet_63 : decode cX0_meet 63 = .ok (.iload_n 3, 1) := by decide +kernel
theorem dX0_meet_64 : decode cX0_meet 64 = .ok (.invokevirtual 52, 3) := by decide +kernel
theorem dX0_meet_67 : decode cX0_meet 67 = .ok (.iastore, 1) := by decide +kernel
theorem dX0_meet_68 : decode cX0_meet 68 = .ok (.iinc 3 1, 3) := by decide +kernel
theorem dX0_meet_71 : decode cX0_meet 71 = .ok (.goto (-27), 3) := by decide +kernel
theorem dX0_meet_74 : decode cX0_meet 74 = .ok (.aload_n 0, 1) := by decide +kernel
theorem dX0_meet_75 : decode cX0_meet 75 = .ok (.dup, 1) := by decide +kernel
theorem dX0_meet_76 : decode cX0_meet 76 = .ok (.getfield 21, 3) := by decide +kernel
theorem dX0_meet_79 : decode cX0_meet 79 = .ok (.iconst 1, 1) := by decide +kernel
theorem dX0_meet_80 : decode cX0_meet 80 = .ok (.iadd, 1) := by decide +kernel
theorem dX0_meet_81 : decode cX0_meet 81 = .ok (.putfield 21, 3) := by decide +kernel
theorem dX0_meet_84 : decode cX0_meet 84 = .ok (.iinc 2 1, 3) := by decide +kernel
theorem dX0_meet_87 : decode cX0_meet 87 = .ok (.goto (-71), 3) := by decide +kernel
theorem dX0_meet_90 : decode cX0_meet 90 = .ok (.return_, 1) := by decide +kernel
theorem dX0_bestEnd_0 : decode cX0_bestEnd 0 = .ok (.aload_n 0, 1) := by decide +kernel
theorem dX0_bestEnd_1 : decode cX0_bestEnd 1 = .ok (.getfield 18, 3) := by decide +kernel
theorem dX0_bestEnd_4 : decode cX0_bestEnd 4 = .ok (.iload_n 2, 1) := by decide +kernel
theorem dX0_bestEnd_5 : decode cX0_bestEnd 5 = .ok (.iconst 3, 1) := by decide +kernel
theorem dX0_bestEnd_6 : decode cX0_bestEnd 6 = .ok (.imul, 1) := by decide +kernel
theorem dX0_bestEnd_7 : decode cX0_bestEnd 7 = .ok (.iaload, 1) := by decide +kernel
theorem dX0_bestEnd_8 : decode cX0_bestEnd 8 = .ok (.istore_n 3, 1) := by decide +kernel
theorem dX0_bestEnd_9 : decode cX0_bestEnd 9 = .ok (.iconst 1, 1) := by decide +kernel
theorem dX0_bestEnd_10 : decode cX0_bestEnd 10 = .ok (.istore 4, 2) := by decide +kernel
theorem dX0_bestEnd_12 : decode cX0_bestEnd 12 = .ok (.iload 4, 2) := by decide +kernel
theorem dX0_bestEnd_14 : decode cX0_bestEnd 14 = .ok (.iconst 3, 1) := by decide +kernel
theorem dX0_bestEnd_15 : decode cX0_bestEnd 15 = .ok (.if_icmp .ge 41, 3) := by decide +kernel
theorem dX0_bestEnd_18 : decode cX0_bestEnd 18 = .ok (.aload_n 0, 1) := by decide +kernel
theorem dX0_bestEnd_19 : decode cX0_bestEnd 19 = .ok (.getfield 18, 3) := by decide +kernel
theorem dX0_bestEnd_22 : decode cX0_bestEnd 22 = .ok (.iload_n 2, 1) := by decide +kernel
theorem dX0_bestEnd_23 : decode cX0_bestEnd 23 = .ok (.iconst 3, 1) := by decide +kernel
theorem dX0_bestEnd_24 : decode cX0_bestEnd 24 = .ok (.imul, 1) := by decide +kernel
theorem dX0_bestEnd_25 : decode cX0_bestEnd 25 = .ok (.iload 4, 2) := by decide +kernel
theorem dX0_bestEnd_27 : decode cX0_bestEnd 27 = .ok (.iadd, 1) := by decide +kernel
theorem dX0_bestEnd_28 : decode cX0_bestEnd 28 = .ok (.iaload, 1) := by decide +kernel
theorem dX0_bestEnd_29 : decode cX0_bestEnd 29 = .ok (.istore 5, 2) := by decide +kernel
theorem dX0_bestEnd_31 : decode cX0_bestEnd 31 = .ok (.aload_n 0, 1) := by decide +kernel
theorem dX0_bestEnd_32 : decode cX0_bestEnd 32 = .ok (.iload 5, 2) := by decide +kernel
theorem dX0_bestEnd_34 : decode cX0_bestEnd 34 = .ok (.iload_n 1, 1) := by decide +kernel
theorem dX0_bestEnd_35 : decode cX0_bestEnd 35 = .ok (.invokevirtual 55, 3) := by decide +kernel
theorem dX0_bestEnd_38 : decode cX0_bestEnd 38 = .ok (.aload_n 0, 1) := by decide +kernel
theorem dX0_bestEnd_39 : decode cX0_bestEnd 39 = .ok (.iload_n 3, 1) := by decide +kernel
theorem dX0_bestEnd_40 : decode cX0_bestEnd 40 = .ok (.iload_n 1, 1) := by decide +kernel
theorem dX0_bestEnd_41 : decode cX0_bestEnd 41 = .ok (.invokevirtual 55, 3) := by decide +kernel
theorem dX0_bestEnd_44 : decode cX0_bestEnd 44 = .ok (.if_icmp .le 6, 3) := by decide +kernel
theorem dX0_bestEnd_47 : decode cX0_bestEnd 47 = .ok (.iload 5, 2) := by decide +kernel
theorem dX0_bestEnd_49 : decode cX0_bestEnd 49 = .ok (.istore_n 3, 1) := by decide +kernel
theorem dX0_bestEnd_50 : decode cX0_bestEnd 50 = .ok (.iinc 4 1, 3) := by decide +kernel
theorem dX0_bestEnd_53 : decode cX0_bestEnd 53 = .ok (.goto (-41), 3) := by decide +kernel
theorem dX0_bestEnd_56 : decode cX0_bestEnd 56 = .ok (.iload_n 3, 1) := by decide +kernel
theorem dX0_bestEnd_57 : decode cX0_bestEnd 57 = .ok (.ireturn, 1) := by decide +kernel
theorem dX0_worthAt_0 : decode cX0_worthAt 0 = .ok (.aload_n 0, 1) := by decide +kernel
theorem dX0_worthAt_1 : decode cX0_worthAt 1 = .ok (.iload_n 1, 1) := by decide +kernel
theorem dX0_worthAt_2 : decode cX0_worthAt 2 = .ok (.iload_n 2, 1) := by decide +kernel
theorem dX0_worthAt_3 : decode cX0_worthAt 3 = .ok (.invokevirtual 58, 3) := by decide +kernel
theorem dX0_worthAt_6 : decode cX0_worthAt 6 = .ok (.istore_n 3, 1) := by decide +kernel
theorem dX0_worthAt_7 : decode cX0_worthAt 7 = .ok (.aload_n 0, 1) := by decide +kernel
theorem dX0_worthAt_8 : decode cX0_worthAt 8 = .ok (.getfield 25, 3) := by decide +kernel
theorem dX0_worthAt_11 : decode cX0_worthAt 11 = .ok (.iload_n 3, 1) := by decide +kernel
theorem dX0_worthAt_12 : decode cX0_worthAt 12 = .ok (.if_icmp .le 5, 3) := by decide +kernel
theorem dX0_worthAt_15 : decode cX0_worthAt 15 = .ok (.iload_n 3, 1) := by decide +kernel
theorem dX0_worthAt_16 : decode cX0_worthAt 16 = .ok (.ireturn, 1) := by decide +kernel
theorem dX0_worthAt_17 : decode cX0_worthAt 17 = .ok (.iconst 0, 1) := by decide +kernel
theorem dX0_worthAt_18 : decode cX0_worthAt 18 = .ok (.istore 4, 2) := by decide +kernel
theorem dX0_worthAt_20 : decode cX0_worthAt 20 = .ok (.iload 4, 2) := by decide +kernel
theorem dX0_worthAt_22 : decode cX0_worthAt 22 = .ok (.aload_n 0, 1) := by decide +kernel
theorem dX0_worthAt_23 : decode cX0_worthAt 23 = .ok (.getfield 21, 3) := by decide +kernel
theorem dX0_worthAt_26 : decode cX0_worthAt 26 = .ok (.if_icmp .ge 22, 3) := by decide +kernel
theorem dX0_worthAt_29 : decode cX0_worthAt 29 = .ok (.aload_n 0, 1) := by decide +kernel
theorem dX0_worthAt_30 : decode cX0_worthAt 30 = .ok (.iload_n 1, 1) := by decide +kernel
theorem dX0_worthAt_31 : decode cX0_worthAt 31 = .ok (.iload 4, 2) := by decide +kernel
theorem dX0_worthAt_33 : decode cX0_worthAt 33 = .ok (.invokevirtual 58, 3) := by decide +kernel
theorem dX0_worthAt_36 : decode cX0_worthAt 36 = .ok (.iload_n 3, 1) := by decide +kernel
theorem dX0_worthAt_37 : decode cX0_worthAt 37 = .ok (.if_icmp .le 5, 3) := by decide +kernel
theorem dX0_worthAt_40 : decode cX0_worthAt 40 = .ok (.iload_n 3, 1) := by decide +kernel
theorem dX0_worthAt_41 : decode cX0_worthAt 41 = .ok (.ireturn, 1) := by decide +kernel
theorem dX0_worthAt_42 : decode cX0_worthAt 42 = .ok (.iinc 4 1, 3) := by decide +kernel
theorem dX0_worthAt_45 : decode cX0_worthAt 45 = .ok (.goto (-25), 3) := by decide +kernel
theorem dX0_worthAt_48 : decode cX0_worthAt 48 = .ok (.iconst (-1), 1) := by decide +kernel
theorem dX0_worthAt_49 : decode cX0_worthAt 49 = .ok (.ireturn, 1) := by decide +kernel
theorem dX0_valueAt_0 : decode cX0_valueAt 0 = .ok (.aload_n 0, 1) := by decide +kernel
theorem dX0_valueAt_1 : decode cX0_valueAt 1 = .ok (.getfield 11, 3) := by decide +kernel
theorem dX0_valueAt_4 : decode cX0_valueAt 4 = .ok (.iload_n 2, 1) := by decide +kernel
theorem dX0_valueAt_5 : decode cX0_valueAt 5 = .ok (.iconst 3, 1) := by decide +kernel
theorem dX0_valueAt_6 : decode cX0_valueAt 6 = .ok (.imul, 1) := by decide +kernel
theorem dX0_valueAt_7 : decode cX0_valueAt 7 = .ok (.aload_n 0, 1) := by decide +kernel
theorem dX0_valueAt_8 : decode cX0_valueAt 8 = .ok (.iload_n 1, 1) := by decide +kernel
theorem dX0_valueAt_9 : decode cX0_valueAt 9 = .ok (.iload_n 2, 1) := by decide +kernel
theorem dX0_valueAt_10 : decode cX0_valueAt 10 = .ok (.invokevirtual 61, 3) := by decide +kernel
theorem dX0_valueAt_13 : decode cX0_valueAt 13 = .ok (.iadd, 1) := by decide +kernel
theorem dX0_valueAt_14 : decode cX0_valueAt 14 = .ok (.iaload, 1) := by decide +kernel
theorem dX0_valueAt_15 : decode cX0_valueAt 15 = .ok (.ireturn, 1) := by decide +kernel
theorem dX0_choiceAt_0 : decode cX0_choiceAt 0 = .ok (.iload_n 1, 1) := by decide +kernel
theorem dX0_choiceAt_1 : decode cX0_choiceAt 1 = .ok (.getstatic 32, 3) := by decide +kernel
theorem dX0_choiceAt_4 : decode cX0_choiceAt 4 = .ok (.aload_n 0, 1) := by decide +kernel
theorem dX0_choiceAt_5 : decode cX0_choiceAt 5 = .ok (.getfield 21, 3) := by decide +kernel
theorem dX0_choiceAt_8 : decode cX0_choiceAt 8 = .ok (.iconst 1, 1) := by decide +kernel
theorem dX0_choiceAt_9 : decode cX0_choiceAt 9 = .ok (.isub, 1) := by decide +kernel
theorem dX0_choiceAt_10 : decode cX0_choiceAt 10 = .ok (.iload_n 2, 1) := by decide +kernel
theorem dX0_choiceAt_11 : decode cX0_choiceAt 11 = .ok (.isub, 1) := by decide +kernel
theorem dX0_choiceAt_12 : decode cX0_choiceAt 12 = .ok (.iaload, 1) := by decide +kernel
theorem dX0_choiceAt_13 : decode cX0_choiceAt 13 = .ok (.idiv, 1) := by decide +kernel
theorem dX0_choiceAt_14 : decode cX0_choiceAt 14 = .ok (.iconst 3, 1) := by decide +kernel
theorem dX0_choiceAt_15 : decode cX0_choiceAt 15 = .ok (.irem, 1) := by decide +kernel
theorem dX0_choiceAt_16 : decode cX0_choiceAt 16 = .ok (.ireturn, 1) := by decide +kernel
theorem dX0_choiceOf_0 : decode cX0_choiceOf 0 = .ok (.aload_n 0, 1) := by decide +kernel
theorem dX0_choiceOf_1 : decode cX0_choiceOf 1 = .ok (.aload_n 0, 1) := by decide +kernel
theorem dX0_choiceOf_2 : decode cX0_choiceOf 2 = .ok (.getfield 18, 3) := by decide +kernel
theorem dX0_choiceOf_5 : decode cX0_choiceOf 5 = .ok (.iconst 0, 1) := by decide +kernel
theorem dX0_choiceOf_6 : decode cX0_choiceOf 6 = .ok (.iaload, 1) := by decide +kernel
theorem dX0_choiceOf_7 : decode cX0_choiceOf 7 = .ok (.aload_n 0, 1) := by decide +kernel
theorem dX0_choiceOf_8 : decode cX0_choiceOf 8 = .ok (.getfield 15, 3) := by decide +kernel
theorem dX0_choiceOf_11 : decode cX0_choiceOf 11 = .ok (.iload_n 1, 1) := by decide +kernel
theorem dX0_choiceOf_12 : decode cX0_choiceOf 12 = .ok (.iaload, 1) := by decide +kernel
theorem dX0_choiceOf_13 : decode cX0_choiceOf 13 = .ok (.invokevirtual 61, 3) := by decide +kernel
theorem dX0_choiceOf_16 : decode cX0_choiceOf 16 = .ok (.ireturn, 1) := by decide +kernel
theorem dX0_endOf_0 : decode cX0_endOf 0 = .ok (.aload_n 0, 1) := by decide +kernel
theorem dX0_endOf_1 : decode cX0_endOf 1 = .ok (.aload_n 0, 1) := by decide +kernel
theorem dX0_endOf_2 : decode cX0_endOf 2 = .ok (.getfield 18, 3) := by decide +kernel
theorem dX0_endOf_5 : decode cX0_endOf 5 = .ok (.iconst 0, 1) := by decide +kernel
theorem dX0_endOf_6 : decode cX0_endOf 6 = .ok (.iaload, 1) := by decide +kernel
theorem dX0_endOf_7 : decode cX0_endOf 7 = .ok (.aload_n 0, 1) := by decide +kernel
theorem dX0_endOf_8 : decode cX0_endOf 8 = .ok (.getfield 15, 3) := by decide +kernel
theorem dX0_endOf_11 : decode cX0_endOf 11 = .ok (.iload_n 1, 1) := by decide +kernel
theorem dX0_endOf_12 : decode cX0_endOf 12 = .ok (.iaload, 1) := by decide +kernel
theorem dX0_endOf_13 : decode cX0_endOf 13 = .ok (.invokevirtual 55, 3) := by decide +kernel
theorem dX0_endOf_16 : decode cX0_endOf 16 = .ok (.ireturn, 1) := by decide +kernel
theorem dX1_init_0 : decode cX1_init 0 = .ok (.aload_n 0, 1) := by decide +kernel
theorem dX1_init_1 : decode cX1_init 1 = .ok (.invokespecial 5, 3) := by decide +kernel
theorem dX1_init_4 : decode cX1_init 4 = .ok (.aload_n 0, 1) := by decide +kernel
theorem dX1_init_5 : decode cX1_init 5 = .ok (.iconst 0, 1) := by decide +kernel
theorem dX1_init_6 : decode cX1_init 6 = .ok (.putfield 11, 3) := by decide +kernel
theorem dX1_init_9 : decode cX1_init 9 = .ok (.aload_n 0, 1) := by decide +kernel
theorem dX1_init_10 : decode cX1_init 10 = .ok (.iconst 3, 1) := by decide +kernel
theorem dX1_init_11 : decode cX1_init 11 = .ok (.newarray .int, 2) := by decide +kernel
theorem dX1_init_13 : decode cX1_init 13 = .ok (.dup, 1) := by decide +kernel
theorem dX1_init_14 : decode cX1_init 14 = .ok (.iconst 0, 1) := by decide +kernel
theorem dX1_init_15 : decode cX1_init 15 = .ok (.iconst 1, 1) := by decide +kernel
theorem dX1_init_16 : decode cX1_init 16 = .ok (.iastore, 1) := by decide +kernel
theorem dX1_init_17 : decode cX1_init 17 = .ok (.dup, 1) := by decide +kernel
theorem dX1_init_18 : decode cX1_init 18 = .ok (.iconst 1, 1) := by decide +kernel
theorem dX1_init_19 : decode cX1_init 19 = .ok (.iconst 1, 1) := by decide +kernel
theorem dX1_init_20 : decode cX1_init 20 = .ok (.iastore, 1) := by decide +kernel
theorem dX1_init_21 : decode cX1_init 21 = .ok (.dup, 1) := by decide +kernel
theorem dX1_init_22 : decode cX1_init 22 = .ok (.iconst 2, 1) := by decide +kernel
theorem dX1_init_23 : decode cX1_init 23 = .ok (.iconst 1, 1) := by decide +kernel
theorem dX1_init_24 : decode cX1_init 24 = .ok (.iastore, 1) := by decide +kernel
theorem dX1_init_25 : decode cX1_init 25 = .ok (.putfield 15, 3) := by decide +kernel
theorem dX1_init_28 : decode cX1_init 28 = .ok (.aload_n 0, 1) := by decide +kernel
theorem dX1_init_29 : decode cX1_init 29 = .ok (.bipush 18, 2) := by decide +kernel
theorem dX1_init_31 : decode cX1_init 31 = .ok (.newarray .int, 2) := by decide +kernel
theorem dX1_init_33 : decode cX1_init 33 = .ok (.putfield 19, 3) := by decide +kernel
theorem dX1_init_36 : decode cX1_init 36 = .ok (.aload_n 0, 1) := by decide +kernel
theorem dX1_init_37 : decode cX1_init 37 = .ok (.bipush 6, 2) := by decide +kernel
theorem dX1_init_39 : decode cX1_init 39 = .ok (.newarray .int, 2) := by decide +kernel
theorem dX1_init_41 : decode cX1_init 41 = .ok (.putfield 22, 3) := by decide +kernel
theorem dX1_init_44 : decode cX1_init 44 = .ok (.aload_n 0, 1) := by decide +kernel
theorem dX1_init_45 : decode cX1_init 45 = .ok (.iconst 0, 1) := by decide +kernel
theorem dX1_init_46 : decode cX1_init 46 = .ok (.putfield 25, 3) := by decide +kernel
theorem dX1_init_49 : decode cX1_init 49 = .ok (.aload_n 0, 1) := by decide +kernel
theorem dX1_init_50 : decode cX1_init 50 = .ok (.iconst 0, 1) := by decide +kernel
theorem dX1_init_51 : decode cX1_init 51 = .ok (.putfield 28, 3) := by decide +kernel
theorem dX1_init_54 : decode cX1_init 54 = .ok (.aload_n 0, 1) := by decide +kernel
theorem dX1_init_55 : decode cX1_init 55 = .ok (.iconst 0, 1) := by decide +kernel
theorem dX1_init_56 : decode cX1_init 56 = .ok (.putfield 31, 3) := by decide +kernel
theorem dX1_init_59 : decode cX1_init 59 = .ok (.aload_n 0, 1) := by decide +kernel
theorem dX1_init_60 : decode cX1_init 60 = .ok (.iconst 0, 1) := by decide +kernel
theorem dX1_init_61 : decode cX1_init 61 = .ok (.putfield 34, 3) := by decide +kernel
theorem dX1_init_64 : decode cX1_init 64 = .ok (.return_, 1) := by decide +kernel
theorem dX1_readFrom_0 : decode cX1_readFrom 0 = .ok (.aload_n 0, 1) := by decide +kernel
theorem dX1_readFrom_1 : decode cX1_readFrom 1 = .ok (.aload_n 1, 1) := by decide +kernel
theorem dX1_readFrom_2 : decode cX1_readFrom 2 = .ok (.invokevirtual 37, 3) := by decide +kernel
theorem dX1_readFrom_5 : decode cX1_readFrom 5 = .ok (.bipush 6, 2) := by decide +kernel
theorem dX1_readFrom_7 : decode cX1_readFrom 7 = .ok (.invokestatic 43, 3) := by decide +kernel
theorem dX1_readFrom_10 : decode cX1_readFrom 10 = .ok (.putfield 11, 3) := by decide +kernel
theorem dX1_readFrom_13 : decode cX1_readFrom 13 = .ok (.iconst 0, 1) := by decide +kernel
theorem dX1_readFrom_14 : decode cX1_readFrom 14 = .ok (.istore_n 2, 1) := by decide +kernel
theorem dX1_readFrom_15 : decode cX1_readFrom 15 = .ok (.iload_n 2, 1) := by decide +kernel
theorem dX1_readFrom_16 : decode cX1_readFrom 16 = .ok (.iconst 3, 1) := by decide +kernel
theorem dX1_readFrom_17 : decode cX1_readFrom 17 = .ok (.if_icmp .ge 20, 3) := by decide +kernel
theorem dX1_readFrom_20 : decode cX1_readFrom 20 = .ok (.aload_n 0, 1) := by decide +kernel
theorem dX1_readFrom_21 : decode cX1_readFrom 21 = .ok (.getfield 15, 3) := by decide +kernel
theorem dX1_readFrom_24 : decode cX1_readFrom 24 = .ok (.iload_n 2, 1) := by decide +kernel
theorem dX1_readFrom_25 : decode cX1_readFrom 25 = .ok (.aload_n 1, 1) := by decide +kernel
theorem dX1_readFrom_26 : decode cX1_readFrom 26 = .ok (.iload_n 2, 1) := by decide +kernel
theorem dX1_readFrom_27 : decode cX1_readFrom 27 = .ok (.invokevirtual 49, 3) := by decide +kernel
theorem dX1_readFrom_30 : decode cX1_readFrom 30 = .ok (.iastore, 1) := by decide +kernel
theorem dX1_readFrom_31 : decode cX1_readFrom 31 = .ok (.iinc 2 1, 3) := by decide +kernel
theorem dX1_readFrom_34 : decode cX1_readFrom 34 = .ok (.goto (-19), 3) := by decide +kernel
theorem dX1_readFrom_37 : decode cX1_readFrom 37 = .ok (.iconst 0, 1) := by decide +kernel
theorem dX1_readFrom_38 : decode cX1_readFrom 38 = .ok (.istore_n 2, 1) := by decide +kernel
theorem dX1_readFrom_39 : decode cX1_readFrom 39 = .ok (.iload_n 2, 1) := by decide +kernel
theorem dX1_readFrom_40 : decode cX1_readFrom 40 = .ok (.aload_n 0, 1) := by decide +kernel
theorem dX1_readFrom_41 : decode cX1_readFrom 41 = .ok (.getfield 11, 3) := by decide +kernel
theorem dX1_readFrom_44 : decode cX1_readFrom 44 = .ok (.if_icmp .ge 50, 3) := by decide +kernel
theorem dX1_readFrom_47 : decode cX1_readFrom 47 = .ok (.iconst 0, 1) := by decide +kernel
theorem dX1_readFrom_48 : decode cX1_readFrom 48 = .ok (.istore_n 3, 1) := by decide +kernel
theorem dX1_readFrom_49 : decode cX1_readFrom 49 = .ok (.iload_n 3, 1) := by decide +kernel
theorem dX1_readFrom_50 : decode cX1_readFrom 50 = .ok (.iconst 3, 1) := by decide +kernel
theorem dX1_readFrom_51 : decode cX1_readFrom 51 = .ok (.if_icmp .ge 25, 3) := by decide +kernel
theorem dX1_readFrom_54 : decode cX1_readFrom 54 = .ok (.aload_n 0, 1) := by decide +kernel
theorem dX1_readFrom_55 : decode cX1_readFrom 55 = .ok (.getfield 19, 3) := by decide +kernel
theorem dX1_readFrom_58 : decode cX1_readFrom 58 = .ok (.iload_n 2, 1) := by decide +kernel
theorem dX1_readFrom_59 : decode cX1_readFrom 59 = .ok (.iconst 3, 1) := by decide +kernel
theorem dX1_readFrom_60 : decode cX1_readFrom 60 = .ok (.imul, 1) := by decide +kernel
theorem dX1_readFrom_61 : decode cX1_readFrom 61 = .ok (.iload_n 3, 1) := by decide +kernel
theorem dX1_readFrom_62 : decode cX1_readFrom 62 = .ok (.iadd, 1) := by decide +kernel
theorem dX1_readFrom_63 : decode cX1_readFrom 63 = .ok (.aload_n 1, 1) := by decide +kernel
theorem dX1_readFrom_64 : decode cX1_readFrom 64 = .ok (.iload_n 2, 1) := by decide +kernel
theorem dX1_readFrom_65 : decode cX1_readFrom 65 = .ok (.iload_n 3, 1) := by decide +kernel
theorem dX1_readFrom_66 : decode cX1_readFrom 66 = .ok (.invokevirtual 53, 3) := by decide +kernel
theorem dX1_readFrom_69 : decode cX1_readFrom 69 = .ok (.iastore, 1) := by decide +kernel
theorem dX1_readFrom_70 : decode cX1_readFrom 70 = .ok (.iinc 3 1, 3) := by decide +kernel
theorem dX1_readFrom_73 : decode cX1_readFrom 73 = .ok (.goto (-24), 3) := by decide +kernel
theorem dX1_readFrom_76 : decode cX1_readFrom 76 = .ok (.aload_n 0, 1) := by decide +kernel
theorem dX1_readFrom_77 : decode cX1_readFrom 77 = .ok (.getfield 22, 3) := by decide +kernel
theorem dX1_readFrom_80 : decode cX1_readFrom 80 = .ok (.iload_n 2, 1) := by decide +kernel
theorem dX1_readFrom_81 : decode cX1_readFrom 81 = .ok (.aload_n 1, 1) := by decide +kernel
theorem dX1_readFrom_82 : decode cX1_readFrom 82 = .ok (.iload_n 2, 1) := by decide +kernel
theorem dX1_readFrom_83 : decode cX1_readFrom 83 = .ok (.iconst 3, 1) := by decide +kernel
theorem dX1_readFrom_84 : decode cX1_readFrom 84 = .ok (.invokevirtual 53, 3) := by decide +kernel
theorem dX1_readFrom_87 : decode cX1_readFrom 87 = .ok (.iastore, 1) := by decide +kernel
theorem dX1_readFrom_88 : decode cX1_readFrom 88 = .ok (.iinc 2 1, 3) := by decide +kernel
theorem dX1_readFrom_91 : decode cX1_readFrom 91 = .ok (.goto (-52), 3) := by decide +kernel
theorem dX1_readFrom_94 : decode cX1_readFrom 94 = .ok (.aload_n 0, 1) := by decide +kernel
theorem dX1_readFrom_95 : decode cX1_readFrom 95 = .ok (.aload_n 0, 1) := by decide +kernel
theorem dX1_readFrom_96 : decode cX1_readFrom 96 = .ok (.invokevirtual 56, 3) := by decide +kernel
theorem dX1_readFrom_99 : decode cX1_readFrom 99 = .ok (.putfield 25, 3) := by decide +kernel
theorem dX1_readFrom_102 : decode cX1_readFrom 102 = .ok (.aload_n 0, 1) := by decide +kernel
theorem dX1_readFrom_103 : decode cX1_readFrom 103 = .ok (.iconst 0, 1) := by decide +kernel
theorem dX1_readFrom_104 : decode cX1_readFrom 104 = .ok (.putfield 28, 3) := by decide +kernel
theorem dX1_readFrom_107 : decode cX1_readFrom 107 = .ok (.aload_n 0, 1) := by decide +kernel
theorem dX1_readFrom_108 : decode cX1_readFrom 108 = .ok (.iconst 0, 1) := by decide +kernel
theorem dX1_readFrom_109 : decode cX1_readFrom 109 = .ok (.putfield 31, 3) := by decide +kernel
theorem dX1_readFrom_112 : decode cX1_readFrom 112 = .ok (.aload_n 0, 1) := by decide +kernel
theorem dX1_readFrom_113 : decode cX1_readFrom 113 = .ok (.iconst 0, 1) := by decide +kernel
theorem dX1_readFrom_114 : decode cX1_readFrom 114 = .ok (.putfield 34, 3) := by decide +kernel
theorem dX1_readFrom_117 : decode cX1_readFrom 117 = .ok (.return_, 1) := by decide +kernel
theorem dX1_copyFrom_0 : decode cX1_copyFrom 0 = .ok (.aload_n 0, 1) := by decide +kernel
theorem dX1_copyFrom_1 : decode cX1_copyFrom 1 = .ok (.aload_n 1, 1) := by decide +kernel
theorem dX1_copyFrom_2 : decode cX1_copyFrom 2 = .ok (.getfield 11, 3) := by decide +kernel
theorem dX1_copyFrom_5 : decode cX1_copyFrom 5 = .ok (.putfield 11, 3) := by decide +kernel
theorem dX1_copyFrom_8 : decode cX1_copyFrom 8 = .ok (.aload_n 1, 1) := by decide +kernel
theorem dX1_copyFrom_9 : decode cX1_copyFrom 9 = .ok (.getfield 15, 3) := by decide +kernel
theorem dX1_copyFrom_12 : decode cX1_copyFrom 12 = .ok (.iconst 0, 1) := by decide +kernel
theorem dX1_copyFrom_13 : decode cX1_copyFrom 13 = .ok (.aload_n 0, 1) := by decide +kernel
theorem dX1_copyFrom_14 : decode cX1_copyFrom 14 = .ok (.getfield 15, 3) := by decide +kernel
theorem dX1_copyFrom_17 : decode cX1_copyFrom 17 = .ok (.iconst 0, 1) := by decide +kernel
theorem dX1_copyFrom_18 : decode cX1_copyFrom 18 = .ok (.iconst 3, 1) := by decide +kernel
theorem dX1_copyFrom_19 : decode cX1_copyFrom 19 = .ok (.invokestatic 59, 3) := by decide +kernel
theorem dX1_copyFrom_22 : decode cX1_copyFrom 22 = .ok (.aload_n 1, 1) := by decide +kernel
theorem dX1_copyFrom_23 : decode cX1_copyFrom 23 = .ok (.getfield 19, 3) := by decide +kernel
theorem dX1_copyFrom_26 : decode cX1_copyFrom 26 = .ok (.iconst 0, 1) := by decide +kernel
theorem dX1_copyFrom_27 : decode cX1_copyFrom 27 = .ok (.aload_n 0, 1) := by decide +kernel
theorem dX1_copyFrom_28 : decode cX1_copyFrom 28 = .ok (.getfield 19, 3) := by decide +kernel
theorem dX1_copyFrom_31 : decode cX1_copyFrom 31 = .ok (.iconst 0, 1) := by decide +kernel
theorem dX1_copyFrom_32 : decode cX1_copyFrom 32 = .ok (.bipush 18, 2) := by decide +kernel
theorem dX1_copyFrom_34 : decode cX1_copyFrom 34 = .ok (.invokestatic 59, 3) := by decide +kernel
theorem dX1_copyFrom_37 : decode cX1_copyFrom 37 = .ok (.aload_n 1, 1) := by decide +kernel
theorem dX1_copyFrom_38 : decode cX1_copyFrom 38 = .ok (.getfield 22, 3) := by decide +kernel
theorem dX1_copyFrom_41 : decode cX1_copyFrom 41 = .ok (.iconst 0, 1) := by decide +kernel
theorem dX1_copyFrom_42 : decode cX1_copyFrom 42 = .ok (.aload_n 0, 1) := by decide +kernel
theorem dX1_copyFrom_43 : decode cX1_copyFrom 43 = .ok (.getfield 22, 3) := by decide +kernel
theorem dX1_copyFrom_46 : decode cX1_copyFrom 46 = .ok (.iconst 0, 1) := by decide +kernel
theorem dX1_copyFrom_47 : decode cX1_copyFrom 47 = .ok (.bipush 6, 2) := by decide +kernel
theorem dX1_copyFrom_49 : decode cX1_copyFrom 49 = .ok (.invokestatic 59, 3) := by decide +kernel
theorem dX1_copyFrom_52 : decode cX1_copyFrom 52 = .ok (.aload_n 0, 1) := by decide +kernel
theorem dX1_copyFrom_53 : decode cX1_copyFrom 53 = .ok (.aload_n 1, 1) := by decide +kernel
theorem dX1_copyFrom_54 : decode cX1_copyFrom 54 = .ok (.getfield 25, 3) := by decide +kernel
theorem dX1_copyFrom_57 : decode cX1_copyFrom 57 = .ok (.putfield 25, 3) := by decide +kernel
theorem dX1_copyFrom_60 : decode cX1_copyFrom 60 = .ok (.aload_n 0, 1) := by decide +kernel
theorem dX1_copyFrom_61 : decode cX1_copyFrom 61 = .ok (.aload_n 1, 1) := by decide +kernel
theorem dX1_copyFrom_62 : decode cX1_copyFrom 62 = .ok (.getfield 28, 3) := by decide +kernel
theorem dX1_copyFrom_65 : decode cX1_copyFrom 65 = .ok (.putfield 28, 3) := by decide +kernel
theorem dX1_copyFrom_68 : decode cX1_copyFrom 68 = .ok (.aload_n 0, 1) := by decide +kernel
theorem dX1_copyFrom_69 : decode cX1_copyFrom 69 = .ok (.aload_n 1, 1) := by decide +kernel
theorem dX1_copyFrom_70 : decode cX1_copyFrom 70 = .ok (.getfield 31, 3) := by decide +kernel
theorem dX1_copyFrom_73 : decode cX1_copyFrom 73 = .ok (.putfield 31, 3) := by decide +kernel
theorem dX1_copyFrom_76 : decode cX1_copyFrom 76 = .ok (.aload_n 0, 1) := by decide +kernel
theorem dX1_copyFrom_77 : decode cX1_copyFrom 77 = .ok (.aload_n 1, 1) := by decide +kernel
theorem dX1_copyFrom_78 : decode cX1_copyFrom 78 = .ok (.getfield 34, 3) := by decide +kernel
theorem dX1_copyFrom_81 : decode cX1_copyFrom 81 = .ok (.putfield 34, 3) := by decide +kernel
theorem dX1_copyFrom_84 : decode cX1_copyFrom 84 = .ok (.return_, 1) := by decide +kernel
theorem dX1_packInto_0 : decode cX1_packInto 0 = .ok (.iload_n 2, 1) := by decide +kernel
theorem dX1_packInto_1 : decode cX1_packInto 1 = .ok (.bipush 25, 2) := by decide +kernel
theorem dX1_packInto_3 : decode cX1_packInto 3 = .ok (.imul, 1) := by decide +kernel
theorem dX1_packInto_4 : decode cX1_packInto 4 = .ok (.istore_n 3, 1) := by decide +kernel
theorem dX1_packInto_5 : decode cX1_packInto 5 = .ok (.aload_n 0, 1) := by decide +kernel
theorem dX1_packInto_6 : decode cX1_packInto 6 = .ok (.getfield 15, 3) := by decide +kernel
theorem dX1_packInto_9 : decode cX1_packInto 9 = .ok (.iconst 0, 1) := by decide +kernel
theorem dX1_packInto_10 : decode cX1_packInto 10 = .ok (.aload_n 1, 1) := by decide +kernel
theorem dX1_packInto_11 : decode cX1_packInto 11 = .ok (.iload_n 3, 1) := by decide +kernel
theorem dX1_packInto_12 : decode cX1_packInto 12 = .ok (.iconst 3, 1) := by decide +kernel
theorem dX1_packInto_13 : decode cX1_packInto 13 = .ok (.invokestatic 59, 3) := by decide +kernel
theorem dX1_packInto_16 : decode cX1_packInto 16 = .ok (.aload_n 0, 1) := by decide +kernel
theorem dX1_packInto_17 : decode cX1_packInto 17 = .ok (.getfield 19, 3) := by decide +kernel
theorem dX1_packInto_20 : decode cX1_packInto 20 = .ok (.iconst 0, 1) := by decide +kernel
theorem dX1_packInto_21 : decode cX1_packInto 21 = .ok (.aload_n 1, 1) := by decide +kernel
theorem dX1_packInto_22 : decode cX1_packInto 22 = .ok (.iload_n 3, 1) := by decide +kernel
theorem dX1_packInto_23 : decode cX1_packInto 23 = .ok (.iconst 3, 1) := by decide +kernel
theorem dX1_packInto_24 : decode cX1_packInto 24 = .ok (.iadd, 1) := by decide +kernel
theorem dX1_packInto_25 : decode cX1_packInto 25 = .ok (.bipush 18, 2) := by decide +kernel
theorem dX1_packInto_27 : decode cX1_packInto 27 = .ok (.invokestatic 59, 3) := by decide +kernel
theorem dX1_packInto_30 : decode cX1_packInto 30 = .ok (.iload_n 3, 1) := by decide +kernel
theorem dX1_packInto_31 : decode cX1_packInto 31 = .ok (.iconst 3, 1) := by decide +kernel
theorem dX1_packInto_32 : decode cX1_packInto 32 = .ok (.iadd, 1) := by decide +kernel
theorem dX1_packInto_33 : decode cX1_packInto 33 = .ok (.bipush 18, 2) := by decide +kernel
theorem dX1_packInto_35 : decode cX1_packInto 35 = .ok (.iadd, 1) := by decide +kernel
theorem dX1_packInto_36 : decode cX1_packInto 36 = .ok (.istore 4, 2) := by decide +kernel
theorem dX1_packInto_38 : decode cX1_packInto 38 = .ok (.aload_n 1, 1) := by decide +kernel
theorem dX1_packInto_39 : decode cX1_packInto 39 = .ok (.iload 4, 2) := by decide +kernel
theorem dX1_packInto_41 : decode cX1_packInto 41 = .ok (.aload_n 0, 1) := by decide +kernel
theorem dX1_packInto_42 : decode cX1_packInto 42 = .ok (.getfield 25, 3) := by decide +kernel
theorem dX1_packInto_45 : decode cX1_packInto 45 = .ok (.iastore, 1) := by decide +kernel
theorem dX1_packInto_46 : decode cX1_packInto 46 = .ok (.aload_n 1, 1) := by decide +kernel
theorem dX1_packInto_47 : decode cX1_packInto 47 = .ok (.iload 4, 2) := by decide +kernel
theorem dX1_packInto_49 : decode cX1_packInto 49 = .ok (.iconst 1, 1) := by decide +kernel
theorem dX1_packInto_50 : decode cX1_packInto 50 = .ok (.iadd, 1) := by decide +kernel
theorem dX1_packInto_51 : decode cX1_packInto 51 = .ok (.aload_n 0, 1) := by decide +kernel
theorem dX1_packInto_52 : decode cX1_packInto 52 = .ok (.getfield 28, 3) := by decide +kernel
theorem dX1_packInto_55 : decode cX1_packInto 55 = .ok (.iastore, 1) := by decide +kernel
theorem dX1_packInto_56 : decode cX1_packInto 56 = .ok (.aload_n 1, 1) := by decide +kernel
theorem dX1_packInto_57 : decode cX1_packInto 57 = .ok (.iload 4, 2) := by decide +kernel
theorem dX1_packInto_59 : decode cX1_packInto 59 = .ok (.iconst 2, 1) := by decide +kernel
theorem dX1_packInto_60 : decode cX1_packInto 60 = .ok (.iadd, 1) := by decide +kernel
theorem dX1_packInto_61 : decode cX1_packInto 61 = .ok (.aload_n 0, 1) := by decide +kernel
theorem dX1_packInto_62 : decode cX1_packInto 62 = .ok (.getfield 31, 3) := by decide +kernel
theorem dX1_packInto_65 : decode cX1_packInto 65 = .ok (.iastore, 1) := by decide +kernel
theorem dX1_packInto_66 : decode cX1_packInto 66 = .ok (.aload_n 1, 1) := by decide +kernel
theorem dX1_packInto_67 : decode cX1_packInto 67 = .ok (.iload 4, 2) := by decide +kernel
theorem dX1_packInto_69 : decode cX1_packInto 69 = .ok (.iconst 3, 1) := by decide +kernel
theorem dX1_packInto_70 : decode cX1_packInto 70 = .ok (.iadd, 1) := by decide +kernel
theorem dX1_packInto_71 : decode cX1_packInto 71 = .ok (.aload_n 0, 1) := by decide +kernel
theorem dX1_packInto_72 : decode cX1_packInto 72 = .ok (.getfield 34, 3) := by decide +kernel
theorem dX1_packInto_75 : decode cX1_packInto 75 = .ok (.iastore, 1) := by decide +kernel
theorem dX1_packInto_76 : decode cX1_packInto 76 = .ok (.return_, 1) := by decide +kernel
theorem dX1_unpackFrom_0 : decode cX1_unpackFrom 0 = .ok (.iload_n 2, 1) := by decide +kernel
theorem dX1_unpackFrom_1 : decode cX1_unpackFrom 1 = .ok (.bipush 25, 2) := by decide +kernel
theorem dX1_unpackFrom_3 : decode cX1_unpackFrom 3 = .ok (.imul, 1) := by decide +kernel
theorem dX1_unpackFrom_4 : decode cX1_unpackFrom 4 = .ok (.istore_n 3, 1) := by decide +kernel
theorem dX1_unpackFrom_5 : decode cX1_unpackFrom 5 = .ok (.aload_n 1, 1) := by decide +kernel
theorem dX1_unpackFrom_6 : decode cX1_unpackFrom 6 = .ok (.iload_n 3, 1) := by decide +kernel
theorem dX1_unpackFrom_7 : decode cX1_unpackFrom 7 = .ok (.aload_n 0, 1) := by decide +kernel
theorem dX1_unpackFrom_8 : decode cX1_unpackFrom 8 = .ok (.getfield 15, 3) := by decide +kernel
theorem dX1_unpackFrom_11 : decode cX1_unpackFrom 11 = .ok (.iconst 0, 1) := by decide +kernel
theorem dX1_unpackFrom_12 : decode cX1_unpackFrom 12 = .ok (.iconst 3, 1) := by decide +kernel
theorem dX1_unpackFrom_13 : decode cX1_unpackFrom 13 = .ok (.invokestatic 59, 3) := by decide +kernel
theorem dX1_unpackFrom_16 : decode cX1_unpackFrom 16 = .ok (.aload_n 1, 1) := by decide +kernel
theorem dX1_unpackFrom_17 : decode cX1_unpackFrom 17 = .ok (.iload_n 3, 1) := by decide +kernel
theorem dX1_unpackFrom_18 : decode cX1_unpackFrom 18 = .ok (.iconst 3, 1) := by decide +kernel
theorem dX1_unpackFrom_19 : decode cX1_unpackFrom 19 = .ok (.iadd, 1) := by decide +kernel
theorem dX1_unpackFrom_20 : decode cX1_unpackFrom 20 = .ok (.aload_n 0, 1) := by decide +kernel
theorem dX1_unpackFrom_21 : decode cX1_unpackFrom 21 = .ok (.getfield 19, 3) := by decide +kernel
theorem dX1_unpackFrom_24 : decode cX1_unpackFrom 24 = .ok (.iconst 0, 1) := by decide +kernel
theorem dX1_unpackFrom_25 : decode cX1_unpackFrom 25 = .ok (.bipush 18, 2) := by decide +kernel
theorem dX1_unpackFrom_27 : decode cX1_unpackFrom 27 = .ok (.invokestatic 59, 3) := by decide +kernel
theorem dX1_unpackFrom_30 : decode cX1_unpackFrom 30 = .ok (.iload_n 3, 1) := by decide +kernel
theorem dX1_unpackFrom_31 : decode cX1_unpackFrom 31 = .ok (.iconst 3, 1) := by decide +kernel
theorem dX1_unpackFrom_32 : decode cX1_unpackFrom 32 = .ok (.iadd, 1) := by decide +kernel
theorem dX1_unpackFrom_33 : decode cX1_unpackFrom 33 = .ok (.bipush 18, 2) := by decide +kernel
theorem dX1_unpackFrom_35 : decode cX1_unpackFrom 35 = .ok (.iadd, 1) := by decide +kernel
theorem dX1_unpackFrom_36 : decode cX1_unpackFrom 36 = .ok (.istore 4, 2) := by decide +kernel
theorem dX1_unpackFrom_38 : decode cX1_unpackFrom 38 = .ok (.aload_n 0, 1) := by decide +kernel
theorem dX1_unpackFrom_39 : decode cX1_unpackFrom 39 = .ok (.aload_n 1, 1) := by decide +kernel
theorem dX1_unpackFrom_40 : decode cX1_unpackFrom 40 = .ok (.iload 4, 2) := by decide +kernel
theorem dX1_unpackFrom_42 : decode cX1_unpackFrom 42 = .ok (.iaload, 1) := by decide +kernel
theorem dX1_unpackFrom_43 : decode cX1_unpackFrom 43 = .ok (.putfield 25, 3) := by decide +kernel
theorem dX1_unpackFrom_46 : decode cX1_unpackFrom 46 = .ok (.aload_n 0, 1) := by decide +kernel
theorem dX1_unpackFrom_47 : decode cX1_unpackFrom 47 = .ok (.aload_n 1, 1) := by decide +kernel
theorem dX1_unpackFrom_48 : decode cX1_unpackFrom 48 = .ok (.iload 4, 2) := by decide +kernel
theorem dX1_unpackFrom_50 : decode cX1_unpackFrom 50 = .ok (.iconst 1, 1) := by decide +kernel
theorem dX1_unpackFrom_51 : decode cX1_unpackFrom 51 = .ok (.iadd, 1) := by decide +kernel
theorem dX1_unpackFrom_52 : decode cX1_unpackFrom 52 = .ok (.iaload, 1) := by decide +kernel
theorem dX1_unpackFrom_53 : decode cX1_unpackFrom 53 = .ok (.putfield 28, 3) := by decide +kernel
theorem dX1_unpackFrom_56 : decode cX1_unpackFrom 56 = .ok (.aload_n 0, 1) := by decide +kernel
theorem dX1_unpackFrom_57 : decode cX1_unpackFrom 57 = .ok (.aload_n 1, 1) := by decide +kernel
theorem dX1_unpackFrom_58 : decode cX1_unpackFrom 58 = .ok (.iload 4, 2) := by decide +kernel
theorem dX1_unpackFrom_60 : decode cX1_unpackFrom 60 = .ok (.iconst 2, 1) := by decide +kernel
theorem dX1_unpackFrom_61 : decode cX1_unpackFrom 61 = .ok (.iadd, 1) := by decide +kernel
theorem dX1_unpackFrom_62 : decode cX1_unpackFrom 62 = .ok (.iaload, 1) := by decide +kernel
theorem dX1_unpackFrom_63 : decode cX1_unpackFrom 63 = .ok (.putfield 31, 3) := by decide +kernel
theorem dX1_unpackFrom_66 : decode cX1_unpackFrom 66 = .ok (.aload_n 0, 1) := by decide +kernel
theorem dX1_unpackFrom_67 : decode cX1_unpackFrom 67 = .ok (.aload_n 1, 1) := by decide +kernel
theorem dX1_unpackFrom_68 : decode cX1_unpackFrom 68 = .ok (.iload 4, 2) := by decide +kernel
theorem dX1_unpackFrom_70 : decode cX1_unpackFrom 70 = .ok (.iconst 3, 1) := by decide +kernel
theorem dX1_unpackFrom_71 : decode cX1_unpackFrom 71 = .ok (.iadd, 1) := by decide +kernel
theorem dX1_unpackFrom_72 : decode cX1_unpackFrom 72 = .ok (.iaload, 1) := by decide +kernel
theorem dX1_unpackFrom_73 : decode cX1_unpackFrom 73 = .ok (.putfield 34, 3) := by decide +kernel
theorem dX1_unpackFrom_76 : decode cX1_unpackFrom 76 = .ok (.return_, 1) := by decide +kernel
theorem dX1_has_0 : decode cX1_has 0 = .ok (.iload_n 1, 1) := by decide +kernel
theorem dX1_has_1 : decode cX1_has 1 = .ok (.ifCond .lt 15, 3) := by decide +kernel
theorem dX1_has_4 : decode cX1_has 4 = .ok (.iload_n 1, 1) := by decide +kernel
theorem dX1_has_5 : decode cX1_has 5 = .ok (.aload_n 0, 1) := by decide +kernel
theorem dX1_has_6 : decode cX1_has 6 = .ok (.getfield 11, 3) := by decide +kernel
theorem dX1_has_9 : decode cX1_has 9 = .ok (.if_icmp .ge 7, 3) := by decide +kernel
theorem dX1_has_12 : decode cX1_has 12 = .ok (.iconst 1, 1) := by decide +kernel
theorem dX1_has_13 : decode cX1_has 13 = .ok (.goto 4, 3) := by decide +kernel
theorem dX1_has_16 : decode cX1_has 16 = .ok (.iconst 0, 1) := by decide +kernel
theorem dX1_has_17 : decode cX1_has 17 = .ok (.ireturn, 1) := by decide +kernel
theorem dX1_everybody_0 : decode cX1_everybody 0 = .ok (.iconst 1, 1) := by decide +kernel
theorem dX1_everybody_1 : decode cX1_everybody 1 = .ok (.aload_n 0, 1) := by decide +kernel
theorem dX1_everybody_2 : decode cX1_everybody 2 = .ok (.getfield 11, 3) := by decide +kernel
theorem dX1_everybody_5 : decode cX1_everybody 5 = .ok (.ishl, 1) := by decide +kernel
theorem dX1_everybody_6 : decode cX1_everybody 6 = .ok (.iconst 1, 1) := by decide +kernel
theorem dX1_everybody_7 : decode cX1_everybody 7 = .ok (.isub, 1) := by decide +kernel
theorem dX1_everybody_8 : decode cX1_everybody 8 = .ok (.ireturn, 1) := by decide +kernel
theorem dX1_isAlive_0 : decode cX1_isAlive 0 = .ok (.aload_n 0, 1) := by decide +kernel
theorem dX1_isAlive_1 : decode cX1_isAlive 1 = .ok (.getfield 25, 3) := by decide +kernel
theorem dX1_isAlive_4 : decode cX1_isAlive 4 = .ok (.iload_n 1, 1) := by decide +kernel
theorem dX1_isAlive_5 : decode cX1_isAlive 5 = .ok (.ishr, 1) := by decide +kernel
theorem dX1_isAlive_6 : decode cX1_isAlive 6 = .ok (.iconst 1, 1) := by decide +kernel
theorem dX1_isAlive_7 : decode cX1_isAlive 7 = .ok (.iand, 1) := by decide +kernel
theorem dX1_isAlive_8 : decode cX1_isAlive 8 = .ok (.iconst 1, 1) := by decide +kernel
theorem dX1_isAlive_9 : decode cX1_isAlive 9 = .ok (.if_icmp .ne 7, 3) := by decide +kernel
theorem dX1_isAlive_12 : decode cX1_isAlive 12 = .ok (.iconst 1, 1) := by decide +kernel
theorem dX1_isAlive_13 : decode cX1_isAlive 13 = .ok (.goto 4, 3) := by decide +kernel
theorem dX1_isAlive_16 : decode cX1_isAlive 16 = .ok (.iconst 0, 1) := by decide +kernel
theorem dX1_isAlive_17 : decode cX1_isAlive 17 = .ok (.ireturn, 1) := by decide +kernel
theorem dX1_isReported_0 : decode cX1_isReported 0 = .ok (.aload_n 0, 1) := by decide +kernel
theorem dX1_isReported_1 : decode cX1_isReported 1 = .ok (.getfield 28, 3) := by decide +kernel
theorem dX1_isReported_4 : decode cX1_isReported 4 = .ok (.iload_n 1, 1) := by decide +kernel
theorem dX1_isReported_5 : decode cX1_isReported 5 = .ok (.ishr, 1) := by decide +kernel
theorem dX1_isReported_6 : decode cX1_isReported 6 = .ok (.iconst 1, 1) := by decide +kernel
theorem dX1_isReported_7 : decode cX1_isReported 7 = .ok (.iand, 1) := by decide +kernel
theorem dX1_isReported_8 : decode cX1_isReported 8 = .ok (.iconst 1, 1) := by decide +kernel
theorem dX1_isReported_9 : decode cX1_isReported 9 = .ok (.if_icmp .ne 7, 3) := by decide +kernel
theorem dX1_isReported_12 : decode cX1_isReported 12 = .ok (.iconst 1, 1) := by decide +kernel
theorem dX1_isReported_13 : decode cX1_isReported 13 = .ok (.goto 4, 3) := by decide +kernel
theorem dX1_isReported_16 : decode cX1_isReported 16 = .ok (.iconst 0, 1) := by decide +kernel
theorem dX1_isReported_17 : decode cX1_isReported 17 = .ok (.ireturn, 1) := by decide +kernel
theorem dX1_aliveCount_0 : decode cX1_aliveCount 0 = .ok (.aload_n 0, 1) := by decide +kernel
theorem dX1_aliveCount_1 : decode cX1_aliveCount 1 = .ok (.getfield 25, 3) := by decide +kernel
theorem dX1_aliveCount_4 : decode cX1_aliveCount 4 = .ok (.invokestatic 65, 3) := by decide +kernel
theorem dX1_aliveCount_7 : decode cX1_aliveCount 7 = .ok (.ireturn, 1) := by decide +kernel
theorem dX1_weightsAsFigures_0 : decode cX1_weightsAsFigures 0 = .ok (.aload_n 0, 1) := by decide +kernel
theorem dX1_weightsAsFigures_1 : decode cX1_weightsAsFigures 1 = .ok (.getfield 15, 3) := by decide +kernel
theorem dX1_weightsAsFigures_4 : decode cX1_weightsAsFigures 4 = .ok (.iconst 0, 1) := by decide +kernel
theorem dX1_weightsAsFigures_5 : decode cX1_weightsAsFigures 5 = .ok (.iaload, 1) := by decide +kernel
theorem dX1_weightsAsFigures_6 : decode cX1_weightsAsFigures 6 = .ok (.bipush 100, 2) := by decide +kernel
theorem dX1_weightsAsFigures_8 : decode cX1_weightsAsFigures 8 = .ok (.imul, 1) := by decide +kernel
theorem dX1_weightsAsFigures_9 : decode cX1_weightsAsFigures 9 = .ok (.aload_n 0, 1) := by decide +kernel
theorem dX1_weightsAsFigures_10 : decode cX1_weightsAsFigures 10 = .ok (.getfield 15, 3) := by decide +kernel
theorem dX1_weightsAsFigures_13 : decode cX1_weightsAsFigures 13 = .ok (.iconst 1, 1) := by decide +kernel
theorem dX1_weightsAsFigures_14 : decode cX1_weightsAsFigures 14 = .ok (.iaload, 1) := by decide +kernel
theorem dX1_weightsAsFigures_15 : decode cX1_weightsAsFigures 15 = .ok (.bipush 10, 2) := by decide +kernel
theorem dX1_weightsAsFigures_17 : decode cX1_weightsAsFigures 17 = .ok (.imul, 1) := by decide +kernel
theorem dX1_weightsAsFigures_18 : decode cX1_weightsAsFigures 18 = .ok (.iadd, 1) := by decide +kernel
theorem dX1_weightsAsFigures_19 : decode cX1_weightsAsFigures 19 = .ok (.aload_n 0, 1) := by decide +kernel
theorem dX1_weightsAsFigures_20 : decode cX1_weightsAsFigures 20 = .ok (.getfield 15, 3) := by decide +kernel
theorem dX1_weightsAsFigures_23 : decode cX1_weightsAsFigures 23 = .ok (.iconst 2, 1) := by decide +kernel
theorem dX1_weightsAsFigures_24 : decode cX1_weightsAsFigures 24 = .ok (.iaload, 1) := by decide +kernel
theorem dX1_weightsAsFigures_25 : decode cX1_weightsAsFigures 25 = .ok (.iadd, 1) := by decide +kernel
theorem dX1_weightsAsFigures_26 : decode cX1_weightsAsFigures 26 = .ok (.ireturn, 1) := by decide +kernel
theorem dX1_weighBy_0 : decode cX1_weighBy 0 = .ok (.aload_n 0, 1) := by decide +kernel
theorem dX1_weighBy_1 : decode cX1_weighBy 1 = .ok (.getfield 15, 3) := by decide +kernel
theorem dX1_weighBy_4 : decode cX1_weighBy 4 = .ok (.iconst 0, 1) := by decide +kernel
theorem dX1_weighBy_5 : decode cX1_weighBy 5 = .ok (.iload_n 1, 1) := by decide +kernel
theorem dX1_weighBy_6 : decode cX1_weighBy 6 = .ok (.bipush 100, 2) := by decide +kernel
theorem dX1_weighBy_8 : decode cX1_weighBy 8 = .ok (.idiv, 1) := by decide +kernel
theorem dX1_weighBy_9 : decode cX1_weighBy 9 = .ok (.iastore, 1) := by decide +kernel
theorem dX1_weighBy_10 : decode cX1_weighBy 10 = .ok (.aload_n 0, 1) := by decide +kernel
theorem dX1_weighBy_11 : decode cX1_weighBy 11 = .ok (.getfield 15, 3) := by decide +kernel
theorem dX1_weighBy_14 : decode cX1_weighBy 14 = .ok (.iconst 1, 1) := by decide +kernel
theorem dX1_weighBy_15 : decode cX1_weighBy 15 = .ok (.iload_n 1, 1) := by decide +kernel
theorem dX1_weighBy_16 : decode cX1_weighBy 16 = .ok (.bipush 10, 2) := by decide +kernel
theorem dX1_weighBy_18 : decode cX1_weighBy 18 = .ok (.idiv, 1) := by decide +kernel
theorem dX1_weighBy_19 : decode cX1_weighBy 19 = .ok (.bipush 10, 2) := by decide +kernel
theorem dX1_weighBy_21 : decode cX1_weighBy 21 = .ok (.irem, 1) := by decide +kernel
theorem dX1_weighBy_22 : decode cX1_weighBy 22 = .ok (.iastore, 1) := by decide +kernel
theorem dX1_weighBy_23 : decode cX1_weighBy 23 = .ok (.aload_n 0, 1) := by decide +kernel
theorem dX1_weighBy_24 : decode cX1_weighBy 24 = .ok (.getfield 15, 3) := by decide +kernel
theorem dX1_weighBy_27 : decode cX1_weighBy 27 = .ok (.iconst 2, 1) := by decide +kernel
theorem dX1_weighBy_28 : decode cX1_weighBy 28 = .ok (.iload_n 1, 1) := by decide +kernel
theorem dX1_weighBy_29 : decode cX1_weighBy 29 = .ok (.bipush 10, 2) := by decide +kernel
theorem dX1_weighBy_31 : decode cX1_weighBy 31 = .ok (.irem, 1) := by decide +kernel
theorem dX1_weighBy_32 : decode cX1_weighBy 32 = .ok (.iastore, 1) := by decide +kernel
theorem dX1_weighBy_33 : decode cX1_weighBy 33 = .ok (.return_, 1) := by decide +kernel
theorem dX1_weightsApartFrom_0 : decode cX1_weightsApartFrom 0 = .ok (.iconst 0, 1) := by decide +kernel
theorem dX1_weightsApartFrom_1 : decode cX1_weightsApartFrom 1 = .ok (.istore_n 2, 1) := by decide +kernel
theorem dX1_weightsApartFrom_2 : decode cX1_weightsApartFrom 2 = .ok (.iconst 0, 1) := by decide +kernel
theorem dX1_weightsApartFrom_3 : decode cX1_weightsApartFrom 3 = .ok (.istore_n 3, 1) := by decide +kernel
theorem dX1_weightsApartFrom_4 : decode cX1_weightsApartFrom 4 = .ok (.iload_n 3, 1) := by decide +kernel
theorem dX1_weightsApartFrom_5 : decode cX1_weightsApartFrom 5 = .ok (.iconst 3, 1) := by decide +kernel
theorem dX1_weightsApartFrom_6 : decode cX1_weightsApartFrom 6 = .ok (.if_icmp .ge 28, 3) := by decide +kernel
theorem dX1_weightsApartFrom_9 : decode cX1_weightsApartFrom 9 = .ok (.iload_n 2, 1) := by decide +kernel
theorem dX1_weightsApartFrom_10 : decode cX1_weightsApartFrom 10 = .ok (.aload_n 0, 1) := by decide +kernel
theorem dX1_weightsApartFrom_11 : decode cX1_weightsApartFrom 11 = .ok (.getfield 15, 3) := by decide +kernel
theorem dX1_weightsApartFrom_14 : decode cX1_weightsApartFrom 14 = .ok (.iload_n 3, 1) := by decide +kernel
theorem dX1_weightsApartFrom_15 : decode cX1_weightsApartFrom 15 = .ok (.iaload, 1) := by decide +kernel
theorem dX1_weightsApartFrom_16 : decode cX1_weightsApartFrom 16 = .ok (.aload_n 1, 1) := by decide +kernel
theorem dX1_weightsApartFrom_17 : decode cX1_weightsApartFrom 17 = .ok (.getfield 15, 3) := by decide +kernel
theorem dX1_weightsApartFrom_20 : decode cX1_weightsApartFrom 20 = .ok (.iload_n 3, 1) := by decide +kernel
theorem dX1_weightsApartFrom_21 : decode cX1_weightsApartFrom 21 = .ok (.iaload, 1) := by decide +kernel
theorem dX1_weightsApartFrom_22 : decode cX1_weightsApartFrom 22 = .ok (.isub, 1) := by decide +kernel
theorem dX1_weightsApartFrom_23 : decode cX1_weightsApartFrom 23 = .ok (.invokestatic 70, 3) := by decide +kernel
theorem dX1_weightsApartFrom_26 : decode cX1_weightsApartFrom 26 = .ok (.iadd, 1) := by decide +kernel
theorem dX1_weightsApartFrom_27 : decode cX1_weightsApartFrom 27 = .ok (.istore_n 2, 1) := by decide +kernel
theorem dX1_weightsApartFrom_28 : decode cX1_weightsApartFrom 28 = .ok (.iinc 3 1, 3) := by decide +kernel
theorem dX1_weightsApartFrom_31 : decode cX1_weightsApartFrom 31 = .ok (.goto (-27), 3) := by decide +kernel
theorem dX1_weightsApartFrom_34 : decode cX1_weightsApartFrom 34 = .ok (.iload_n 2, 1) := by decide +kernel
theorem dX1_weightsApartFrom_35 : decode cX1_weightsApartFrom 35 = .ok (.ireturn, 1) := by decide +kernel
theorem dX1_valueOf_0 : decode cX1_valueOf 0 = .ok (.iload_n 1, 1) := by decide +kernel
theorem dX1_valueOf_1 : decode cX1_valueOf 1 = .ok (.iconst 3, 1) := by decide +kernel
theorem dX1_valueOf_2 : decode cX1_valueOf 2 = .ok (.imul, 1) := by decide +kernel
theorem dX1_valueOf_3 : decode cX1_valueOf 3 = .ok (.istore_n 2, 1) := by decide +kernel
theorem dX1_valueOf_4 : decode cX1_valueOf 4 = .ok (.aload_n 0, 1) := by decide +kernel
theorem dX1_valueOf_5 : decode cX1_valueOf 5 = .ok (.getfield 15, 3) := by decide +kernel
theorem dX1_valueOf_8 : decode cX1_valueOf 8 = .ok (.iconst 0, 1) := by decide +kernel
theorem dX1_valueOf_9 : decode cX1_valueOf 9 = .ok (.iaload, 1) := by decide +kernel
theorem dX1_valueOf_10 : decode cX1_valueOf 10 = .ok (.aload_n 0, 1) := by decide +kernel
theorem dX1_valueOf_11 : decode cX1_valueOf 11 = .ok (.getfield 19, 3) := by decide +kernel
theorem dX1_valueOf_14 : decode cX1_valueOf 14 = .ok (.iload_n 2, 1) := by decide +kernel
theorem dX1_valueOf_15 : decode cX1_valueOf 15 = .ok (.iaload, 1) := by decide +kernel
theorem dX1_valueOf_16 : decode cX1_valueOf 16 = .ok (.imul, 1) := by decide +kernel
theorem dX1_valueOf_17 : decode cX1_valueOf 17 = .ok (.aload_n 0, 1) := by decide +kernel
theorem dX1_valueOf_18 : decode cX1_valueOf 18 = .ok (.getfield 15, 3) := by decide +kernel
theorem dX1_valueOf_21 : decode cX1_valueOf 21 = .ok (.iconst 1, 1) := by decide +kernel
theorem dX1_valueOf_22 : decode cX1_valueOf 22 = .ok (.iaload, 1) := by decide +kernel
theorem dX1_valueOf_23 : decode cX1_valueOf 23 = .ok (.aload_n 0, 1) := by decide +kernel
theorem dX1_valueOf_24 : decode cX1_valueOf 24 = .ok (.getfield 19, 3) := by decide +kernel
theorem dX1_valueOf_27 : decode cX1_valueOf 27 = .ok (.iload_n 2, 1) := by decide +kernel
theorem dX1_valueOf_28 : decode cX1_valueOf 28 = .ok (.iconst 1, 1) := by decide +kernel
theorem dX1_valueOf_29 : decode cX1_valueOf 29 = .ok (.iadd, 1) := by decide +kernel
theorem dX1_valueOf_30 : decode cX1_valueOf 30 = .ok (.iaload, 1) := by decide +kernel
theorem dX1_valueOf_31 : decode cX1_valueOf 31 = .ok (.imul, 1) := by decide +kernel
theorem dX1_valueOf_32 : decode cX1_valueOf 32 = .ok (.iadd, 1) := by decide +kernel
theorem dX1_valueOf_33 : decode cX1_valueOf 33 = .ok (.aload_n 0, 1) := by decide +kernel
theorem dX1_valueOf_34 : decode cX1_valueOf 34 = .ok (.getfield 15, 3) := by decide +kernel
theorem dX1_valueOf_37 : decode cX1_valueOf 37 = .ok (.iconst 2, 1) := by decide +kernel
theorem dX1_valueOf_38 : decode cX1_valueOf 38 = .ok (.iaload, 1) := by decide +kernel
theorem dX1_valueOf_39 : decode cX1_valueOf 39 = .ok (.aload_n 0, 1) := by decide +kernel
theorem dX1_valueOf_40 : decode cX1_valueOf 40 = .ok (.getfield 19, 3) := by decide +kernel
theorem dX1_valueOf_43 : decode cX1_valueOf 43 = .ok (.iload_n 2, 1) := by decide +kernel
theorem dX1_valueOf_44 : decode cX1_valueOf 44 = .ok (.iconst 2, 1) := by decide +kernel
theorem dX1_valueOf_45 : decode cX1_valueOf 45 = .ok (.iadd, 1) := by decide +kernel
theorem dX1_valueOf_46 : decode cX1_valueOf 46 = .ok (.iaload, 1) := by decide +kernel
theorem dX1_valueOf_47 : decode cX1_valueOf 47 = .ok (.imul, 1) := by decide +kernel
theorem dX1_valueOf_48 : decode cX1_valueOf 48 = .ok (.iadd, 1) := by decide +kernel
theorem dX1_valueOf_49 : decode cX1_valueOf 49 = .ok (.ireturn, 1) := by decide +kernel
theorem dX1_valueIfPlain_0 : decode cX1_valueIfPlain 0 = .ok (.iconst 0, 1) := by decide +kernel
theorem dX1_valueIfPlain_1 : decode cX1_valueIfPlain 1 = .ok (.istore_n 3, 1) := by decide +kernel
theorem dX1_valueIfPlain_2 : decode cX1_valueIfPlain 2 = .ok (.iconst 0, 1) := by decide +kernel
theorem dX1_valueIfPlain_3 : decode cX1_valueIfPlain 3 = .ok (.istore 4, 2) := by decide +kernel
theorem dX1_valueIfPlain_5 : decode cX1_valueIfPlain 5 = .ok (.iload 4, 2) := by decide +kernel
theorem dX1_valueIfPlain_7 : decode cX1_valueIfPlain 7 = .ok (.iconst 3, 1) := by decide +kernel
theorem dX1_valueIfPlain_8 : decode cX1_valueIfPlain 8 = .ok (.if_icmp .ge 37, 3) := by decide +kernel
theorem dX1_valueIfPlain_11 : decode cX1_valueIfPlain 11 = .ok (.iload_n 3, 1) := by decide +kernel
theorem dX1_valueIfPlain_12 : decode cX1_valueIfPlain 12 = .ok (.aload_n 0, 1) := by decide +kernel
theorem dX1_valueIfPlain_13 : decode cX1_valueIfPlain 13 = .ok (.getfield 15, 3) := by decide +kernel
theorem dX1_valueIfPlain_16 : decode cX1_valueIfPlain 16 = .ok (.iload 4, 2) := by decide +kernel
theorem dX1_valueIfPlain_18 : decode cX1_valueIfPlain 18 = .ok (.iaload, 1) := by decide +kernel
theorem dX1_valueIfPlain_19 : decode cX1_valueIfPlain 19 = .ok (.iconst 0, 1) := by decide +kernel
theorem dX1_valueIfPlain_20 : decode cX1_valueIfPlain 20 = .ok (.aload_n 0, 1) := by decide +kernel
theorem dX1_valueIfPlain_21 : decode cX1_valueIfPlain 21 = .ok (.getfield 19, 3) := by decide +kernel
theorem dX1_valueIfPlain_24 : decode cX1_valueIfPlain 24 = .ok (.iload_n 1, 1) := by decide +kernel
theorem dX1_valueIfPlain_25 : decode cX1_valueIfPlain 25 = .ok (.iconst 3, 1) := by decide +kernel
theorem dX1_valueIfPlain_26 : decode cX1_valueIfPlain 26 = .ok (.imul, 1) := by decide +kernel
theorem dX1_valueIfPlain_27 : decode cX1_valueIfPlain 27 = .ok (.iload 4, 2) := by decide +kernel
theorem dX1_valueIfPlain_29 : decode cX1_valueIfPlain 29 = .ok (.iadd, 1) := by decide +kernel
theorem dX1_valueIfPlain_30 : decode cX1_valueIfPlain 30 = .ok (.iaload, 1) := by decide +kernel
theorem dX1_valueIfPlain_31 : decode cX1_valueIfPlain 31 = .ok (.iload_n 2, 1) := by decide +kernel
theorem dX1_valueIfPlain_32 : decode cX1_valueIfPlain 32 = .ok (.isub, 1) := by decide +kernel
theorem dX1_valueIfPlain_33 : decode cX1_valueIfPlain 33 = .ok (.invokestatic 73, 3) := by decide +kernel
theorem dX1_valueIfPlain_36 : decode cX1_valueIfPlain 36 = .ok (.imul, 1) := by decide +kernel
theorem dX1_valueIfPlain_37 : decode cX1_valueIfPlain 37 = .ok (.iadd, 1) := by decide +kernel
theorem dX1_valueIfPlain_38 : decode cX1_valueIfPlain 38 = .ok (.istore_n 3, 1) := by decide +kernel
theorem dX1_valueIfPlain_39 : decode cX1_valueIfPlain 39 = .ok (.iinc 4 1, 3) := by decide +kernel
theorem dX1_valueIfPlain_42 : decode cX1_valueIfPlain 42 = .ok (.goto (-37), 3) := by decide +kernel
theorem dX1_valueIfPlain_45 : decode cX1_valueIfPlain 45 = .ok (.iload_n 3, 1) := by decide +kernel
theorem dX1_valueIfPlain_46 : decode cX1_valueIfPlain 46 = .ok (.ireturn, 1) := by decide +kernel
theorem dX1_fairestOf_0 : decode cX1_fairestOf 0 = .ok (.iconst (-1), 1) := by decide +kernel
theorem dX1_fairestOf_1 : decode cX1_fairestOf 1 = .ok (.istore_n 2, 1) := by decide +kernel
theorem dX1_fairestOf_2 : decode cX1_fairestOf 2 = .ok (.iconst 0, 1) := by decide +kernel
theorem dX1_fairestOf_3 : decode cX1_fairestOf 3 = .ok (.istore_n 3, 1) := by decide +kernel
theorem dX1_fairestOf_4 : decode cX1_fairestOf 4 = .ok (.iconst 0, 1) := by decide +kernel
theorem dX1_fairestOf_5 : decode cX1_fairestOf 5 = .ok (.istore 4, 2) := by decide +kernel
theorem dX1_fairestOf_7 : decode cX1_fairestOf 7 = .ok (.iload 4, 2) := by decide +kernel
theorem dX1_fairestOf_9 : decode cX1_fairestOf 9 = .ok (.aload_n 0, 1) := by decide +kernel
theorem dX1_fairestOf_10 : decode cX1_fairestOf 10 = .ok (.getfield 11, 3) := by decide +kernel
theorem dX1_fairestOf_13 : decode cX1_fairestOf 13 = .ok (.if_icmp .ge 51, 3) := by decide +kernel
theorem dX1_fairestOf_16 : decode cX1_fairestOf 16 = .ok (.iload_n 1, 1) := by decide +kernel
theorem dX1_fairestOf_17 : decode cX1_fairestOf 17 = .ok (.iload 4, 2) := by decide +kernel
theorem dX1_fairestOf_19 : decode cX1_fairestOf 19 = .ok (.ishr, 1) := by decide +kernel
theorem dX1_fairestOf_20 : decode cX1_fairestOf 20 = .ok (.iconst 1, 1) := by decide +kernel
theorem dX1_fairestOf_21 : decode cX1_fairestOf 21 = .ok (.iand, 1) := by decide +kernel
theorem dX1_fairestOf_22 : decode cX1_fairestOf 22 = .ok (.iconst 1, 1) := by decide +kernel
theorem dX1_fairestOf_23 : decode cX1_fairestOf 23 = .ok (.if_icmp .ne 35, 3) := by decide +kernel
theorem dX1_fairestOf_26 : decode cX1_fairestOf 26 = .ok (.aload_n 0, 1) := by decide +kernel
theorem dX1_fairestOf_27 : decode cX1_fairestOf 27 = .ok (.iload 4, 2) := by decide +kernel
theorem dX1_fairestOf_29 : decode cX1_fairestOf 29 = .ok (.invokevirtual 76, 3) := by decide +kernel
theorem dX1_fairestOf_32 : decode cX1_fairestOf 32 = .ok (.istore 5, 2) := by decide +kernel
theorem dX1_fairestOf_34 : decode cX1_fairestOf 34 = .ok (.iload 5, 2) := by decide +kernel
theorem dX1_fairestOf_36 : decode cX1_fairestOf 36 = .ok (.iload_n 2, 1) := by decide +kernel
theorem dX1_fairestOf_37 : decode cX1_fairestOf 37 = .ok (.if_icmp .le 8, 3) := by decide +kernel
theorem dX1_fairestOf_40 : decode cX1_fairestOf 40 = .ok (.iload 5, 2) := by decide +kernel
theorem dX1_fairestOf_42 : decode cX1_fairestOf 42 = .ok (.istore_n 2, 1) := by decide +kernel
theorem dX1_fairestOf_43 : decode cX1_fairestOf 43 = .ok (.iconst 0, 1) := by decide +kernel
theorem dX1_fairestOf_44 : decode cX1_fairestOf 44 = .ok (.istore_n 3, 1) := by decide +kernel
theorem dX1_fairestOf_45 : decode cX1_fairestOf 45 = .ok (.iload 5, 2) := by decide +kernel
theorem dX1_fairestOf_47 : decode cX1_fairestOf 47 = .ok (.iload_n 2, 1) := by decide +kernel
theorem dX1_fairestOf_48 : decode cX1_fairestOf 48 = .ok (.if_icmp .ne 10, 3) := by decide +kernel
theorem dX1_fairestOf_51 : decode cX1_fairestOf 51 = .ok (.iload_n 3, 1) := by decide +kernel
theorem dX1_fairestOf_52 : decode cX1_fairestOf 52 = .ok (.iconst 1, 1) := by decide +kernel
theorem dX1_fairestOf_53 : decode cX1_fairestOf 53 = .ok (.iload 4, 2) := by decide +kernel
theorem dX1_fairestOf_55 : decode cX1_fairestOf 55 = .ok (.ishl, 1) := by decide +kernel
theorem dX1_fairestOf_56 : decode cX1_fairestOf 56 = .ok (.ior, 1) := by decide +kernel
theorem dX1_fairestOf_57 : decode cX1_fairestOf 57 = .ok (.istore_n 3, 1) := by decide +kernel
theorem dX1_fairestOf_58 : decode cX1_fairestOf 58 = .ok (.iinc 4 1, 3) := by decide +kernel
theorem dX1_fairestOf_61 : decode cX1_fairestOf 61 = .ok (.goto (-54), 3) := by decide +kernel
theorem dX1_fairestOf_64 : decode cX1_fairestOf 64 = .ok (.iload_n 3, 1) := by decide +kernel
theorem dX1_fairestOf_65 : decode cX1_fairestOf 65 = .ok (.ireturn, 1) := by decide +kernel
theorem dX1_leastOf_0 : decode cX1_leastOf 0 = .ok (.iconst 0, 1) := by decide +kernel
theorem dX1_leastOf_1 : decode cX1_leastOf 1 = .ok (.istore_n 2, 1) := by decide +kernel
theorem dX1_leastOf_2 : decode cX1_leastOf 2 = .ok (.iload_n 2, 1) := by decide +kernel
theorem dX1_leastOf_3 : decode cX1_leastOf 3 = .ok (.aload_n 0, 1) := by decide +kernel
theorem dX1_leastOf_4 : decode cX1_leastOf 4 = .ok (.getfield 11, 3) := by decide +kernel
theorem dX1_leastOf_7 : decode cX1_leastOf 7 = .ok (.if_icmp .ge 20, 3) := by decide +kernel
theorem dX1_leastOf_10 : decode cX1_leastOf 10 = .ok (.iload_n 1, 1) := by decide +kernel
theorem dX1_leastOf_11 : decode cX1_leastOf 11 = .ok (.iload_n 2, 1) := by decide +kernel
theorem dX1_leastOf_12 : decode cX1_leastOf 12 = .ok (.ishr, 1) := by decide +kernel
theorem dX1_leastOf_13 : decode cX1_leastOf 13 = .ok (.iconst 1, 1) := by decide +kernel
theorem dX1_leastOf_14 : decode cX1_leastOf 14 = .ok (.iand, 1) := by decide +kernel
theorem dX1_leastOf_15 : decode cX1_leastOf 15 = .ok (.iconst 1, 1) := by decide +kernel
theorem dX1_leastOf_16 : decode cX1_leastOf 16 = .ok (.if_icmp .ne 5, 3) := by decide +kernel
theorem dX1_leastOf_19 : decode cX1_leastOf 19 = .ok (.iload_n 2, 1) := by decide +kernel
theorem dX1_leastOf_20 : decode cX1_leastOf 20 = .ok (.ireturn, 1) := by decide +kernel
theorem dX1_leastOf_21 : decode cX1_leastOf 21 = .ok (.iinc 2 1, 3) := by decide +kernel
theorem dX1_leastOf_24 : decode cX1_leastOf 24 = .ok (.goto (-22), 3) := by decide +kernel
theorem dX1_leastOf_27 : decode cX1_leastOf 27 = .ok (.bipush (-9), 2) := by decide +kernel
theorem dX1_leastOf_29 : decode cX1_leastOf 29 = .ok (.ireturn, 1) := by decide +kernel
theorem dX1_isFairestAlone_0 : decode cX1_isFairestAlone 0 = .ok (.aload_n 0, 1) := by decide +kernel
theorem dX1_isFairestAlone_1 : decode cX1_isFairestAlone 1 = .ok (.iload_n 1, 1) := by decide +kernel
theorem dX1_isFairestAlone_2 : decode cX1_isFairestAlone 2 = .ok (.invokevirtual 76, 3) := by decide +kernel
theorem dX1_isFairestAlone_5 : decode cX1_isFairestAlone 5 = .ok (.istore_n 2, 1) := by decide +kernel
theorem dX1_isFairestAlone_6 : decode cX1_isFairestAlone 6 = .ok (.iconst 0, 1) := by decide +kernel
theorem dX1_isFairestAlone_7 : decode cX1_isFairestAlone 7 = .ok (.istore_n 3, 1) := by decide +kernel
theorem dX1_isFairestAlone_8 : decode cX1_isFairestAlone 8 = .ok (.iload_n 3, 1) := by decide +kernel
theorem dX1_isFairestAlone_9 : decode cX1_isFairestAlone 9 = .ok (.aload_n 0, 1) := by decide +kernel
theorem dX1_isFairestAlone_10 : decode cX1_isFairestAlone 10 = .ok (.getfield 11, 3) := by decide +kernel
theorem dX1_isFairestAlone_13 : decode cX1_isFairestAlone 13 = .ok (.if_icmp .ge 33, 3) := by decide +kernel
theorem dX1_isFairestAlone_16 : decode cX1_isFairestAlone 16 = .ok (.iload_n 3, 1) := by decide +kernel
theorem dX1_isFairestAlone_17 : decode cX1_isFairestAlone 17 = .ok (.iload_n 1, 1) := by decide +kernel
theorem dX1_isFairestAlone_18 : decode cX1_isFairestAlone 18 = .ok (.if_icmp .eq 22, 3) := by decide +kernel
theorem dX1_isFairestAlone_21 : decode cX1_isFairestAlone 21 = .ok (.aload_n 0, 1) := by decide +kernel
theorem dX1_isFairestAlone_22 : decode cX1_isFairestAlone 22 = .ok (.iload_n 3, 1) := by decide +kernel
theorem dX1_isFairestAlone_23 : decode cX1_isFairestAlone 23 = .ok (.invokevirtual 79, 3) := by decide +kernel
theorem dX1_isFairestAlone_26 : decode cX1_isFairestAlone 26 = .ok (.ifCond .eq 14, 3) := by decide +kernel
theorem dX1_isFairestAlone_29 : decode cX1_isFairestAlone 29 = .ok (.aload_n 0, 1) := by decide +kernel
theorem dX1_isFairestAlone_30 : decode cX1_isFairestAlone 30 = .ok (.iload_n 3, 1) := by decide +kernel
theorem dX1_isFairestAlone_31 : decode cX1_isFairestAlone 31 = .ok (.invokevirtual 76, 3) := by decide +kernel
theorem dX1_isFairestAlone_34 : decode cX1_isFairestAlone 34 = .ok (.iload_n 2, 1) := by decide +kernel
theorem dX1_isFairestAlone_35 : decode cX1_isFairestAlone 35 = .ok (.if_icmp .lt 5, 3) := by decide +kernel
theorem dX1_isFairestAlone_38 : decode cX1_isFairestAlone 38 = .ok (.iconst 0, 1) := by decide +kernel
theorem dX1_isFairestAlone_39 : decode cX1_isFairestAlone 39 = .ok (.ireturn, 1) := by decide +kernel
theorem dX1_isFairestAlone_40 : decode cX1_isFairestAlone 40 = .ok (.iinc 3 1, 3) := by decide +kernel
theorem dX1_isFairestAlone_43 : decode cX1_isFairestAlone 43 = .ok (.goto (-35), 3) := by decide +kernel
theorem dX1_isFairestAlone_46 : decode cX1_isFairestAlone 46 = .ok (.iconst 1, 1) := by decide +kernel
theorem dX1_isFairestAlone_47 : decode cX1_isFairestAlone 47 = .ok (.ireturn, 1) := by decide +kernel
theorem dX1_passMorning_0 : decode cX1_passMorning 0 = .ok (.aload_n 0, 1) := by decide +kernel
theorem dX1_passMorning_1 : decode cX1_passMorning 1 = .ok (.dup, 1) := by decide +kernel
theorem dX1_passMorning_2 : decode cX1_passMorning 2 = .ok (.getfield 31, 3) := by decide +kernel
theorem dX1_passMorning_5 : decode cX1_passMorning 5 = .ok (.iconst 1, 1) := by decide +kernel
theorem dX1_passMorning_6 : decode cX1_passMorning 6 = .ok (.iadd, 1) := by decide +kernel
theorem dX1_passMorning_7 : decode cX1_passMorning 7 = .ok (.putfield 31, 3) := by decide +kernel
theorem dX1_passMorning_10 : decode cX1_passMorning 10 = .ok (.aload_n 0, 1) := by decide +kernel
theorem dX1_passMorning_11 : decode cX1_passMorning 11 = .ok (.aload_n 0, 1) := by decide +kernel
theorem dX1_passMorning_12 : decode cX1_passMorning 12 = .ok (.aload_n 0, 1) := by decide +kernel
theorem dX1_passMorning_13 : decode cX1_passMorning 13 = .ok (.getfield 25, 3) := by decide +kernel
theorem dX1_passMorning_16 : decode cX1_passMorning 16 = .ok (.bipush (-2), 2) := by decide +kernel
theorem dX1_passMorning_18 : decode cX1_passMorning 18 = .ok (.iand, 1) := by decide +kernel
theorem dX1_passMorning_19 : decode cX1_passMorning 19 = .ok (.invokevirtual 83, 3) := by decide +kernel
theorem dX1_passMorning_22 : decode cX1_passMorning 22 = .ok (.invokevirtual 86, 3) := by decide +kernel
theorem dX1_passMorning_25 : decode cX1_passMorning 25 = .ok (.istore_n 1, 1) := by decide +kernel
theorem dX1_passMorning_26 : decode cX1_passMorning 26 = .ok (.iload_n 1, 1) := by decide +kernel
theorem dX1_passMorning_27 : decode cX1_passMorning 27 = .ok (.bipush (-9), 2) := by decide +kernel
theorem dX1_passMorning_29 : decode cX1_passMorning 29 = .ok (.if_icmp .eq 8, 3) := by decide +kernel
theorem dX1_passMorning_32 : decode cX1_passMorning 32 = .ok (.aload_n 0, 1) := by decide +kernel
theorem dX1_passMorning_33 : decode cX1_passMorning 33 = .ok (.iload_n 1, 1) := by decide +kernel
theorem dX1_passMorning_34 : decode cX1_passMorning 34 = .ok (.invokevirtual 89, 3) := by decide +kernel
theorem dX1_passMorning_37 : decode cX1_passMorning 37 = .ok (.return_, 1) := by decide +kernel
theorem dX1_weighFearOf_0 : decode cX1_weighFearOf 0 = .ok (.iconst (-1), 1) := by decide +kernel
theorem dX1_weighFearOf_1 : decode cX1_weighFearOf 1 = .ok (.istore_n 2, 1) := by decide +kernel
theorem dX1_weighFearOf_2 : decode cX1_weighFearOf 2 = .ok (.iconst 0, 1) := by decide +kernel
theorem dX1_weighFearOf_3 : decode cX1_weighFearOf 3 = .ok (.istore_n 3, 1) := by decide +kernel
theorem dX1_weighFearOf_4 : decode cX1_weighFearOf 4 = .ok (.iconst 0, 1) := by decide +kernel
theorem dX1_weighFearOf_5 : decode cX1_weighFearOf 5 = .ok (.istore 4, 2) := by decide +kernel
theorem dX1_weighFearOf_7 : decode cX1_weighFearOf 7 = .ok (.iload 4, 2) := by decide +kernel
theorem dX1_weighFearOf_9 : decode cX1_weighFearOf 9 = .ok (.iconst 3, 1) := by decide +kernel
theorem dX1_weighFearOf_10 : decode cX1_weighFearOf 10 = .ok (.if_icmp .ge 44, 3) := by decide +kernel
theorem dX1_weighFearOf_13 : decode cX1_weighFearOf 13 = .ok (.aload_n 0, 1) := by decide +kernel
theorem dX1_weighFearOf_14 : decode cX1_weighFearOf 14 = .ok (.getfield 19, 3) := by decide +kernel
theorem dX1_weighFearOf_17 : decode cX1_weighFearOf 17 = .ok (.iload_n 1, 1) := by decide +kernel
theorem dX1_weighFearOf_18 : decode cX1_weighFearOf 18 = .ok (.iconst 3, 1) := by decide +kernel
theorem dX1_weighFearOf_19 : decode cX1_weighFearOf 19 = .ok (.imul, 1) := by decide +kernel
theorem dX1_weighFearOf_20 : decode cX1_weighFearOf 20 = .ok (.iload 4, 2) := by decide +kernel
theorem dX1_weighFearOf_22 : decode cX1_weighFearOf 22 = .ok (.iadd, 1) := by decide +kernel
theorem dX1_weighFearOf_23 : decode cX1_weighFearOf 23 = .ok (.iaload, 1) := by decide +kernel
theorem dX1_weighFearOf_24 : decode cX1_weighFearOf 24 = .ok (.aload_n 0, 1) := by decide +kernel
theorem dX1_weighFearOf_25 : decode cX1_weighFearOf 25 = .ok (.getfield 19, 3) := by decide +kernel
theorem dX1_weighFearOf_28 : decode cX1_weighFearOf 28 = .ok (.iconst 0, 1) := by decide +kernel
theorem dX1_weighFearOf_29 : decode cX1_weighFearOf 29 = .ok (.iload 4, 2) := by decide +kernel
theorem dX1_weighFearOf_31 : decode cX1_weighFearOf 31 = .ok (.iadd, 1) := by decide +kernel
theorem dX1_weighFearOf_32 : decode cX1_weighFearOf 32 = .ok (.iaload, 1) := by decide +kernel
theorem dX1_weighFearOf_33 : decode cX1_weighFearOf 33 = .ok (.isub, 1) := by decide +kernel
theorem dX1_weighFearOf_34 : decode cX1_weighFearOf 34 = .ok (.istore 5, 2) := by decide +kernel
theorem dX1_weighFearOf_36 : decode cX1_weighFearOf 36 = .ok (.iload 5, 2) := by decide +kernel
theorem dX1_weighFearOf_38 : decode cX1_weighFearOf 38 = .ok (.iload_n 3, 1) := by decide +kernel
theorem dX1_weighFearOf_39 : decode cX1_weighFearOf 39 = .ok (.if_icmp .le 9, 3) := by decide +kernel
theorem dX1_weighFearOf_42 : decode cX1_weighFearOf 42 = .ok (.iload 4, 2) := by decide +kernel
theorem dX1_weighFearOf_44 : decode cX1_weighFearOf 44 = .ok (.istore_n 2, 1) := by decide +kernel
theorem dX1_weighFearOf_45 : decode cX1_weighFearOf 45 = .ok (.iload 5, 2) := by decide +kernel
theorem dX1_weighFearOf_47 : decode cX1_weighFearOf 47 = .ok (.istore_n 3, 1) := by decide +kernel
theorem dX1_weighFearOf_48 : decode cX1_weighFearOf 48 = .ok (.iinc 4 1, 3) := by decide +kernel
theorem dX1_weighFearOf_51 : decode cX1_weighFearOf 51 = .ok (.goto (-44), 3) := by decide +kernel
theorem dX1_weighFearOf_54 : decode cX1_weighFearOf 54 = .ok (.aload_n 0, 1) := by decide +kernel
theorem dX1_weighFearOf_55 : decode cX1_weighFearOf 55 = .ok (.getfield 15, 3) := by decide +kernel
theorem dX1_weighFearOf_58 : decode cX1_weighFearOf 58 = .ok (.iconst 0, 1) := by decide +kernel
theorem dX1_weighFearOf_59 : decode cX1_weighFearOf 59 = .ok (.iaload, 1) := by decide +kernel
theorem dX1_weighFearOf_60 : decode cX1_weighFearOf 60 = .ok (.aload_n 0, 1) := by decide +kernel
theorem dX1_weighFearOf_61 : decode cX1_weighFearOf 61 = .ok (.getfield 15, 3) := by decide +kernel
theorem dX1_weighFearOf_64 : decode cX1_weighFearOf 64 = .ok (.iconst 1, 1) := by decide +kernel
theorem dX1_weighFearOf_65 : decode cX1_weighFearOf 65 = .ok (.iaload, 1) := by decide +kernel
theorem dX1_weighFearOf_66 : decode cX1_weighFearOf 66 = .ok (.iadd, 1) := by decide +kernel
theorem dX1_weighFearOf_67 : decode cX1_weighFearOf 67 = .ok (.aload_n 0, 1) := by decide +kernel
theorem dX1_weighFearOf_68 : decode cX1_weighFearOf 68 = .ok (.getfield 15, 3) := by decide +kernel
theorem dX1_weighFearOf_71 : decode cX1_weighFearOf 71 = .ok (.iconst 2, 1) := by decide +kernel
theorem dX1_weighFearOf_72 : decode cX1_weighFearOf 72 = .ok (.iaload, 1) := by decide +kernel
theorem dX1_weighFearOf_73 : decode cX1_weighFearOf 73 = .ok (.iadd, 1) := by decide +kernel
theorem dX1_weighFearOf_74 : decode cX1_weighFearOf 74 = .ok (.iconst 1, 1) := by decide +kernel
theorem dX1_weighFearOf_75 : decode cX1_weighFearOf 75 = .ok (.if_icmp .ne 7, 3) := by decide +kernel
theorem dX1_weighFearOf_78 : decode cX1_weighFearOf 78 = .ok (.iconst 1, 1) := by decide +kernel
theorem dX1_weighFearOf_79 : decode cX1_weighFearOf 79 = .ok (.goto 4, 3) := by decide +kernel
theorem dX1_weighFearOf_82 : decode cX1_weighFearOf 82 = .ok (.iconst 0, 1) := by decide +kernel
theorem dX1_weighFearOf_83 : decode cX1_weighFearOf 83 = .ok (.istore 4, 2) := by decide +kernel
theorem dX1_weighFearOf_85 : decode cX1_weighFearOf 85 = .ok (.iload_n 2, 1) := by decide +kernel
theorem dX1_weighFearOf_86 : decode cX1_weighFearOf 86 = .ok (.ifCond .lt 27, 3) := by decide +kernel
theorem dX1_weighFearOf_89 : decode cX1_weighFearOf 89 = .ok (.aload_n 0, 1) := by decide +kernel
theorem dX1_weighFearOf_90 : decode cX1_weighFearOf 90 = .ok (.getfield 15, 3) := by decide +kernel
theorem dX1_weighFearOf_93 : decode cX1_weighFearOf 93 = .ok (.iload_n 2, 1) := by decide +kernel
theorem dX1_weighFearOf_94 : decode cX1_weighFearOf 94 = .ok (.iaload, 1) := by decide +kernel
theorem dX1_weighFearOf_95 : decode cX1_weighFearOf 95 = .ok (.ifCond .le 18, 3) := by decide +kernel
theorem dX1_weighFearOf_98 : decode cX1_weighFearOf 98 = .ok (.iload 4, 2) := by decide +kernel
theorem dX1_weighFearOf_100 : decode cX1_weighFearOf 100 = .ok (.ifCond .ne 13, 3) := by decide +kernel
theorem dX1_weighFearOf_103 : decode cX1_weighFearOf 103 = .ok (.aload_n 0, 1) := by decide +kernel
theorem dX1_weighFearOf_104 : decode cX1_weighFearOf 104 = .ok (.getfield 15, 3) := by decide +kernel
theorem dX1_weighFearOf_107 : decode cX1_weighFearOf 107 = .ok (.iload_n 2, 1) := by decide +kernel
theorem dX1_weighFearOf_108 : decode cX1_weighFearOf 108 = .ok (.dup2, 1) := by decide +kernel
theorem dX1_weighFearOf_109 : decode cX1_weighFearOf 109 = .ok (.iaload, 1) := by decide +kernel
theorem dX1_weighFearOf_110 : decode cX1_weighFearOf 110 = .ok (.iconst 1, 1) := by decide +kernel
theorem dX1_weighFearOf_111 : decode cX1_weighFearOf 111 = .ok (.isub, 1) := by decide +kernel
theorem dX1_weighFearOf_112 : decode cX1_weighFearOf 112 = .ok (.iastore, 1) := by decide +kernel
theorem dX1_weighFearOf_113 : decode cX1_weighFearOf 113 = .ok (.return_, 1) := by decide +kernel
theorem dX1_passYear_0 : decode cX1_passYear 0 = .ok (.aload_n 0, 1) := by decide +kernel
theorem dX1_passYear_1 : decode cX1_passYear 1 = .ok (.dup, 1) := by decide +kernel
theorem dX1_passYear_2 : decode cX1_passYear 2 = .ok (.getfield 34, 3) := by decide +kernel
theorem dX1_passYear_5 : decode cX1_passYear 5 = .ok (.iconst 1, 1) := by decide +kernel
theorem dX1_passYear_6 : decode cX1_passYear 6 = .ok (.iadd, 1) := by decide +kernel
theorem dX1_passYear_7 : decode cX1_passYear 7 = .ok (.putfield 34, 3) := by decide +kernel
theorem dX1_passYear_10 : decode cX1_passYear 10 = .ok (.iconst 0, 1) := by decide +kernel
theorem dX1_passYear_11 : decode cX1_passYear 11 = .ok (.istore_n 1, 1) := by decide +kernel
theorem dX1_passYear_12 : decode cX1_passYear 12 = .ok (.iload_n 1, 1) := by decide +kernel
theorem dX1_passYear_13 : decode cX1_passYear 13 = .ok (.aload_n 0, 1) := by decide +kernel
theorem dX1_passYear_14 : decode cX1_passYear 14 = .ok (.getfield 11, 3) := by decide +kernel
theorem dX1_passYear_17 : decode cX1_passYear 17 = .ok (.if_icmp .ge 59, 3) := by decide +kernel
theorem dX1_passYear_20 : decode cX1_passYear 20 = .ok (.aload_n 0, 1) := by decide +kernel
theorem dX1_passYear_21 : decode cX1_passYear 21 = .ok (.iload_n 1, 1) := by decide +kernel
theorem dX1_passYear_22 : decode cX1_passYear 22 = .ok (.invokevirtual 79, 3) := by decide +kernel
theorem dX1_passYear_25 : decode cX1_passYear 25 = .ok (.ifCond .eq 45, 3) := by decide +kernel
theorem dX1_passYear_28 : decode cX1_passYear 28 = .ok (.iconst 0, 1) := by decide +kernel
theorem dX1_passYear_29 : decode cX1_passYear 29 = .ok (.istore_n 2, 1) := by decide +kernel
theorem dX1_passYear_30 : decode cX1_passYear 30 = .ok (.iload_n 2, 1) := by decide +kernel
theorem dX1_passYear_31 : decode cX1_passYear 31 = .ok (.iconst 3, 1) := by decide +kernel
theorem dX1_passYear_32 : decode cX1_passYear 32 = .ok (.if_icmp .ge 38, 3) := by decide +kernel
theorem dX1_passYear_35 : decode cX1_passYear 35 = .ok (.iload_n 1, 1) := by decide +kernel
theorem dX1_passYear_36 : decode cX1_passYear 36 = .ok (.iconst 3, 1) := by decide +kernel
theorem dX1_passYear_37 : decode cX1_passYear 37 = .ok (.imul, 1) := by decide +kernel
theorem dX1_passYear_38 : decode cX1_passYear 38 = .ok (.iload_n 2, 1) := by decide +kernel
theorem dX1_passYear_39 : decode cX1_passYear 39 = .ok (.iadd, 1) := by decide +kernel
theorem dX1_passYear_40 : decode cX1_passYear 40 = .ok (.istore_n 3, 1) := by decide +kernel
theorem dX1_passYear_41 : decode cX1_passYear 41 = .ok (.aload_n 0, 1) := by decide +kernel
theorem dX1_passYear_42 : decode cX1_passYear 42 = .ok (.getfield 19, 3) := by decide +kernel
theorem dX1_passYear_45 : decode cX1_passYear 45 = .ok (.iload_n 3, 1) := by decide +kernel
theorem dX1_passYear_46 : decode cX1_passYear 46 = .ok (.iconst 0, 1) := by decide +kernel
theorem dX1_passYear_47 : decode cX1_passYear 47 = .ok (.aload_n 0, 1) := by decide +kernel
theorem dX1_passYear_48 : decode cX1_passYear 48 = .ok (.getfield 19, 3) := by decide +kernel
theorem dX1_passYear_51 : decode cX1_passYear 51 = .ok (.iload_n 3, 1) := by decide +kernel
theorem dX1_passYear_52 : decode cX1_passYear 52 = .ok (.iaload, 1) := by decide +kernel
theorem dX1_passYear_53 : decode cX1_passYear 53 = .ok (.aload_n 0, 1) := by decide +kernel
theorem dX1_passYear_54 : decode cX1_passYear 54 = .ok (.getfield 22, 3) := by decide +kernel
theorem dX1_passYear_57 : decode cX1_passYear 57 = .ok (.iload_n 1, 1) := by decide +kernel
theorem dX1_passYear_58 : decode cX1_passYear 58 = .ok (.iaload, 1) := by decide +kernel
theorem dX1_passYear_59 : decode cX1_passYear 59 = .ok (.isub, 1) := by decide +kernel
theorem dX1_passYear_60 : decode cX1_passYear 60 = .ok (.invokestatic 73, 3) := by decide +kernel
theorem dX1_passYear_63 : decode cX1_passYear 63 = .ok (.iastore, 1) := by decide +kernel
theorem dX1_passYear_64 : decode cX1_passYear 64 = .ok (.iinc 2 1, 3) := by decide +kernel
theorem dX1_passYear_67 : decode cX1_passYear 67 = .ok (.goto (-37), 3) := by decide +kernel
theorem dX1_passYear_70 : decode cX1_passYear 70 = .ok (.iinc 1 1, 3) := by decide +kernel
theorem dX1_passYear_73 : decode cX1_passYear 73 = .ok (.goto (-61), 3) := by decide +kernel
theorem dX1_passYear_76 : decode cX1_passYear 76 = .ok (.return_, 1) := by decide +kernel
theorem dX2_init_0 : decode cX2_init 0 = .ok (.aload_n 0, 1) := by decide +kernel
theorem dX2_init_1 : decode cX2_init 1 = .ok (.invokespecial 5, 3) := by decide +kernel
theorem dX2_init_4 : decode cX2_init 4 = .ok (.aload_n 0, 1) := by decide +kernel
theorem dX2_init_5 : decode cX2_init 5 = .ok (.bipush 40, 2) := by decide +kernel
theorem dX2_init_7 : decode cX2_init 7 = .ok (.newarray .int, 2) := by decide +kernel
theorem dX2_init_9 : decode cX2_init 9 = .ok (.putfield 11, 3) := by decide +kernel
theorem dX2_init_12 : decode cX2_init 12 = .ok (.aload_n 0, 1) := by decide +kernel
theorem dX2_init_13 : decode cX2_init 13 = .ok (.iconst 0, 1) := by decide +kernel
theorem dX2_init_14 : decode cX2_init 14 = .ok (.putfield 15, 3) := by decide +kernel
theorem dX2_init_17 : decode cX2_init 17 = .ok (.return_, 1) := by decide +kernel
theorem dX2_append_0 : decode cX2_append 0 = .ok (.aload_n 0, 1) := by decide +kernel
theorem dX2_append_1 : decode cX2_append 1 = .ok (.getfield 15, 3) := by decide +kernel
theorem dX2_append_4 : decode cX2_append 4 = .ok (.bipush 40, 2) := by decide +kernel
theorem dX2_append_6 : decode cX2_append 6 = .ok (.if_icmp .ge 23, 3) := by decide +kernel
theorem dX2_append_9 : decode cX2_append 9 = .ok (.aload_n 0, 1) := by decide +kernel
theorem dX2_append_10 : decode cX2_append 10 = .ok (.getfield 11, 3) := by decide +kernel
theorem dX2_append_13 : decode cX2_append 13 = .ok (.aload_n 0, 1) := by decide +kernel
theorem dX2_append_14 : decode cX2_append 14 = .ok (.getfield 15, 3) := by decide +kernel
theorem dX2_append_17 : decode cX2_append 17 = .ok (.iload_n 1, 1) := by decide +kernel
theorem dX2_append_18 : decode cX2_append 18 = .ok (.iastore, 1) := by decide +kernel
theorem dX2_append_19 : decode cX2_append 19 = .ok (.aload_n 0, 1) := by decide +kernel
theorem dX2_append_20 : decode cX2_append 20 = .ok (.dup, 1) := by decide +kernel
theorem dX2_append_21 : decode cX2_append 21 = .ok (.getfield 15, 3) := by decide +kernel
theorem dX2_append_24 : decode cX2_append 24 = .ok (.iconst 1, 1) := by decide +kernel
theorem dX2_append_25 : decode cX2_append 25 = .ok (.iadd, 1) := by decide +kernel
theorem dX2_append_26 : decode cX2_append 26 = .ok (.putfield 15, 3) := by decide +kernel
theorem dX2_append_29 : decode cX2_append 29 = .ok (.return_, 1) := by decide +kernel
theorem dX2_firstFault_0 : decode cX2_firstFault 0 = .ok (.iconst 0, 1) := by decide +kernel
theorem dX2_firstFault_1 : decode cX2_firstFault 1 = .ok (.istore_n 1, 1) := by decide +kernel
theorem dX2_firstFault_2 : decode cX2_firstFault 2 = .ok (.iload_n 1, 1) := by decide +kernel
theorem dX2_firstFault_3 : decode cX2_firstFault 3 = .ok (.aload_n 0, 1) := by decide +kernel
theorem dX2_firstFault_4 : decode cX2_firstFault 4 = .ok (.getfield 15, 3) := by decide +kernel
theorem dX2_firstFault_7 : decode cX2_firstFault 7 = .ok (.if_icmp .ge 19, 3) := by decide +kernel
theorem dX2_firstFault_10 : decode cX2_firstFault 10 = .ok (.aload_n 0, 1) := by decide +kernel
theorem dX2_firstFault_11 : decode cX2_firstFault 11 = .ok (.iload_n 1, 1) := by decide +kernel
theorem dX2_firstFault_12 : decode cX2_firstFault 12 = .ok (.invokevirtual 19, 3) := by decide +kernel
theorem dX2_firstFault_15 : decode cX2_firstFault 15 = .ok (.ifCond .ne 5, 3) := by decide +kernel
theorem dX2_firstFault_18 : decode cX2_firstFault 18 = .ok (.iload_n 1, 1) := by decide +kernel
theorem dX2_firstFault_19 : decode cX2_firstFault 19 = .ok (.ireturn, 1) := by decide +kernel
theorem dX2_firstFault_20 : decode cX2_firstFault 20 = .ok (.iinc 1 1, 3) := by decide +kernel
theorem dX2_firstFault_23 : decode cX2_firstFault 23 = .ok (.goto (-21), 3) := by decide +kernel
theorem dX2_firstFault_26 : decode cX2_firstFault 26 = .ok (.aload_n 0, 1) := by decide +kernel
theorem dX2_firstFault_27 : decode cX2_firstFault 27 = .ok (.getfield 15, 3) := by decide +kernel
theorem dX2_firstFault_30 : decode cX2_firstFault 30 = .ok (.iconst 4, 1) := by decide +kernel
theorem dX2_firstFault_31 : decode cX2_firstFault 31 = .ok (.if_icmp .lt 18, 3) := by decide +kernel
theorem dX2_firstFault_34 : decode cX2_firstFault 34 = .ok (.aload_n 0, 1) := by decide +kernel
theorem dX2_firstFault_35 : decode cX2_firstFault 35 = .ok (.getfield 15, 3) := by decide +kernel
theorem dX2_firstFault_38 : decode cX2_firstFault 38 = .ok (.iconst 4, 1) := by decide +kernel
theorem dX2_firstFault_39 : decode cX2_firstFault 39 = .ok (.isub, 1) := by decide +kernel
theorem dX2_firstFault_40 : decode cX2_firstFault 40 = .ok (.iconst 5, 1) := by decide +kernel
theorem dX2_firstFault_41 : decode cX2_firstFault 41 = .ok (.irem, 1) := by decide +kernel
theorem dX2_firstFault_42 : decode cX2_firstFault 42 = .ok (.ifCond .ne 7, 3) := by decide +kernel
theorem dX2_firstFault_45 : decode cX2_firstFault 45 = .ok (.iconst 1, 1) := by decide +kernel
theorem dX2_firstFault_46 : decode cX2_firstFault 46 = .ok (.goto 4, 3) := by decide +kernel
theorem dX2_firstFault_49 : decode cX2_firstFault 49 = .ok (.iconst 0, 1) := by decide +kernel
theorem dX2_firstFault_50 : decode cX2_firstFault 50 = .ok (.istore_n 1, 1) := by decide +kernel
theorem dX2_firstFault_51 : decode cX2_firstFault 51 = .ok (.iload_n 1, 1) := by decide +kernel
theorem dX2_firstFault_52 : decode cX2_firstFault 52 = .ok (.ifCond .eq 8, 3) := by decide +kernel
theorem dX2_firstFault_55 : decode cX2_firstFault 55 = .ok (.bipush (-9), 2) := by decide +kernel
theorem dX2_firstFault_57 : decode cX2_firstFault 57 = .ok (.goto 7, 3) := by decide +kernel
theorem dX2_firstFault_60 : decode cX2_firstFault 60 = .ok (.aload_n 0, 1) := by decide +kernel
theorem dX2_firstFault_61 : decode cX2_firstFault 61 = .ok (.getfield 15, 3) := by decide +kernel
theorem dX2_firstFault_64 : decode cX2_firstFault 64 = .ok (.ireturn, 1) := by decide +kernel
theorem dX2_fitsAt_0 : decode cX2_fitsAt 0 = .ok (.iload_n 1, 1) := by decide +kernel
theorem dX2_fitsAt_1 : decode cX2_fitsAt 1 = .ok (.bipush 34, 2) := by decide +kernel
theorem dX2_fitsAt_3 : decode cX2_fitsAt 3 = .ok (.if_icmp .lt 5, 3) := by decide +kernel
theorem dX2_fitsAt_6 : decode cX2_fitsAt 6 = .ok (.iconst 0, 1) := by decide +kernel
theorem dX2_fitsAt_7 : decode cX2_fitsAt 7 = .ok (.ireturn, 1) := by decide +kernel
theorem dX2_fitsAt_8 : decode cX2_fitsAt 8 = .ok (.aload_n 0, 1) := by decide +kernel
theorem dX2_fitsAt_9 : decode cX2_fitsAt 9 = .ok (.getfield 11, 3) := by decide +kernel
theorem dX2_fitsAt_12 : decode cX2_fitsAt 12 = .ok (.iload_n 1, 1) := by decide +kernel
theorem dX2_fitsAt_13 : decode cX2_fitsAt 13 = .ok (.iaload, 1) := by decide +kernel
theorem dX2_fitsAt_14 : decode cX2_fitsAt 14 = .ok (.istore_n 2, 1) := by decide +kernel
theorem dX2_fitsAt_15 : decode cX2_fitsAt 15 = .ok (.iload_n 1, 1) := by decide +kernel
theorem dX2_fitsAt_16 : decode cX2_fitsAt 16 = .ok (.ifCond .ne 15, 3) := by decide +kernel
theorem dX2_fitsAt_19 : decode cX2_fitsAt 19 = .ok (.iload_n 2, 1) := by decide +kernel
theorem dX2_fitsAt_20 : decode cX2_fitsAt 20 = .ok (.bipush 81, 2) := by decide +kernel
theorem dX2_fitsAt_22 : decode cX2_fitsAt 22 = .ok (.if_icmp .ne 7, 3) := by decide +kernel
theorem dX2_fitsAt_25 : decode cX2_fitsAt 25 = .ok (.iconst 1, 1) := by decide +kernel
theorem dX2_fitsAt_26 : decode cX2_fitsAt 26 = .ok (.goto 4, 3) := by decide +kernel
theorem dX2_fitsAt_29 : decode cX2_fitsAt 29 = .ok (.iconst 0, 1) := by decide +kernel
theorem dX2_fitsAt_30 : decode cX2_fitsAt 30 = .ok (.ireturn, 1) := by decide +kernel
theorem dX2_fitsAt_31 : decode cX2_fitsAt 31 = .ok (.iload_n 2, 1) := by decide +kernel
theorem dX2_fitsAt_32 : decode cX2_fitsAt 32 = .ok (.bipush 48, 2) := by decide +kernel
theorem dX2_fitsAt_34 : decode cX2_fitsAt 34 = .ok (.if_icmp .lt 13, 3) := by decide +kernel
theorem dX2_fitsAt_37 : decode cX2_fitsAt 37 = .ok (.iload_n 2, 1) := by decide +kernel
theorem dX2_fitsAt_38 : decode cX2_fitsAt 38 = .ok (.bipush 57, 2) := by decide +kernel
theorem dX2_fitsAt_40 : decode cX2_fitsAt 40 = .ok (.if_icmp .gt 7, 3) := by decide +kernel
theorem dX2_fitsAt_43 : decode cX2_fitsAt 43 = .ok (.iconst 1, 1) := by decide +kernel
theorem dX2_fitsAt_44 : decode cX2_fitsAt 44 = .ok (.goto 4, 3) := by decide +kernel
theorem dX2_fitsAt_47 : decode cX2_fitsAt 47 = .ok (.iconst 0, 1) := by decide +kernel
theorem dX2_fitsAt_48 : decode cX2_fitsAt 48 = .ok (.istore_n 3, 1) := by decide +kernel
theorem dX2_fitsAt_49 : decode cX2_fitsAt 49 = .ok (.iload_n 1, 1) := by decide +kernel
theorem dX2_fitsAt_50 : decode cX2_fitsAt 50 = .ok (.iconst 4, 1) := by decide +kernel
theorem dX2_fitsAt_51 : decode cX2_fitsAt 51 = .ok (.if_icmp .ge 25, 3) := by decide +kernel
theorem dX2_fitsAt_54 : decode cX2_fitsAt 54 = .ok (.iload_n 3, 1) := by decide +kernel
theorem dX2_fitsAt_55 : decode cX2_fitsAt 55 = .ok (.ifCond .eq 19, 3) := by decide +kernel
theorem dX2_fitsAt_58 : decode cX2_fitsAt 58 = .ok (.iload_n 1, 1) := by decide +kernel
theorem dX2_fitsAt_59 : decode cX2_fitsAt 59 = .ok (.iconst 3, 1) := by decide +kernel
theorem dX2_fitsAt_60 : decode cX2_fitsAt 60 = .ok (.if_icmp .ne 10, 3) := by decide +kernel
theorem dX2_fitsAt_63 : decode cX2_fitsAt 63 = .ok (.aload_n 0, 1) := by decide +kernel
theorem dX2_fitsAt_64 : decode cX2_fitsAt 64 = .ok (.invokevirtual 23, 3) := by decide +kernel
theorem dX2_fitsAt_67 : decode cX2_fitsAt 67 = .ok (.ifCond .ne 7, 3) := by decide +kernel
theorem dX2_fitsAt_70 : decode cX2_fitsAt 70 = .ok (.iconst 1, 1) := by decide +kernel
theorem dX2_fitsAt_71 : decode cX2_fitsAt 71 = .ok (.goto 4, 3) := by decide +kernel
theorem dX2_fitsAt_74 : decode cX2_fitsAt 74 = .ok (.iconst 0, 1) := by decide +kernel
theorem dX2_fitsAt_75 : decode cX2_fitsAt 75 = .ok (.ireturn, 1) := by decide +kernel
theorem dX2_fitsAt_76 : decode cX2_fitsAt 76 = .ok (.iload_n 1, 1) := by decide +kernel
theorem dX2_fitsAt_77 : decode cX2_fitsAt 77 = .ok (.iconst 4, 1) := by decide +kernel
theorem dX2_fitsAt_78 : decode cX2_fitsAt 78 = .ok (.isub, 1) := by decide +kernel
theorem dX2_fitsAt_79 : decode cX2_fitsAt 79 = .ok (.iconst 5, 1) := by decide +kernel
theorem dX2_fitsAt_80 : decode cX2_fitsAt 80 = .ok (.irem, 1) := by decide +kernel
theorem dX2_fitsAt_81 : decode cX2_fitsAt 81 = .ok (.istore 4, 2) := by decide +kernel
theorem dX2_fitsAt_83 : decode cX2_fitsAt 83 = .ok (.iload 4, 2) := by decide +kernel
theorem dX2_fitsAt_85 : decode cX2_fitsAt 85 = .ok (.ifCond .ne 15, 3) := by decide +kernel
theorem dX2_fitsAt_88 : decode cX2_fitsAt 88 = .ok (.iload_n 2, 1) := by decide +kernel
theorem dX2_fitsAt_89 : decode cX2_fitsAt 89 = .ok (.bipush 80, 2) := by decide +kernel
theorem dX2_fitsAt_91 : decode cX2_fitsAt 91 = .ok (.if_icmp .ne 7, 3) := by decide +kernel
theorem dX2_fitsAt_94 : decode cX2_fitsAt 94 = .ok (.iconst 1, 1) := by decide +kernel
theorem dX2_fitsAt_95 : decode cX2_fitsAt 95 = .ok (.goto 4, 3) := by decide +kernel
theorem dX2_fitsAt_98 : decode cX2_fitsAt 98 = .ok (.iconst 0, 1) := by decide +kernel
theorem dX2_fitsAt_99 : decode cX2_fitsAt 99 = .ok (.ireturn, 1) := by decide +kernel
theorem dX2_fitsAt_100 : decode cX2_fitsAt 100 = .ok (.iload 4, 2) := by decide +kernel
theorem dX2_fitsAt_102 : decode cX2_fitsAt 102 = .ok (.iconst 4, 1) := by decide +kernel
theorem dX2_fitsAt_103 : decode cX2_fitsAt 103 = .ok (.if_icmp .ne 7, 3) := by decide +kernel
theorem dX2_fitsAt_106 : decode cX2_fitsAt 106 = .ok (.iconst 1, 1) := by decide +kernel
theorem dX2_fitsAt_107 : decode cX2_fitsAt 107 = .ok (.goto 4, 3) := by decide +kernel
theorem dX2_fitsAt_110 : decode cX2_fitsAt 110 = .ok (.iconst 0, 1) := by decide +kernel
theorem dX2_fitsAt_111 : decode cX2_fitsAt 111 = .ok (.istore 5, 2) := by decide +kernel
theorem dX2_fitsAt_113 : decode cX2_fitsAt 113 = .ok (.iload_n 3, 1) := by decide +kernel
theorem dX2_fitsAt_114 : decode cX2_fitsAt 114 = .ok (.ifCond .eq 20, 3) := by decide +kernel
theorem dX2_fitsAt_117 : decode cX2_fitsAt 117 = .ok (.iload 5, 2) := by decide +kernel
theorem dX2_fitsAt_119 : decode cX2_fitsAt 119 = .ok (.ifCond .eq 11, 3) := by decide +kernel
theorem dX2_fitsAt_122 : decode cX2_fitsAt 122 = .ok (.iload_n 2, 1) := by decide +kernel
theorem dX2_fitsAt_123 : decode cX2_fitsAt 123 = .ok (.bipush 48, 2) := by decide +kernel
theorem dX2_fitsAt_125 : decode cX2_fitsAt 125 = .ok (.isub, 1) := by decide +kernel
theorem dX2_fitsAt_126 : decode cX2_fitsAt 126 = .ok (.iconst 2, 1) := by decide +kernel
theorem dX2_fitsAt_127 : decode cX2_fitsAt 127 = .ok (.if_icmp .gt 7, 3) := by decide +kernel
theorem dX2_fitsAt_130 : decode cX2_fitsAt 130 = .ok (.iconst 1, 1) := by decide +kernel
theorem dX2_fitsAt_131 : decode cX2_fitsAt 131 = .ok (.goto 4, 3) := by decide +kernel
theorem dX2_fitsAt_134 : decode cX2_fitsAt 134 = .ok (.iconst 0, 1) := by decide +kernel
theorem dX2_fitsAt_135 : decode cX2_fitsAt 135 = .ok (.ireturn, 1) := by decide +kernel
theorem dX2_areWeightsNothing_0 : decode cX2_areWeightsNothing 0 = .ok (.iconst 0, 1) := by decide +kernel
theorem dX2_areWeightsNothing_1 : decode cX2_areWeightsNothing 1 = .ok (.istore_n 1, 1) := by decide +kernel
theorem dX2_areWeightsNothing_2 : decode cX2_areWeightsNothing 2 = .ok (.iload_n 1, 1) := by decide +kernel
theorem dX2_areWeightsNothing_3 : decode cX2_areWeightsNothing 3 = .ok (.iconst 3, 1) := by decide +kernel
theorem dX2_areWeightsNothing_4 : decode cX2_areWeightsNothing 4 = .ok (.if_icmp .ge 19, 3) := by decide +kernel
theorem dX2_areWeightsNothing_7 : decode cX2_areWeightsNothing 7 = .ok (.aload_n 0, 1) := by decide +kernel
theorem dX2_areWeightsNothing_8 : decode cX2_areWeightsNothing 8 = .ok (.iload_n 1, 1) := by decide +kernel
theorem dX2_areWeightsNothing_9 : decode cX2_areWeightsNothing 9 = .ok (.invokevirtual 27, 3) := by decide +kernel
theorem dX2_areWeightsNothing_12 : decode cX2_areWeightsNothing 12 = .ok (.ifCond .eq 5, 3) := by decide +kernel
theorem dX2_areWeightsNothing_15 : decode cX2_areWeightsNothing 15 = .ok (.iconst 0, 1) := by decide +kernel
theorem dX2_areWeightsNothing_16 : decode cX2_areWeightsNothing 16 = .ok (.ireturn, 1) := by decide +kernel
theorem dX2_areWeightsNothing_17 : decode cX2_areWeightsNothing 17 = .ok (.iinc 1 1, 3) := by decide +kernel
theorem dX2_areWeightsNothing_20 : decode cX2_areWeightsNothing 20 = .ok (.goto (-18), 3) := by decide +kernel
theorem dX2_areWeightsNothing_23 : decode cX2_areWeightsNothing 23 = .ok (.iconst 1, 1) := by decide +kernel
theorem dX2_areWeightsNothing_24 : decode cX2_areWeightsNothing 24 = .ok (.ireturn, 1) := by decide +kernel
theorem dX2_peopleTold_0 : decode cX2_peopleTold 0 = .ok (.iconst 0, 1) := by decide +kernel
theorem dX2_peopleTold_1 : decode cX2_peopleTold 1 = .ok (.aload_n 0, 1) := by decide +kernel
theorem dX2_peopleTold_2 : decode cX2_peopleTold 2 = .ok (.getfield 15, 3) := by decide +kernel
theorem dX2_peopleTold_5 : decode cX2_peopleTold 5 = .ok (.iconst 4, 1) := by decide +kernel
theorem dX2_peopleTold_6 : decode cX2_peopleTold 6 = .ok (.isub, 1) := by decide +kernel
theorem dX2_peopleTold_7 : decode cX2_peopleTold 7 = .ok (.invokestatic 31, 3) := by decide +kernel
theorem dX2_peopleTold_10 : decode cX2_peopleTold 10 = .ok (.iconst 5, 1) := by decide +kernel
theorem dX2_peopleTold_11 : decode cX2_peopleTold 11 = .ok (.idiv, 1) := by decide +kernel
theorem dX2_peopleTold_12 : decode cX2_peopleTold 12 = .ok (.ireturn, 1) := by decide +kernel
theorem dX2_weight_0 : decode cX2_weight 0 = .ok (.aload_n 0, 1) := by decide +kernel
theorem dX2_weight_1 : decode cX2_weight 1 = .ok (.getfield 11, 3) := by decide +kernel
theorem dX2_weight_4 : decode cX2_weight 4 = .ok (.iconst 1, 1) := by decide +kernel
theorem dX2_weight_5 : decode cX2_weight 5 = .ok (.iload_n 1, 1) := by decide +kernel
theorem dX2_weight_6 : decode cX2_weight 6 = .ok (.iadd, 1) := by decide +kernel
theorem dX2_weight_7 : decode cX2_weight 7 = .ok (.iaload, 1) := by decide +kernel
theorem dX2_weight_8 : decode cX2_weight 8 = .ok (.bipush 48, 2) := by decide +kernel
theorem dX2_weight_10 : decode cX2_weight 10 = .ok (.isub, 1) := by decide +kernel
theorem dX2_weight_11 : decode cX2_weight 11 = .ok (.ireturn, 1) := by decide +kernel
theorem dX2_figureOf_0 : decode cX2_figureOf 0 = .ok (.aload_n 0, 1) := by decide +kernel
theorem dX2_figureOf_1 : decode cX2_figureOf 1 = .ok (.getfield 11, 3) := by decide +kernel
theorem dX2_figureOf_4 : decode cX2_figureOf 4 = .ok (.iconst 4, 1) := by decide +kernel
theorem dX2_figureOf_5 : decode cX2_figureOf 5 = .ok (.iload_n 1, 1) := by decide +kernel
theorem dX2_figureOf_6 : decode cX2_figureOf 6 = .ok (.iconst 5, 1) := by decide +kernel
theorem dX2_figureOf_7 : decode cX2_figureOf 7 = .ok (.imul, 1) := by decide +kernel
theorem dX2_figureOf_8 : decode cX2_figureOf 8 = .ok (.iadd, 1) := by decide +kernel
theorem dX2_figureOf_9 : decode cX2_figureOf 9 = .ok (.iconst 1, 1) := by decide +kernel
theorem dX2_figureOf_10 : decode cX2_figureOf 10 = .ok (.iadd, 1) := by decide +kernel
theorem dX2_figureOf_11 : decode cX2_figureOf 11 = .ok (.iload_n 2, 1) := by decide +kernel
theorem dX2_figureOf_12 : decode cX2_figureOf 12 = .ok (.iadd, 1) := by decide +kernel
theorem dX2_figureOf_13 : decode cX2_figureOf 13 = .ok (.iaload, 1) := by decide +kernel
theorem dX2_figureOf_14 : decode cX2_figureOf 14 = .ok (.bipush 48, 2) := by decide +kernel
theorem dX2_figureOf_16 : decode cX2_figureOf 16 = .ok (.isub, 1) := by decide +kernel
theorem dX2_figureOf_17 : decode cX2_figureOf 17 = .ok (.ireturn, 1) := by decide +kernel
theorem dX3_init_0 : decode cX3_init 0 = .ok (.aload_n 0, 1) := by decide +kernel
theorem dX3_init_1 : decode cX3_init 1 = .ok (.invokespecial 1, 3) := by decide +kernel
theorem dX3_init_4 : decode cX3_init 4 = .ok (.aload_n 0, 1) := by decide +kernel
theorem dX3_init_5 : decode cX3_init 5 = .ok (.new 7, 3) := by decide +kernel
theorem dX3_init_8 : decode cX3_init 8 = .ok (.dup, 1) := by decide +kernel
theorem dX3_init_9 : decode cX3_init 9 = .ok (.invokespecial 9, 3) := by decide +kernel
theorem dX3_init_12 : decode cX3_init 12 = .ok (.putfield 10, 3) := by decide +kernel
theorem dX3_init_15 : decode cX3_init 15 = .ok (.aload_n 0, 1) := by decide +kernel
theorem dX3_init_16 : decode cX3_init 16 = .ok (.new 16, 3) := by decide +kernel
theorem dX3_init_19 : decode cX3_init 19 = .ok (.dup, 1) := by decide +kernel
theorem dX3_init_20 : decode cX3_init 20 = .ok (.invokespecial 18, 3) := by decide +kernel
theorem dX3_init_23 : decode cX3_init 23 = .ok (.putfield 19, 3) := by decide +kernel
theorem dX3_init_26 : decode cX3_init 26 = .ok (.aload_n 0, 1) := by decide +kernel
theorem dX3_init_27 : decode cX3_init 27 = .ok (.new 16, 3) := by decide +kernel
theorem dX3_init_30 : decode cX3_init 30 = .ok (.dup, 1) := by decide +kernel
theorem dX3_init_31 : decode cX3_init 31 = .ok (.invokespecial 18, 3) := by decide +kernel
theorem dX3_init_34 : decode cX3_init 34 = .ok (.putfield 23, 3) := by decide +kernel
theorem dX3_init_37 : decode cX3_init 37 = .ok (.aload_n 0, 1) := by decide +kernel
theorem dX3_init_38 : decode cX3_init 38 = .ok (.new 26, 3) := by decide +kernel
theorem dX3_init_41 : decode cX3_init 41 = .ok (.dup, 1) := by decide +kernel
theorem dX3_init_42 : decode cX3_init 42 = .ok (.invokespecial 28, 3) := by decide +kernel
theorem dX3_init_45 : decode cX3_init 45 = .ok (.putfield 29, 3) := by decide +kernel
theorem dX3_init_48 : decode cX3_init 48 = .ok (.aload_n 0, 1) := by decide +kernel
theorem dX3_init_49 : decode cX3_init 49 = .ok (.sipush 350, 3) := by decide +kernel
theorem dX3_init_52 : decode cX3_init 52 = .ok (.newarray .int, 2) := by decide +kernel
theorem dX3_init_54 : decode cX3_init 54 = .ok (.putfield 33, 3) := by decide +kernel
theorem dX3_init_57 : decode cX3_init 57 = .ok (.aload_n 0, 1) := by decide +kernel
theorem dX3_init_58 : decode cX3_init 58 = .ok (.iconst 0, 1) := by decide +kernel
theorem dX3_init_59 : decode cX3_init 59 = .ok (.putfield 37, 3) := by decide +kernel
theorem dX3_init_62 : decode cX3_init 62 = .ok (.aload_n 0, 1) := by decide +kernel
theorem dX3_init_63 : decode cX3_init 63 = .ok (.iconst 0, 1) := by decide +kernel
theorem dX3_init_64 : decode cX3_init 64 = .ok (.putfield 41, 3) := by decide +kernel
theorem dX3_init_67 : decode cX3_init 67 = .ok (.aload_n 0, 1) := by decide +kernel
theorem dX3_init_68 : decode cX3_init 68 = .ok (.bipush 50, 2) := by decide +kernel
theorem dX3_init_70 : decode cX3_init 70 = .ok (.newarray .int, 2) := by decide +kernel
theorem dX3_init_72 : decode cX3_init 72 = .ok (.putfield 44, 3) := by decide +kernel
theorem dX3_init_75 : decode cX3_init 75 = .ok (.aload_n 0, 1) := by decide +kernel
theorem dX3_init_76 : decode cX3_init 76 = .ok (.iconst 2, 1) := by decide +kernel
theorem dX3_init_77 : decode cX3_init 77 = .ok (.newarray .boolean, 2) := by decide +kernel
theorem dX3_init_79 : decode cX3_init 79 = .ok (.putfield 47, 3) := by decide +kernel
theorem dX3_init_82 : decode cX3_init 82 = .ok (.aload_n 0, 1) := by decide +kernel
theorem dX3_init_83 : decode cX3_init 83 = .ok (.bipush 6, 2) := by decide +kernel
theorem dX3_init_85 : decode cX3_init 85 = .ok (.newarray .int, 2) := by decide +kernel
theorem dX3_init_87 : decode cX3_init 87 = .ok (.putfield 51, 3) := by decide +kernel
theorem dX3_init_90 : decode cX3_init 90 = .ok (.aload_n 0, 1) := by decide +kernel
theorem dX3_init_91 : decode cX3_init 91 = .ok (.bipush 6, 2) := by decide +kernel
theorem dX3_init_93 : decode cX3_init 93 = .ok (.newarray .boolean, 2) := by decide +kernel
theorem dX3_init_95 : decode cX3_init 95 = .ok (.putfield 54, 3) := by decide +kernel
theorem dX3_init_98 : decode cX3_init 98 = .ok (.aload_n 0, 1) := by decide +kernel
theorem dX3_init_99 : decode cX3_init 99 = .ok (.iconst 0, 1) := by decide +kernel
theorem dX3_init_100 : decode cX3_init 100 = .ok (.putfield 57, 3) := by decide +kernel
theorem dX3_init_103 : decode cX3_init 103 = .ok (.aload_n 0, 1) := by decide +kernel
theorem dX3_init_104 : decode cX3_init 104 = .ok (.lconst 0, 1) := by decide +kernel
theorem dX3_init_105 : decode cX3_init 105 = .ok (.putfield 60, 3) := by decide +kernel
theorem dX3_init_108 : decode cX3_init 108 = .ok (.return_, 1) := by decide +kernel
theorem dX3_write_0 : decode cX3_write 0 = .ok (.iload_n 1, 1) := by decide +kernel
theorem dX3_write_1 : decode cX3_write 1 = .ok (.ifCond .lt 10, 3) := by decide +kernel
theorem dX3_write_4 : decode cX3_write 4 = .ok (.iload_n 1, 1) := by decide +kernel
theorem dX3_write_5 : decode cX3_write 5 = .ok (.sipush 255, 3) := by decide +kernel
theorem dX3_write_8 : decode cX3_write 8 = .ok (.if_icmp .le 6, 3) := by decide +kernel
theorem dX3_write_11 : decode cX3_write 11 = .ok (.bipush (-2), 2) := by decide +kernel
theorem dX3_write_13 : decode cX3_write 13 = .ok (.ireturn, 1) := by decide +kernel
theorem dX3_write_14 : decode cX3_write 14 = .ok (.aload_n 0, 1) := by decide +kernel
theorem dX3_write_15 : decode cX3_write 15 = .ok (.getfield 10, 3) := by decide +kernel
theorem dX3_write_18 : decode cX3_write 18 = .ok (.getfield 64, 3) := by decide +kernel
theorem dX3_write_21 : decode cX3_write 21 = .ok (.bipush 40, 2) := by decide +kernel
theorem dX3_write_23 : decode cX3_write 23 = .ok (.if_icmp .lt 6, 3) := by decide +kernel
theorem dX3_write_26 : decode cX3_write 26 = .ok (.bipush (-4), 2) := by decide +kernel
theorem dX3_write_28 : decode cX3_write 28 = .ok (.ireturn, 1) := by decide +kernel
theorem dX3_write_29 : decode cX3_write 29 = .ok (.aload_n 0, 1) := by decide +kernel
theorem dX3_write_30 : decode cX3_write 30 = .ok (.getfield 10, 3) := by decide +kernel
theorem dX3_write_33 : decode cX3_write 33 = .ok (.iload_n 1, 1) := by decide +kernel
theorem dX3_write_34 : decode cX3_write 34 = .ok (.invokevirtual 67, 3) := by decide +kernel
theorem dX3_write_37 : decode cX3_write 37 = .ok (.aload_n 0, 1) := by decide +kernel
theorem dX3_write_38 : decode cX3_write 38 = .ok (.getfield 10, 3) := by decide +kernel
theorem dX3_write_41 : decode cX3_write 41 = .ok (.getfield 64, 3) := by decide +kernel
theorem dX3_write_44 : decode cX3_write 44 = .ok (.ireturn, 1) := by decide +kernel
theorem dX3_wipe_0 : decode cX3_wipe 0 = .ok (.aload_n 0, 1) := by decide +kernel
theorem dX3_wipe_1 : decode cX3_wipe 1 = .ok (.getfield 10, 3) := by decide +kernel
theorem dX3_wipe_4 : decode cX3_wipe 4 = .ok (.getfield 64, 3) := by decide +kernel
theorem dX3_wipe_7 : decode cX3_wipe 7 = .ok (.istore_n 1, 1) := by decide +kernel
theorem dX3_wipe_8 : decode cX3_wipe 8 = .ok (.aload_n 0, 1) := by decide +kernel
theorem dX3_wipe_9 : decode cX3_wipe 9 = .ok (.getfield 10, 3) := by decide +kernel
theorem dX3_wipe_12 : decode cX3_wipe 12 = .ok (.iconst 0, 1) := by decide +kernel
theorem dX3_wipe_13 : decode cX3_wipe 13 = .ok (.putfield 64, 3) := by decide +kernel
theorem dX3_wipe_16 : decode cX3_wipe 16 = .ok (.iload_n 1, 1) := by decide +kernel
theorem dX3_wipe_17 : decode cX3_wipe 17 = .ok (.ireturn, 1) := by decide +kernel
theorem dX3_fault_0 : decode cX3_fault 0 = .ok (.aload_n 0, 1) := by decide +kernel
theorem dX3_fault_1 : decode cX3_fault 1 = .ok (.getfield 10, 3) := by decide +kernel
theorem dX3_fault_4 : decode cX3_fault 4 = .ok (.invokevirtual 71, 3) := by decide +kernel
theorem dX3_fault_7 : decode cX3_fault 7 = .ok (.ireturn, 1) := by decide +kernel
theorem dX3_court_0 : decode cX3_court 0 = .ok (.aload_n 0, 1) := by decide +kernel
theorem dX3_court_1 : decode cX3_court 1 = .ok (.getfield 10, 3) := by decide +kernel
theorem dX3_court_4 : decode cX3_court 4 = .ok (.invokevirtual 71, 3) := by decide +kernel
theorem dX3_court_7 : decode cX3_court 7 = .ok (.bipush (-9), 2) := by decide +kernel
theorem dX3_court_9 : decode cX3_court 9 = .ok (.if_icmp .eq 6, 3) := by decide +kernel
theorem dX3_court_12 : decode cX3_court 12 = .ok (.bipush (-3), 2) := by decide +kernel
theorem dX3_court_14 : decode cX3_court 14 = .ok (.ireturn, 1) := by decide +kernel
theorem dX3_court_15 : decode cX3_court 15 = .ok (.aload_n 0, 1) := by decide +kernel
theorem dX3_court_16 : decode cX3_court 16 = .ok (.getfield 19, 3) := by decide +kernel
theorem dX3_court_19 : decode cX3_court 19 = .ok (.aload_n 0, 1) := by decide +kernel
theorem dX3_court_20 : decode cX3_court 20 = .ok (.getfield 10, 3) := by decide +kernel
theorem dX3_court_23 : decode cX3_court 23 = .ok (.invokevirtual 75, 3) := by decide +kernel
theorem dX3_court_26 : decode cX3_court 26 = .ok (.aload_n 0, 1) := by decide +kernel
theorem dX3_court_27 : decode cX3_court 27 = .ok (.invokevirtual 79, 3) := by decide +kernel
theorem dX3_court_30 : decode cX3_court 30 = .ok (.iconst 0, 1) := by decide +kernel
theorem dX3_court_31 : decode cX3_court 31 = .ok (.istore_n 1, 1) := by decide +kernel
theorem dX3_court_32 : decode cX3_court 32 = .ok (.iload_n 1, 1) := by decide +kernel
theorem dX3_court_33 : decode cX3_court 33 = .ok (.iconst 2, 1) := by decide +kernel
theorem dX3_court_34 : decode cX3_court 34 = .ok (.if_icmp .ge 16, 3) := by decide +kernel
theorem dX3_court_37 : decode cX3_court 37 = .ok (.aload_n 0, 1) := by decide +kernel
theorem dX3_court_38 : decode cX3_court 38 = .ok (.getfield 47, 3) := by decide +kernel
theorem dX3_court_41 : decode cX3_court 41 = .ok (.iload_n 1, 1) := by decide +kernel
theorem dX3_court_42 : decode cX3_court 42 = .ok (.iconst 0, 1) := by decide +kernel
theorem dX3_court_43 : decode cX3_court 43 = .ok (.bastore, 1) := by decide +kernel
theorem dX3_court_44 : decode cX3_court 44 = .ok (.iinc 1 1, 3) := by decide +kernel
theorem dX3_court_47 : decode cX3_court 47 = .ok (.goto (-15), 3) := by decide +kernel
theorem dX3_court_50 : decode cX3_court 50 = .ok (.aload_n 0, 1) := by decide +kernel
theorem dX3_court_51 : decode cX3_court 51 = .ok (.getfield 19, 3) := by decide +kernel
theorem dX3_court_54 : decode cX3_court 54 = .ok (.getfield 82, 3) := by decide +kernel
theorem dX3_court_57 : decode cX3_court 57 = .ok (.ireturn, 1) := by decide +kernel
theorem dX3_about_0 : decode cX3_about 0 = .ok (.iload_n 1, 1) := by decide +kernel
theorem dX3_about_1 : decode cX3_about 1 = .ok (.tableswitch 136 0 9 #[55, 63, 71, 79, 94, 102, 110, 118, 123, 128], 55) := by decide +kernel
theorem dX3_about_56 : decode cX3_about 56 = .ok (.aload_n 0, 1) := by decide +kernel
theorem dX3_about_57 : decode cX3_about 57 = .ok (.getfield 19, 3) := by decide +kernel
theorem dX3_about_60 : decode cX3_about 60 = .ok (.getfield 82, 3) := by decide +kernel
theorem dX3_about_63 : decode cX3_about 63 = .ok (.ireturn, 1) := by decide +kernel
theorem dX3_about_64 : decode cX3_about 64 = .ok (.aload_n 0, 1) := by decide +kernel
theorem dX3_about_65 : decode cX3_about 65 = .ok (.getfield 19, 3) := by decide +kernel
theorem dX3_about_68 : decode cX3_about 68 = .ok (.getfield 85, 3) := by decide +kernel
theorem dX3_about_71 : decode cX3_about 71 = .ok (.ireturn, 1) := by decide +kernel
theorem dX3_about_72 : decode cX3_about 72 = .ok (.aload_n 0, 1) := by decide +kernel
theorem dX3_about_73 : decode cX3_about 73 = .ok (.getfield 19, 3) := by decide +kernel
theorem dX3_about_76 : decode cX3_about 76 = .ok (.getfield 88, 3) := by decide +kernel
theorem dX3_about_79 : decode cX3_about 79 = .ok (.ireturn, 1) := by decide +kernel
theorem dX3_about_80 : decode cX3_about 80 = .ok (.aload_n 0, 1) := by decide +kernel
theorem dX3_about_81 : decode cX3_about 81 = .ok (.getfield 19, 3) := by decide +kernel
theorem dX3_about_84 : decode cX3_about 84 = .ok (.aload_n 0, 1) := by decide +kernel
theorem dX3_about_85 : decode cX3_about 85 = .ok (.getfield 19, 3) := by decide +kernel
theorem dX3_about_88 : decode cX3_about 88 = .ok (.getfield 85, 3) := by decide +kernel
theorem dX3_about_91 : decode cX3_about 91 = .ok (.invokevirtual 91, 3) := by decide +kernel
theorem dX3_about_94 : decode cX3_about 94 = .ok (.ireturn, 1) := by decide +kernel
theorem dX3_about_95 : decode cX3_about 95 = .ok (.aload_n 0, 1) := by decide +kernel
theorem dX3_about_96 : decode cX3_about 96 = .ok (.getfield 19, 3) := by decide +kernel
theorem dX3_about_99 : decode cX3_about 99 = .ok (.getfield 95, 3) := by decide +kernel
theorem dX3_about_102 : decode cX3_about 102 = .ok (.ireturn, 1) := by decide +kernel
theorem dX3_about_103 : decode cX3_about 103 = .ok (.aload_n 0, 1) := by decide +kernel
theorem dX3_about_104 : decode cX3_about 104 = .ok (.getfield 19, 3) := by decide +kernel
theorem dX3_about_107 : decode cX3_about 107 = .ok (.getfield 98, 3) := by decide +kernel
theorem dX3_about_110 : decode cX3_about 110 = .ok (.ireturn, 1) := by decide +kernel
theorem dX3_about_111 : decode cX3_about 111 = .ok (.aload_n 0, 1) := by decide +kernel
theorem dX3_about_112 : decode cX3_about 112 = .ok (.getfield 19, 3) := by decide +kernel
theorem dX3_about_115 : decode cX3_about 115 = .ok (.invokevirtual 101, 3) := by decide +kernel
theorem dX3_about_118 : decode cX3_about 118 = .ok (.ireturn, 1) := by decide +kernel
theorem dX3_about_119 : decode cX3_about 119 = .ok (.aload_n 0, 1) := by decide +kernel
theorem dX3_about_120 : decode cX3_about 120 = .ok (.getfield 41, 3) := by decide +kernel
theorem dX3_about_123 : decode cX3_about 123 = .ok (.ireturn, 1) := by decide +kernel
theorem dX3_about_124 : decode cX3_about 124 = .ok (.aload_n 0, 1) := by decide +kernel
theorem dX3_about_125 : decode cX3_about 125 = .ok (.getfield 57, 3) := by decide +kernel
theorem dX3_about_128 : decode cX3_about 128 = .ok (.ireturn, 1) := by decide +kernel
theorem dX3_about_129 : decode cX3_about 129 = .ok (.aload_n 0, 1) := by decide +kernel
theorem dX3_about_130 : decode cX3_about 130 = .ok (.getfield 10, 3) := by decide +kernel
theorem dX3_about_133 : decode cX3_about 133 = .ok (.getfield 64, 3) := by decide +kernel
theorem dX3_about_136 : decode cX3_about 136 = .ok (.ireturn, 1) := by decide +kernel
theorem dX3_about_137 : decode cX3_about 137 = .ok (.bipush (-2), 2) := by decide +kernel
theorem dX3_about_139 : decode cX3_about 139 = .ok (.ireturn, 1) := by decide +kernel
theorem dX3_person_0 : decode cX3_person 0 = .ok (.aload_n 0, 1) := by decide +kernel
theorem dX3_person_1 : decode cX3_person 1 = .ok (.getfield 19, 3) := by decide +kernel
theorem dX3_person_4 : decode cX3_person 4 = .ok (.iload_n 1, 1) := by decide +kernel
theorem dX3_person_5 : decode cX3_person 5 = .ok (.invokevirtual 104, 3) := by decide +kernel
theorem dX3_person_8 : decode cX3_person 8 = .ok (.ifCond .ne 5, 3) := by decide +kernel
theorem dX3_person_11 : decode cX3_person 11 = .ok (.iconst (-1), 1) := by decide +kernel
theorem dX3_person_12 : decode cX3_person 12 = .ok (.ireturn, 1) := by decide +kernel
theorem dX3_person_13 : decode cX3_person 13 = .ok (.iload_n 2, 1) := by decide +kernel
theorem dX3_person_14 : decode cX3_person 14 = .ok (.tableswitch 109 0 6 #[42, 42, 42, 56, 66, 83, 100], 42) := by decide +kernel
theorem dX3_person_56 : decode cX3_person 56 = .ok (.aload_n 0, 1) := by decide +kernel
theorem dX3_person_57 : decode cX3_person 57 = .ok (.getfield 19, 3) := by decide +kernel
theorem dX3_person_60 : decode cX3_person 60 = .ok (.getfield 108, 3) := by decide +kernel
theorem dX3_person_63 : decode cX3_person 63 = .ok (.iload_n 1, 1) := by decide +kernel
theorem dX3_person_64 : decode cX3_person 64 = .ok (.iconst 3, 1) := by decide +kernel
theorem dX3_person_65 : decode cX3_person 65 = .ok (.imul, 1) := by decide +kernel
theorem dX3_person_66 : decode cX3_person 66 = .ok (.iload_n 2, 1) := by decide +kernel
theorem dX3_person_67 : decode cX3_person 67 = .ok (.iadd, 1) := by decide +kernel
theorem dX3_person_68 : decode cX3_person 68 = .ok (.iaload, 1) := by decide +kernel
theorem dX3_person_69 : decode cX3_person 69 = .ok (.ireturn, 1) := by decide +kernel
theorem dX3_person_70 : decode cX3_person 70 = .ok (.aload_n 0, 1) := by decide +kernel
theorem dX3_person_71 : decode cX3_person 71 = .ok (.getfield 19, 3) := by decide +kernel
theorem dX3_person_74 : decode cX3_person 74 = .ok (.getfield 111, 3) := by decide +kernel
theorem dX3_person_77 : decode cX3_person 77 = .ok (.iload_n 1, 1) := by decide +kernel
theorem dX3_person_78 : decode cX3_person 78 = .ok (.iaload, 1) := by decide +kernel
theorem dX3_person_79 : decode cX3_person 79 = .ok (.ireturn, 1) := by decide +kernel
theorem dX3_person_80 : decode cX3_person 80 = .ok (.aload_n 0, 1) := by decide +kernel
theorem dX3_person_81 : decode cX3_person 81 = .ok (.getfield 19, 3) := by decide +kernel
theorem dX3_person_84 : decode cX3_person 84 = .ok (.iload_n 1, 1) := by decide +kernel
theorem dX3_person_85 : decode cX3_person 85 = .ok (.invokevirtual 114, 3) := by decide +kernel
theorem dX3_person_88 : decode cX3_person 88 = .ok (.ifCond .eq 7, 3) := by decide +kernel
theorem dX3_person_91 : decode cX3_person 91 = .ok (.iconst 1, 1) := by decide +kernel
theorem dX3_person_92 : decode cX3_person 92 = .ok (.goto 4, 3) := by decide +kernel
theorem dX3_person_95 : decode cX3_person 95 = .ok (.iconst 0, 1) := by decide +kernel
theorem dX3_person_96 : decode cX3_person 96 = .ok (.ireturn, 1) := by decide +kernel
theorem dX3_person_97 : decode cX3_person 97 = .ok (.aload_n 0, 1) := by decide +kernel
theorem dX3_person_98 : decode cX3_person 98 = .ok (.getfield 19, 3) := by decide +kernel
theorem dX3_person_101 : decode cX3_person 101 = .ok (.iload_n 1, 1) := by decide +kernel
theorem dX3_person_102 : decode cX3_person 102 = .ok (.invokevirtual 117, 3) := by decide +kernel
theorem dX3_person_105 : decode cX3_person 105 = .ok (.ifCond .eq 7, 3) := by decide +kernel
theorem dX3_person_108 : decode cX3_person 108 = .ok (.iconst 1, 1) := by decide +kernel
theorem dX3_person_109 : decode cX3_person 109 = .ok (.goto 4, 3) := by decide +kernel
theorem dX3_person_112 : decode cX3_person 112 = .ok (.iconst 0, 1) := by decide +kernel
theorem dX3_person_113 : decode cX3_person 113 = .ok (.ireturn, 1) := by decide +kernel
theorem dX3_person_114 : decode cX3_person 114 = .ok (.aload_n 0, 1) := by decide +kernel
theorem dX3_person_115 : decode cX3_person 115 = .ok (.getfield 19, 3) := by decide +kernel
theorem dX3_person_118 : decode cX3_person 118 = .ok (.iload_n 1, 1) := by decide +kernel
theorem dX3_person_119 : decode cX3_person 119 = .ok (.invokevirtual 120, 3) := by decide +kernel
theorem dX3_person_122 : decode cX3_person 122 = .ok (.ireturn, 1) := by decide +kernel
theorem dX3_person_123 : decode cX3_person 123 = .ok (.bipush (-2), 2) := by decide +kernel
theorem dX3_person_125 : decode cX3_person 125 = .ok (.ireturn, 1) := by decide +kernel
theorem dX3_morning_0 : decode cX3_morning 0 = .ok (.aload_n 0, 1) := by decide +kernel
theorem dX3_morning_1 : decode cX3_morning 1 = .ok (.getfield 19, 3) := by decide +kernel
theorem dX3_morning_4 : decode cX3_morning 4 = .ok (.getfield 82, 3) := by decide +kernel
theorem dX3_morning_7 : decode cX3_morning 7 = .ok (.ifCond .ne 6, 3) := by decide +kernel
theorem dX3_morning_10 : decode cX3_morning 10 = .ok (.bipush (-3), 2) := by decide +kernel
theorem dX3_morning_12 : decode cX3_morning 12 = .ok (.ireturn, 1) := by decide +kernel
theorem dX3_morning_13 : decode cX3_morning 13 = .ok (.aload_n 0, 1) := by decide +kernel
theorem dX3_morning_14 : decode cX3_morning 14 = .ok (.invokevirtual 123, 3) := by decide +kernel
theorem dX3_morning_17 : decode cX3_morning 17 = .ok (.aload_n 0, 1) := by decide +kernel
theorem dX3_morning_18 : decode cX3_morning 18 = .ok (.getfield 19, 3) := by decide +kernel
theorem dX3_morning_21 : decode cX3_morning 21 = .ok (.aload_n 0, 1) := by decide +kernel
theorem dX3_morning_22 : decode cX3_morning 22 = .ok (.getfield 19, 3) := by decide +kernel
theorem dX3_morning_25 : decode cX3_morning 25 = .ok (.getfield 85, 3) := by decide +kernel
theorem dX3_morning_28 : decode cX3_morning 28 = .ok (.invokevirtual 91, 3) := by decide +kernel
theorem dX3_morning_31 : decode cX3_morning 31 = .ok (.istore_n 1, 1) := by decide +kernel
theorem dX3_morning_32 : decode cX3_morning 32 = .ok (.aload_n 0, 1) := by decide +kernel
theorem dX3_morning_33 : decode cX3_morning 33 = .ok (.getfield 19, 3) := by decide +kernel
theorem dX3_morning_36 : decode cX3_morning 36 = .ok (.invokevirtual 126, 3) := by decide +kernel
theorem dX3_morning_39 : decode cX3_morning 39 = .ok (.iload_n 1, 1) := by decide +kernel
theorem dX3_morning_40 : decode cX3_morning 40 = .ok (.ireturn, 1) := by decide +kernel
theorem dX3_year_0 : decode cX3_year 0 = .ok (.aload_n 0, 1) := by decide +kernel
theorem dX3_year_1 : decode cX3_year 1 = .ok (.invokevirtual 123, 3) := by decide +kernel
theorem dX3_year_4 : decode cX3_year 4 = .ok (.aload_n 0, 1) := by decide +kernel
theorem dX3_year_5 : decode cX3_year 5 = .ok (.getfield 19, 3) := by decide +kernel
theorem dX3_year_8 : decode cX3_year 8 = .ok (.invokevirtual 129, 3) := by decide +kernel
theorem dX3_year_11 : decode cX3_year 11 = .ok (.aload_n 0, 1) := by decide +kernel
theorem dX3_year_12 : decode cX3_year 12 = .ok (.getfield 19, 3) := by decide +kernel
theorem dX3_year_15 : decode cX3_year 15 = .ok (.getfield 98, 3) := by decide +kernel
theorem dX3_year_18 : decode cX3_year 18 = .ok (.ireturn, 1) := by decide +kernel
theorem dX3_plain_0 : decode cX3_plain 0 = .ok (.aload_n 0, 1) := by decide +kernel
theorem dX3_plain_1 : decode cX3_plain 1 = .ok (.getfield 19, 3) := by decide +kernel
theorem dX3_plain_4 : decode cX3_plain 4 = .ok (.iload_n 1, 1) := by decide +kernel
theorem dX3_plain_5 : decode cX3_plain 5 = .ok (.invokevirtual 104, 3) := by decide +kernel
theorem dX3_plain_8 : decode cX3_plain 8 = .ok (.ifCond .eq 12, 3) := by decide +kernel
theorem dX3_plain_11 : decode cX3_plain 11 = .ok (.iload_n 2, 1) := by decide +kernel
theorem dX3_plain_12 : decode cX3_plain 12 = .ok (.ifCond .lt 8, 3) := by decide +kernel
theorem dX3_plain_15 : decode cX3_plain 15 = .ok (.iload_n 2, 1) := by decide +kernel
theorem dX3_plain_16 : decode cX3_plain 16 = .ok (.iconst 3, 1) := by decide +kernel
theorem dX3_plain_17 : decode cX3_plain 17 = .ok (.if_icmp .lt 5, 3) := by decide +kernel
theorem dX3_plain_20 : decode cX3_plain 20 = .ok (.iconst (-1), 1) := by decide +kernel
theorem dX3_plain_21 : decode cX3_plain 21 = .ok (.ireturn, 1) := by decide +kernel
theorem dX3_plain_22 : decode cX3_plain 22 = .ok (.iload_n 1, 1) := by decide +kernel
theorem dX3_plain_23 : decode cX3_plain 23 = .ok (.iconst 3, 1) := by decide +kernel
theorem dX3_plain_24 : decode cX3_plain 24 = .ok (.imul, 1) := by decide +kernel
theorem dX3_plain_25 : decode cX3_plain 25 = .ok (.iload_n 2, 1) := by decide +kernel
theorem dX3_plain_26 : decode cX3_plain 26 = .ok (.iadd, 1) := by decide +kernel
theorem dX3_plain_27 : decode cX3_plain 27 = .ok (.istore_n 3, 1) := by decide +kernel
theorem dX3_plain_28 : decode cX3_plain 28 = .ok (.aload_n 0, 1) := by decide +kernel
theorem dX3_plain_29 : decode cX3_plain 29 = .ok (.getfield 19, 3) := by decide +kernel
theorem dX3_plain_32 : decode cX3_plain 32 = .ok (.iload_n 1, 1) := by decide +kernel
theorem dX3_plain_33 : decode cX3_plain 33 = .ok (.invokevirtual 114, 3) := by decide +kernel
theorem dX3_plain_36 : decode cX3_plain 36 = .ok (.ifCond .eq 15, 3) := by decide +kernel
theorem dX3_plain_39 : decode cX3_plain 39 = .ok (.aload_n 0, 1) := by decide +kernel
theorem dX3_plain_40 : decode cX3_plain 40 = .ok (.getfield 19, 3) := by decide +kernel
theorem dX3_plain_43 : decode cX3_plain 43 = .ok (.getfield 108, 3) := by decide +kernel
theorem dX3_plain_46 : decode cX3_plain 46 = .ok (.iload_n 3, 1) := by decide +kernel
theorem dX3_plain_47 : decode cX3_plain 47 = .ok (.iaload, 1) := by decide +kernel
theorem dX3_plain_48 : decode cX3_plain 48 = .ok (.ifCond .ne 6, 3) := by decide +kernel
theorem dX3_plain_51 : decode cX3_plain 51 = .ok (.bipush (-3), 2) := by decide +kernel
theorem dX3_plain_53 : decode cX3_plain 53 = .ok (.ireturn, 1) := by decide +kernel
theorem dX3_plain_54 : decode cX3_plain 54 = .ok (.aload_n 0, 1) := by decide +kernel
theorem dX3_plain_55 : decode cX3_plain 55 = .ok (.invokevirtual 123, 3) := by decide +kernel
theorem dX3_plain_58 : decode cX3_plain 58 = .ok (.aload_n 0, 1) := by decide +kernel
theorem dX3_plain_59 : decode cX3_plain 59 = .ok (.getfield 19, 3) := by decide +kernel
theorem dX3_plain_62 : decode cX3_plain 62 = .ok (.getfield 108, 3) := by decide +kernel
theorem dX3_plain_65 : decode cX3_plain 65 = .ok (.iload_n 3, 1) := by decide +kernel
theorem dX3_plain_66 : decode cX3_plain 66 = .ok (.dup2, 1) := by decide +kernel
theorem dX3_plain_67 : decode cX3_plain 67 = .ok (.iaload, 1) := by decide +kernel
theorem dX3_plain_68 : decode cX3_plain 68 = .ok (.iconst 1, 1) := by decide +kernel
theorem dX3_plain_69 : decode cX3_plain 69 = .ok (.isub, 1) := by decide +kernel
theorem dX3_plain_70 : decode cX3_plain 70 = .ok (.iastore, 1) := by decide +kernel
theorem dX3_plain_71 : decode cX3_plain 71 = .ok (.aload_n 0, 1) := by decide +kernel
theorem dX3_plain_72 : decode cX3_plain 72 = .ok (.getfield 19, 3) := by decide +kernel
theorem dX3_plain_75 : decode cX3_plain 75 = .ok (.getfield 108, 3) := by decide +kernel
theorem dX3_plain_78 : decode cX3_plain 78 = .ok (.iload_n 3, 1) := by decide +kernel
theorem dX3_plain_79 : decode cX3_plain 79 = .ok (.iaload, 1) := by decide +kernel
theorem dX3_plain_80 : decode cX3_plain 80 = .ok (.ireturn, 1) := by decide +kernel
theorem dX3_hunt_0 : decode cX3_hunt 0 = .ok (.aload_n 0, 1) := by decide +kernel
theorem dX3_hunt_1 : decode cX3_hunt 1 = .ok (.getfield 19, 3) := by decide +kernel
theorem dX3_hunt_4 : decode cX3_hunt 4 = .ok (.iload_n 1, 1) := by decide +kernel
theorem dX3_hunt_5 : decode cX3_hunt 5 = .ok (.invokevirtual 104, 3) := by decide +kernel
theorem dX3_hunt_8 : decode cX3_hunt 8 = .ok (.ifCond .ne 5, 3) := by decide +kernel
theorem dX3_hunt_11 : decode cX3_hunt 11 = .ok (.iconst (-1), 1) := by decide +kernel
theorem dX3_hunt_12 : decode cX3_hunt 12 = .ok (.ireturn, 1) := by decide +kernel
theorem dX3_hunt_13 : decode cX3_hunt 13 = .ok (.iload_n 1, 1) := by decide +kernel
theorem dX3_hunt_14 : decode cX3_hunt 14 = .ok (.ifCond .ne 6, 3) := by decide +kernel
theorem dX3_hunt_17 : decode cX3_hunt 17 = .ok (.bipush (-2), 2) := by decide +kernel
theorem dX3_hunt_19 : decode cX3_hunt 19 = .ok (.ireturn, 1) := by decide +kernel
theorem dX3_hunt_20 : decode cX3_hunt 20 = .ok (.aload_n 0, 1) := by decide +kernel
theorem dX3_hunt_21 : decode cX3_hunt 21 = .ok (.getfield 19, 3) := by decide +kernel
theorem dX3_hunt_24 : decode cX3_hunt 24 = .ok (.iload_n 1, 1) := by decide +kernel
theorem dX3_hunt_25 : decode cX3_hunt 25 = .ok (.invokevirtual 114, 3) := by decide +kernel
theorem dX3_hunt_28 : decode cX3_hunt 28 = .ok (.ifCond .eq 14, 3) := by decide +kernel
theorem dX3_hunt_31 : decode cX3_hunt 31 = .ok (.aload_n 0, 1) := by decide +kernel
theorem dX3_hunt_32 : decode cX3_hunt 32 = .ok (.getfield 19, 3) := by decide +kernel
theorem dX3_hunt_35 : decode cX3_hunt 35 = .ok (.iload_n 1, 1) := by decide +kernel
theorem dX3_hunt_36 : decode cX3_hunt 36 = .ok (.invokevirtual 117, 3) := by decide +kernel
theorem dX3_hunt_39 : decode cX3_hunt 39 = .ok (.ifCond .eq 6, 3) := by decide +kernel
theorem dX3_hunt_42 : decode cX3_hunt 42 = .ok (.bipush (-3), 2) := by decide +kernel
theorem dX3_hunt_44 : decode cX3_hunt 44 = .ok (.ireturn, 1) := by decide +kernel
theorem dX3_hunt_45 : decode cX3_hunt 45 = .ok (.aload_n 0, 1) := by decide +kernel
theorem dX3_hunt_46 : decode cX3_hunt 46 = .ok (.invokevirtual 123, 3) := by decide +kernel
theorem dX3_hunt_49 : decode cX3_hunt 49 = .ok (.aload_n 0, 1) := by decide +kernel
theorem dX3_hunt_50 : decode cX3_hunt 50 = .ok (.getfield 19, 3) := by decide +kernel
theorem dX3_hunt_53 : decode cX3_hunt 53 = .ok (.dup, 1) := by decide +kernel
theorem dX3_hunt_54 : decode cX3_hunt 54 = .ok (.getfield 88, 3) := by decide +kernel
theorem dX3_hunt_57 : decode cX3_hunt 57 = .ok (.iconst 1, 1) := by decide +kernel
theorem dX3_hunt_58 : decode cX3_hunt 58 = .ok (.iload_n 1, 1) := by decide +kernel
theorem dX3_hunt_59 : decode cX3_hunt 59 = .ok (.ishl, 1) := by decide +kernel
theorem dX3_hunt_60 : decode cX3_hunt 60 = .ok (.ior, 1) := by decide +kernel
theorem dX3_hunt_61 : decode cX3_hunt 61 = .ok (.putfield 88, 3) := by decide +kernel
theorem dX3_hunt_64 : decode cX3_hunt 64 = .ok (.iload_n 2, 1) := by decide +kernel
theorem dX3_hunt_65 : decode cX3_hunt 65 = .ok (.ifCond .ne 20, 3) := by decide +kernel
theorem dX3_hunt_68 : decode cX3_hunt 68 = .ok (.aload_n 0, 1) := by decide +kernel
theorem dX3_hunt_69 : decode cX3_hunt 69 = .ok (.getfield 19, 3) := by decide +kernel
theorem dX3_hunt_72 : decode cX3_hunt 72 = .ok (.dup, 1) := by decide +kernel
theorem dX3_hunt_73 : decode cX3_hunt 73 = .ok (.getfield 85, 3) := by decide +kernel
theorem dX3_hunt_76 : decode cX3_hunt 76 = .ok (.iconst 1, 1) := by decide +kernel
theorem dX3_hunt_77 : decode cX3_hunt 77 = .ok (.iload_n 1, 1) := by decide +kernel
theorem dX3_hunt_78 : decode cX3_hunt 78 = .ok (.ishl, 1) := by decide +kernel
theorem dX3_hunt_79 : decode cX3_hunt 79 = .ok (.iconst (-1), 1) := by decide +kernel
theorem dX3_hunt_80 : decode cX3_hunt 80 = .ok (.ixor, 1) := by decide +kernel
theorem dX3_hunt_81 : decode cX3_hunt 81 = .ok (.iand, 1) := by decide +kernel
theorem dX3_hunt_82 : decode cX3_hunt 82 = .ok (.putfield 85, 3) := by decide +kernel
theorem dX3_hunt_85 : decode cX3_hunt 85 = .ok (.aload_n 0, 1) := by decide +kernel
theorem dX3_hunt_86 : decode cX3_hunt 86 = .ok (.getfield 19, 3) := by decide +kernel
theorem dX3_hunt_89 : decode cX3_hunt 89 = .ok (.invokevirtual 132, 3) := by decide +kernel
theorem dX3_hunt_92 : decode cX3_hunt 92 = .ok (.ireturn, 1) := by decide +kernel
theorem dX3_undo_0 : decode cX3_undo 0 = .ok (.aload_n 0, 1) := by decide +kernel
theorem dX3_undo_1 : decode cX3_undo 1 = .ok (.getfield 41, 3) := by decide +kernel
theorem dX3_undo_4 : decode cX3_undo 4 = .ok (.ifCond .ne 6, 3) := by decide +kernel
theorem dX3_undo_7 : decode cX3_undo 7 = .ok (.bipush (-3), 2) := by decide +kernel
theorem dX3_undo_9 : decode cX3_undo 9 = .ok (.ireturn, 1) := by decide +kernel
theorem dX3_undo_10 : decode cX3_undo 10 = .ok (.aload_n 0, 1) := by decide +kernel
theorem dX3_undo_11 : decode cX3_undo 11 = .ok (.aload_n 0, 1) := by decide +kernel
theorem dX3_undo_12 : decode cX3_undo 12 = .ok (.getfield 37, 3) := by decide +kernel
theorem dX3_undo_15 : decode cX3_undo 15 = .ok (.bipush 14, 2) := by decide +kernel
theorem dX3_undo_17 : decode cX3_undo 17 = .ok (.iadd, 1) := by decide +kernel
theorem dX3_undo_18 : decode cX3_undo 18 = .ok (.iconst 1, 1) := by decide +kernel
theorem dX3_undo_19 : decode cX3_undo 19 = .ok (.isub, 1) := by decide +kernel
theorem dX3_undo_20 : decode cX3_undo 20 = .ok (.bipush 14, 2) := by decide +kernel
theorem dX3_undo_22 : decode cX3_undo 22 = .ok (.irem, 1) := by decide +kernel
theorem dX3_undo_23 : decode cX3_undo 23 = .ok (.putfield 37, 3) := by decide +kernel
theorem dX3_undo_26 : decode cX3_undo 26 = .ok (.aload_n 0, 1) := by decide +kernel
theorem dX3_undo_27 : decode cX3_undo 27 = .ok (.dup, 1) := by decide +kernel
theorem dX3_undo_28 : decode cX3_undo 28 = .ok (.getfield 41, 3) := by decide +kernel
theorem dX3_undo_31 : decode cX3_undo 31 = .ok (.iconst 1, 1) := by decide +kernel
theorem dX3_undo_32 : decode cX3_undo 32 = .ok (.isub, 1) := by decide +kernel
theorem dX3_undo_33 : decode cX3_undo 33 = .ok (.putfield 41, 3) := by decide +kernel
theorem dX3_undo_36 : decode cX3_undo 36 = .ok (.aload_n 0, 1) := by decide +kernel
theorem dX3_undo_37 : decode cX3_undo 37 = .ok (.getfield 19, 3) := by decide +kernel
theorem dX3_undo_40 : decode cX3_undo 40 = .ok (.aload_n 0, 1) := by decide +kernel
theorem dX3_undo_41 : decode cX3_undo 41 = .ok (.getfield 33, 3) := by decide +kernel
theorem dX3_undo_44 : decode cX3_undo 44 = .ok (.aload_n 0, 1) := by decide +kernel
theorem dX3_undo_45 : decode cX3_undo 45 = .ok (.getfield 37, 3) := by decide +kernel
theorem dX3_undo_48 : decode cX3_undo 48 = .ok (.invokevirtual 135, 3) := by decide +kernel
theorem dX3_undo_51 : decode cX3_undo 51 = .ok (.aload_n 0, 1) := by decide +kernel
theorem dX3_undo_52 : decode cX3_undo 52 = .ok (.getfield 41, 3) := by decide +kernel
theorem dX3_undo_55 : decode cX3_undo 55 = .ok (.ireturn, 1) := by decide +kernel
theorem dX3_judged_0 : decode cX3_judged 0 = .ok (.iload_n 1, 1) := by decide +kernel
theorem dX3_judged_1 : decode cX3_judged 1 = .ok (.iconst 1, 1) := by decide +kernel
theorem dX3_judged_2 : decode cX3_judged 2 = .ok (.if_icmp .lt 9, 3) := by decide +kernel
theorem dX3_judged_5 : decode cX3_judged 5 = .ok (.iload_n 1, 1) := by decide +kernel
theorem dX3_judged_6 : decode cX3_judged 6 = .ok (.bipush 8, 2) := by decide +kernel
theorem dX3_judged_8 : decode cX3_judged 8 = .ok (.if_icmp .le 6, 3) := by decide +kernel
theorem dX3_judged_11 : decode cX3_judged 11 = .ok (.bipush (-2), 2) := by decide +kernel
theorem dX3_judged_13 : decode cX3_judged 13 = .ok (.ireturn, 1) := by decide +kernel
theorem dX3_judged_14 : decode cX3_judged 14 = .ok (.iconst 1, 1) := by decide +kernel
theorem dX3_judged_15 : decode cX3_judged 15 = .ok (.istore_n 3, 1) := by decide +kernel
theorem dX3_judged_16 : decode cX3_judged 16 = .ok (.iconst 1, 1) := by decide +kernel
theorem dX3_judged_17 : decode cX3_judged 17 = .ok (.istore 4, 2) := by decide +kernel
theorem dX3_judged_19 : decode cX3_judged 19 = .ok (.iload 4, 2) := by decide +kernel
theorem dX3_judged_21 : decode cX3_judged 21 = .ok (.iload_n 1, 1) := by decide +kernel
theorem dX3_judged_22 : decode cX3_judged 22 = .ok (.if_icmp .ge 14, 3) := by decide +kernel
theorem dX3_judged_25 : decode cX3_judged 25 = .ok (.iload_n 3, 1) := by decide +kernel
theorem dX3_judged_26 : decode cX3_judged 26 = .ok (.bipush 10, 2) := by decide +kernel
theorem dX3_judged_28 : decode cX3_judged 28 = .ok (.imul, 1) := by decide +kernel
theorem dX3_judged_29 : decode cX3_judged 29 = .ok (.istore_n 3, 1) := by decide +kernel
theorem dX3_judged_30 : decode cX3_judged 30 = .ok (.iinc 4 1, 3) := by decide +kernel
theorem dX3_judged_33 : decode cX3_judged 33 = .ok (.goto (-14), 3) := by decide +kernel
theorem dX3_judged_36 : decode cX3_judged 36 = .ok (.iload_n 2, 1) := by decide +kernel
theorem dX3_judged_37 : decode cX3_judged 37 = .ok (.ifCond .lt 11, 3) := by decide +kernel
theorem dX3_judged_40 : decode cX3_judged 40 = .ok (.iload_n 2, 1) := by decide +kernel
theorem dX3_judged_41 : decode cX3_judged 41 = .ok (.iload_n 3, 1) := by decide +kernel
theorem dX3_judged_42 : decode cX3_judged 42 = .ok (.idiv, 1) := by decide +kernel
theorem dX3_judged_43 : decode cX3_judged 43 = .ok (.bipush 9, 2) := by decide +kernel
theorem dX3_judged_45 : decode cX3_judged 45 = .ok (.if_icmp .le 6, 3) := by decide +kernel
theorem dX3_judged_48 : decode cX3_judged 48 = .ok (.bipush (-2), 2) := by decide +kernel
theorem dX3_judged_50 : decode cX3_judged 50 = .ok (.ireturn, 1) := by decide +kernel
theorem dX3_judged_51 : decode cX3_judged 51 = .ok (.aload_n 0, 1) := by decide +kernel
theorem dX3_judged_52 : decode cX3_judged 52 = .ok (.getfield 23, 3) := by decide +kernel
theorem dX3_judged_55 : decode cX3_judged 55 = .ok (.aload_n 0, 1) := by decide +kernel
theorem dX3_judged_56 : decode cX3_judged 56 = .ok (.getfield 19, 3) := by decide +kernel
theorem dX3_judged_59 : decode cX3_judged 59 = .ok (.invokevirtual 139, 3) := by decide +kernel
theorem dX3_judged_62 : decode cX3_judged 62 = .ok (.iconst 0, 1) := by decide +kernel
theorem dX3_judged_63 : decode cX3_judged 63 = .ok (.istore 4, 2) := by decide +kernel
theorem dX3_judged_65 : decode cX3_judged 65 = .ok (.iload 4, 2) := by decide +kernel
theorem dX3_judged_67 : decode cX3_judged 67 = .ok (.iload_n 1, 1) := by decide +kernel
theorem dX3_judged_68 : decode cX3_judged 68 = .ok (.if_icmp .ge 58, 3) := by decide +kernel
theorem dX3_judged_71 : decode cX3_judged 71 = .ok (.iload_n 2, 1) := by decide +kernel
theorem dX3_judged_72 : decode cX3_judged 72 = .ok (.iload_n 3, 1) := by decide +kernel
theorem dX3_judged_73 : decode cX3_judged 73 = .ok (.idiv, 1) := by decide +kernel
theorem dX3_judged_74 : decode cX3_judged 74 = .ok (.bipush 10, 2) := by decide +kernel
theorem dX3_judged_76 : decode cX3_judged 76 = .ok (.irem, 1) := by decide +kernel
theorem dX3_judged_77 : decode cX3_judged 77 = .ok (.istore 5, 2) := by decide +kernel
theorem dX3_judged_79 : decode cX3_judged 79 = .ok (.aload_n 0, 1) := by decide +kernel
theorem dX3_judged_80 : decode cX3_judged 80 = .ok (.getfield 23, 3) := by decide +kernel
theorem dX3_judged_83 : decode cX3_judged 83 = .ok (.aload_n 0, 1) := by decide +kernel
theorem dX3_judged_84 : decode cX3_judged 84 = .ok (.getfield 23, 3) := by decide +kernel
theorem dX3_judged_87 : decode cX3_judged 87 = .ok (.getfield 85, 3) := by decide +kernel
theorem dX3_judged_90 : decode cX3_judged 90 = .ok (.invokevirtual 91, 3) := by decide +kernel
theorem dX3_judged_93 : decode cX3_judged 93 = .ok (.iload 5, 2) := by decide +kernel
theorem dX3_judged_95 : decode cX3_judged 95 = .ok (.ishr, 1) := by decide +kernel
theorem dX3_judged_96 : decode cX3_judged 96 = .ok (.iconst 1, 1) := by decide +kernel
theorem dX3_judged_97 : decode cX3_judged 97 = .ok (.iand, 1) := by decide +kernel
theorem dX3_judged_98 : decode cX3_judged 98 = .ok (.ifCond .ne 6, 3) := by decide +kernel
theorem dX3_judged_101 : decode cX3_judged 101 = .ok (.iload 4, 2) := by decide +kernel
theorem dX3_judged_103 : decode cX3_judged 103 = .ok (.ireturn, 1) := by decide +kernel
theorem dX3_judged_104 : decode cX3_judged 104 = .ok (.aload_n 0, 1) := by decide +kernel
theorem dX3_judged_105 : decode cX3_judged 105 = .ok (.getfield 23, 3) := by decide +kernel
theorem dX3_judged_108 : decode cX3_judged 108 = .ok (.invokevirtual 126, 3) := by decide +kernel
theorem dX3_judged_111 : decode cX3_judged 111 = .ok (.iconst 1, 1) := by decide +kernel
theorem dX3_judged_112 : decode cX3_judged 112 = .ok (.iload_n 3, 1) := by decide +kernel
theorem dX3_judged_113 : decode cX3_judged 113 = .ok (.bipush 10, 2) := by decide +kernel
theorem dX3_judged_115 : decode cX3_judged 115 = .ok (.idiv, 1) := by decide +kernel
theorem dX3_judged_116 : decode cX3_judged 116 = .ok (.invokestatic 143, 3) := by decide +kernel
theorem dX3_judged_119 : decode cX3_judged 119 = .ok (.istore_n 3, 1) := by decide +kernel
theorem dX3_judged_120 : decode cX3_judged 120 = .ok (.iinc 4 1, 3) := by decide +kernel
theorem dX3_judged_123 : decode cX3_judged 123 = .ok (.goto (-58), 3) := by decide +kernel
theorem dX3_judged_126 : decode cX3_judged 126 = .ok (.bipush (-9), 2) := by decide +kernel
theorem dX3_judged_128 : decode cX3_judged 128 = .ok (.ireturn, 1) := by decide +kernel
theorem dX3_hear_0 : decode cX3_hear 0 = .ok (.aload_n 0, 1) := by decide +kernel
theorem dX3_hear_1 : decode cX3_hear 1 = .ok (.getfield 19, 3) := by decide +kernel
theorem dX3_hear_4 : decode cX3_hear 4 = .ok (.iload_n 1, 1) := by decide +kernel
theorem dX3_hear_5 : decode cX3_hear 5 = .ok (.invokevirtual 104, 3) := by decide +kernel
theorem dX3_hear_8 : decode cX3_hear 8 = .ok (.ifCond .ne 5, 3) := by decide +kernel
theorem dX3_hear_11 : decode cX3_hear 11 = .ok (.iconst (-1), 1) := by decide +kernel
theorem dX3_hear_12 : decode cX3_hear 12 = .ok (.ireturn, 1) := by decide +kernel
theorem dX3_hear_13 : decode cX3_hear 13 = .ok (.aload_n 0, 1) := by decide +kernel
theorem dX3_hear_14 : decode cX3_hear 14 = .ok (.getfield 57, 3) := by decide +kernel
theorem dX3_hear_17 : decode cX3_hear 17 = .ok (.bipush 6, 2) := by decide +kernel
theorem dX3_hear_19 : decode cX3_hear 19 = .ok (.if_icmp .lt 6, 3) := by decide +kernel
theorem dX3_hear_22 : decode cX3_hear 22 = .ok (.bipush (-4), 2) := by decide +kernel
theorem dX3_hear_24 : decode cX3_hear 24 = .ok (.ireturn, 1) := by decide +kernel
theorem dX3_hear_25 : decode cX3_hear 25 = .ok (.aload_n 0, 1) := by decide +kernel
theorem dX3_hear_26 : decode cX3_hear 26 = .ok (.getfield 51, 3) := by decide +kernel
theorem dX3_hear_29 : decode cX3_hear 29 = .ok (.aload_n 0, 1) := by decide +kernel
theorem dX3_hear_30 : decode cX3_hear 30 = .ok (.getfield 57, 3) := by decide +kernel
theorem dX3_hear_33 : decode cX3_hear 33 = .ok (.iload_n 1, 1) := by decide +kernel
theorem dX3_hear_34 : decode cX3_hear 34 = .ok (.iastore, 1) := by decide +kernel
theorem dX3_hear_35 : decode cX3_hear 35 = .ok (.aload_n 0, 1) := by decide +kernel
theorem dX3_hear_36 : decode cX3_hear 36 = .ok (.getfield 54, 3) := by decide +kernel
theorem dX3_hear_39 : decode cX3_hear 39 = .ok (.aload_n 0, 1) := by decide +kernel
theorem dX3_hear_40 : decode cX3_hear 40 = .ok (.getfield 57, 3) := by decide +kernel
theorem dX3_hear_43 : decode cX3_hear 43 = .ok (.iload_n 2, 1) := by decide +kernel
theorem dX3_hear_44 : decode cX3_hear 44 = .ok (.bastore, 1) := by decide +kernel
theorem dX3_hear_45 : decode cX3_hear 45 = .ok (.aload_n 0, 1) := by decide +kernel
theorem dX3_hear_46 : decode cX3_hear 46 = .ok (.dup, 1) := by decide +kernel
theorem dX3_hear_47 : decode cX3_hear 47 = .ok (.getfield 57, 3) := by decide +kernel
theorem dX3_hear_50 : decode cX3_hear 50 = .ok (.iconst 1, 1) := by decide +kernel
theorem dX3_hear_51 : decode cX3_hear 51 = .ok (.iadd, 1) := by decide +kernel
theorem dX3_hear_52 : decode cX3_hear 52 = .ok (.putfield 57, 3) := by decide +kernel
theorem dX3_hear_55 : decode cX3_hear 55 = .ok (.aload_n 0, 1) := by decide +kernel
theorem dX3_hear_56 : decode cX3_hear 56 = .ok (.getfield 57, 3) := by decide +kernel
theorem dX3_hear_59 : decode cX3_hear 59 = .ok (.ireturn, 1) := by decide +kernel
theorem dX3_unhear_0 : decode cX3_unhear 0 = .ok (.aload_n 0, 1) := by decide +kernel
theorem dX3_unhear_1 : decode cX3_unhear 1 = .ok (.getfield 57, 3) := by decide +kernel
theorem dX3_unhear_4 : decode cX3_unhear 4 = .ok (.istore_n 1, 1) := by decide +kernel
theorem dX3_unhear_5 : decode cX3_unhear 5 = .ok (.aload_n 0, 1) := by decide +kernel
theorem dX3_unhear_6 : decode cX3_unhear 6 = .ok (.iconst 0, 1) := by decide +kernel
theorem dX3_unhear_7 : decode cX3_unhear 7 = .ok (.putfield 57, 3) := by decide +kernel
theorem dX3_unhear_10 : decode cX3_unhear 10 = .ok (.iload_n 1, 1) := by decide +kernel
theorem dX3_unhear_11 : decode cX3_unhear 11 = .ok (.ireturn, 1) := by decide +kernel
theorem dX3_worlds_0 : decode cX3_worlds 0 = .ok (.iload_n 1, 1) := by decide +kernel
theorem dX3_worlds_1 : decode cX3_worlds 1 = .ok (.ifCond .ne 9, 3) := by decide +kernel
theorem dX3_worlds_4 : decode cX3_worlds 4 = .ok (.aload_n 0, 1) := by decide +kernel
theorem dX3_worlds_5 : decode cX3_worlds 5 = .ok (.iconst 0, 1) := by decide +kernel
theorem dX3_worlds_6 : decode cX3_worlds 6 = .ok (.invokevirtual 149, 3) := by decide +kernel
theorem dX3_worlds_9 : decode cX3_worlds 9 = .ok (.ireturn, 1) := by decide +kernel
theorem dX3_worlds_10 : decode cX3_worlds 10 = .ok (.iload_n 1, 1) := by decide +kernel
theorem dX3_worlds_11 : decode cX3_worlds 11 = .ok (.iconst 1, 1) := by decide +kernel
theorem dX3_worlds_12 : decode cX3_worlds 12 = .ok (.if_icmp .eq 6, 3) := by decide +kernel
theorem dX3_worlds_15 : decode cX3_worlds 15 = .ok (.bipush (-2), 2) := by decide +kernel
theorem dX3_worlds_17 : decode cX3_worlds 17 = .ok (.ireturn, 1) := by decide +kernel
theorem dX3_worlds_18 : decode cX3_worlds 18 = .ok (.aload_n 0, 1) := by decide +kernel
theorem dX3_worlds_19 : decode cX3_worlds 19 = .ok (.getfield 19, 3) := by decide +kernel
theorem dX3_worlds_22 : decode cX3_worlds 22 = .ok (.invokevirtual 152, 3) := by decide +kernel
theorem dX3_worlds_25 : decode cX3_worlds 25 = .ok (.istore_n 2, 1) := by decide +kernel
theorem dX3_worlds_26 : decode cX3_worlds 26 = .ok (.iconst 0, 1) := by decide +kernel
theorem dX3_worlds_27 : decode cX3_worlds 27 = .ok (.istore_n 3, 1) := by decide +kernel
theorem dX3_worlds_28 : decode cX3_worlds 28 = .ok (.iconst 0, 1) := by decide +kernel
theorem dX3_worlds_29 : decode cX3_worlds 29 = .ok (.istore 4, 2) := by decide +kernel
theorem dX3_worlds_31 : decode cX3_worlds 31 = .ok (.iload 4, 2) := by decide +kernel
theorem dX3_worlds_33 : decode cX3_worlds 33 = .ok (.aload_n 0, 1) := by decide +kernel
theorem dX3_worlds_34 : decode cX3_worlds 34 = .ok (.getfield 19, 3) := by decide +kernel
theorem dX3_worlds_37 : decode cX3_worlds 37 = .ok (.invokevirtual 152, 3) := by decide +kernel
theorem dX3_worlds_40 : decode cX3_worlds 40 = .ok (.if_icmp .gt 34, 3) := by decide +kernel
theorem dX3_worlds_43 : decode cX3_worlds 43 = .ok (.aload_n 0, 1) := by decide +kernel
theorem dX3_worlds_44 : decode cX3_worlds 44 = .ok (.iload 4, 2) := by decide +kernel
theorem dX3_worlds_46 : decode cX3_worlds 46 = .ok (.invokevirtual 155, 3) := by decide +kernel
theorem dX3_worlds_49 : decode cX3_worlds 49 = .ok (.ifCond .eq 19, 3) := by decide +kernel
theorem dX3_worlds_52 : decode cX3_worlds 52 = .ok (.aload_n 0, 1) := by decide +kernel
theorem dX3_worlds_53 : decode cX3_worlds 53 = .ok (.iload 4, 2) := by decide +kernel
theorem dX3_worlds_55 : decode cX3_worlds 55 = .ok (.invokevirtual 158, 3) := by decide +kernel
theorem dX3_worlds_58 : decode cX3_worlds 58 = .ok (.ifCond .eq 10, 3) := by decide +kernel
theorem dX3_worlds_61 : decode cX3_worlds 61 = .ok (.iload_n 2, 1) := by decide +kernel
theorem dX3_worlds_62 : decode cX3_worlds 62 = .ok (.iload 4, 2) := by decide +kernel
theorem dX3_worlds_64 : decode cX3_worlds 64 = .ok (.iand, 1) := by decide +kernel
theorem dX3_worlds_65 : decode cX3_worlds 65 = .ok (.istore_n 2, 1) := by decide +kernel
theorem dX3_worlds_66 : decode cX3_worlds 66 = .ok (.iconst 1, 1) := by decide +kernel
theorem dX3_worlds_67 : decode cX3_worlds 67 = .ok (.istore_n 3, 1) := by decide +kernel
theorem dX3_worlds_68 : decode cX3_worlds 68 = .ok (.iinc 4 1, 3) := by decide +kernel
theorem dX3_worlds_71 : decode cX3_worlds 71 = .ok (.goto (-40), 3) := by decide +kernel
theorem dX3_worlds_74 : decode cX3_worlds 74 = .ok (.iload_n 3, 1) := by decide +kernel
theorem dX3_worlds_75 : decode cX3_worlds 75 = .ok (.ifCond .eq 7, 3) := by decide +kernel
theorem dX3_worlds_78 : decode cX3_worlds 78 = .ok (.iload_n 2, 1) := by decide +kernel
theorem dX3_worlds_79 : decode cX3_worlds 79 = .ok (.goto 5, 3) := by decide +kernel
theorem dX3_worlds_82 : decode cX3_worlds 82 = .ok (.bipush (-9), 2) := by decide +kernel
theorem dX3_worlds_84 : decode cX3_worlds 84 = .ok (.ireturn, 1) := by decide +kernel
theorem dX3_toAsk_0 : decode cX3_toAsk 0 = .ok (.aload_n 0, 1) := by decide +kernel
theorem dX3_toAsk_1 : decode cX3_toAsk 1 = .ok (.iconst 0, 1) := by decide +kernel
theorem dX3_toAsk_2 : decode cX3_toAsk 2 = .ok (.invokevirtual 149, 3) := by decide +kernel
theorem dX3_toAsk_5 : decode cX3_toAsk 5 = .ok (.istore_n 1, 1) := by decide +kernel
theorem dX3_toAsk_6 : decode cX3_toAsk 6 = .ok (.iload_n 1, 1) := by decide +kernel
theorem dX3_toAsk_7 : decode cX3_toAsk 7 = .ok (.ifCond .ne 6, 3) := by decide +kernel
theorem dX3_toAsk_10 : decode cX3_toAsk 10 = .ok (.bipush (-9), 2) := by decide +kernel
theorem dX3_toAsk_12 : decode cX3_toAsk 12 = .ok (.ireturn, 1) := by decide +kernel
theorem dX3_toAsk_13 : decode cX3_toAsk 13 = .ok (.bipush (-9), 2) := by decide +kernel
theorem dX3_toAsk_15 : decode cX3_toAsk 15 = .ok (.istore_n 2, 1) := by decide +kernel
theorem dX3_toAsk_16 : decode cX3_toAsk 16 = .ok (.iconst (-1), 1) := by decide +kernel
theorem dX3_toAsk_17 : decode cX3_toAsk 17 = .ok (.istore_n 3, 1) := by decide +kernel
theorem dX3_toAsk_18 : decode cX3_toAsk 18 = .ok (.iconst 0, 1) := by decide +kernel
theorem dX3_toAsk_19 : decode cX3_toAsk 19 = .ok (.istore 4, 2) := by decide +kernel
theorem dX3_toAsk_21 : decode cX3_toAsk 21 = .ok (.iload 4, 2) := by decide +kernel
theorem dX3_toAsk_23 : decode cX3_toAsk 23 = .ok (.aload_n 0, 1) := by decide +kernel
theorem dX3_toAsk_24 : decode cX3_toAsk 24 = .ok (.getfield 19, 3) := by decide +kernel
theorem dX3_toAsk_27 : decode cX3_toAsk 27 = .ok (.getfield 82, 3) := by decide +kernel
theorem dX3_toAsk_30 : decode cX3_toAsk 30 = .ok (.if_icmp .ge 54, 3) := by decide +kernel
theorem dX3_toAsk_33 : decode cX3_toAsk 33 = .ok (.aload_n 0, 1) := by decide +kernel
theorem dX3_toAsk_34 : decode cX3_toAsk 34 = .ok (.getfield 19, 3) := by decide +kernel
theorem dX3_toAsk_37 : decode cX3_toAsk 37 = .ok (.iload 4, 2) := by decide +kernel
theorem dX3_toAsk_39 : decode cX3_toAsk 39 = .ok (.invokevirtual 117, 3) := by decide +kernel
theorem dX3_toAsk_42 : decode cX3_toAsk 42 = .ok (.ifCond .eq 36, 3) := by decide +kernel
theorem dX3_toAsk_45 : decode cX3_toAsk 45 = .ok (.aload_n 0, 1) := by decide +kernel
theorem dX3_toAsk_46 : decode cX3_toAsk 46 = .ok (.iconst 1, 1) := by decide +kernel
theorem dX3_toAsk_47 : decode cX3_toAsk 47 = .ok (.iload 4, 2) := by decide +kernel
theorem dX3_toAsk_49 : decode cX3_toAsk 49 = .ok (.ishl, 1) := by decide +kernel
theorem dX3_toAsk_50 : decode cX3_toAsk 50 = .ok (.invokevirtual 149, 3) := by decide +kernel
theorem dX3_toAsk_53 : decode cX3_toAsk 53 = .ok (.istore 5, 2) := by decide +kernel
theorem dX3_toAsk_55 : decode cX3_toAsk 55 = .ok (.iload 5, 2) := by decide +kernel
theorem dX3_toAsk_57 : decode cX3_toAsk 57 = .ok (.iload_n 1, 1) := by decide +kernel
theorem dX3_toAsk_58 : decode cX3_toAsk 58 = .ok (.iload 5, 2) := by decide +kernel
theorem dX3_toAsk_60 : decode cX3_toAsk 60 = .ok (.isub, 1) := by decide +kernel
theorem dX3_toAsk_61 : decode cX3_toAsk 61 = .ok (.invokestatic 161, 3) := by decide +kernel
theorem dX3_toAsk_64 : decode cX3_toAsk 64 = .ok (.istore 6, 2) := by decide +kernel
theorem dX3_toAsk_66 : decode cX3_toAsk 66 = .ok (.iload 6, 2) := by decide +kernel
theorem dX3_toAsk_68 : decode cX3_toAsk 68 = .ok (.iload_n 3, 1) := by decide +kernel
theorem dX3_toAsk_69 : decode cX3_toAsk 69 = .ok (.if_icmp .le 9, 3) := by decide +kernel
theorem dX3_toAsk_72 : decode cX3_toAsk 72 = .ok (.iload 4, 2) := by decide +kernel
theorem dX3_toAsk_74 : decode cX3_toAsk 74 = .ok (.istore_n 2, 1) := by decide +kernel
theorem dX3_toAsk_75 : decode cX3_toAsk 75 = .ok (.iload 6, 2) := by decide +kernel
theorem dX3_toAsk_77 : decode cX3_toAsk 77 = .ok (.istore_n 3, 1) := by decide +kernel
theorem dX3_toAsk_78 : decode cX3_toAsk 78 = .ok (.iinc 4 1, 3) := by decide +kernel
theorem dX3_toAsk_81 : decode cX3_toAsk 81 = .ok (.goto (-60), 3) := by decide +kernel
theorem dX3_toAsk_84 : decode cX3_toAsk 84 = .ok (.iload_n 2, 1) := by decide +kernel
theorem dX3_toAsk_85 : decode cX3_toAsk 85 = .ok (.ireturn, 1) := by decide +kernel
theorem dX3_answer_0 : decode cX3_answer 0 = .ok (.iload_n 1, 1) := by decide +kernel
theorem dX3_answer_1 : decode cX3_answer 1 = .ok (.ifCond .lt 9, 3) := by decide +kernel
theorem dX3_answer_4 : decode cX3_answer 4 = .ok (.iload_n 1, 1) := by decide +kernel
theorem dX3_answer_5 : decode cX3_answer 5 = .ok (.bipush 6, 2) := by decide +kernel
theorem dX3_answer_7 : decode cX3_answer 7 = .ok (.if_icmp .le 6, 3) := by decide +kernel
theorem dX3_answer_10 : decode cX3_answer 10 = .ok (.bipush (-2), 2) := by decide +kernel
theorem dX3_answer_12 : decode cX3_answer 12 = .ok (.ireturn, 1) := by decide +kernel
theorem dX3_answer_13 : decode cX3_answer 13 = .ok (.aload_n 0, 1) := by decide +kernel
theorem dX3_answer_14 : decode cX3_answer 14 = .ok (.getfield 19, 3) := by decide +kernel
theorem dX3_answer_17 : decode cX3_answer 17 = .ok (.aload_n 0, 1) := by decide +kernel
theorem dX3_answer_18 : decode cX3_answer 18 = .ok (.getfield 19, 3) := by decide +kernel
theorem dX3_answer_21 : decode cX3_answer 21 = .ok (.getfield 85, 3) := by decide +kernel
theorem dX3_answer_24 : decode cX3_answer 24 = .ok (.invokevirtual 91, 3) := by decide +kernel
theorem dX3_answer_27 : decode cX3_answer 27 = .ok (.istore_n 3, 1) := by decide +kernel
theorem dX3_answer_28 : decode cX3_answer 28 = .ok (.iconst 0, 1) := by decide +kernel
theorem dX3_answer_29 : decode cX3_answer 29 = .ok (.istore 4, 2) := by decide +kernel
theorem dX3_answer_31 : decode cX3_answer 31 = .ok (.bipush (-9), 2) := by decide +kernel
theorem dX3_answer_33 : decode cX3_answer 33 = .ok (.istore 5, 2) := by decide +kernel
theorem dX3_answer_35 : decode cX3_answer 35 = .ok (.iconst 0, 1) := by decide +kernel
theorem dX3_answer_36 : decode cX3_answer 36 = .ok (.istore 6, 2) := by decide +kernel
theorem dX3_answer_38 : decode cX3_answer 38 = .ok (.iload 6, 2) := by decide +kernel
theorem dX3_answer_40 : decode cX3_answer 40 = .ok (.aload_n 0, 1) := by decide +kernel
theorem dX3_answer_41 : decode cX3_answer 41 = .ok (.getfield 19, 3) := by decide +kernel
theorem dX3_answer_44 : decode cX3_answer 44 = .ok (.invokevirtual 152, 3) := by decide +kernel
theorem dX3_answer_47 : decode cX3_answer 47 = .ok (.if_icmp .gt 73, 3) := by decide +kernel
theorem dX3_answer_50 : decode cX3_answer 50 = .ok (.iload 6, 2) := by decide +kernel
theorem dX3_answer_52 : decode cX3_answer 52 = .ok (.aload_n 0, 1) := by decide +kernel
theorem dX3_answer_53 : decode cX3_answer 53 = .ok (.getfield 19, 3) := by decide +kernel
theorem dX3_answer_56 : decode cX3_answer 56 = .ok (.getfield 85, 3) := by decide +kernel
theorem dX3_answer_59 : decode cX3_answer 59 = .ok (.iconst (-1), 1) := by decide +kernel
theorem dX3_answer_60 : decode cX3_answer 60 = .ok (.ixor, 1) := by decide +kernel
theorem dX3_answer_61 : decode cX3_answer 61 = .ok (.iand, 1) := by decide +kernel
theorem dX3_answer_62 : decode cX3_answer 62 = .ok (.ifCond .ne 7, 3) := by decide +kernel
theorem dX3_answer_65 : decode cX3_answer 65 = .ok (.iconst 1, 1) := by decide +kernel
theorem dX3_answer_66 : decode cX3_answer 66 = .ok (.goto 4, 3) := by decide +kernel
theorem dX3_answer_69 : decode cX3_answer 69 = .ok (.iconst 0, 1) := by decide +kernel
theorem dX3_answer_70 : decode cX3_answer 70 = .ok (.istore 7, 2) := by decide +kernel
theorem dX3_answer_72 : decode cX3_answer 72 = .ok (.iload_n 3, 1) := by decide +kernel
theorem dX3_answer_73 : decode cX3_answer 73 = .ok (.iload 6, 2) := by decide +kernel
theorem dX3_answer_75 : decode cX3_answer 75 = .ok (.iconst (-1), 1) := by decide +kernel
theorem dX3_answer_76 : decode cX3_answer 76 = .ok (.ixor, 1) := by decide +kernel
theorem dX3_answer_77 : decode cX3_answer 77 = .ok (.iand, 1) := by decide +kernel
theorem dX3_answer_78 : decode cX3_answer 78 = .ok (.ifCond .ne 7, 3) := by decide +kernel
theorem dX3_answer_81 : decode cX3_answer 81 = .ok (.iconst 1, 1) := by decide +kernel
theorem dX3_answer_82 : decode cX3_answer 82 = .ok (.goto 4, 3) := by decide +kernel
theorem dX3_answer_85 : decode cX3_answer 85 = .ok (.iconst 0, 1) := by decide +kernel
theorem dX3_answer_86 : decode cX3_answer 86 = .ok (.istore 8, 2) := by decide +kernel
theorem dX3_answer_88 : decode cX3_answer 88 = .ok (.iload 7, 2) := by decide +kernel
theorem dX3_answer_90 : decode cX3_answer 90 = .ok (.ifCond .eq 24, 3) := by decide +kernel
theorem dX3_answer_93 : decode cX3_answer 93 = .ok (.iload 8, 2) := by decide +kernel
theorem dX3_answer_95 : decode cX3_answer 95 = .ok (.ifCond .eq 19, 3) := by decide +kernel
theorem dX3_answer_98 : decode cX3_answer 98 = .ok (.iload 6, 2) := by decide +kernel
theorem dX3_answer_100 : decode cX3_answer 100 = .ok (.invokestatic 164, 3) := by decide +kernel
theorem dX3_answer_103 : decode cX3_answer 103 = .ok (.iload_n 1, 1) := by decide +kernel
theorem dX3_answer_104 : decode cX3_answer 104 = .ok (.if_icmp .ne 10, 3) := by decide +kernel
theorem dX3_answer_107 : decode cX3_answer 107 = .ok (.iinc 4 1, 3) := by decide +kernel
theorem dX3_answer_110 : decode cX3_answer 110 = .ok (.iload 6, 2) := by decide +kernel
theorem dX3_answer_112 : decode cX3_answer 112 = .ok (.istore 5, 2) := by decide +kernel
theorem dX3_answer_114 : decode cX3_answer 114 = .ok (.iinc 6 1, 3) := by decide +kernel
theorem dX3_answer_117 : decode cX3_answer 117 = .ok (.goto (-79), 3) := by decide +kernel
theorem dX3_answer_120 : decode cX3_answer 120 = .ok (.iload_n 2, 1) := by decide +kernel
theorem dX3_answer_121 : decode cX3_answer 121 = .ok (.ifCond .eq 8, 3) := by decide +kernel
theorem dX3_answer_124 : decode cX3_answer 124 = .ok (.iload 5, 2) := by decide +kernel
theorem dX3_answer_126 : decode cX3_answer 126 = .ok (.goto 5, 3) := by decide +kernel
theorem dX3_answer_129 : decode cX3_answer 129 = .ok (.iload 4, 2) := by decide +kernel
theorem dX3_answer_131 : decode cX3_answer 131 = .ok (.ireturn, 1) := by decide +kernel
theorem dX3_chosen_0 : decode cX3_chosen 0 = .ok (.aload_n 0, 1) := by decide +kernel
theorem dX3_chosen_1 : decode cX3_chosen 1 = .ok (.iload_n 1, 1) := by decide +kernel
theorem dX3_chosen_2 : decode cX3_chosen 2 = .ok (.invokevirtual 169, 3) := by decide +kernel
theorem dX3_chosen_5 : decode cX3_chosen 5 = .ok (.istore_n 2, 1) := by decide +kernel
theorem dX3_chosen_6 : decode cX3_chosen 6 = .ok (.iload_n 2, 1) := by decide +kernel
theorem dX3_chosen_7 : decode cX3_chosen 7 = .ok (.ifCond .eq 5, 3) := by decide +kernel
theorem dX3_chosen_10 : decode cX3_chosen 10 = .ok (.iload_n 2, 1) := by decide +kernel
theorem dX3_chosen_11 : decode cX3_chosen 11 = .ok (.ireturn, 1) := by decide +kernel
theorem dX3_chosen_12 : decode cX3_chosen 12 = .ok (.aload_n 0, 1) := by decide +kernel
theorem dX3_chosen_13 : decode cX3_chosen 13 = .ok (.getfield 29, 3) := by decide +kernel
theorem dX3_chosen_16 : decode cX3_chosen 16 = .ok (.aload_n 0, 1) := by decide +kernel
theorem dX3_chosen_17 : decode cX3_chosen 17 = .ok (.getfield 19, 3) := by decide +kernel
theorem dX3_chosen_20 : decode cX3_chosen 20 = .ok (.invokevirtual 172, 3) := by decide +kernel
theorem dX3_chosen_23 : decode cX3_chosen 23 = .ok (.aload_n 0, 1) := by decide +kernel
theorem dX3_chosen_24 : decode cX3_chosen 24 = .ok (.getfield 29, 3) := by decide +kernel
theorem dX3_chosen_27 : decode cX3_chosen 27 = .ok (.iload_n 1, 1) := by decide +kernel
theorem dX3_chosen_28 : decode cX3_chosen 28 = .ok (.invokevirtual 175, 3) := by decide +kernel
theorem dX3_chosen_31 : decode cX3_chosen 31 = .ok (.ireturn, 1) := by decide +kernel
theorem dX3_chosenWorth_0 : decode cX3_chosenWorth 0 = .ok (.aload_n 0, 1) := by decide +kernel
theorem dX3_chosenWorth_1 : decode cX3_chosenWorth 1 = .ok (.iload_n 1, 1) := by decide +kernel
theorem dX3_chosenWorth_2 : decode cX3_chosenWorth 2 = .ok (.invokevirtual 169, 3) := by decide +kernel
theorem dX3_chosenWorth_5 : decode cX3_chosenWorth 5 = .ok (.istore_n 2, 1) := by decide +kernel
theorem dX3_chosenWorth_6 : decode cX3_chosenWorth 6 = .ok (.iload_n 2, 1) := by decide +kernel
theorem dX3_chosenWorth_7 : decode cX3_chosenWorth 7 = .ok (.ifCond .eq 5, 3) := by decide +kernel
theorem dX3_chosenWorth_10 : decode cX3_chosenWorth 10 = .ok (.iload_n 2, 1) := by decide +kernel
theorem dX3_chosenWorth_11 : decode cX3_chosenWorth 11 = .ok (.ireturn, 1) := by decide +kernel
theorem dX3_chosenWorth_12 : decode cX3_chosenWorth 12 = .ok (.aload_n 0, 1) := by decide +kernel
theorem dX3_chosenWorth_13 : decode cX3_chosenWorth 13 = .ok (.getfield 29, 3) := by decide +kernel
theorem dX3_chosenWorth_16 : decode cX3_chosenWorth 16 = .ok (.aload_n 0, 1) := by decide +kernel
theorem dX3_chosenWorth_17 : decode cX3_chosenWorth 17 = .ok (.getfield 19, 3) := by decide +kernel
theorem dX3_chosenWorth_20 : decode cX3_chosenWorth 20 = .ok (.invokevirtual 172, 3) := by decide +kernel
theorem dX3_chosenWorth_23 : decode cX3_chosenWorth 23 = .ok (.aload_n 0, 1) := by decide +kernel
theorem dX3_chosenWorth_24 : decode cX3_chosenWorth 24 = .ok (.getfield 29, 3) := by decide +kernel
theorem dX3_chosenWorth_27 : decode cX3_chosenWorth 27 = .ok (.iload_n 1, 1) := by decide +kernel
theorem dX3_chosenWorth_28 : decode cX3_chosenWorth 28 = .ok (.invokevirtual 178, 3) := by decide +kernel
theorem dX3_chosenWorth_31 : decode cX3_chosenWorth 31 = .ok (.ireturn, 1) := by decide +kernel
theorem dX3_measures_0 : decode cX3_measures 0 = .ok (.aload_n 0, 1) := by decide +kernel
theorem dX3_measures_1 : decode cX3_measures 1 = .ok (.iload_n 1, 1) := by decide +kernel
theorem dX3_measures_2 : decode cX3_measures 2 = .ok (.invokevirtual 181, 3) := by decide +kernel
theorem dX3_measures_5 : decode cX3_measures 5 = .ok (.istore_n 2, 1) := by decide +kernel
theorem dX3_measures_6 : decode cX3_measures 6 = .ok (.iload_n 2, 1) := by decide +kernel
theorem dX3_measures_7 : decode cX3_measures 7 = .ok (.ifCond .eq 5, 3) := by decide +kernel
theorem dX3_measures_10 : decode cX3_measures 10 = .ok (.iload_n 2, 1) := by decide +kernel
theorem dX3_measures_11 : decode cX3_measures 11 = .ok (.ireturn, 1) := by decide +kernel
theorem dX3_measures_12 : decode cX3_measures 12 = .ok (.aload_n 0, 1) := by decide +kernel
theorem dX3_measures_13 : decode cX3_measures 13 = .ok (.getfield 23, 3) := by decide +kernel
theorem dX3_measures_16 : decode cX3_measures 16 = .ok (.aload_n 0, 1) := by decide +kernel
theorem dX3_measures_17 : decode cX3_measures 17 = .ok (.getfield 19, 3) := by decide +kernel
theorem dX3_measures_20 : decode cX3_measures 20 = .ok (.invokevirtual 139, 3) := by decide +kernel
theorem dX3_measures_23 : decode cX3_measures 23 = .ok (.iconst 0, 1) := by decide +kernel
theorem dX3_measures_24 : decode cX3_measures 24 = .ok (.istore_n 3, 1) := by decide +kernel
theorem dX3_measures_25 : decode cX3_measures 25 = .ok (.iconst 1, 1) := by decide +kernel
theorem dX3_measures_26 : decode cX3_measures 26 = .ok (.istore 4, 2) := by decide +kernel
theorem dX3_measures_28 : decode cX3_measures 28 = .ok (.iload 4, 2) := by decide +kernel
theorem dX3_measures_30 : decode cX3_measures 30 = .ok (.sipush 999, 3) := by decide +kernel
theorem dX3_measures_33 : decode cX3_measures 33 = .ok (.if_icmp .gt 32, 3) := by decide +kernel
theorem dX3_measures_36 : decode cX3_measures 36 = .ok (.aload_n 0, 1) := by decide +kernel
theorem dX3_measures_37 : decode cX3_measures 37 = .ok (.getfield 23, 3) := by decide +kernel
theorem dX3_measures_40 : decode cX3_measures 40 = .ok (.iload 4, 2) := by decide +kernel
theorem dX3_measures_42 : decode cX3_measures 42 = .ok (.invokevirtual 184, 3) := by decide +kernel
theorem dX3_measures_45 : decode cX3_measures 45 = .ok (.aload_n 0, 1) := by decide +kernel
theorem dX3_measures_46 : decode cX3_measures 46 = .ok (.getfield 23, 3) := by decide +kernel
theorem dX3_measures_49 : decode cX3_measures 49 = .ok (.iload_n 1, 1) := by decide +kernel
theorem dX3_measures_50 : decode cX3_measures 50 = .ok (.invokevirtual 187, 3) := by decide +kernel
theorem dX3_measures_53 : decode cX3_measures 53 = .ok (.ifCond .eq 6, 3) := by decide +kernel
theorem dX3_measures_56 : decode cX3_measures 56 = .ok (.iinc 3 1, 3) := by decide +kernel
theorem dX3_measures_59 : decode cX3_measures 59 = .ok (.iinc 4 1, 3) := by decide +kernel
theorem dX3_measures_62 : decode cX3_measures 62 = .ok (.goto (-34), 3) := by decide +kernel
theorem dX3_measures_65 : decode cX3_measures 65 = .ok (.iload_n 3, 1) := by decide +kernel
theorem dX3_measures_66 : decode cX3_measures 66 = .ok (.ireturn, 1) := by decide +kernel
theorem dX3_nearest_0 : decode cX3_nearest 0 = .ok (.aload_n 0, 1) := by decide +kernel
theorem dX3_nearest_1 : decode cX3_nearest 1 = .ok (.iload_n 1, 1) := by decide +kernel
theorem dX3_nearest_2 : decode cX3_nearest 2 = .ok (.invokevirtual 181, 3) := by decide +kernel
theorem dX3_nearest_5 : decode cX3_nearest 5 = .ok (.istore_n 2, 1) := by decide +kernel
theorem dX3_nearest_6 : decode cX3_nearest 6 = .ok (.iload_n 2, 1) := by decide +kernel
theorem dX3_nearest_7 : decode cX3_nearest 7 = .ok (.ifCond .eq 5, 3) := by decide +kernel
theorem dX3_nearest_10 : decode cX3_nearest 10 = .ok (.iload_n 2, 1) := by decide +kernel
theorem dX3_nearest_11 : decode cX3_nearest 11 = .ok (.ireturn, 1) := by decide +kernel
theorem dX3_nearest_12 : decode cX3_nearest 12 = .ok (.aload_n 0, 1) := by decide +kernel
theorem dX3_nearest_13 : decode cX3_nearest 13 = .ok (.getfield 23, 3) := by decide +kernel
theorem dX3_nearest_16 : decode cX3_nearest 16 = .ok (.aload_n 0, 1) := by decide +kernel
theorem dX3_nearest_17 : decode cX3_nearest 17 = .ok (.getfield 19, 3) := by decide +kernel
theorem dX3_nearest_20 : decode cX3_nearest 20 = .ok (.invokevirtual 139, 3) := by decide +kernel
theorem dX3_nearest_23 : decode cX3_nearest 23 = .ok (.bipush (-9), 2) := by decide +kernel
theorem dX3_nearest_25 : decode cX3_nearest 25 = .ok (.istore_n 3, 1) := by decide +kernel
theorem dX3_nearest_26 : decode cX3_nearest 26 = .ok (.bipush 28, 2) := by decide +kernel
theorem dX3_nearest_28 : decode cX3_nearest 28 = .ok (.istore 4, 2) := by decide +kernel
theorem dX3_nearest_30 : decode cX3_nearest 30 = .ok (.iconst 1, 1) := by decide +kernel
theorem dX3_nearest_31 : decode cX3_nearest 31 = .ok (.istore 5, 2) := by decide +kernel
theorem dX3_nearest_33 : decode cX3_nearest 33 = .ok (.iload 5, 2) := by decide +kernel
theorem dX3_nearest_35 : decode cX3_nearest 35 = .ok (.sipush 999, 3) := by decide +kernel
theorem dX3_nearest_38 : decode cX3_nearest 38 = .ok (.if_icmp .gt 56, 3) := by decide +kernel
theorem dX3_nearest_41 : decode cX3_nearest 41 = .ok (.aload_n 0, 1) := by decide +kernel
theorem dX3_nearest_42 : decode cX3_nearest 42 = .ok (.getfield 23, 3) := by decide +kernel
theorem dX3_nearest_45 : decode cX3_nearest 45 = .ok (.iload 5, 2) := by decide +kernel
theorem dX3_nearest_47 : decode cX3_nearest 47 = .ok (.invokevirtual 184, 3) := by decide +kernel
theorem dX3_nearest_50 : decode cX3_nearest 50 = .ok (.aload_n 0, 1) := by decide +kernel
theorem dX3_nearest_51 : decode cX3_nearest 51 = .ok (.getfield 23, 3) := by decide +kernel
theorem dX3_nearest_54 : decode cX3_nearest 54 = .ok (.aload_n 0, 1) := by decide +kernel
theorem dX3_nearest_55 : decode cX3_nearest 55 = .ok (.getfield 19, 3) := by decide +kernel
theorem dX3_nearest_58 : decode cX3_nearest 58 = .ok (.invokevirtual 190, 3) := by decide +kernel
theorem dX3_nearest_61 : decode cX3_nearest 61 = .ok (.istore 6, 2) := by decide +kernel
theorem dX3_nearest_63 : decode cX3_nearest 63 = .ok (.iload 6, 2) := by decide +kernel
theorem dX3_nearest_65 : decode cX3_nearest 65 = .ok (.iload 4, 2) := by decide +kernel
theorem dX3_nearest_67 : decode cX3_nearest 67 = .ok (.if_icmp .ge 21, 3) := by decide +kernel
theorem dX3_nearest_70 : decode cX3_nearest 70 = .ok (.aload_n 0, 1) := by decide +kernel
theorem dX3_nearest_71 : decode cX3_nearest 71 = .ok (.getfield 23, 3) := by decide +kernel
theorem dX3_nearest_74 : decode cX3_nearest 74 = .ok (.iload_n 1, 1) := by decide +kernel
theorem dX3_nearest_75 : decode cX3_nearest 75 = .ok (.invokevirtual 187, 3) := by decide +kernel
theorem dX3_nearest_78 : decode cX3_nearest 78 = .ok (.ifCond .eq 10, 3) := by decide +kernel
theorem dX3_nearest_81 : decode cX3_nearest 81 = .ok (.iload 5, 2) := by decide +kernel
theorem dX3_nearest_83 : decode cX3_nearest 83 = .ok (.istore_n 3, 1) := by decide +kernel
theorem dX3_nearest_84 : decode cX3_nearest 84 = .ok (.iload 6, 2) := by decide +kernel
theorem dX3_nearest_86 : decode cX3_nearest 86 = .ok (.istore 4, 2) := by decide +kernel
theorem dX3_nearest_88 : decode cX3_nearest 88 = .ok (.iinc 5 1, 3) := by decide +kernel
theorem dX3_nearest_91 : decode cX3_nearest 91 = .ok (.goto (-58), 3) := by decide +kernel
theorem dX3_nearest_94 : decode cX3_nearest 94 = .ok (.iload_n 3, 1) := by decide +kernel
theorem dX3_nearest_95 : decode cX3_nearest 95 = .ok (.ireturn, 1) := by decide +kernel
theorem dX3_reign_0 : decode cX3_reign 0 = .ok (.aload_n 0, 1) := by decide +kernel
theorem dX3_reign_1 : decode cX3_reign 1 = .ok (.getfield 19, 3) := by decide +kernel
theorem dX3_reign_4 : decode cX3_reign 4 = .ok (.getfield 82, 3) := by decide +kernel
theorem dX3_reign_7 : decode cX3_reign 7 = .ok (.ifCond .ne 6, 3) := by decide +kernel
theorem dX3_reign_10 : decode cX3_reign 10 = .ok (.bipush (-3), 2) := by decide +kernel
theorem dX3_reign_12 : decode cX3_reign 12 = .ok (.ireturn, 1) := by decide +kernel
theorem dX3_reign_13 : decode cX3_reign 13 = .ok (.aload_n 0, 1) := by decide +kernel
theorem dX3_reign_14 : decode cX3_reign 14 = .ok (.getfield 23, 3) := by decide +kernel
theorem dX3_reign_17 : decode cX3_reign 17 = .ok (.aload_n 0, 1) := by decide +kernel
theorem dX3_reign_18 : decode cX3_reign 18 = .ok (.getfield 19, 3) := by decide +kernel
theorem dX3_reign_21 : decode cX3_reign 21 = .ok (.invokevirtual 139, 3) := by decide +kernel
theorem dX3_reign_24 : decode cX3_reign 24 = .ok (.iconst 0, 1) := by decide +kernel
theorem dX3_reign_25 : decode cX3_reign 25 = .ok (.istore_n 2, 1) := by decide +kernel
theorem dX3_reign_26 : decode cX3_reign 26 = .ok (.iload_n 2, 1) := by decide +kernel
theorem dX3_reign_27 : decode cX3_reign 27 = .ok (.bipush 30, 2) := by decide +kernel
theorem dX3_reign_29 : decode cX3_reign 29 = .ok (.if_icmp .gt 40, 3) := by decide +kernel
theorem dX3_reign_32 : decode cX3_reign 32 = .ok (.aload_n 0, 1) := by decide +kernel
theorem dX3_reign_33 : decode cX3_reign 33 = .ok (.getfield 23, 3) := by decide +kernel
theorem dX3_reign_36 : decode cX3_reign 36 = .ok (.iconst 0, 1) := by decide +kernel
theorem dX3_reign_37 : decode cX3_reign 37 = .ok (.invokevirtual 187, 3) := by decide +kernel
theorem dX3_reign_40 : decode cX3_reign 40 = .ok (.ifCond .ne 5, 3) := by decide +kernel
theorem dX3_reign_43 : decode cX3_reign 43 = .ok (.iload_n 2, 1) := by decide +kernel
theorem dX3_reign_44 : decode cX3_reign 44 = .ok (.ireturn, 1) := by decide +kernel
theorem dX3_reign_45 : decode cX3_reign 45 = .ok (.iload_n 1, 1) := by decide +kernel
theorem dX3_reign_46 : decode cX3_reign 46 = .ok (.ifCond .eq 10, 3) := by decide +kernel
theorem dX3_reign_49 : decode cX3_reign 49 = .ok (.aload_n 0, 1) := by decide +kernel
theorem dX3_reign_50 : decode cX3_reign 50 = .ok (.getfield 23, 3) := by decide +kernel
theorem dX3_reign_53 : decode cX3_reign 53 = .ok (.invokevirtual 126, 3) := by decide +kernel
theorem dX3_reign_56 : decode cX3_reign 56 = .ok (.aload_n 0, 1) := by decide +kernel
theorem dX3_reign_57 : decode cX3_reign 57 = .ok (.getfield 23, 3) := by decide +kernel
theorem dX3_reign_60 : decode cX3_reign 60 = .ok (.invokevirtual 129, 3) := by decide +kernel
theorem dX3_reign_63 : decode cX3_reign 63 = .ok (.iinc 2 1, 3) := by decide +kernel
theorem dX3_reign_66 : decode cX3_reign 66 = .ok (.goto (-40), 3) := by decide +kernel
theorem dX3_reign_69 : decode cX3_reign 69 = .ok (.bipush (-9), 2) := by decide +kernel
theorem dX3_reign_71 : decode cX3_reign 71 = .ok (.ireturn, 1) := by decide +kernel
theorem dX3_differs_0 : decode cX3_differs 0 = .ok (.iload_n 1, 1) := by decide +kernel
theorem dX3_differs_1 : decode cX3_differs 1 = .ok (.iconst 1, 1) := by decide +kernel
theorem dX3_differs_2 : decode cX3_differs 2 = .ok (.if_icmp .lt 10, 3) := by decide +kernel
theorem dX3_differs_5 : decode cX3_differs 5 = .ok (.iload_n 1, 1) := by decide +kernel
theorem dX3_differs_6 : decode cX3_differs 6 = .ok (.sipush 999, 3) := by decide +kernel
theorem dX3_differs_9 : decode cX3_differs 9 = .ok (.if_icmp .le 6, 3) := by decide +kernel
theorem dX3_differs_12 : decode cX3_differs 12 = .ok (.bipush (-2), 2) := by decide +kernel
theorem dX3_differs_14 : decode cX3_differs 14 = .ok (.ireturn, 1) := by decide +kernel
theorem dX3_differs_15 : decode cX3_differs 15 = .ok (.aload_n 0, 1) := by decide +kernel
theorem dX3_differs_16 : decode cX3_differs 16 = .ok (.getfield 23, 3) := by decide +kernel
theorem dX3_differs_19 : decode cX3_differs 19 = .ok (.aload_n 0, 1) := by decide +kernel
theorem dX3_differs_20 : decode cX3_differs 20 = .ok (.getfield 19, 3) := by decide +kernel
theorem dX3_differs_23 : decode cX3_differs 23 = .ok (.invokevirtual 139, 3) := by decide +kernel
theorem dX3_differs_26 : decode cX3_differs 26 = .ok (.aload_n 0, 1) := by decide +kernel
theorem dX3_differs_27 : decode cX3_differs 27 = .ok (.getfield 23, 3) := by decide +kernel
theorem dX3_differs_30 : decode cX3_differs 30 = .ok (.iload_n 1, 1) := by decide +kernel
theorem dX3_differs_31 : decode cX3_differs 31 = .ok (.invokevirtual 184, 3) := by decide +kernel
theorem dX3_differs_34 : decode cX3_differs 34 = .ok (.aload_n 0, 1) := by decide +kernel
theorem dX3_differs_35 : decode cX3_differs 35 = .ok (.getfield 19, 3) := by decide +kernel
theorem dX3_differs_38 : decode cX3_differs 38 = .ok (.aload_n 0, 1) := by decide +kernel
theorem dX3_differs_39 : decode cX3_differs 39 = .ok (.getfield 19, 3) := by decide +kernel
theorem dX3_differs_42 : decode cX3_differs 42 = .ok (.getfield 85, 3) := by decide +kernel
theorem dX3_differs_45 : decode cX3_differs 45 = .ok (.invokevirtual 91, 3) := by decide +kernel
theorem dX3_differs_48 : decode cX3_differs 48 = .ok (.aload_n 0, 1) := by decide +kernel
theorem dX3_differs_49 : decode cX3_differs 49 = .ok (.getfield 23, 3) := by decide +kernel
theorem dX3_differs_52 : decode cX3_differs 52 = .ok (.aload_n 0, 1) := by decide +kernel
theorem dX3_differs_53 : decode cX3_differs 53 = .ok (.getfield 23, 3) := by decide +kernel
theorem dX3_differs_56 : decode cX3_differs 56 = .ok (.getfield 85, 3) := by decide +kernel
theorem dX3_differs_59 : decode cX3_differs 59 = .ok (.invokevirtual 91, 3) := by decide +kernel
theorem dX3_differs_62 : decode cX3_differs 62 = .ok (.ixor, 1) := by decide +kernel
theorem dX3_differs_63 : decode cX3_differs 63 = .ok (.ireturn, 1) := by decide +kernel
theorem dX3_rate_0 : decode cX3_rate 0 = .ok (.aload_n 0, 1) := by decide +kernel
theorem dX3_rate_1 : decode cX3_rate 1 = .ok (.getfield 19, 3) := by decide +kernel
theorem dX3_rate_4 : decode cX3_rate 4 = .ok (.iload_n 1, 1) := by decide +kernel
theorem dX3_rate_5 : decode cX3_rate 5 = .ok (.invokevirtual 104, 3) := by decide +kernel
theorem dX3_rate_8 : decode cX3_rate 8 = .ok (.ifCond .eq 14, 3) := by decide +kernel
theorem dX3_rate_11 : decode cX3_rate 11 = .ok (.aload_n 0, 1) := by decide +kernel
theorem dX3_rate_12 : decode cX3_rate 12 = .ok (.getfield 19, 3) := by decide +kernel
theorem dX3_rate_15 : decode cX3_rate 15 = .ok (.iload_n 2, 1) := by decide +kernel
theorem dX3_rate_16 : decode cX3_rate 16 = .ok (.invokevirtual 104, 3) := by decide +kernel
theorem dX3_rate_19 : decode cX3_rate 19 = .ok (.ifCond .ne 5, 3) := by decide +kernel
theorem dX3_rate_22 : decode cX3_rate 22 = .ok (.iconst (-1), 1) := by decide +kernel
theorem dX3_rate_23 : decode cX3_rate 23 = .ok (.ireturn, 1) := by decide +kernel
theorem dX3_rate_24 : decode cX3_rate 24 = .ok (.iload_n 1, 1) := by decide +kernel
theorem dX3_rate_25 : decode cX3_rate 25 = .ok (.iload_n 2, 1) := by decide +kernel
theorem dX3_rate_26 : decode cX3_rate 26 = .ok (.if_icmp .ne 6, 3) := by decide +kernel
theorem dX3_rate_29 : decode cX3_rate 29 = .ok (.bipush (-2), 2) := by decide +kernel
theorem dX3_rate_31 : decode cX3_rate 31 = .ok (.ireturn, 1) := by decide +kernel
theorem dX3_rate_32 : decode cX3_rate 32 = .ok (.aload_n 0, 1) := by decide +kernel
theorem dX3_rate_33 : decode cX3_rate 33 = .ok (.getfield 23, 3) := by decide +kernel
theorem dX3_rate_36 : decode cX3_rate 36 = .ok (.aload_n 0, 1) := by decide +kernel
theorem dX3_rate_37 : decode cX3_rate 37 = .ok (.getfield 19, 3) := by decide +kernel
theorem dX3_rate_40 : decode cX3_rate 40 = .ok (.invokevirtual 139, 3) := by decide +kernel
theorem dX3_rate_43 : decode cX3_rate 43 = .ok (.iconst 0, 1) := by decide +kernel
theorem dX3_rate_44 : decode cX3_rate 44 = .ok (.istore 4, 2) := by decide +kernel
theorem dX3_rate_46 : decode cX3_rate 46 = .ok (.iconst 1, 1) := by decide +kernel
theorem dX3_rate_47 : decode cX3_rate 47 = .ok (.istore 5, 2) := by decide +kernel
theorem dX3_rate_49 : decode cX3_rate 49 = .ok (.iload 5, 2) := by decide +kernel
theorem dX3_rate_51 : decode cX3_rate 51 = .ok (.sipush 999, 3) := by decide +kernel
theorem dX3_rate_54 : decode cX3_rate 54 = .ok (.if_icmp .gt 40, 3) := by decide +kernel
theorem dX3_rate_57 : decode cX3_rate 57 = .ok (.aload_n 0, 1) := by decide +kernel
theorem dX3_rate_58 : decode cX3_rate 58 = .ok (.getfield 23, 3) := by decide +kernel
theorem dX3_rate_61 : decode cX3_rate 61 = .ok (.iload 5, 2) := by decide +kernel
theorem dX3_rate_63 : decode cX3_rate 63 = .ok (.invokevirtual 184, 3) := by decide +kernel
theorem dX3_rate_66 : decode cX3_rate 66 = .ok (.aload_n 0, 1) := by decide +kernel
theorem dX3_rate_67 : decode cX3_rate 67 = .ok (.getfield 23, 3) := by decide +kernel
theorem dX3_rate_70 : decode cX3_rate 70 = .ok (.iload_n 1, 1) := by decide +kernel
theorem dX3_rate_71 : decode cX3_rate 71 = .ok (.invokevirtual 120, 3) := by decide +kernel
theorem dX3_rate_74 : decode cX3_rate 74 = .ok (.aload_n 0, 1) := by decide +kernel
theorem dX3_rate_75 : decode cX3_rate 75 = .ok (.getfield 23, 3) := by decide +kernel
theorem dX3_rate_78 : decode cX3_rate 78 = .ok (.iload_n 2, 1) := by decide +kernel
theorem dX3_rate_79 : decode cX3_rate 79 = .ok (.invokevirtual 120, 3) := by decide +kernel
theorem dX3_rate_82 : decode cX3_rate 82 = .ok (.if_icmp .le 6, 3) := by decide +kernel
theorem dX3_rate_85 : decode cX3_rate 85 = .ok (.iinc 4 1, 3) := by decide +kernel
theorem dX3_rate_88 : decode cX3_rate 88 = .ok (.iinc 5 1, 3) := by decide +kernel
theorem dX3_rate_91 : decode cX3_rate 91 = .ok (.goto (-42), 3) := by decide +kernel
theorem dX3_rate_94 : decode cX3_rate 94 = .ok (.iload 4, 2) := by decide +kernel
theorem dX3_rate_96 : decode cX3_rate 96 = .ok (.sipush 999, 3) := by decide +kernel
theorem dX3_rate_99 : decode cX3_rate 99 = .ok (.iload_n 3, 1) := by decide +kernel
theorem dX3_rate_100 : decode cX3_rate 100 = .ok (.invokestatic 194, 3) := by decide +kernel
theorem dX3_rate_103 : decode cX3_rate 103 = .ok (.ireturn, 1) := by decide +kernel
theorem dX3_saying_0 : decode cX3_saying 0 = .ok (.aload_n 0, 1) := by decide +kernel
theorem dX3_saying_1 : decode cX3_saying 1 = .ok (.getfield 19, 3) := by decide +kernel
theorem dX3_saying_4 : decode cX3_saying 4 = .ok (.iload_n 1, 1) := by decide +kernel
theorem dX3_saying_5 : decode cX3_saying 5 = .ok (.invokevirtual 104, 3) := by decide +kernel
theorem dX3_saying_8 : decode cX3_saying 8 = .ok (.ifCond .ne 5, 3) := by decide +kernel
theorem dX3_saying_11 : decode cX3_saying 11 = .ok (.iconst (-1), 1) := by decide +kernel
theorem dX3_saying_12 : decode cX3_saying 12 = .ok (.ireturn, 1) := by decide +kernel
theorem dX3_saying_13 : decode cX3_saying 13 = .ok (.iload_n 2, 1) := by decide +kernel
theorem dX3_saying_14 : decode cX3_saying 14 = .ok (.invokestatic 198, 3) := by decide +kernel
theorem dX3_saying_17 : decode cX3_saying 17 = .ok (.ifCond .ne 6, 3) := by decide +kernel
theorem dX3_saying_20 : decode cX3_saying 20 = .ok (.bipush (-2), 2) := by decide +kernel
theorem dX3_saying_22 : decode cX3_saying 22 = .ok (.ireturn, 1) := by decide +kernel
theorem dX3_saying_23 : decode cX3_saying 23 = .ok (.aload_n 0, 1) := by decide +kernel
theorem dX3_saying_24 : decode cX3_saying 24 = .ok (.getfield 19, 3) := by decide +kernel
theorem dX3_saying_27 : decode cX3_saying 27 = .ok (.iload_n 1, 1) := by decide +kernel
theorem dX3_saying_28 : decode cX3_saying 28 = .ok (.invokevirtual 114, 3) := by decide +kernel
theorem dX3_saying_31 : decode cX3_saying 31 = .ok (.ifCond .ne 6, 3) := by decide +kernel
theorem dX3_saying_34 : decode cX3_saying 34 = .ok (.bipush (-3), 2) := by decide +kernel
theorem dX3_saying_36 : decode cX3_saying 36 = .ok (.ireturn, 1) := by decide +kernel
theorem dX3_saying_37 : decode cX3_saying 37 = .ok (.aload_n 0, 1) := by decide +kernel
theorem dX3_saying_38 : decode cX3_saying 38 = .ok (.getfield 19, 3) := by decide +kernel
theorem dX3_saying_41 : decode cX3_saying 41 = .ok (.aload_n 0, 1) := by decide +kernel
theorem dX3_saying_42 : decode cX3_saying 42 = .ok (.getfield 19, 3) := by decide +kernel
theorem dX3_saying_45 : decode cX3_saying 45 = .ok (.getfield 85, 3) := by decide +kernel
theorem dX3_saying_48 : decode cX3_saying 48 = .ok (.invokevirtual 91, 3) := by decide +kernel
theorem dX3_saying_51 : decode cX3_saying 51 = .ok (.istore 4, 2) := by decide +kernel
theorem dX3_saying_53 : decode cX3_saying 53 = .ok (.aload_n 0, 1) := by decide +kernel
theorem dX3_saying_54 : decode cX3_saying 54 = .ok (.getfield 19, 3) := by decide +kernel
theorem dX3_saying_57 : decode cX3_saying 57 = .ok (.iload 4, 2) := by decide +kernel
theorem dX3_saying_59 : decode cX3_saying 59 = .ok (.invokevirtual 201, 3) := by decide +kernel
theorem dX3_saying_62 : decode cX3_saying 62 = .ok (.iload_n 1, 1) := by decide +kernel
theorem dX3_saying_63 : decode cX3_saying 63 = .ok (.if_icmp .ne 11, 3) := by decide +kernel
theorem dX3_saying_66 : decode cX3_saying 66 = .ok (.aload_n 0, 1) := by decide +kernel
theorem dX3_saying_67 : decode cX3_saying 67 = .ok (.iload_n 2, 1) := by decide +kernel
theorem dX3_saying_68 : decode cX3_saying 68 = .ok (.invokevirtual 204, 3) := by decide +kernel
theorem dX3_saying_71 : decode cX3_saying 71 = .ok (.goto 7, 3) := by decide +kernel
theorem dX3_saying_74 : decode cX3_saying 74 = .ok (.iload_n 2, 1) := by decide +kernel
theorem dX3_saying_75 : decode cX3_saying 75 = .ok (.invokestatic 207, 3) := by decide +kernel
theorem dX3_saying_78 : decode cX3_saying 78 = .ok (.istore 5, 2) := by decide +kernel
theorem dX3_saying_80 : decode cX3_saying 80 = .ok (.iload 5, 2) := by decide +kernel
theorem dX3_saying_82 : decode cX3_saying 82 = .ok (.bipush 10, 2) := by decide +kernel
theorem dX3_saying_84 : decode cX3_saying 84 = .ok (.aload_n 0, 1) := by decide +kernel
theorem dX3_saying_85 : decode cX3_saying 85 = .ok (.getfield 19, 3) := by decide +kernel
theorem dX3_saying_88 : decode cX3_saying 88 = .ok (.invokevirtual 132, 3) := by decide +kernel
theorem dX3_saying_91 : decode cX3_saying 91 = .ok (.imul, 1) := by decide +kernel
theorem dX3_saying_92 : decode cX3_saying 92 = .ok (.iload_n 3, 1) := by decide +kernel
theorem dX3_saying_93 : decode cX3_saying 93 = .ok (.invokestatic 194, 3) := by decide +kernel
theorem dX3_saying_96 : decode cX3_saying 96 = .ok (.ireturn, 1) := by decide +kernel
theorem dX3_believed_0 : decode cX3_believed 0 = .ok (.aload_n 0, 1) := by decide +kernel
theorem dX3_believed_1 : decode cX3_believed 1 = .ok (.getfield 19, 3) := by decide +kernel
theorem dX3_believed_4 : decode cX3_believed 4 = .ok (.iload_n 1, 1) := by decide +kernel
theorem dX3_believed_5 : decode cX3_believed 5 = .ok (.invokevirtual 104, 3) := by decide +kernel
theorem dX3_believed_8 : decode cX3_believed 8 = .ok (.ifCond .ne 5, 3) := by decide +kernel
theorem dX3_believed_11 : decode cX3_believed 11 = .ok (.iconst (-1), 1) := by decide +kernel
theorem dX3_believed_12 : decode cX3_believed 12 = .ok (.ireturn, 1) := by decide +kernel
theorem dX3_believed_13 : decode cX3_believed 13 = .ok (.iload_n 2, 1) := by decide +kernel
theorem dX3_believed_14 : decode cX3_believed 14 = .ok (.invokestatic 198, 3) := by decide +kernel
theorem dX3_believed_17 : decode cX3_believed 17 = .ok (.ifCond .eq 10, 3) := by decide +kernel
theorem dX3_believed_20 : decode cX3_believed 20 = .ok (.iload_n 3, 1) := by decide +kernel
theorem dX3_believed_21 : decode cX3_believed 21 = .ok (.invokestatic 198, 3) := by decide +kernel
theorem dX3_believed_24 : decode cX3_believed 24 = .ok (.ifCond .ne 6, 3) := by decide +kernel
theorem dX3_believed_27 : decode cX3_believed 27 = .ok (.bipush (-2), 2) := by decide +kernel
theorem dX3_believed_29 : decode cX3_believed 29 = .ok (.ireturn, 1) := by decide +kernel
theorem dX3_believed_30 : decode cX3_believed 30 = .ok (.aload_n 0, 1) := by decide +kernel
theorem dX3_believed_31 : decode cX3_believed 31 = .ok (.getfield 19, 3) := by decide +kernel
theorem dX3_believed_34 : decode cX3_believed 34 = .ok (.iload_n 1, 1) := by decide +kernel
theorem dX3_believed_35 : decode cX3_believed 35 = .ok (.invokevirtual 114, 3) := by decide +kernel
theorem dX3_believed_38 : decode cX3_believed 38 = .ok (.ifCond .ne 6, 3) := by decide +kernel
theorem dX3_believed_41 : decode cX3_believed 41 = .ok (.bipush (-3), 2) := by decide +kernel
theorem dX3_believed_43 : decode cX3_believed 43 = .ok (.ireturn, 1) := by decide +kernel
theorem dX3_believed_44 : decode cX3_believed 44 = .ok (.aload_n 0, 1) := by decide +kernel
theorem dX3_believed_45 : decode cX3_believed 45 = .ok (.iload_n 2, 1) := by decide +kernel
theorem dX3_believed_46 : decode cX3_believed 46 = .ok (.invokevirtual 204, 3) := by decide +kernel
theorem dX3_believed_49 : decode cX3_believed 49 = .ok (.aload_n 0, 1) := by decide +kernel
theorem dX3_believed_50 : decode cX3_believed 50 = .ok (.iload_n 3, 1) := by decide +kernel
theorem dX3_believed_51 : decode cX3_believed 51 = .ok (.invokevirtual 204, 3) := by decide +kernel
theorem dX3_believed_54 : decode cX3_believed 54 = .ok (.imul, 1) := by decide +kernel
theorem dX3_believed_55 : decode cX3_believed 55 = .ok (.istore 5, 2) := by decide +kernel
theorem dX3_believed_57 : decode cX3_believed 57 = .ok (.aload_n 0, 1) := by decide +kernel
theorem dX3_believed_58 : decode cX3_believed 58 = .ok (.getfield 19, 3) := by decide +kernel
theorem dX3_believed_61 : decode cX3_believed 61 = .ok (.invokevirtual 132, 3) := by decide +kernel
theorem dX3_believed_64 : decode cX3_believed 64 = .ok (.iconst 1, 1) := by decide +kernel
theorem dX3_believed_65 : decode cX3_believed 65 = .ok (.isub, 1) := by decide +kernel
theorem dX3_believed_66 : decode cX3_believed 66 = .ok (.iload_n 2, 1) := by decide +kernel
theorem dX3_believed_67 : decode cX3_believed 67 = .ok (.invokestatic 207, 3) := by decide +kernel
theorem dX3_believed_70 : decode cX3_believed 70 = .ok (.imul, 1) := by decide +kernel
theorem dX3_believed_71 : decode cX3_believed 71 = .ok (.iload_n 3, 1) := by decide +kernel
theorem dX3_believed_72 : decode cX3_believed 72 = .ok (.invokestatic 207, 3) := by decide +kernel
theorem dX3_believed_75 : decode cX3_believed 75 = .ok (.imul, 1) := by decide +kernel
theorem dX3_believed_76 : decode cX3_believed 76 = .ok (.istore 6, 2) := by decide +kernel
theorem dX3_believed_78 : decode cX3_believed 78 = .ok (.iload 5, 2) := by decide +kernel
theorem dX3_believed_80 : decode cX3_believed 80 = .ok (.iload 5, 2) := by decide +kernel
theorem dX3_believed_82 : decode cX3_believed 82 = .ok (.iload 6, 2) := by decide +kernel
theorem dX3_believed_84 : decode cX3_believed 84 = .ok (.iadd, 1) := by decide +kernel
theorem dX3_believed_85 : decode cX3_believed 85 = .ok (.iload 4, 2) := by decide +kernel
theorem dX3_believed_87 : decode cX3_believed 87 = .ok (.invokestatic 194, 3) := by decide +kernel
theorem dX3_believed_90 : decode cX3_believed 90 = .ok (.ireturn, 1) := by decide +kernel
theorem dX3_chance_0 : decode cX3_chance 0 = .ok (.iload_n 1, 1) := by decide +kernel
theorem dX3_chance_1 : decode cX3_chance 1 = .ok (.invokestatic 198, 3) := by decide +kernel
theorem dX3_chance_4 : decode cX3_chance 4 = .ok (.ifCond .ne 6, 3) := by decide +kernel
theorem dX3_chance_7 : decode cX3_chance 7 = .ok (.bipush (-2), 2) := by decide +kernel
theorem dX3_chance_9 : decode cX3_chance 9 = .ok (.ireturn, 1) := by decide +kernel
theorem dX3_chance_10 : decode cX3_chance 10 = .ok (.aload_n 0, 1) := by decide +kernel
theorem dX3_chance_11 : decode cX3_chance 11 = .ok (.getfield 19, 3) := by decide +kernel
theorem dX3_chance_14 : decode cX3_chance 14 = .ok (.getfield 82, 3) := by decide +kernel
theorem dX3_chance_17 : decode cX3_chance 17 = .ok (.ifCond .ne 6, 3) := by decide +kernel
theorem dX3_chance_20 : decode cX3_chance 20 = .ok (.bipush (-3), 2) := by decide +kernel
theorem dX3_chance_22 : decode cX3_chance 22 = .ok (.ireturn, 1) := by decide +kernel
theorem dX3_chance_23 : decode cX3_chance 23 = .ok (.iconst 0, 1) := by decide +kernel
theorem dX3_chance_24 : decode cX3_chance 24 = .ok (.istore_n 3, 1) := by decide +kernel
theorem dX3_chance_25 : decode cX3_chance 25 = .ok (.iconst 0, 1) := by decide +kernel
theorem dX3_chance_26 : decode cX3_chance 26 = .ok (.istore 4, 2) := by decide +kernel
theorem dX3_chance_28 : decode cX3_chance 28 = .ok (.iconst 0, 1) := by decide +kernel
theorem dX3_chance_29 : decode cX3_chance 29 = .ok (.istore 5, 2) := by decide +kernel
theorem dX3_chance_31 : decode cX3_chance 31 = .ok (.iload 5, 2) := by decide +kernel
theorem dX3_chance_33 : decode cX3_chance 33 = .ok (.aload_n 0, 1) := by decide +kernel
theorem dX3_chance_34 : decode cX3_chance 34 = .ok (.getfield 19, 3) := by decide +kernel
theorem dX3_chance_37 : decode cX3_chance 37 = .ok (.invokevirtual 152, 3) := by decide +kernel
theorem dX3_chance_40 : decode cX3_chance 40 = .ok (.if_icmp .gt 52, 3) := by decide +kernel
theorem dX3_chance_43 : decode cX3_chance 43 = .ok (.aload_n 0, 1) := by decide +kernel
theorem dX3_chance_44 : decode cX3_chance 44 = .ok (.iload 5, 2) := by decide +kernel
theorem dX3_chance_46 : decode cX3_chance 46 = .ok (.invokevirtual 155, 3) := by decide +kernel
theorem dX3_chance_49 : decode cX3_chance 49 = .ok (.ifCond .eq 37, 3) := by decide +kernel
theorem dX3_chance_52 : decode cX3_chance 52 = .ok (.aload_n 0, 1) := by decide +kernel
theorem dX3_chance_53 : decode cX3_chance 53 = .ok (.iload 5, 2) := by decide +kernel
theorem dX3_chance_55 : decode cX3_chance 55 = .ok (.iload_n 1, 1) := by decide +kernel
theorem dX3_chance_56 : decode cX3_chance 56 = .ok (.invokevirtual 210, 3) := by decide +kernel
theorem dX3_chance_59 : decode cX3_chance 59 = .ok (.istore 6, 2) := by decide +kernel
theorem dX3_chance_61 : decode cX3_chance 61 = .ok (.iload 4, 2) := by decide +kernel
theorem dX3_chance_63 : decode cX3_chance 63 = .ok (.iload 6, 2) := by decide +kernel
theorem dX3_chance_65 : decode cX3_chance 65 = .ok (.iadd, 1) := by decide +kernel
theorem dX3_chance_66 : decode cX3_chance 66 = .ok (.istore 4, 2) := by decide +kernel
theorem dX3_chance_68 : decode cX3_chance 68 = .ok (.aload_n 0, 1) := by decide +kernel
theorem dX3_chance_69 : decode cX3_chance 69 = .ok (.getfield 19, 3) := by decide +kernel
theorem dX3_chance_72 : decode cX3_chance 72 = .ok (.iload 5, 2) := by decide +kernel
theorem dX3_chance_74 : decode cX3_chance 74 = .ok (.invokevirtual 91, 3) := by decide +kernel
theorem dX3_chance_77 : decode cX3_chance 77 = .ok (.iconst 1, 1) := by decide +kernel
theorem dX3_chance_78 : decode cX3_chance 78 = .ok (.if_icmp .ne 8, 3) := by decide +kernel
theorem dX3_chance_81 : decode cX3_chance 81 = .ok (.iload_n 3, 1) := by decide +kernel
theorem dX3_chance_82 : decode cX3_chance 82 = .ok (.iload 6, 2) := by decide +kernel
theorem dX3_chance_84 : decode cX3_chance 84 = .ok (.iadd, 1) := by decide +kernel
theorem dX3_chance_85 : decode cX3_chance 85 = .ok (.istore_n 3, 1) := by decide +kernel
theorem dX3_chance_86 : decode cX3_chance 86 = .ok (.iinc 5 1, 3) := by decide +kernel
theorem dX3_chance_89 : decode cX3_chance 89 = .ok (.goto (-58), 3) := by decide +kernel
theorem dX3_chance_92 : decode cX3_chance 92 = .ok (.iload_n 3, 1) := by decide +kernel
theorem dX3_chance_93 : decode cX3_chance 93 = .ok (.iload 4, 2) := by decide +kernel
theorem dX3_chance_95 : decode cX3_chance 95 = .ok (.iload_n 2, 1) := by decide +kernel
theorem dX3_chance_96 : decode cX3_chance 96 = .ok (.invokestatic 194, 3) := by decide +kernel
theorem dX3_chance_99 : decode cX3_chance 99 = .ok (.ireturn, 1) := by decide +kernel
theorem dX3_seed_0 : decode cX3_seed 0 = .ok (.aload_n 0, 1) := by decide +kernel
theorem dX3_seed_1 : decode cX3_seed 1 = .ok (.getfield 60, 3) := by decide +kernel
theorem dX3_seed_4 : decode cX3_seed 4 = .ok (.lstore_n 3, 1) := by decide +kernel
theorem dX3_seed_5 : decode cX3_seed 5 = .ok (.aload_n 0, 1) := by decide +kernel
theorem dX3_seed_6 : decode cX3_seed 6 = .ok (.lload_n 1, 1) := by decide +kernel
theorem dX3_seed_7 : decode cX3_seed 7 = .ok (.putfield 60, 3) := by decide +kernel
theorem dX3_seed_10 : decode cX3_seed 10 = .ok (.lload_n 3, 1) := by decide +kernel
theorem dX3_seed_11 : decode cX3_seed 11 = .ok (.lreturn, 1) := by decide +kernel
theorem dX3_hunted_0 : decode cX3_hunted 0 = .ok (.iload_n 1, 1) := by decide +kernel
theorem dX3_hunted_1 : decode cX3_hunted 1 = .ok (.iconst 1, 1) := by decide +kernel
theorem dX3_hunted_2 : decode cX3_hunted 2 = .ok (.if_icmp .lt 9, 3) := by decide +kernel
theorem dX3_hunted_5 : decode cX3_hunted 5 = .ok (.iload_n 1, 1) := by decide +kernel
theorem dX3_hunted_6 : decode cX3_hunted 6 = .ok (.bipush 30, 2) := by decide +kernel
theorem dX3_hunted_8 : decode cX3_hunted 8 = .ok (.if_icmp .le 6, 3) := by decide +kernel
theorem dX3_hunted_11 : decode cX3_hunted 11 = .ok (.bipush (-2), 2) := by decide +kernel
theorem dX3_hunted_13 : decode cX3_hunted 13 = .ok (.ireturn, 1) := by decide +kernel
theorem dX3_hunted_14 : decode cX3_hunted 14 = .ok (.aload_n 0, 1) := by decide +kernel
theorem dX3_hunted_15 : decode cX3_hunted 15 = .ok (.getfield 19, 3) := by decide +kernel
theorem dX3_hunted_18 : decode cX3_hunted 18 = .ok (.getfield 82, 3) := by decide +kernel
theorem dX3_hunted_21 : decode cX3_hunted 21 = .ok (.ifCond .ne 6, 3) := by decide +kernel
theorem dX3_hunted_24 : decode cX3_hunted 24 = .ok (.bipush (-3), 2) := by decide +kernel
theorem dX3_hunted_26 : decode cX3_hunted 26 = .ok (.ireturn, 1) := by decide +kernel
theorem dX3_hunted_27 : decode cX3_hunted 27 = .ok (.aload_n 0, 1) := by decide +kernel
theorem dX3_hunted_28 : decode cX3_hunted 28 = .ok (.getfield 19, 3) := by decide +kernel
theorem dX3_hunted_31 : decode cX3_hunted 31 = .ok (.getfield 85, 3) := by decide +kernel
theorem dX3_hunted_34 : decode cX3_hunted 34 = .ok (.istore_n 2, 1) := by decide +kernel
theorem dX3_hunted_35 : decode cX3_hunted 35 = .ok (.iconst 0, 1) := by decide +kernel
theorem dX3_hunted_36 : decode cX3_hunted 36 = .ok (.istore_n 3, 1) := by decide +kernel
theorem dX3_hunted_37 : decode cX3_hunted 37 = .ok (.iload_n 3, 1) := by decide +kernel
theorem dX3_hunted_38 : decode cX3_hunted 38 = .ok (.iload_n 1, 1) := by decide +kernel
theorem dX3_hunted_39 : decode cX3_hunted 39 = .ok (.if_icmp .ge 57, 3) := by decide +kernel
theorem dX3_hunted_42 : decode cX3_hunted 42 = .ok (.aload_n 0, 1) := by decide +kernel
theorem dX3_hunted_43 : decode cX3_hunted 43 = .ok (.aload_n 0, 1) := by decide +kernel
theorem dX3_hunted_44 : decode cX3_hunted 44 = .ok (.getfield 60, 3) := by decide +kernel
theorem dX3_hunted_47 : decode cX3_hunted 47 = .ok (.ldc2_w 213, 3) := by decide +kernel
theorem dX3_hunted_50 : decode cX3_hunted 50 = .ok (.lmul, 1) := by decide +kernel
theorem dX3_hunted_51 : decode cX3_hunted 51 = .ok (.ldc2_w 215, 3) := by decide +kernel
theorem dX3_hunted_54 : decode cX3_hunted 54 = .ok (.ladd, 1) := by decide +kernel
theorem dX3_hunted_55 : decode cX3_hunted 55 = .ok (.putfield 60, 3) := by decide +kernel
theorem dX3_hunted_58 : decode cX3_hunted 58 = .ok (.aload_n 0, 1) := by decide +kernel
theorem dX3_hunted_59 : decode cX3_hunted 59 = .ok (.getfield 60, 3) := by decide +kernel
theorem dX3_hunted_62 : decode cX3_hunted 62 = .ok (.bipush 33, 2) := by decide +kernel
theorem dX3_hunted_64 : decode cX3_hunted 64 = .ok (.lushr, 1) := by decide +kernel
theorem dX3_hunted_65 : decode cX3_hunted 65 = .ok (.l2i, 1) := by decide +kernel
theorem dX3_hunted_66 : decode cX3_hunted 66 = .ok (.aload_n 0, 1) := by decide +kernel
theorem dX3_hunted_67 : decode cX3_hunted 67 = .ok (.getfield 19, 3) := by decide +kernel
theorem dX3_hunted_70 : decode cX3_hunted 70 = .ok (.getfield 82, 3) := by decide +kernel
theorem dX3_hunted_73 : decode cX3_hunted 73 = .ok (.irem, 1) := by decide +kernel
theorem dX3_hunted_74 : decode cX3_hunted 74 = .ok (.istore 4, 2) := by decide +kernel
theorem dX3_hunted_76 : decode cX3_hunted 76 = .ok (.iload 4, 2) := by decide +kernel
theorem dX3_hunted_78 : decode cX3_hunted 78 = .ok (.ifCond .eq 12, 3) := by decide +kernel
theorem dX3_hunted_81 : decode cX3_hunted 81 = .ok (.iload_n 2, 1) := by decide +kernel
theorem dX3_hunted_82 : decode cX3_hunted 82 = .ok (.iconst 1, 1) := by decide +kernel
theorem dX3_hunted_83 : decode cX3_hunted 83 = .ok (.iload 4, 2) := by decide +kernel
theorem dX3_hunted_85 : decode cX3_hunted 85 = .ok (.ishl, 1) := by decide +kernel
theorem dX3_hunted_86 : decode cX3_hunted 86 = .ok (.iconst (-1), 1) := by decide +kernel
theorem dX3_hunted_87 : decode cX3_hunted 87 = .ok (.ixor, 1) := by decide +kernel
theorem dX3_hunted_88 : decode cX3_hunted 88 = .ok (.iand, 1) := by decide +kernel
theorem dX3_hunted_89 : decode cX3_hunted 89 = .ok (.istore_n 2, 1) := by decide +kernel
theorem dX3_hunted_90 : decode cX3_hunted 90 = .ok (.iinc 3 1, 3) := by decide +kernel
theorem dX3_hunted_93 : decode cX3_hunted 93 = .ok (.goto (-56), 3) := by decide +kernel
theorem dX3_hunted_96 : decode cX3_hunted 96 = .ok (.iload_n 2, 1) := by decide +kernel
theorem dX3_hunted_97 : decode cX3_hunted 97 = .ok (.invokestatic 164, 3) := by decide +kernel
theorem dX3_hunted_100 : decode cX3_hunted 100 = .ok (.ireturn, 1) := by decide +kernel
theorem dX3_keep_0 : decode cX3_keep 0 = .ok (.iload_n 1, 1) := by decide +kernel
theorem dX3_keep_1 : decode cX3_keep 1 = .ok (.ifCond .lt 8, 3) := by decide +kernel
theorem dX3_keep_4 : decode cX3_keep 4 = .ok (.iload_n 1, 1) := by decide +kernel
theorem dX3_keep_5 : decode cX3_keep 5 = .ok (.iconst 2, 1) := by decide +kernel
theorem dX3_keep_6 : decode cX3_keep 6 = .ok (.if_icmp .lt 5, 3) := by decide +kernel
theorem dX3_keep_9 : decode cX3_keep 9 = .ok (.iconst (-1), 1) := by decide +kernel
theorem dX3_keep_10 : decode cX3_keep 10 = .ok (.ireturn, 1) := by decide +kernel
theorem dX3_keep_11 : decode cX3_keep 11 = .ok (.aload_n 0, 1) := by decide +kernel
theorem dX3_keep_12 : decode cX3_keep 12 = .ok (.getfield 19, 3) := by decide +kernel
theorem dX3_keep_15 : decode cX3_keep 15 = .ok (.aload_n 0, 1) := by decide +kernel
theorem dX3_keep_16 : decode cX3_keep 16 = .ok (.getfield 44, 3) := by decide +kernel
theorem dX3_keep_19 : decode cX3_keep 19 = .ok (.iload_n 1, 1) := by decide +kernel
theorem dX3_keep_20 : decode cX3_keep 20 = .ok (.invokevirtual 217, 3) := by decide +kernel
theorem dX3_keep_23 : decode cX3_keep 23 = .ok (.aload_n 0, 1) := by decide +kernel
theorem dX3_keep_24 : decode cX3_keep 24 = .ok (.getfield 47, 3) := by decide +kernel
theorem dX3_keep_27 : decode cX3_keep 27 = .ok (.iload_n 1, 1) := by decide +kernel
theorem dX3_keep_28 : decode cX3_keep 28 = .ok (.iconst 1, 1) := by decide +kernel
theorem dX3_keep_29 : decode cX3_keep 29 = .ok (.bastore, 1) := by decide +kernel
theorem dX3_keep_30 : decode cX3_keep 30 = .ok (.aload_n 0, 1) := by decide +kernel
theorem dX3_keep_31 : decode cX3_keep 31 = .ok (.getfield 19, 3) := by decide +kernel
theorem dX3_keep_34 : decode cX3_keep 34 = .ok (.invokevirtual 132, 3) := by decide +kernel
theorem dX3_keep_37 : decode cX3_keep 37 = .ok (.ireturn, 1) := by decide +kernel
theorem dX3_again_0 : decode cX3_again 0 = .ok (.iload_n 1, 1) := by decide +kernel
theorem dX3_again_1 : decode cX3_again 1 = .ok (.ifCond .lt 8, 3) := by decide +kernel
theorem dX3_again_4 : decode cX3_again 4 = .ok (.iload_n 1, 1) := by decide +kernel
theorem dX3_again_5 : decode cX3_again 5 = .ok (.iconst 2, 1) := by decide +kernel
theorem dX3_again_6 : decode cX3_again 6 = .ok (.if_icmp .lt 5, 3) := by decide +kernel
theorem dX3_again_9 : decode cX3_again 9 = .ok (.iconst (-1), 1) := by decide +kernel
theorem dX3_again_10 : decode cX3_again 10 = .ok (.ireturn, 1) := by decide +kernel
theorem dX3_again_11 : decode cX3_again 11 = .ok (.aload_n 0, 1) := by decide +kernel
theorem dX3_again_12 : decode cX3_again 12 = .ok (.getfield 47, 3) := by decide +kernel
theorem dX3_again_15 : decode cX3_again 15 = .ok (.iload_n 1, 1) := by decide +kernel
theorem dX3_again_16 : decode cX3_again 16 = .ok (.baload, 1) := by decide +kernel
theorem dX3_again_17 : decode cX3_again 17 = .ok (.ifCond .ne 6, 3) := by decide +kernel
theorem dX3_again_20 : decode cX3_again 20 = .ok (.bipush (-3), 2) := by decide +kernel
theorem dX3_again_22 : decode cX3_again 22 = .ok (.ireturn, 1) := by decide +kernel
theorem dX3_again_23 : decode cX3_again 23 = .ok (.aload_n 0, 1) := by decide +kernel
theorem dX3_again_24 : decode cX3_again 24 = .ok (.getfield 19, 3) := by decide +kernel
theorem dX3_again_27 : decode cX3_again 27 = .ok (.aload_n 0, 1) := by decide +kernel
theorem dX3_again_28 : decode cX3_again 28 = .ok (.getfield 44, 3) := by decide +kernel
theorem dX3_again_31 : decode cX3_again 31 = .ok (.iload_n 1, 1) := by decide +kernel
theorem dX3_again_32 : decode cX3_again 32 = .ok (.invokevirtual 135, 3) := by decide +kernel
theorem dX3_again_35 : decode cX3_again 35 = .ok (.aload_n 0, 1) := by decide +kernel
theorem dX3_again_36 : decode cX3_again 36 = .ok (.invokevirtual 79, 3) := by decide +kernel
theorem dX3_again_39 : decode cX3_again 39 = .ok (.aload_n 0, 1) := by decide +kernel
theorem dX3_again_40 : decode cX3_again 40 = .ok (.getfield 19, 3) := by decide +kernel
theorem dX3_again_43 : decode cX3_again 43 = .ok (.invokevirtual 132, 3) := by decide +kernel
theorem dX3_again_46 : decode cX3_again 46 = .ok (.ireturn, 1) := by decide +kernel
theorem dX3_rememberAct_0 : decode cX3_rememberAct 0 = .ok (.aload_n 0, 1) := by decide +kernel
theorem dX3_rememberAct_1 : decode cX3_rememberAct 1 = .ok (.getfield 19, 3) := by decide +kernel
theorem dX3_rememberAct_4 : decode cX3_rememberAct 4 = .ok (.aload_n 0, 1) := by decide +kernel
theorem dX3_rememberAct_5 : decode cX3_rememberAct 5 = .ok (.getfield 33, 3) := by decide +kernel
theorem dX3_rememberAct_8 : decode cX3_rememberAct 8 = .ok (.aload_n 0, 1) := by decide +kernel
theorem dX3_rememberAct_9 : decode cX3_rememberAct 9 = .ok (.getfield 37, 3) := by decide +kernel
theorem dX3_rememberAct_12 : decode cX3_rememberAct 12 = .ok (.invokevirtual 217, 3) := by decide +kernel
theorem dX3_rememberAct_15 : decode cX3_rememberAct 15 = .ok (.aload_n 0, 1) := by decide +kernel
theorem dX3_rememberAct_16 : decode cX3_rememberAct 16 = .ok (.aload_n 0, 1) := by decide +kernel
theorem dX3_rememberAct_17 : decode cX3_rememberAct 17 = .ok (.getfield 37, 3) := by decide +kernel
theorem dX3_rememberAct_20 : decode cX3_rememberAct 20 = .ok (.iconst 1, 1) := by decide +kernel
theorem dX3_rememberAct_21 : decode cX3_rememberAct 21 = .ok (.iadd, 1) := by decide +kernel
theorem dX3_rememberAct_22 : decode cX3_rememberAct 22 = .ok (.bipush 14, 2) := by decide +kernel
theorem dX3_rememberAct_24 : decode cX3_rememberAct 24 = .ok (.irem, 1) := by decide +kernel
theorem dX3_rememberAct_25 : decode cX3_rememberAct 25 = .ok (.putfield 37, 3) := by decide +kernel
theorem dX3_rememberAct_28 : decode cX3_rememberAct 28 = .ok (.aload_n 0, 1) := by decide +kernel
theorem dX3_rememberAct_29 : decode cX3_rememberAct 29 = .ok (.aload_n 0, 1) := by decide +kernel
theorem dX3_rememberAct_30 : decode cX3_rememberAct 30 = .ok (.getfield 41, 3) := by decide +kernel
theorem dX3_rememberAct_33 : decode cX3_rememberAct 33 = .ok (.iconst 1, 1) := by decide +kernel
theorem dX3_rememberAct_34 : decode cX3_rememberAct 34 = .ok (.iadd, 1) := by decide +kernel
theorem dX3_rememberAct_35 : decode cX3_rememberAct 35 = .ok (.bipush 14, 2) := by decide +kernel
theorem dX3_rememberAct_37 : decode cX3_rememberAct 37 = .ok (.invokestatic 161, 3) := by decide +kernel
theorem dX3_rememberAct_40 : decode cX3_rememberAct 40 = .ok (.putfield 41, 3) := by decide +kernel
theorem dX3_rememberAct_43 : decode cX3_rememberAct 43 = .ok (.return_, 1) := by decide +kernel
theorem dX3_forgetActs_0 : decode cX3_forgetActs 0 = .ok (.aload_n 0, 1) := by decide +kernel
theorem dX3_forgetActs_1 : decode cX3_forgetActs 1 = .ok (.iconst 0, 1) := by decide +kernel
theorem dX3_forgetActs_2 : decode cX3_forgetActs 2 = .ok (.putfield 37, 3) := by decide +kernel
theorem dX3_forgetActs_5 : decode cX3_forgetActs 5 = .ok (.aload_n 0, 1) := by decide +kernel
theorem dX3_forgetActs_6 : decode cX3_forgetActs 6 = .ok (.iconst 0, 1) := by decide +kernel
theorem dX3_forgetActs_7 : decode cX3_forgetActs 7 = .ok (.putfield 41, 3) := by decide +kernel
theorem dX3_forgetActs_10 : decode cX3_forgetActs 10 = .ok (.return_, 1) := by decide +kernel
theorem dX3_refuseDead_0 : decode cX3_refuseDead 0 = .ok (.aload_n 0, 1) := by decide +kernel
theorem dX3_refuseDead_1 : decode cX3_refuseDead 1 = .ok (.getfield 19, 3) := by decide +kernel
theorem dX3_refuseDead_4 : decode cX3_refuseDead 4 = .ok (.iload_n 1, 1) := by decide +kernel
theorem dX3_refuseDead_5 : decode cX3_refuseDead 5 = .ok (.invokevirtual 104, 3) := by decide +kernel
theorem dX3_refuseDead_8 : decode cX3_refuseDead 8 = .ok (.ifCond .ne 5, 3) := by decide +kernel
theorem dX3_refuseDead_11 : decode cX3_refuseDead 11 = .ok (.iconst (-1), 1) := by decide +kernel
theorem dX3_refuseDead_12 : decode cX3_refuseDead 12 = .ok (.ireturn, 1) := by decide +kernel
theorem dX3_refuseDead_13 : decode cX3_refuseDead 13 = .ok (.aload_n 0, 1) := by decide +kernel
theorem dX3_refuseDead_14 : decode cX3_refuseDead 14 = .ok (.getfield 19, 3) := by decide +kernel
theorem dX3_refuseDead_17 : decode cX3_refuseDead 17 = .ok (.iload_n 1, 1) := by decide +kernel
theorem dX3_refuseDead_18 : decode cX3_refuseDead 18 = .ok (.invokevirtual 114, 3) := by decide +kernel
theorem dX3_refuseDead_21 : decode cX3_refuseDead 21 = .ok (.ifCond .eq 7, 3) := by decide +kernel
theorem dX3_refuseDead_24 : decode cX3_refuseDead 24 = .ok (.iconst 0, 1) := by decide +kernel
theorem dX3_refuseDead_25 : decode cX3_refuseDead 25 = .ok (.goto 5, 3) := by decide +kernel
theorem dX3_refuseDead_28 : decode cX3_refuseDead 28 = .ok (.bipush (-3), 2) := by decide +kernel
theorem dX3_refuseDead_30 : decode cX3_refuseDead 30 = .ok (.ireturn, 1) := by decide +kernel
theorem dX3_refuseChooser_0 : decode cX3_refuseChooser 0 = .ok (.aload_n 0, 1) := by decide +kernel
theorem dX3_refuseChooser_1 : decode cX3_refuseChooser 1 = .ok (.getfield 19, 3) := by decide +kernel
theorem dX3_refuseChooser_4 : decode cX3_refuseChooser 4 = .ok (.iload_n 1, 1) := by decide +kernel
theorem dX3_refuseChooser_5 : decode cX3_refuseChooser 5 = .ok (.invokevirtual 104, 3) := by decide +kernel
theorem dX3_refuseChooser_8 : decode cX3_refuseChooser 8 = .ok (.ifCond .ne 5, 3) := by decide +kernel
theorem dX3_refuseChooser_11 : decode cX3_refuseChooser 11 = .ok (.iconst (-1), 1) := by decide +kernel
theorem dX3_refuseChooser_12 : decode cX3_refuseChooser 12 = .ok (.ireturn, 1) := by decide +kernel
theorem dX3_refuseChooser_13 : decode cX3_refuseChooser 13 = .ok (.iload_n 1, 1) := by decide +kernel
theorem dX3_refuseChooser_14 : decode cX3_refuseChooser 14 = .ok (.ifCond .ne 6, 3) := by decide +kernel
theorem dX3_refuseChooser_17 : decode cX3_refuseChooser 17 = .ok (.bipush (-2), 2) := by decide +kernel
theorem dX3_refuseChooser_19 : decode cX3_refuseChooser 19 = .ok (.ireturn, 1) := by decide +kernel
theorem dX3_refuseChooser_20 : decode cX3_refuseChooser 20 = .ok (.aload_n 0, 1) := by decide +kernel
theorem dX3_refuseChooser_21 : decode cX3_refuseChooser 21 = .ok (.getfield 19, 3) := by decide +kernel
theorem dX3_refuseChooser_24 : decode cX3_refuseChooser 24 = .ok (.iload_n 1, 1) := by decide +kernel
theorem dX3_refuseChooser_25 : decode cX3_refuseChooser 25 = .ok (.invokevirtual 114, 3) := by decide +kernel
theorem dX3_refuseChooser_28 : decode cX3_refuseChooser 28 = .ok (.ifCond .eq 7, 3) := by decide +kernel
theorem dX3_refuseChooser_31 : decode cX3_refuseChooser 31 = .ok (.iconst 0, 1) := by decide +kernel
theorem dX3_refuseChooser_32 : decode cX3_refuseChooser 32 = .ok (.goto 5, 3) := by decide +kernel
theorem dX3_refuseChooser_35 : decode cX3_refuseChooser 35 = .ok (.bipush (-3), 2) := by decide +kernel
theorem dX3_refuseChooser_37 : decode cX3_refuseChooser 37 = .ok (.ireturn, 1) := by decide +kernel
theorem dX3_isWorld_0 : decode cX3_isWorld 0 = .ok (.iload_n 1, 1) := by decide +kernel
theorem dX3_isWorld_1 : decode cX3_isWorld 1 = .ok (.aload_n 0, 1) := by decide +kernel
theorem dX3_isWorld_2 : decode cX3_isWorld 2 = .ok (.getfield 19, 3) := by decide +kernel
theorem dX3_isWorld_5 : decode cX3_isWorld 5 = .ok (.getfield 88, 3) := by decide +kernel
theorem dX3_isWorld_8 : decode cX3_isWorld 8 = .ok (.ior, 1) := by decide +kernel
theorem dX3_isWorld_9 : decode cX3_isWorld 9 = .ok (.aload_n 0, 1) := by decide +kernel
theorem dX3_isWorld_10 : decode cX3_isWorld 10 = .ok (.getfield 19, 3) := by decide +kernel
theorem dX3_isWorld_13 : decode cX3_isWorld 13 = .ok (.invokevirtual 152, 3) := by decide +kernel
theorem dX3_isWorld_16 : decode cX3_isWorld 16 = .ok (.if_icmp .ne 7, 3) := by decide +kernel
theorem dX3_isWorld_19 : decode cX3_isWorld 19 = .ok (.iconst 1, 1) := by decide +kernel
theorem dX3_isWorld_20 : decode cX3_isWorld 20 = .ok (.goto 4, 3) := by decide +kernel
theorem dX3_isWorld_23 : decode cX3_isWorld 23 = .ok (.iconst 0, 1) := by decide +kernel
theorem dX3_isWorld_24 : decode cX3_isWorld 24 = .ok (.ireturn, 1) := by decide +kernel
theorem dX3_fitsHeard_0 : decode cX3_fitsHeard 0 = .ok (.aload_n 0, 1) := by decide +kernel
theorem dX3_fitsHeard_1 : decode cX3_fitsHeard 1 = .ok (.getfield 19, 3) := by decide +kernel
theorem dX3_fitsHeard_4 : decode cX3_fitsHeard 4 = .ok (.iload_n 1, 1) := by decide +kernel
theorem dX3_fitsHeard_5 : decode cX3_fitsHeard 5 = .ok (.invokevirtual 91, 3) := by decide +kernel
theorem dX3_fitsHeard_8 : decode cX3_fitsHeard 8 = .ok (.istore_n 2, 1) := by decide +kernel
theorem dX3_fitsHeard_9 : decode cX3_fitsHeard 9 = .ok (.iconst 0, 1) := by decide +kernel
theorem dX3_fitsHeard_10 : decode cX3_fitsHeard 10 = .ok (.istore_n 3, 1) := by decide +kernel
theorem dX3_fitsHeard_11 : decode cX3_fitsHeard 11 = .ok (.iload_n 3, 1) := by decide +kernel
theorem dX3_fitsHeard_12 : decode cX3_fitsHeard 12 = .ok (.aload_n 0, 1) := by decide +kernel
theorem dX3_fitsHeard_13 : decode cX3_fitsHeard 13 = .ok (.getfield 57, 3) := by decide +kernel
theorem dX3_fitsHeard_16 : decode cX3_fitsHeard 16 = .ok (.if_icmp .ge 55, 3) := by decide +kernel
theorem dX3_fitsHeard_19 : decode cX3_fitsHeard 19 = .ok (.aload_n 0, 1) := by decide +kernel
theorem dX3_fitsHeard_20 : decode cX3_fitsHeard 20 = .ok (.getfield 51, 3) := by decide +kernel
theorem dX3_fitsHeard_23 : decode cX3_fitsHeard 23 = .ok (.iload_n 3, 1) := by decide +kernel
theorem dX3_fitsHeard_24 : decode cX3_fitsHeard 24 = .ok (.iaload, 1) := by decide +kernel
theorem dX3_fitsHeard_25 : decode cX3_fitsHeard 25 = .ok (.istore 4, 2) := by decide +kernel
theorem dX3_fitsHeard_27 : decode cX3_fitsHeard 27 = .ok (.aload_n 0, 1) := by decide +kernel
theorem dX3_fitsHeard_28 : decode cX3_fitsHeard 28 = .ok (.getfield 19, 3) := by decide +kernel
theorem dX3_fitsHeard_31 : decode cX3_fitsHeard 31 = .ok (.iload 4, 2) := by decide +kernel
theorem dX3_fitsHeard_33 : decode cX3_fitsHeard 33 = .ok (.invokevirtual 104, 3) := by decide +kernel
theorem dX3_fitsHeard_36 : decode cX3_fitsHeard 36 = .ok (.ifCond .eq 29, 3) := by decide +kernel
theorem dX3_fitsHeard_39 : decode cX3_fitsHeard 39 = .ok (.iload_n 2, 1) := by decide +kernel
theorem dX3_fitsHeard_40 : decode cX3_fitsHeard 40 = .ok (.iload 4, 2) := by decide +kernel
theorem dX3_fitsHeard_42 : decode cX3_fitsHeard 42 = .ok (.ishr, 1) := by decide +kernel
theorem dX3_fitsHeard_43 : decode cX3_fitsHeard 43 = .ok (.iconst 1, 1) := by decide +kernel
theorem dX3_fitsHeard_44 : decode cX3_fitsHeard 44 = .ok (.iand, 1) := by decide +kernel
theorem dX3_fitsHeard_45 : decode cX3_fitsHeard 45 = .ok (.iconst 1, 1) := by decide +kernel
theorem dX3_fitsHeard_46 : decode cX3_fitsHeard 46 = .ok (.if_icmp .ne 7, 3) := by decide +kernel
theorem dX3_fitsHeard_49 : decode cX3_fitsHeard 49 = .ok (.iconst 1, 1) := by decide +kernel
theorem dX3_fitsHeard_50 : decode cX3_fitsHeard 50 = .ok (.goto 4, 3) := by decide +kernel
theorem dX3_fitsHeard_53 : decode cX3_fitsHeard 53 = .ok (.iconst 0, 1) := by decide +kernel
theorem dX3_fitsHeard_54 : decode cX3_fitsHeard 54 = .ok (.aload_n 0, 1) := by decide +kernel
theorem dX3_fitsHeard_55 : decode cX3_fitsHeard 55 = .ok (.getfield 54, 3) := by decide +kernel
theorem dX3_fitsHeard_58 : decode cX3_fitsHeard 58 = .ok (.iload_n 3, 1) := by decide +kernel
theorem dX3_fitsHeard_59 : decode cX3_fitsHeard 59 = .ok (.baload, 1) := by decide +kernel
theorem dX3_fitsHeard_60 : decode cX3_fitsHeard 60 = .ok (.if_icmp .eq 5, 3) := by decide +kernel
theorem dX3_fitsHeard_63 : decode cX3_fitsHeard 63 = .ok (.iconst 0, 1) := by decide +kernel
theorem dX3_fitsHeard_64 : decode cX3_fitsHeard 64 = .ok (.ireturn, 1) := by decide +kernel
theorem dX3_fitsHeard_65 : decode cX3_fitsHeard 65 = .ok (.iinc 3 1, 3) := by decide +kernel
theorem dX3_fitsHeard_68 : decode cX3_fitsHeard 68 = .ok (.goto (-57), 3) := by decide +kernel
theorem dX3_fitsHeard_71 : decode cX3_fitsHeard 71 = .ok (.iconst 1, 1) := by decide +kernel
theorem dX3_fitsHeard_72 : decode cX3_fitsHeard 72 = .ok (.ireturn, 1) := by decide +kernel
theorem dX3_countWorlds_0 : decode cX3_countWorlds 0 = .ok (.iconst 0, 1) := by decide +kernel
theorem dX3_countWorlds_1 : decode cX3_countWorlds 1 = .ok (.istore_n 2, 1) := by decide +kernel
theorem dX3_countWorlds_2 : decode cX3_countWorlds 2 = .ok (.iconst 0, 1) := by decide +kernel
theorem dX3_countWorlds_3 : decode cX3_countWorlds 3 = .ok (.istore_n 3, 1) := by decide +kernel
theorem dX3_countWorlds_4 : decode cX3_countWorlds 4 = .ok (.iload_n 3, 1) := by decide +kernel
theorem dX3_countWorlds_5 : decode cX3_countWorlds 5 = .ok (.aload_n 0, 1) := by decide +kernel
theorem dX3_countWorlds_6 : decode cX3_countWorlds 6 = .ok (.getfield 19, 3) := by decide +kernel
theorem dX3_countWorlds_9 : decode cX3_countWorlds 9 = .ok (.invokevirtual 152, 3) := by decide +kernel
theorem dX3_countWorlds_12 : decode cX3_countWorlds 12 = .ok (.if_icmp .gt 35, 3) := by decide +kernel
theorem dX3_countWorlds_15 : decode cX3_countWorlds 15 = .ok (.iload_n 3, 1) := by decide +kernel
theorem dX3_countWorlds_16 : decode cX3_countWorlds 16 = .ok (.iload_n 1, 1) := by decide +kernel
theorem dX3_countWorlds_17 : decode cX3_countWorlds 17 = .ok (.iand, 1) := by decide +kernel
theorem dX3_countWorlds_18 : decode cX3_countWorlds 18 = .ok (.iload_n 1, 1) := by decide +kernel
theorem dX3_countWorlds_19 : decode cX3_countWorlds 19 = .ok (.if_icmp .ne 22, 3) := by decide +kernel
theorem dX3_countWorlds_22 : decode cX3_countWorlds 22 = .ok (.aload_n 0, 1) := by decide +kernel
theorem dX3_countWorlds_23 : decode cX3_countWorlds 23 = .ok (.iload_n 3, 1) := by decide +kernel
theorem dX3_countWorlds_24 : decode cX3_countWorlds 24 = .ok (.invokevirtual 155, 3) := by decide +kernel
theorem dX3_countWorlds_27 : decode cX3_countWorlds 27 = .ok (.ifCond .eq 14, 3) := by decide +kernel
theorem dX3_countWorlds_30 : decode cX3_countWorlds 30 = .ok (.aload_n 0, 1) := by decide +kernel
theorem dX3_countWorlds_31 : decode cX3_countWorlds 31 = .ok (.iload_n 3, 1) := by decide +kernel
theorem dX3_countWorlds_32 : decode cX3_countWorlds 32 = .ok (.invokevirtual 158, 3) := by decide +kernel
theorem dX3_countWorlds_35 : decode cX3_countWorlds 35 = .ok (.ifCond .eq 6, 3) := by decide +kernel
theorem dX3_countWorlds_38 : decode cX3_countWorlds 38 = .ok (.iinc 2 1, 3) := by decide +kernel
theorem dX3_countWorlds_41 : decode cX3_countWorlds 41 = .ok (.iinc 3 1, 3) := by decide +kernel
theorem dX3_countWorlds_44 : decode cX3_countWorlds 44 = .ok (.goto (-40), 3) := by decide +kernel
theorem dX3_countWorlds_47 : decode cX3_countWorlds 47 = .ok (.iload_n 2, 1) := by decide +kernel
theorem dX3_countWorlds_48 : decode cX3_countWorlds 48 = .ok (.ireturn, 1) := by decide +kernel
theorem dX3_isTenths_0 : decode cX3_isTenths 0 = .ok (.iload_n 0, 1) := by decide +kernel
theorem dX3_isTenths_1 : decode cX3_isTenths 1 = .ok (.ifCond .lt 13, 3) := by decide +kernel
theorem dX3_isTenths_4 : decode cX3_isTenths 4 = .ok (.iload_n 0, 1) := by decide +kernel
theorem dX3_isTenths_5 : decode cX3_isTenths 5 = .ok (.bipush 10, 2) := by decide +kernel
theorem dX3_isTenths_7 : decode cX3_isTenths 7 = .ok (.if_icmp .gt 7, 3) := by decide +kernel
theorem dX3_isTenths_10 : decode cX3_isTenths 10 = .ok (.iconst 1, 1) := by decide +kernel
theorem dX3_isTenths_11 : decode cX3_isTenths 11 = .ok (.goto 4, 3) := by decide +kernel
theorem dX3_isTenths_14 : decode cX3_isTenths 14 = .ok (.iconst 0, 1) := by decide +kernel
theorem dX3_isTenths_15 : decode cX3_isTenths 15 = .ok (.ireturn, 1) := by decide +kernel
theorem dX3_namingIfRight_0 : decode cX3_namingIfRight 0 = .ok (.iload_n 1, 1) := by decide +kernel
theorem dX3_namingIfRight_1 : decode cX3_namingIfRight 1 = .ok (.aload_n 0, 1) := by decide +kernel
theorem dX3_namingIfRight_2 : decode cX3_namingIfRight 2 = .ok (.getfield 19, 3) := by decide +kernel
theorem dX3_namingIfRight_5 : decode cX3_namingIfRight 5 = .ok (.invokevirtual 132, 3) := by decide +kernel
theorem dX3_namingIfRight_8 : decode cX3_namingIfRight 8 = .ok (.imul, 1) := by decide +kernel
theorem dX3_namingIfRight_9 : decode cX3_namingIfRight 9 = .ok (.iload_n 1, 1) := by decide +kernel
theorem dX3_namingIfRight_10 : decode cX3_namingIfRight 10 = .ok (.invokestatic 207, 3) := by decide +kernel
theorem dX3_namingIfRight_13 : decode cX3_namingIfRight 13 = .ok (.iadd, 1) := by decide +kernel
theorem dX3_namingIfRight_14 : decode cX3_namingIfRight 14 = .ok (.ireturn, 1) := by decide +kernel
theorem dX3_namingIfWrong_0 : decode cX3_namingIfWrong 0 = .ok (.bipush 10, 2) := by decide +kernel
theorem dX3_namingIfWrong_2 : decode cX3_namingIfWrong 2 = .ok (.iload_n 0, 1) := by decide +kernel
theorem dX3_namingIfWrong_3 : decode cX3_namingIfWrong 3 = .ok (.isub, 1) := by decide +kernel
theorem dX3_namingIfWrong_4 : decode cX3_namingIfWrong 4 = .ok (.ireturn, 1) := by decide +kernel
theorem dX3_likelihoodOf_0 : decode cX3_likelihoodOf 0 = .ok (.iconst 1, 1) := by decide +kernel
theorem dX3_likelihoodOf_1 : decode cX3_likelihoodOf 1 = .ok (.istore_n 3, 1) := by decide +kernel
theorem dX3_likelihoodOf_2 : decode cX3_likelihoodOf 2 = .ok (.iconst 0, 1) := by decide +kernel
theorem dX3_likelihoodOf_3 : decode cX3_likelihoodOf 3 = .ok (.istore 4, 2) := by decide +kernel
theorem dX3_likelihoodOf_5 : decode cX3_likelihoodOf 5 = .ok (.iload 4, 2) := by decide +kernel
theorem dX3_likelihoodOf_7 : decode cX3_likelihoodOf 7 = .ok (.aload_n 0, 1) := by decide +kernel
theorem dX3_likelihoodOf_8 : decode cX3_likelihoodOf 8 = .ok (.getfield 19, 3) := by decide +kernel
theorem dX3_likelihoodOf_11 : decode cX3_likelihoodOf 11 = .ok (.getfield 82, 3) := by decide +kernel
theorem dX3_likelihoodOf_14 : decode cX3_likelihoodOf 14 = .ok (.if_icmp .ge 42, 3) := by decide +kernel
theorem dX3_likelihoodOf_17 : decode cX3_likelihoodOf 17 = .ok (.aload_n 0, 1) := by decide +kernel
theorem dX3_likelihoodOf_18 : decode cX3_likelihoodOf 18 = .ok (.getfield 19, 3) := by decide +kernel
theorem dX3_likelihoodOf_21 : decode cX3_likelihoodOf 21 = .ok (.iload 4, 2) := by decide +kernel
theorem dX3_likelihoodOf_23 : decode cX3_likelihoodOf 23 = .ok (.invokevirtual 117, 3) := by decide +kernel
theorem dX3_likelihoodOf_26 : decode cX3_likelihoodOf 26 = .ok (.ifCond .eq 24, 3) := by decide +kernel
theorem dX3_likelihoodOf_29 : decode cX3_likelihoodOf 29 = .ok (.iload_n 3, 1) := by decide +kernel
theorem dX3_likelihoodOf_30 : decode cX3_likelihoodOf 30 = .ok (.iload_n 1, 1) := by decide +kernel
theorem dX3_likelihoodOf_31 : decode cX3_likelihoodOf 31 = .ok (.iload 4, 2) := by decide +kernel
theorem dX3_likelihoodOf_33 : decode cX3_likelihoodOf 33 = .ok (.ishr, 1) := by decide +kernel
theorem dX3_likelihoodOf_34 : decode cX3_likelihoodOf 34 = .ok (.iconst 1, 1) := by decide +kernel
theorem dX3_likelihoodOf_35 : decode cX3_likelihoodOf 35 = .ok (.iand, 1) := by decide +kernel
theorem dX3_likelihoodOf_36 : decode cX3_likelihoodOf 36 = .ok (.iconst 1, 1) := by decide +kernel
theorem dX3_likelihoodOf_37 : decode cX3_likelihoodOf 37 = .ok (.if_icmp .ne 7, 3) := by decide +kernel
theorem dX3_likelihoodOf_40 : decode cX3_likelihoodOf 40 = .ok (.iload_n 2, 1) := by decide +kernel
theorem dX3_likelihoodOf_41 : decode cX3_likelihoodOf 41 = .ok (.goto 7, 3) := by decide +kernel
theorem dX3_likelihoodOf_44 : decode cX3_likelihoodOf 44 = .ok (.bipush 10, 2) := by decide +kernel
theorem dX3_likelihoodOf_46 : decode cX3_likelihoodOf 46 = .ok (.iload_n 2, 1) := by decide +kernel
theorem dX3_likelihoodOf_47 : decode cX3_likelihoodOf 47 = .ok (.isub, 1) := by decide +kernel
theorem dX3_likelihoodOf_48 : decode cX3_likelihoodOf 48 = .ok (.imul, 1) := by decide +kernel
theorem dX3_likelihoodOf_49 : decode cX3_likelihoodOf 49 = .ok (.istore_n 3, 1) := by decide +kernel
theorem dX3_likelihoodOf_50 : decode cX3_likelihoodOf 50 = .ok (.iinc 4 1, 3) := by decide +kernel
theorem dX3_likelihoodOf_53 : decode cX3_likelihoodOf 53 = .ok (.goto (-48), 3) := by decide +kernel
theorem dX3_likelihoodOf_56 : decode cX3_likelihoodOf 56 = .ok (.iload_n 3, 1) := by decide +kernel
theorem dX3_likelihoodOf_57 : decode cX3_likelihoodOf 57 = .ok (.ireturn, 1) := by decide +kernel
theorem dX3_partOfFraction_0 : decode cX3_partOfFraction 0 = .ok (.iload_n 0, 1) := by decide +kernel
theorem dX3_partOfFraction_1 : decode cX3_partOfFraction 1 = .ok (.iload_n 1, 1) := by decide +kernel
theorem dX3_partOfFraction_2 : decode cX3_partOfFraction 2 = .ok (.invokestatic 220, 3) := by decide +kernel
theorem dX3_partOfFraction_5 : decode cX3_partOfFraction 5 = .ok (.istore_n 3, 1) := by decide +kernel
theorem dX3_partOfFraction_6 : decode cX3_partOfFraction 6 = .ok (.iload_n 3, 1) := by decide +kernel
theorem dX3_partOfFraction_7 : decode cX3_partOfFraction 7 = .ok (.ifCond .ne 5, 3) := by decide +kernel
theorem dX3_partOfFraction_10 : decode cX3_partOfFraction 10 = .ok (.iconst 0, 1) := by decide +kernel
theorem dX3_partOfFraction_11 : decode cX3_partOfFraction 11 = .ok (.ireturn, 1) := by decide +kernel
theorem dX3_partOfFraction_12 : decode cX3_partOfFraction 12 = .ok (.iload_n 2, 1) := by decide +kernel
theorem dX3_partOfFraction_13 : decode cX3_partOfFraction 13 = .ok (.ifCond .eq 9, 3) := by decide +kernel
theorem dX3_partOfFraction_16 : decode cX3_partOfFraction 16 = .ok (.iload_n 0, 1) := by decide +kernel
theorem dX3_partOfFraction_17 : decode cX3_partOfFraction 17 = .ok (.iload_n 3, 1) := by decide +kernel
theorem dX3_partOfFraction_18 : decode cX3_partOfFraction 18 = .ok (.idiv, 1) := by decide +kernel
theorem dX3_partOfFraction_19 : decode cX3_partOfFraction 19 = .ok (.goto 6, 3) := by decide +kernel
theorem dX3_partOfFraction_22 : decode cX3_partOfFraction 22 = .ok (.iload_n 1, 1) := by decide +kernel
theorem dX3_partOfFraction_23 : decode cX3_partOfFraction 23 = .ok (.iload_n 3, 1) := by decide +kernel
theorem dX3_partOfFraction_24 : decode cX3_partOfFraction 24 = .ok (.idiv, 1) := by decide +kernel
theorem dX3_partOfFraction_25 : decode cX3_partOfFraction 25 = .ok (.ireturn, 1) := by decide +kernel
theorem dX3_commonDivisor_0 : decode cX3_commonDivisor 0 = .ok (.iconst 0, 1) := by decide +kernel
theorem dX3_commonDivisor_1 : decode cX3_commonDivisor 1 = .ok (.istore_n 2, 1) := by decide +kernel
theorem dX3_commonDivisor_2 : decode cX3_commonDivisor 2 = .ok (.iload_n 1, 1) := by decide +kernel
theorem dX3_commonDivisor_3 : decode cX3_commonDivisor 3 = .ok (.ifCond .eq 24, 3) := by decide +kernel
theorem dX3_commonDivisor_6 : decode cX3_commonDivisor 6 = .ok (.iload_n 2, 1) := by decide +kernel
theorem dX3_commonDivisor_7 : decode cX3_commonDivisor 7 = .ok (.sipush 1000, 3) := by decide +kernel
theorem dX3_commonDivisor_10 : decode cX3_commonDivisor 10 = .ok (.if_icmp .ge 17, 3) := by decide +kernel
theorem dX3_commonDivisor_13 : decode cX3_commonDivisor 13 = .ok (.iload_n 0, 1) := by decide +kernel
theorem dX3_commonDivisor_14 : decode cX3_commonDivisor 14 = .ok (.iload_n 1, 1) := by decide +kernel
theorem dX3_commonDivisor_15 : decode cX3_commonDivisor 15 = .ok (.irem, 1) := by decide +kernel
theorem dX3_commonDivisor_16 : decode cX3_commonDivisor 16 = .ok (.istore_n 3, 1) := by decide +kernel
theorem dX3_commonDivisor_17 : decode cX3_commonDivisor 17 = .ok (.iload_n 1, 1) := by decide +kernel
theorem dX3_commonDivisor_18 : decode cX3_commonDivisor 18 = .ok (.istore_n 0, 1) := by decide +kernel
theorem dX3_commonDivisor_19 : decode cX3_commonDivisor 19 = .ok (.iload_n 3, 1) := by decide +kernel
theorem dX3_commonDivisor_20 : decode cX3_commonDivisor 20 = .ok (.istore_n 1, 1) := by decide +kernel
theorem dX3_commonDivisor_21 : decode cX3_commonDivisor 21 = .ok (.iinc 2 1, 3) := by decide +kernel
theorem dX3_commonDivisor_24 : decode cX3_commonDivisor 24 = .ok (.goto (-22), 3) := by decide +kernel
theorem dX3_commonDivisor_27 : decode cX3_commonDivisor 27 = .ok (.iload_n 0, 1) := by decide +kernel
theorem dX3_commonDivisor_28 : decode cX3_commonDivisor 28 = .ok (.ireturn, 1) := by decide +kernel
theorem dJ6_bitCount_0f7a4_0 : decode cJ6_bitCount_0f7a4 0 = .ok (.iload_n 0, 1) := by decide +kernel
theorem dJ6_bitCount_0f7a4_1 : decode cJ6_bitCount_0f7a4 1 = .ok (.iload_n 0, 1) := by decide +kernel
theorem dJ6_bitCount_0f7a4_2 : decode cJ6_bitCount_0f7a4 2 = .ok (.iconst 1, 1) := by decide +kernel
theorem dJ6_bitCount_0f7a4_3 : decode cJ6_bitCount_0f7a4 3 = .ok (.iushr, 1) := by decide +kernel
theorem dJ6_bitCount_0f7a4_4 : decode cJ6_bitCount_0f7a4 4 = .ok (.ldc_w 265, 3) := by decide +kernel
theorem dJ6_bitCount_0f7a4_7 : decode cJ6_bitCount_0f7a4 7 = .ok (.iand, 1) := by decide +kernel
theorem dJ6_bitCount_0f7a4_8 : decode cJ6_bitCount_0f7a4 8 = .ok (.isub, 1) := by decide +kernel
theorem dJ6_bitCount_0f7a4_9 : decode cJ6_bitCount_0f7a4 9 = .ok (.istore_n 0, 1) := by decide +kernel
theorem dJ6_bitCount_0f7a4_10 : decode cJ6_bitCount_0f7a4 10 = .ok (.iload_n 0, 1) := by decide +kernel
theorem dJ6_bitCount_0f7a4_11 : decode cJ6_bitCount_0f7a4 11 = .ok (.ldc_w 266, 3) := by decide +kernel
theorem dJ6_bitCount_0f7a4_14 : decode cJ6_bitCount_0f7a4 14 = .ok (.iand, 1) := by decide +kernel
theorem dJ6_bitCount_0f7a4_15 : decode cJ6_bitCount_0f7a4 15 = .ok (.iload_n 0, 1) := by decide +kernel
theorem dJ6_bitCount_0f7a4_16 : decode cJ6_bitCount_0f7a4 16 = .ok (.iconst 2, 1) := by decide +kernel
theorem dJ6_bitCount_0f7a4_17 : decode cJ6_bitCount_0f7a4 17 = .ok (.iushr, 1) := by decide +kernel
theorem dJ6_bitCount_0f7a4_18 : decode cJ6_bitCount_0f7a4 18 = .ok (.ldc_w 266, 3) := by decide +kernel
theorem dJ6_bitCount_0f7a4_21 : decode cJ6_bitCount_0f7a4 21 = .ok (.iand, 1) := by decide +kernel
theorem dJ6_bitCount_0f7a4_22 : decode cJ6_bitCount_0f7a4 22 = .ok (.iadd, 1) := by decide +kernel
theorem dJ6_bitCount_0f7a4_23 : decode cJ6_bitCount_0f7a4 23 = .ok (.istore_n 0, 1) := by decide +kernel
theorem dJ6_bitCount_0f7a4_24 : decode cJ6_bitCount_0f7a4 24 = .ok (.iload_n 0, 1) := by decide +kernel
theorem dJ6_bitCount_0f7a4_25 : decode cJ6_bitCount_0f7a4 25 = .ok (.iload_n 0, 1) := by decide +kernel
theorem dJ6_bitCount_0f7a4_26 : decode cJ6_bitCount_0f7a4 26 = .ok (.iconst 4, 1) := by decide +kernel
theorem dJ6_bitCount_0f7a4_27 : decode cJ6_bitCount_0f7a4 27 = .ok (.iushr, 1) := by decide +kernel
theorem dJ6_bitCount_0f7a4_28 : decode cJ6_bitCount_0f7a4 28 = .ok (.iadd, 1) := by decide +kernel
theorem dJ6_bitCount_0f7a4_29 : decode cJ6_bitCount_0f7a4 29 = .ok (.ldc_w 267, 3) := by decide +kernel
theorem dJ6_bitCount_0f7a4_32 : decode cJ6_bitCount_0f7a4 32 = .ok (.iand, 1) := by decide +kernel
theorem dJ6_bitCount_0f7a4_33 : decode cJ6_bitCount_0f7a4 33 = .ok (.istore_n 0, 1) := by decide +kernel
theorem dJ6_bitCount_0f7a4_34 : decode cJ6_bitCount_0f7a4 34 = .ok (.iload_n 0, 1) := by decide +kernel
theorem dJ6_bitCount_0f7a4_35 : decode cJ6_bitCount_0f7a4 35 = .ok (.iload_n 0, 1) := by decide +kernel
theorem dJ6_bitCount_0f7a4_36 : decode cJ6_bitCount_0f7a4 36 = .ok (.bipush 8, 2) := by decide +kernel
theorem dJ6_bitCount_0f7a4_38 : decode cJ6_bitCount_0f7a4 38 = .ok (.iushr, 1) := by decide +kernel
theorem dJ6_bitCount_0f7a4_39 : decode cJ6_bitCount_0f7a4 39 = .ok (.iadd, 1) := by decide +kernel
theorem dJ6_bitCount_0f7a4_40 : decode cJ6_bitCount_0f7a4 40 = .ok (.istore_n 0, 1) := by decide +kernel
theorem dJ6_bitCount_0f7a4_41 : decode cJ6_bitCount_0f7a4 41 = .ok (.iload_n 0, 1) := by decide +kernel
theorem dJ6_bitCount_0f7a4_42 : decode cJ6_bitCount_0f7a4 42 = .ok (.iload_n 0, 1) := by decide +kernel
theorem dJ6_bitCount_0f7a4_43 : decode cJ6_bitCount_0f7a4 43 = .ok (.bipush 16, 2) := by decide +kernel
theorem dJ6_bitCount_0f7a4_45 : decode cJ6_bitCount_0f7a4 45 = .ok (.iushr, 1) := by decide +kernel
theorem dJ6_bitCount_0f7a4_46 : decode cJ6_bitCount_0f7a4 46 = .ok (.iadd, 1) := by decide +kernel
theorem dJ6_bitCount_0f7a4_47 : decode cJ6_bitCount_0f7a4 47 = .ok (.istore_n 0, 1) := by decide +kernel
theorem dJ6_bitCount_0f7a4_48 : decode cJ6_bitCount_0f7a4 48 = .ok (.iload_n 0, 1) := by decide +kernel
theorem dJ6_bitCount_0f7a4_49 : decode cJ6_bitCount_0f7a4 49 = .ok (.bipush 63, 2) := by decide +kernel
theorem dJ6_bitCount_0f7a4_51 : decode cJ6_bitCount_0f7a4 51 = .ok (.iand, 1) := by decide +kernel
theorem dJ6_bitCount_0f7a4_52 : decode cJ6_bitCount_0f7a4 52 = .ok (.ireturn, 1) := by decide +kernel
