/-! decode rows (by program: wip/whole/facts.py) -/
theorem d_M_judge_60 : decode prog_14_method_54_code 60 = .ok (.iload_n 2, 1) := by decide +kernel
theorem d_M_judge_61 : decode prog_14_method_54_code 61 = .ok (.ireturn, 1) := by decide +kernel
theorem d_M_judge_62 : decode prog_14_method_54_code 62 = .ok (.aload_n 0, 1) := by decide +kernel
theorem d_M_judge_63 : decode prog_14_method_54_code 63 = .ok (.getfield 196, 3) := by decide +kernel
theorem d_M_judge_66 : decode prog_14_method_54_code 66 = .ok (.aload_n 0, 1) := by decide +kernel
theorem d_M_judge_67 : decode prog_14_method_54_code 67 = .ok (.getfield 16, 3) := by decide +kernel
theorem d_M_judge_70 : decode prog_14_method_54_code 70 = .ok (.iconst 0, 1) := by decide +kernel
theorem d_M_judge_71 : decode prog_14_method_54_code 71 = .ok (.iconst 2, 1) := by decide +kernel
theorem d_M_judge_72 : decode prog_14_method_54_code 72 = .ok (.iload_n 2, 1) := by decide +kernel
theorem d_M_judge_73 : decode prog_14_method_54_code 73 = .ok (.imul, 1) := by decide +kernel
theorem d_M_judge_74 : decode prog_14_method_54_code 74 = .ok (.iadd, 1) := by decide +kernel
theorem d_M_judge_75 : decode prog_14_method_54_code 75 = .ok (.laload, 1) := by decide +kernel
theorem d_M_judge_76 : decode prog_14_method_54_code 76 = .ok (.lcmp, 1) := by decide +kernel
theorem d_M_judge_77 : decode prog_14_method_54_code 77 = .ok (.ifCond .ne 23, 3) := by decide +kernel
theorem d_M_judge_80 : decode prog_14_method_54_code 80 = .ok (.aload_n 0, 1) := by decide +kernel
theorem d_M_judge_81 : decode prog_14_method_54_code 81 = .ok (.getfield 199, 3) := by decide +kernel
theorem d_M_judge_84 : decode prog_14_method_54_code 84 = .ok (.aload_n 0, 1) := by decide +kernel
theorem d_M_judge_85 : decode prog_14_method_54_code 85 = .ok (.getfield 16, 3) := by decide +kernel
theorem d_M_judge_88 : decode prog_14_method_54_code 88 = .ok (.iconst 0, 1) := by decide +kernel
theorem d_M_judge_89 : decode prog_14_method_54_code 89 = .ok (.iconst 2, 1) := by decide +kernel
theorem d_M_judge_90 : decode prog_14_method_54_code 90 = .ok (.iload_n 2, 1) := by decide +kernel
theorem d_M_judge_91 : decode prog_14_method_54_code 91 = .ok (.imul, 1) := by decide +kernel
theorem d_M_judge_92 : decode prog_14_method_54_code 92 = .ok (.iadd, 1) := by decide +kernel
theorem d_M_judge_93 : decode prog_14_method_54_code 93 = .ok (.iconst 1, 1) := by decide +kernel
theorem d_M_judge_94 : decode prog_14_method_54_code 94 = .ok (.iadd, 1) := by decide +kernel
theorem d_M_judge_95 : decode prog_14_method_54_code 95 = .ok (.laload, 1) := by decide +kernel
theorem d_M_judge_96 : decode prog_14_method_54_code 96 = .ok (.lcmp, 1) := by decide +kernel
theorem d_M_judge_97 : decode prog_14_method_54_code 97 = .ok (.ifCond .eq 5, 3) := by decide +kernel
theorem d_M_judge_100 : decode prog_14_method_54_code 100 = .ok (.iload_n 2, 1) := by decide +kernel
theorem d_M_judge_101 : decode prog_14_method_54_code 101 = .ok (.ireturn, 1) := by decide +kernel
theorem d_M_judge_102 : decode prog_14_method_54_code 102 = .ok (.iinc 2 1, 3) := by decide +kernel
theorem d_M_judge_105 : decode prog_14_method_54_code 105 = .ok (.goto (-83), 3) := by decide +kernel
theorem d_M_judge_108 : decode prog_14_method_54_code 108 = .ok (.iconst (-1), 1) := by decide +kernel
theorem d_M_judge_109 : decode prog_14_method_54_code 109 = .ok (.ireturn, 1) := by decide +kernel
theorem d_M_same_0 : decode prog_14_method_61_code 0 = .ok (.aload_n 0, 1) := by decide +kernel
theorem d_M_same_1 : decode prog_14_method_61_code 1 = .ok (.iload_n 1, 1) := by decide +kernel
theorem d_M_same_2 : decode prog_14_method_61_code 2 = .ok (.invokevirtual 169, 3) := by decide +kernel
theorem d_M_same_5 : decode prog_14_method_61_code 5 = .ok (.ifCond .ne 5, 3) := by decide +kernel
theorem d_M_same_8 : decode prog_14_method_61_code 8 = .ok (.iconst (-1), 1) := by decide +kernel
theorem d_M_same_9 : decode prog_14_method_61_code 9 = .ok (.ireturn, 1) := by decide +kernel
theorem d_M_same_10 : decode prog_14_method_61_code 10 = .ok (.aload_n 0, 1) := by decide +kernel
theorem d_M_same_11 : decode prog_14_method_61_code 11 = .ok (.iload_n 1, 1) := by decide +kernel
theorem d_M_same_12 : decode prog_14_method_61_code 12 = .ok (.invokevirtual 263, 3) := by decide +kernel
theorem d_M_same_15 : decode prog_14_method_61_code 15 = .ok (.sipush 20000, 3) := by decide +kernel
theorem d_M_same_18 : decode prog_14_method_61_code 18 = .ok (.if_icmp .le 6, 3) := by decide +kernel
theorem d_M_same_21 : decode prog_14_method_61_code 21 = .ok (.bipush (-2), 2) := by decide +kernel
theorem d_M_same_23 : decode prog_14_method_61_code 23 = .ok (.ireturn, 1) := by decide +kernel
theorem d_M_same_24 : decode prog_14_method_61_code 24 = .ok (.aload_n 0, 1) := by decide +kernel
theorem d_M_same_25 : decode prog_14_method_61_code 25 = .ok (.iload_n 1, 1) := by decide +kernel
theorem d_M_same_26 : decode prog_14_method_61_code 26 = .ok (.invokevirtual 272, 3) := by decide +kernel
theorem d_M_same_29 : decode prog_14_method_61_code 29 = .ok (.ifCond .eq 7, 3) := by decide +kernel
theorem d_M_same_32 : decode prog_14_method_61_code 32 = .ok (.iconst 1, 1) := by decide +kernel
theorem d_M_same_33 : decode prog_14_method_61_code 33 = .ok (.goto 4, 3) := by decide +kernel
theorem d_M_same_36 : decode prog_14_method_61_code 36 = .ok (.iconst 0, 1) := by decide +kernel
theorem d_M_same_37 : decode prog_14_method_61_code 37 = .ok (.ireturn, 1) := by decide +kernel
theorem d_M_allOf_0 : decode prog_14_method_57_code 0 = .ok (.lconst 1, 1) := by decide +kernel
theorem d_M_allOf_1 : decode prog_14_method_57_code 1 = .ok (.lstore_n 2, 1) := by decide +kernel
theorem d_M_allOf_2 : decode prog_14_method_57_code 2 = .ok (.iconst 0, 1) := by decide +kernel
theorem d_M_allOf_3 : decode prog_14_method_57_code 3 = .ok (.istore 4, 2) := by decide +kernel
theorem d_M_allOf_5 : decode prog_14_method_57_code 5 = .ok (.iload 4, 2) := by decide +kernel
theorem d_M_allOf_7 : decode prog_14_method_57_code 7 = .ok (.iconst 4, 1) := by decide +kernel
theorem d_M_allOf_8 : decode prog_14_method_57_code 8 = .ok (.if_icmp .ge 42, 3) := by decide +kernel
theorem d_M_allOf_11 : decode prog_14_method_57_code 11 = .ok (.lload_n 2, 1) := by decide +kernel
theorem d_M_allOf_12 : decode prog_14_method_57_code 12 = .ok (.aload_n 0, 1) := by decide +kernel
theorem d_M_allOf_13 : decode prog_14_method_57_code 13 = .ok (.iload_n 1, 1) := by decide +kernel
theorem d_M_allOf_14 : decode prog_14_method_57_code 14 = .ok (.iload 4, 2) := by decide +kernel
theorem d_M_allOf_16 : decode prog_14_method_57_code 16 = .ok (.invokevirtual 255, 3) := by decide +kernel
theorem d_M_allOf_19 : decode prog_14_method_57_code 19 = .ok (.aload_n 0, 1) := by decide +kernel
theorem d_M_allOf_20 : decode prog_14_method_57_code 20 = .ok (.iload_n 1, 1) := by decide +kernel
theorem d_M_allOf_21 : decode prog_14_method_57_code 21 = .ok (.iload 4, 2) := by decide +kernel
theorem d_M_allOf_23 : decode prog_14_method_57_code 23 = .ok (.invokevirtual 258, 3) := by decide +kernel
theorem d_M_allOf_26 : decode prog_14_method_57_code 26 = .ok (.isub, 1) := by decide +kernel
theorem d_M_allOf_27 : decode prog_14_method_57_code 27 = .ok (.iconst 1, 1) := by decide +kernel
theorem d_M_allOf_28 : decode prog_14_method_57_code 28 = .ok (.iadd, 1) := by decide +kernel
theorem d_M_allOf_29 : decode prog_14_method_57_code 29 = .ok (.i2l, 1) := by decide +kernel
theorem d_M_allOf_30 : decode prog_14_method_57_code 30 = .ok (.lmul, 1) := by decide +kernel
theorem d_M_allOf_31 : decode prog_14_method_57_code 31 = .ok (.lstore_n 2, 1) := by decide +kernel
theorem d_M_allOf_32 : decode prog_14_method_57_code 32 = .ok (.lload_n 2, 1) := by decide +kernel
theorem d_M_allOf_33 : decode prog_14_method_57_code 33 = .ok (.ldc2_w 261, 3) := by decide +kernel
theorem d_M_allOf_36 : decode prog_14_method_57_code 36 = .ok (.lcmp, 1) := by decide +kernel
theorem d_M_allOf_37 : decode prog_14_method_57_code 37 = .ok (.ifCond .le 7, 3) := by decide +kernel
theorem d_M_allOf_40 : decode prog_14_method_57_code 40 = .ok (.sipush 20001, 3) := by decide +kernel
theorem d_M_allOf_43 : decode prog_14_method_57_code 43 = .ok (.ireturn, 1) := by decide +kernel
theorem d_M_allOf_44 : decode prog_14_method_57_code 44 = .ok (.iinc 4 1, 3) := by decide +kernel
theorem d_M_allOf_47 : decode prog_14_method_57_code 47 = .ok (.goto (-42), 3) := by decide +kernel
theorem d_M_allOf_50 : decode prog_14_method_57_code 50 = .ok (.lload_n 2, 1) := by decide +kernel
theorem d_M_allOf_51 : decode prog_14_method_57_code 51 = .ok (.l2i, 1) := by decide +kernel
theorem d_M_allOf_52 : decode prog_14_method_57_code 52 = .ok (.ireturn, 1) := by decide +kernel
theorem d_M_lastOf_0 : decode prog_14_method_56_code 0 = .ok (.aload_n 0, 1) := by decide +kernel
theorem d_M_lastOf_1 : decode prog_14_method_56_code 1 = .ok (.iload_n 1, 1) := by decide +kernel
theorem d_M_lastOf_2 : decode prog_14_method_56_code 2 = .ok (.iload_n 2, 1) := by decide +kernel
theorem d_M_lastOf_3 : decode prog_14_method_56_code 3 = .ok (.invokevirtual 182, 3) := by decide +kernel
theorem d_M_lastOf_6 : decode prog_14_method_56_code 6 = .ok (.ifCond .eq 13, 3) := by decide +kernel
theorem d_M_lastOf_9 : decode prog_14_method_56_code 9 = .ok (.aload_n 0, 1) := by decide +kernel
theorem d_M_lastOf_10 : decode prog_14_method_56_code 10 = .ok (.iload_n 1, 1) := by decide +kernel
theorem d_M_lastOf_11 : decode prog_14_method_56_code 11 = .ok (.iload_n 2, 1) := by decide +kernel
theorem d_M_lastOf_12 : decode prog_14_method_56_code 12 = .ok (.iconst 2, 1) := by decide +kernel
theorem d_M_lastOf_13 : decode prog_14_method_56_code 13 = .ok (.invokevirtual 72, 3) := by decide +kernel
theorem d_M_lastOf_16 : decode prog_14_method_56_code 16 = .ok (.goto 4, 3) := by decide +kernel
theorem d_M_lastOf_19 : decode prog_14_method_56_code 19 = .ok (.iconst 0, 1) := by decide +kernel
theorem d_M_lastOf_20 : decode prog_14_method_56_code 20 = .ok (.ireturn, 1) := by decide +kernel
theorem d_M_firstOf_0 : decode prog_14_method_55_code 0 = .ok (.aload_n 0, 1) := by decide +kernel
theorem d_M_firstOf_1 : decode prog_14_method_55_code 1 = .ok (.iload_n 1, 1) := by decide +kernel
theorem d_M_firstOf_2 : decode prog_14_method_55_code 2 = .ok (.iload_n 2, 1) := by decide +kernel
theorem d_M_firstOf_3 : decode prog_14_method_55_code 3 = .ok (.invokevirtual 182, 3) := by decide +kernel
theorem d_M_firstOf_6 : decode prog_14_method_55_code 6 = .ok (.ifCond .eq 13, 3) := by decide +kernel
theorem d_M_firstOf_9 : decode prog_14_method_55_code 9 = .ok (.aload_n 0, 1) := by decide +kernel
theorem d_M_firstOf_10 : decode prog_14_method_55_code 10 = .ok (.iload_n 1, 1) := by decide +kernel
theorem d_M_firstOf_11 : decode prog_14_method_55_code 11 = .ok (.iload_n 2, 1) := by decide +kernel
theorem d_M_firstOf_12 : decode prog_14_method_55_code 12 = .ok (.iconst 1, 1) := by decide +kernel
theorem d_M_firstOf_13 : decode prog_14_method_55_code 13 = .ok (.invokevirtual 72, 3) := by decide +kernel
theorem d_M_firstOf_16 : decode prog_14_method_55_code 16 = .ok (.goto 4, 3) := by decide +kernel
theorem d_M_firstOf_19 : decode prog_14_method_55_code 19 = .ok (.iconst 0, 1) := by decide +kernel
theorem d_M_firstOf_20 : decode prog_14_method_55_code 20 = .ok (.ireturn, 1) := by decide +kernel
theorem d_M_isSame_0 : decode prog_14_method_60_code 0 = .ok (.aload_n 0, 1) := by decide +kernel
theorem d_M_isSame_1 : decode prog_14_method_60_code 1 = .ok (.iload_n 1, 1) := by decide +kernel
theorem d_M_isSame_2 : decode prog_14_method_60_code 2 = .ok (.invokevirtual 263, 3) := by decide +kernel
theorem d_M_isSame_5 : decode prog_14_method_60_code 5 = .ok (.istore_n 2, 1) := by decide +kernel
theorem d_M_isSame_6 : decode prog_14_method_60_code 6 = .ok (.aload_n 0, 1) := by decide +kernel
theorem d_M_isSame_7 : decode prog_14_method_60_code 7 = .ok (.iload_n 1, 1) := by decide +kernel
theorem d_M_isSame_8 : decode prog_14_method_60_code 8 = .ok (.invokevirtual 266, 3) := by decide +kernel
theorem d_M_isSame_11 : decode prog_14_method_60_code 11 = .ok (.aload_n 0, 1) := by decide +kernel
theorem d_M_isSame_12 : decode prog_14_method_60_code 12 = .ok (.iload_n 1, 1) := by decide +kernel
theorem d_M_isSame_13 : decode prog_14_method_60_code 13 = .ok (.aload_n 0, 1) := by decide +kernel
theorem d_M_isSame_14 : decode prog_14_method_60_code 14 = .ok (.iload_n 1, 1) := by decide +kernel
theorem d_M_isSame_15 : decode prog_14_method_60_code 15 = .ok (.invokevirtual 172, 3) := by decide +kernel
theorem d_M_isSame_18 : decode prog_14_method_60_code 18 = .ok (.invokevirtual 238, 3) := by decide +kernel
theorem d_M_isSame_21 : decode prog_14_method_60_code 21 = .ok (.ifCond .lt 5, 3) := by decide +kernel
theorem d_M_isSame_24 : decode prog_14_method_60_code 24 = .ok (.iconst 0, 1) := by decide +kernel
theorem d_M_isSame_25 : decode prog_14_method_60_code 25 = .ok (.ireturn, 1) := by decide +kernel
theorem d_M_isSame_26 : decode prog_14_method_60_code 26 = .ok (.aload_n 0, 1) := by decide +kernel
theorem d_M_isSame_27 : decode prog_14_method_60_code 27 = .ok (.getfield 196, 3) := by decide +kernel
theorem d_M_isSame_30 : decode prog_14_method_60_code 30 = .ok (.lstore_n 3, 1) := by decide +kernel
theorem d_M_isSame_31 : decode prog_14_method_60_code 31 = .ok (.aload_n 0, 1) := by decide +kernel
theorem d_M_isSame_32 : decode prog_14_method_60_code 32 = .ok (.getfield 199, 3) := by decide +kernel
theorem d_M_isSame_35 : decode prog_14_method_60_code 35 = .ok (.lstore 5, 2) := by decide +kernel
theorem d_M_isSame_37 : decode prog_14_method_60_code 37 = .ok (.iconst 1, 1) := by decide +kernel
theorem d_M_isSame_38 : decode prog_14_method_60_code 38 = .ok (.istore 7, 2) := by decide +kernel
theorem d_M_isSame_40 : decode prog_14_method_60_code 40 = .ok (.iload 7, 2) := by decide +kernel
theorem d_M_isSame_42 : decode prog_14_method_60_code 42 = .ok (.iload_n 2, 1) := by decide +kernel
theorem d_M_isSame_43 : decode prog_14_method_60_code 43 = .ok (.if_icmp .ge 48, 3) := by decide +kernel
theorem d_M_isSame_46 : decode prog_14_method_60_code 46 = .ok (.aload_n 0, 1) := by decide +kernel
theorem d_M_isSame_47 : decode prog_14_method_60_code 47 = .ok (.iload_n 1, 1) := by decide +kernel
theorem d_M_isSame_48 : decode prog_14_method_60_code 48 = .ok (.invokevirtual 269, 3) := by decide +kernel
theorem d_M_isSame_51 : decode prog_14_method_60_code 51 = .ok (.aload_n 0, 1) := by decide +kernel
theorem d_M_isSame_52 : decode prog_14_method_60_code 52 = .ok (.iload_n 1, 1) := by decide +kernel
theorem d_M_isSame_53 : decode prog_14_method_60_code 53 = .ok (.aload_n 0, 1) := by decide +kernel
theorem d_M_isSame_54 : decode prog_14_method_60_code 54 = .ok (.iload_n 1, 1) := by decide +kernel
theorem d_M_isSame_55 : decode prog_14_method_60_code 55 = .ok (.invokevirtual 172, 3) := by decide +kernel
theorem d_M_isSame_58 : decode prog_14_method_60_code 58 = .ok (.invokevirtual 238, 3) := by decide +kernel
theorem d_M_isSame_61 : decode prog_14_method_60_code 61 = .ok (.ifCond .ge 22, 3) := by decide +kernel
theorem d_M_isSame_64 : decode prog_14_method_60_code 64 = .ok (.aload_n 0, 1) := by decide +kernel
theorem d_M_isSame_65 : decode prog_14_method_60_code 65 = .ok (.getfield 196, 3) := by decide +kernel
theorem d_M_isSame_68 : decode prog_14_method_60_code 68 = .ok (.lload_n 3, 1) := by decide +kernel
theorem d_M_isSame_69 : decode prog_14_method_60_code 69 = .ok (.lcmp, 1) := by decide +kernel
theorem d_M_isSame_70 : decode prog_14_method_60_code 70 = .ok (.ifCond .ne 13, 3) := by decide +kernel
theorem d_M_isSame_73 : decode prog_14_method_60_code 73 = .ok (.aload_n 0, 1) := by decide +kernel
theorem d_M_isSame_74 : decode prog_14_method_60_code 74 = .ok (.getfield 199, 3) := by decide +kernel
theorem d_M_isSame_77 : decode prog_14_method_60_code 77 = .ok (.lload 5, 2) := by decide +kernel
theorem d_M_isSame_79 : decode prog_14_method_60_code 79 = .ok (.lcmp, 1) := by decide +kernel
theorem d_M_isSame_80 : decode prog_14_method_60_code 80 = .ok (.ifCond .eq 5, 3) := by decide +kernel
theorem d_M_isSame_83 : decode prog_14_method_60_code 83 = .ok (.iconst 0, 1) := by decide +kernel
theorem d_M_isSame_84 : decode prog_14_method_60_code 84 = .ok (.ireturn, 1) := by decide +kernel
theorem d_M_isSame_85 : decode prog_14_method_60_code 85 = .ok (.iinc 7 1, 3) := by decide +kernel
theorem d_M_isSame_88 : decode prog_14_method_60_code 88 = .ok (.goto (-48), 3) := by decide +kernel
theorem d_M_isSame_91 : decode prog_14_method_60_code 91 = .ok (.iconst 1, 1) := by decide +kernel
theorem d_M_isSame_92 : decode prog_14_method_60_code 92 = .ok (.ireturn, 1) := by decide +kernel
theorem d_M_thinkFirst_0 : decode prog_14_method_58_code 0 = .ok (.iconst 0, 1) := by decide +kernel
theorem d_M_thinkFirst_1 : decode prog_14_method_58_code 1 = .ok (.istore_n 2, 1) := by decide +kernel
theorem d_M_thinkFirst_2 : decode prog_14_method_58_code 2 = .ok (.iload_n 2, 1) := by decide +kernel
theorem d_M_thinkFirst_3 : decode prog_14_method_58_code 3 = .ok (.iconst 4, 1) := by decide +kernel
theorem d_M_thinkFirst_4 : decode prog_14_method_58_code 4 = .ok (.if_icmp .ge 21, 3) := by decide +kernel
theorem d_M_thinkFirst_7 : decode prog_14_method_58_code 7 = .ok (.aload_n 0, 1) := by decide +kernel
theorem d_M_thinkFirst_8 : decode prog_14_method_58_code 8 = .ok (.getfield 36, 3) := by decide +kernel
theorem d_M_thinkFirst_11 : decode prog_14_method_58_code 11 = .ok (.iload_n 2, 1) := by decide +kernel
theorem d_M_thinkFirst_12 : decode prog_14_method_58_code 12 = .ok (.aload_n 0, 1) := by decide +kernel
theorem d_M_thinkFirst_13 : decode prog_14_method_58_code 13 = .ok (.iload_n 1, 1) := by decide +kernel
theorem d_M_thinkFirst_14 : decode prog_14_method_58_code 14 = .ok (.iload_n 2, 1) := by decide +kernel
theorem d_M_thinkFirst_15 : decode prog_14_method_58_code 15 = .ok (.invokevirtual 258, 3) := by decide +kernel
theorem d_M_thinkFirst_18 : decode prog_14_method_58_code 18 = .ok (.iastore, 1) := by decide +kernel
theorem d_M_thinkFirst_19 : decode prog_14_method_58_code 19 = .ok (.iinc 2 1, 3) := by decide +kernel
theorem d_M_thinkFirst_22 : decode prog_14_method_58_code 22 = .ok (.goto (-20), 3) := by decide +kernel
theorem d_M_thinkFirst_25 : decode prog_14_method_58_code 25 = .ok (.return_, 1) := by decide +kernel
theorem d_M_thinkNext_0 : decode prog_14_method_59_code 0 = .ok (.iconst 3, 1) := by decide +kernel
theorem d_M_thinkNext_1 : decode prog_14_method_59_code 1 = .ok (.istore_n 2, 1) := by decide +kernel
theorem d_M_thinkNext_2 : decode prog_14_method_59_code 2 = .ok (.iload_n 2, 1) := by decide +kernel
theorem d_M_thinkNext_3 : decode prog_14_method_59_code 3 = .ok (.ifCond .lt 47, 3) := by decide +kernel
theorem d_M_thinkNext_6 : decode prog_14_method_59_code 6 = .ok (.aload_n 0, 1) := by decide +kernel
theorem d_M_thinkNext_7 : decode prog_14_method_59_code 7 = .ok (.getfield 36, 3) := by decide +kernel
theorem d_M_thinkNext_10 : decode prog_14_method_59_code 10 = .ok (.iload_n 2, 1) := by decide +kernel
theorem d_M_thinkNext_11 : decode prog_14_method_59_code 11 = .ok (.iaload, 1) := by decide +kernel
theorem d_M_thinkNext_12 : decode prog_14_method_59_code 12 = .ok (.aload_n 0, 1) := by decide +kernel
theorem d_M_thinkNext_13 : decode prog_14_method_59_code 13 = .ok (.iload_n 1, 1) := by decide +kernel
theorem d_M_thinkNext_14 : decode prog_14_method_59_code 14 = .ok (.iload_n 2, 1) := by decide +kernel
theorem d_M_thinkNext_15 : decode prog_14_method_59_code 15 = .ok (.invokevirtual 255, 3) := by decide +kernel
theorem d_M_thinkNext_18 : decode prog_14_method_59_code 18 = .ok (.if_icmp .ge 14, 3) := by decide +kernel
theorem d_M_thinkNext_21 : decode prog_14_method_59_code 21 = .ok (.aload_n 0, 1) := by decide +kernel
theorem d_M_thinkNext_22 : decode prog_14_method_59_code 22 = .ok (.getfield 36, 3) := by decide +kernel
theorem d_M_thinkNext_25 : decode prog_14_method_59_code 25 = .ok (.iload_n 2, 1) := by decide +kernel
theorem d_M_thinkNext_26 : decode prog_14_method_59_code 26 = .ok (.dup2, 1) := by decide +kernel
theorem d_M_thinkNext_27 : decode prog_14_method_59_code 27 = .ok (.iaload, 1) := by decide +kernel
theorem d_M_thinkNext_28 : decode prog_14_method_59_code 28 = .ok (.iconst 1, 1) := by decide +kernel
theorem d_M_thinkNext_29 : decode prog_14_method_59_code 29 = .ok (.iadd, 1) := by decide +kernel
theorem d_M_thinkNext_30 : decode prog_14_method_59_code 30 = .ok (.iastore, 1) := by decide +kernel
theorem d_M_thinkNext_31 : decode prog_14_method_59_code 31 = .ok (.return_, 1) := by decide +kernel
theorem d_M_thinkNext_32 : decode prog_14_method_59_code 32 = .ok (.aload_n 0, 1) := by decide +kernel
theorem d_M_thinkNext_33 : decode prog_14_method_59_code 33 = .ok (.getfield 36, 3) := by decide +kernel
theorem d_M_thinkNext_36 : decode prog_14_method_59_code 36 = .ok (.iload_n 2, 1) := by decide +kernel
theorem d_M_thinkNext_37 : decode prog_14_method_59_code 37 = .ok (.aload_n 0, 1) := by decide +kernel
theorem d_M_thinkNext_38 : decode prog_14_method_59_code 38 = .ok (.iload_n 1, 1) := by decide +kernel
theorem d_M_thinkNext_39 : decode prog_14_method_59_code 39 = .ok (.iload_n 2, 1) := by decide +kernel
theorem d_M_thinkNext_40 : decode prog_14_method_59_code 40 = .ok (.invokevirtual 258, 3) := by decide +kernel
theorem d_M_thinkNext_43 : decode prog_14_method_59_code 43 = .ok (.iastore, 1) := by decide +kernel
theorem d_M_thinkNext_44 : decode prog_14_method_59_code 44 = .ok (.iinc 2 (-1), 3) := by decide +kernel
theorem d_M_thinkNext_47 : decode prog_14_method_59_code 47 = .ok (.goto (-45), 3) := by decide +kernel
theorem d_M_thinkNext_50 : decode prog_14_method_59_code 50 = .ok (.return_, 1) := by decide +kernel
theorem d_M_unlike_0 : decode prog_14_method_62_code 0 = .ok (.aload_n 0, 1) := by decide +kernel
theorem d_M_unlike_1 : decode prog_14_method_62_code 1 = .ok (.iload_n 1, 1) := by decide +kernel
theorem d_M_unlike_2 : decode prog_14_method_62_code 2 = .ok (.invokevirtual 169, 3) := by decide +kernel
theorem d_M_unlike_5 : decode prog_14_method_62_code 5 = .ok (.ifCond .eq 12, 3) := by decide +kernel
theorem d_M_unlike_8 : decode prog_14_method_62_code 8 = .ok (.iload_n 2, 1) := by decide +kernel
theorem d_M_unlike_9 : decode prog_14_method_62_code 9 = .ok (.iconst 0, 1) := by decide +kernel
theorem d_M_unlike_10 : decode prog_14_method_62_code 10 = .ok (.iconst 3, 1) := by decide +kernel
theorem d_M_unlike_11 : decode prog_14_method_62_code 11 = .ok (.invokestatic 68, 3) := by decide +kernel
theorem d_M_unlike_14 : decode prog_14_method_62_code 14 = .ok (.ifCond .ne 5, 3) := by decide +kernel
theorem d_M_unlike_17 : decode prog_14_method_62_code 17 = .ok (.iconst (-1), 1) := by decide +kernel
theorem d_M_unlike_18 : decode prog_14_method_62_code 18 = .ok (.ireturn, 1) := by decide +kernel
theorem d_M_unlike_19 : decode prog_14_method_62_code 19 = .ok (.aload_n 0, 1) := by decide +kernel
theorem d_M_unlike_20 : decode prog_14_method_62_code 20 = .ok (.iload_n 1, 1) := by decide +kernel
theorem d_M_unlike_21 : decode prog_14_method_62_code 21 = .ok (.invokevirtual 263, 3) := by decide +kernel
theorem d_M_unlike_24 : decode prog_14_method_62_code 24 = .ok (.sipush 20000, 3) := by decide +kernel
theorem d_M_unlike_27 : decode prog_14_method_62_code 27 = .ok (.if_icmp .le 6, 3) := by decide +kernel
theorem d_M_unlike_30 : decode prog_14_method_62_code 30 = .ok (.bipush (-2), 2) := by decide +kernel
theorem d_M_unlike_32 : decode prog_14_method_62_code 32 = .ok (.ireturn, 1) := by decide +kernel
theorem d_M_unlike_33 : decode prog_14_method_62_code 33 = .ok (.aload_n 0, 1) := by decide +kernel
theorem d_M_unlike_34 : decode prog_14_method_62_code 34 = .ok (.iload_n 1, 1) := by decide +kernel
theorem d_M_unlike_35 : decode prog_14_method_62_code 35 = .ok (.invokevirtual 272, 3) := by decide +kernel
theorem d_M_unlike_38 : decode prog_14_method_62_code 38 = .ok (.ifCond .eq 7, 3) := by decide +kernel
theorem d_M_unlike_41 : decode prog_14_method_62_code 41 = .ok (.iconst (-1), 1) := by decide +kernel
theorem d_M_unlike_42 : decode prog_14_method_62_code 42 = .ok (.goto 9, 3) := by decide +kernel
theorem d_M_unlike_45 : decode prog_14_method_62_code 45 = .ok (.aload_n 0, 1) := by decide +kernel
theorem d_M_unlike_46 : decode prog_14_method_62_code 46 = .ok (.getfield 36, 3) := by decide +kernel
theorem d_M_unlike_49 : decode prog_14_method_62_code 49 = .ok (.iload_n 2, 1) := by decide +kernel
theorem d_M_unlike_50 : decode prog_14_method_62_code 50 = .ok (.iaload, 1) := by decide +kernel
theorem d_M_unlike_51 : decode prog_14_method_62_code 51 = .ok (.ireturn, 1) := by decide +kernel
theorem d_M_proof_0 : decode prog_14_method_66_code 0 = .ok (.aload_n 0, 1) := by decide +kernel
theorem d_M_proof_1 : decode prog_14_method_66_code 1 = .ok (.iload_n 1, 1) := by decide +kernel
theorem d_M_proof_2 : decode prog_14_method_66_code 2 = .ok (.invokevirtual 169, 3) := by decide +kernel
theorem d_M_proof_5 : decode prog_14_method_66_code 5 = .ok (.ifCond .eq 12, 3) := by decide +kernel
theorem d_M_proof_8 : decode prog_14_method_66_code 8 = .ok (.iload_n 2, 1) := by decide +kernel
theorem d_M_proof_9 : decode prog_14_method_66_code 9 = .ok (.iconst 0, 1) := by decide +kernel
theorem d_M_proof_10 : decode prog_14_method_66_code 10 = .ok (.iconst 5, 1) := by decide +kernel
theorem d_M_proof_11 : decode prog_14_method_66_code 11 = .ok (.invokestatic 68, 3) := by decide +kernel
theorem d_M_proof_14 : decode prog_14_method_66_code 14 = .ok (.ifCond .ne 7, 3) := by decide +kernel
theorem d_M_proof_17 : decode prog_14_method_66_code 17 = .ok (.ldc2_w 233, 3) := by decide +kernel
theorem d_M_proof_20 : decode prog_14_method_66_code 20 = .ok (.lreturn, 1) := by decide +kernel
theorem d_M_proof_21 : decode prog_14_method_66_code 21 = .ok (.iconst 0, 1) := by decide +kernel
theorem d_M_proof_22 : decode prog_14_method_66_code 22 = .ok (.istore_n 3, 1) := by decide +kernel
theorem d_M_proof_23 : decode prog_14_method_66_code 23 = .ok (.iload_n 3, 1) := by decide +kernel
theorem d_M_proof_24 : decode prog_14_method_66_code 24 = .ok (.bipush 6, 2) := by decide +kernel
theorem d_M_proof_26 : decode prog_14_method_66_code 26 = .ok (.if_icmp .ge 38, 3) := by decide +kernel
theorem d_M_proof_29 : decode prog_14_method_66_code 29 = .ok (.aload_n 0, 1) := by decide +kernel
theorem d_M_proof_30 : decode prog_14_method_66_code 30 = .ok (.getfield 39, 3) := by decide +kernel
theorem d_M_proof_33 : decode prog_14_method_66_code 33 = .ok (.iload_n 3, 1) := by decide +kernel
theorem d_M_proof_34 : decode prog_14_method_66_code 34 = .ok (.iload_n 3, 1) := by decide +kernel
theorem d_M_proof_35 : decode prog_14_method_66_code 35 = .ok (.iconst 5, 1) := by decide +kernel
theorem d_M_proof_36 : decode prog_14_method_66_code 36 = .ok (.if_icmp .eq 16, 3) := by decide +kernel
theorem d_M_proof_39 : decode prog_14_method_66_code 39 = .ok (.iload_n 3, 1) := by decide +kernel
theorem d_M_proof_40 : decode prog_14_method_66_code 40 = .ok (.ifCond .ne 16, 3) := by decide +kernel
theorem d_M_proof_43 : decode prog_14_method_66_code 43 = .ok (.aload_n 0, 1) := by decide +kernel
theorem d_M_proof_44 : decode prog_14_method_66_code 44 = .ok (.iload_n 1, 1) := by decide +kernel
theorem d_M_proof_45 : decode prog_14_method_66_code 45 = .ok (.iconst 0, 1) := by decide +kernel
theorem d_M_proof_46 : decode prog_14_method_66_code 46 = .ok (.invokevirtual 182, 3) := by decide +kernel
theorem d_M_proof_49 : decode prog_14_method_66_code 49 = .ok (.ifCond .eq 7, 3) := by decide +kernel
theorem d_M_proof_52 : decode prog_14_method_66_code 52 = .ok (.lconst 1, 1) := by decide +kernel
theorem d_M_proof_53 : decode prog_14_method_66_code 53 = .ok (.goto 4, 3) := by decide +kernel
theorem d_M_proof_56 : decode prog_14_method_66_code 56 = .ok (.lconst 0, 1) := by decide +kernel
theorem d_M_proof_57 : decode prog_14_method_66_code 57 = .ok (.lastore, 1) := by decide +kernel
theorem d_M_proof_58 : decode prog_14_method_66_code 58 = .ok (.iinc 3 1, 3) := by decide +kernel
theorem d_M_proof_61 : decode prog_14_method_66_code 61 = .ok (.goto (-38), 3) := by decide +kernel
theorem d_M_proof_64 : decode prog_14_method_66_code 64 = .ok (.iconst 0, 1) := by decide +kernel
theorem d_M_proof_65 : decode prog_14_method_66_code 65 = .ok (.istore_n 3, 1) := by decide +kernel
theorem d_M_proof_66 : decode prog_14_method_66_code 66 = .ok (.iload_n 3, 1) := by decide +kernel
theorem d_M_proof_67 : decode prog_14_method_66_code 67 = .ok (.aload_n 0, 1) := by decide +kernel
theorem d_M_proof_68 : decode prog_14_method_66_code 68 = .ok (.iload_n 1, 1) := by decide +kernel
theorem d_M_proof_69 : decode prog_14_method_66_code 69 = .ok (.invokevirtual 172, 3) := by decide +kernel
theorem d_M_proof_72 : decode prog_14_method_66_code 72 = .ok (.if_icmp .ge 32, 3) := by decide +kernel
theorem d_M_proof_75 : decode prog_14_method_66_code 75 = .ok (.aload_n 0, 1) := by decide +kernel
theorem d_M_proof_76 : decode prog_14_method_66_code 76 = .ok (.aload_n 0, 1) := by decide +kernel
theorem d_M_proof_77 : decode prog_14_method_66_code 77 = .ok (.iload_n 1, 1) := by decide +kernel
theorem d_M_proof_78 : decode prog_14_method_66_code 78 = .ok (.iload_n 3, 1) := by decide +kernel
theorem d_M_proof_79 : decode prog_14_method_66_code 79 = .ok (.invokevirtual 179, 3) := by decide +kernel
theorem d_M_proof_82 : decode prog_14_method_66_code 82 = .ok (.aload_n 0, 1) := by decide +kernel
theorem d_M_proof_83 : decode prog_14_method_66_code 83 = .ok (.iload_n 1, 1) := by decide +kernel
theorem d_M_proof_84 : decode prog_14_method_66_code 84 = .ok (.iload_n 3, 1) := by decide +kernel
theorem d_M_proof_85 : decode prog_14_method_66_code 85 = .ok (.invokevirtual 175, 3) := by decide +kernel
theorem d_M_proof_88 : decode prog_14_method_66_code 88 = .ok (.invokevirtual 282, 3) := by decide +kernel
theorem d_M_proof_91 : decode prog_14_method_66_code 91 = .ok (.ifCond .ne 7, 3) := by decide +kernel
theorem d_M_proof_94 : decode prog_14_method_66_code 94 = .ok (.ldc2_w 233, 3) := by decide +kernel
theorem d_M_proof_97 : decode prog_14_method_66_code 97 = .ok (.lreturn, 1) := by decide +kernel
theorem d_M_proof_98 : decode prog_14_method_66_code 98 = .ok (.iinc 3 1, 3) := by decide +kernel
theorem d_M_proof_101 : decode prog_14_method_66_code 101 = .ok (.goto (-35), 3) := by decide +kernel
theorem d_M_proof_104 : decode prog_14_method_66_code 104 = .ok (.aload_n 0, 1) := by decide +kernel
theorem d_M_proof_105 : decode prog_14_method_66_code 105 = .ok (.getfield 39, 3) := by decide +kernel
theorem d_M_proof_108 : decode prog_14_method_66_code 108 = .ok (.iload_n 2, 1) := by decide +kernel
theorem d_M_proof_109 : decode prog_14_method_66_code 109 = .ok (.laload, 1) := by decide +kernel
theorem d_M_proof_110 : decode prog_14_method_66_code 110 = .ok (.lreturn, 1) := by decide +kernel
theorem d_M_proves_0 : decode prog_14_method_65_code 0 = .ok (.iload_n 2, 1) := by decide +kernel
theorem d_M_proves_1 : decode prog_14_method_65_code 1 = .ok (.sipush 10000, 3) := by decide +kernel
theorem d_M_proves_4 : decode prog_14_method_65_code 4 = .ok (.isub, 1) := by decide +kernel
theorem d_M_proves_5 : decode prog_14_method_65_code 5 = .ok (.istore_n 3, 1) := by decide +kernel
theorem d_M_proves_6 : decode prog_14_method_65_code 6 = .ok (.iload_n 1, 1) := by decide +kernel
theorem d_M_proves_7 : decode prog_14_method_65_code 7 = .ok (.tableswitch 214 0 3 #[29, 73, 117, 188], 29) := by decide +kernel
theorem d_M_proves_36 : decode prog_14_method_65_code 36 = .ok (.aload_n 0, 1) := by decide +kernel
theorem d_M_proves_37 : decode prog_14_method_65_code 37 = .ok (.getfield 39, 3) := by decide +kernel
theorem d_M_proves_40 : decode prog_14_method_65_code 40 = .ok (.iload_n 3, 1) := by decide +kernel
theorem d_M_proves_41 : decode prog_14_method_65_code 41 = .ok (.ifCond .ge 7, 3) := by decide +kernel
theorem d_M_proves_44 : decode prog_14_method_65_code 44 = .ok (.iconst 4, 1) := by decide +kernel
theorem d_M_proves_45 : decode prog_14_method_65_code 45 = .ok (.goto 4, 3) := by decide +kernel
theorem d_M_proves_48 : decode prog_14_method_65_code 48 = .ok (.iload_n 3, 1) := by decide +kernel
theorem d_M_proves_49 : decode prog_14_method_65_code 49 = .ok (.dup2, 1) := by decide +kernel
theorem d_M_proves_50 : decode prog_14_method_65_code 50 = .ok (.laload, 1) := by decide +kernel
theorem d_M_proves_51 : decode prog_14_method_65_code 51 = .ok (.iload_n 3, 1) := by decide +kernel
theorem d_M_proves_52 : decode prog_14_method_65_code 52 = .ok (.ifCond .ge 15, 3) := by decide +kernel
theorem d_M_proves_55 : decode prog_14_method_65_code 55 = .ok (.iload_n 2, 1) := by decide +kernel
theorem d_M_proves_56 : decode prog_14_method_65_code 56 = .ok (.i2l, 1) := by decide +kernel
theorem d_M_proves_57 : decode prog_14_method_65_code 57 = .ok (.aload_n 0, 1) := by decide +kernel
theorem d_M_proves_58 : decode prog_14_method_65_code 58 = .ok (.getfield 39, 3) := by decide +kernel
theorem d_M_proves_61 : decode prog_14_method_65_code 61 = .ok (.iconst 5, 1) := by decide +kernel
theorem d_M_proves_62 : decode prog_14_method_65_code 62 = .ok (.laload, 1) := by decide +kernel
theorem d_M_proves_63 : decode prog_14_method_65_code 63 = .ok (.lmul, 1) := by decide +kernel
theorem d_M_proves_64 : decode prog_14_method_65_code 64 = .ok (.goto 9, 3) := by decide +kernel
theorem d_M_proves_67 : decode prog_14_method_65_code 67 = .ok (.aload_n 0, 1) := by decide +kernel
theorem d_M_proves_68 : decode prog_14_method_65_code 68 = .ok (.getfield 39, 3) := by decide +kernel
theorem d_M_proves_71 : decode prog_14_method_65_code 71 = .ok (.iconst 5, 1) := by decide +kernel
theorem d_M_proves_72 : decode prog_14_method_65_code 72 = .ok (.laload, 1) := by decide +kernel
theorem d_M_proves_73 : decode prog_14_method_65_code 73 = .ok (.ladd, 1) := by decide +kernel
theorem d_M_proves_74 : decode prog_14_method_65_code 74 = .ok (.lastore, 1) := by decide +kernel
theorem d_M_proves_75 : decode prog_14_method_65_code 75 = .ok (.aload_n 0, 1) := by decide +kernel
theorem d_M_proves_76 : decode prog_14_method_65_code 76 = .ok (.invokevirtual 275, 3) := by decide +kernel
theorem d_M_proves_79 : decode prog_14_method_65_code 79 = .ok (.ireturn, 1) := by decide +kernel
theorem d_M_proves_80 : decode prog_14_method_65_code 80 = .ok (.aload_n 0, 1) := by decide +kernel
theorem d_M_proves_81 : decode prog_14_method_65_code 81 = .ok (.getfield 39, 3) := by decide +kernel
theorem d_M_proves_84 : decode prog_14_method_65_code 84 = .ok (.iload_n 3, 1) := by decide +kernel
theorem d_M_proves_85 : decode prog_14_method_65_code 85 = .ok (.ifCond .ge 7, 3) := by decide +kernel
theorem d_M_proves_88 : decode prog_14_method_65_code 88 = .ok (.iconst 4, 1) := by decide +kernel
theorem d_M_proves_89 : decode prog_14_method_65_code 89 = .ok (.goto 4, 3) := by decide +kernel
theorem d_M_proves_92 : decode prog_14_method_65_code 92 = .ok (.iload_n 3, 1) := by decide +kernel
theorem d_M_proves_93 : decode prog_14_method_65_code 93 = .ok (.dup2, 1) := by decide +kernel
theorem d_M_proves_94 : decode prog_14_method_65_code 94 = .ok (.laload, 1) := by decide +kernel
theorem d_M_proves_95 : decode prog_14_method_65_code 95 = .ok (.iload_n 3, 1) := by decide +kernel
theorem d_M_proves_96 : decode prog_14_method_65_code 96 = .ok (.ifCond .ge 15, 3) := by decide +kernel
theorem d_M_proves_99 : decode prog_14_method_65_code 99 = .ok (.iload_n 2, 1) := by decide +kernel
theorem d_M_proves_100 : decode prog_14_method_65_code 100 = .ok (.i2l, 1) := by decide +kernel
theorem d_M_proves_101 : decode prog_14_method_65_code 101 = .ok (.aload_n 0, 1) := by decide +kernel
theorem d_M_proves_102 : decode prog_14_method_65_code 102 = .ok (.getfield 39, 3) := by decide +kernel
theorem d_M_proves_105 : decode prog_14_method_65_code 105 = .ok (.iconst 5, 1) := by decide +kernel
theorem d_M_proves_106 : decode prog_14_method_65_code 106 = .ok (.laload, 1) := by decide +kernel
theorem d_M_proves_107 : decode prog_14_method_65_code 107 = .ok (.lmul, 1) := by decide +kernel
theorem d_M_proves_108 : decode prog_14_method_65_code 108 = .ok (.goto 9, 3) := by decide +kernel
theorem d_M_proves_111 : decode prog_14_method_65_code 111 = .ok (.aload_n 0, 1) := by decide +kernel
theorem d_M_proves_112 : decode prog_14_method_65_code 112 = .ok (.getfield 39, 3) := by decide +kernel
theorem d_M_proves_115 : decode prog_14_method_65_code 115 = .ok (.iconst 5, 1) := by decide +kernel
theorem d_M_proves_116 : decode prog_14_method_65_code 116 = .ok (.laload, 1) := by decide +kernel
theorem d_M_proves_117 : decode prog_14_method_65_code 117 = .ok (.lsub, 1) := by decide +kernel
theorem d_M_proves_118 : decode prog_14_method_65_code 118 = .ok (.lastore, 1) := by decide +kernel
theorem d_M_proves_119 : decode prog_14_method_65_code 119 = .ok (.aload_n 0, 1) := by decide +kernel
theorem d_M_proves_120 : decode prog_14_method_65_code 120 = .ok (.invokevirtual 275, 3) := by decide +kernel
theorem d_M_proves_123 : decode prog_14_method_65_code 123 = .ok (.ireturn, 1) := by decide +kernel
theorem d_M_proves_124 : decode prog_14_method_65_code 124 = .ok (.iload_n 3, 1) := by decide +kernel
theorem d_M_proves_125 : decode prog_14_method_65_code 125 = .ok (.ifCond .lt 12, 3) := by decide +kernel
theorem d_M_proves_128 : decode prog_14_method_65_code 128 = .ok (.aload_n 0, 1) := by decide +kernel
theorem d_M_proves_129 : decode prog_14_method_65_code 129 = .ok (.invokevirtual 279, 3) := by decide +kernel
theorem d_M_proves_132 : decode prog_14_method_65_code 132 = .ok (.ifCond .ne 5, 3) := by decide +kernel
theorem d_M_proves_135 : decode prog_14_method_65_code 135 = .ok (.iconst 0, 1) := by decide +kernel
theorem d_M_proves_136 : decode prog_14_method_65_code 136 = .ok (.ireturn, 1) := by decide +kernel
theorem d_M_proves_137 : decode prog_14_method_65_code 137 = .ok (.iload_n 3, 1) := by decide +kernel
theorem d_M_proves_138 : decode prog_14_method_65_code 138 = .ok (.ifCond .lt 25, 3) := by decide +kernel
theorem d_M_proves_141 : decode prog_14_method_65_code 141 = .ok (.aload_n 0, 1) := by decide +kernel
theorem d_M_proves_142 : decode prog_14_method_65_code 142 = .ok (.getfield 39, 3) := by decide +kernel
theorem d_M_proves_145 : decode prog_14_method_65_code 145 = .ok (.iload_n 3, 1) := by decide +kernel
theorem d_M_proves_146 : decode prog_14_method_65_code 146 = .ok (.aload_n 0, 1) := by decide +kernel
theorem d_M_proves_147 : decode prog_14_method_65_code 147 = .ok (.getfield 39, 3) := by decide +kernel
theorem d_M_proves_150 : decode prog_14_method_65_code 150 = .ok (.iconst 4, 1) := by decide +kernel
theorem d_M_proves_151 : decode prog_14_method_65_code 151 = .ok (.laload, 1) := by decide +kernel
theorem d_M_proves_152 : decode prog_14_method_65_code 152 = .ok (.lastore, 1) := by decide +kernel
theorem d_M_proves_153 : decode prog_14_method_65_code 153 = .ok (.aload_n 0, 1) := by decide +kernel
theorem d_M_proves_154 : decode prog_14_method_65_code 154 = .ok (.getfield 39, 3) := by decide +kernel
theorem d_M_proves_157 : decode prog_14_method_65_code 157 = .ok (.iconst 4, 1) := by decide +kernel
theorem d_M_proves_158 : decode prog_14_method_65_code 158 = .ok (.lconst 0, 1) := by decide +kernel
theorem d_M_proves_159 : decode prog_14_method_65_code 159 = .ok (.lastore, 1) := by decide +kernel
theorem d_M_proves_160 : decode prog_14_method_65_code 160 = .ok (.goto 30, 3) := by decide +kernel
theorem d_M_proves_163 : decode prog_14_method_65_code 163 = .ok (.iconst 0, 1) := by decide +kernel
theorem d_M_proves_164 : decode prog_14_method_65_code 164 = .ok (.istore 4, 2) := by decide +kernel
theorem d_M_proves_166 : decode prog_14_method_65_code 166 = .ok (.iload 4, 2) := by decide +kernel
theorem d_M_proves_168 : decode prog_14_method_65_code 168 = .ok (.iconst 5, 1) := by decide +kernel
theorem d_M_proves_169 : decode prog_14_method_65_code 169 = .ok (.if_icmp .ge 21, 3) := by decide +kernel
theorem d_M_proves_172 : decode prog_14_method_65_code 172 = .ok (.aload_n 0, 1) := by decide +kernel
theorem d_M_proves_173 : decode prog_14_method_65_code 173 = .ok (.getfield 39, 3) := by decide +kernel
theorem d_M_proves_176 : decode prog_14_method_65_code 176 = .ok (.iload 4, 2) := by decide +kernel
theorem d_M_proves_178 : decode prog_14_method_65_code 178 = .ok (.dup2, 1) := by decide +kernel
theorem d_M_proves_179 : decode prog_14_method_65_code 179 = .ok (.laload, 1) := by decide +kernel
theorem d_M_proves_180 : decode prog_14_method_65_code 180 = .ok (.iload_n 2, 1) := by decide +kernel
theorem d_M_proves_181 : decode prog_14_method_65_code 181 = .ok (.i2l, 1) := by decide +kernel
theorem d_M_proves_182 : decode prog_14_method_65_code 182 = .ok (.lmul, 1) := by decide +kernel
theorem d_M_proves_183 : decode prog_14_method_65_code 183 = .ok (.lastore, 1) := by decide +kernel
theorem d_M_proves_184 : decode prog_14_method_65_code 184 = .ok (.iinc 4 1, 3) := by decide +kernel
theorem d_M_proves_187 : decode prog_14_method_65_code 187 = .ok (.goto (-21), 3) := by decide +kernel
theorem d_M_proves_190 : decode prog_14_method_65_code 190 = .ok (.aload_n 0, 1) := by decide +kernel
theorem d_M_proves_191 : decode prog_14_method_65_code 191 = .ok (.invokevirtual 275, 3) := by decide +kernel
theorem d_M_proves_194 : decode prog_14_method_65_code 194 = .ok (.ireturn, 1) := by decide +kernel
theorem d_M_proves_195 : decode prog_14_method_65_code 195 = .ok (.iload_n 3, 1) := by decide +kernel
theorem d_M_proves_196 : decode prog_14_method_65_code 196 = .ok (.ifCond .ge 7, 3) := by decide +kernel
theorem d_M_proves_199 : decode prog_14_method_65_code 199 = .ok (.iload_n 2, 1) := by decide +kernel
theorem d_M_proves_200 : decode prog_14_method_65_code 200 = .ok (.ifCond .ne 5, 3) := by decide +kernel
theorem d_M_proves_203 : decode prog_14_method_65_code 203 = .ok (.iconst 0, 1) := by decide +kernel
theorem d_M_proves_204 : decode prog_14_method_65_code 204 = .ok (.ireturn, 1) := by decide +kernel
theorem d_M_proves_205 : decode prog_14_method_65_code 205 = .ok (.aload_n 0, 1) := by decide +kernel
theorem d_M_proves_206 : decode prog_14_method_65_code 206 = .ok (.getfield 39, 3) := by decide +kernel
theorem d_M_proves_209 : decode prog_14_method_65_code 209 = .ok (.iconst 5, 1) := by decide +kernel
theorem d_M_proves_210 : decode prog_14_method_65_code 210 = .ok (.dup2, 1) := by decide +kernel
theorem d_M_proves_211 : decode prog_14_method_65_code 211 = .ok (.laload, 1) := by decide +kernel
theorem d_M_proves_212 : decode prog_14_method_65_code 212 = .ok (.iload_n 2, 1) := by decide +kernel
theorem d_M_proves_213 : decode prog_14_method_65_code 213 = .ok (.i2l, 1) := by decide +kernel
theorem d_M_proves_214 : decode prog_14_method_65_code 214 = .ok (.lmul, 1) := by decide +kernel
theorem d_M_proves_215 : decode prog_14_method_65_code 215 = .ok (.lastore, 1) := by decide +kernel
theorem d_M_proves_216 : decode prog_14_method_65_code 216 = .ok (.aload_n 0, 1) := by decide +kernel
theorem d_M_proves_217 : decode prog_14_method_65_code 217 = .ok (.invokevirtual 275, 3) := by decide +kernel
theorem d_M_proves_220 : decode prog_14_method_65_code 220 = .ok (.ireturn, 1) := by decide +kernel
theorem d_M_proves_221 : decode prog_14_method_65_code 221 = .ok (.iload_n 1, 1) := by decide +kernel
theorem d_M_proves_222 : decode prog_14_method_65_code 222 = .ok (.bipush 9, 2) := by decide +kernel
theorem d_M_proves_224 : decode prog_14_method_65_code 224 = .ok (.if_icmp .ne 7, 3) := by decide +kernel
theorem d_M_proves_227 : decode prog_14_method_65_code 227 = .ok (.iconst 1, 1) := by decide +kernel
theorem d_M_proves_228 : decode prog_14_method_65_code 228 = .ok (.goto 4, 3) := by decide +kernel
theorem d_M_proves_231 : decode prog_14_method_65_code 231 = .ok (.iconst 0, 1) := by decide +kernel
theorem d_M_proves_232 : decode prog_14_method_65_code 232 = .ok (.ireturn, 1) := by decide +kernel
theorem d_M_reduced_0 : decode prog_14_method_63_code 0 = .ok (.aload_n 0, 1) := by decide +kernel
theorem d_M_reduced_1 : decode prog_14_method_63_code 1 = .ok (.getfield 39, 3) := by decide +kernel
theorem d_M_reduced_4 : decode prog_14_method_63_code 4 = .ok (.iconst 5, 1) := by decide +kernel
theorem d_M_reduced_5 : decode prog_14_method_63_code 5 = .ok (.laload, 1) := by decide +kernel
theorem d_M_reduced_6 : decode prog_14_method_63_code 6 = .ok (.lstore_n 1, 1) := by decide +kernel
theorem d_M_reduced_7 : decode prog_14_method_63_code 7 = .ok (.iconst 0, 1) := by decide +kernel
theorem d_M_reduced_8 : decode prog_14_method_63_code 8 = .ok (.istore_n 3, 1) := by decide +kernel
theorem d_M_reduced_9 : decode prog_14_method_63_code 9 = .ok (.iload_n 3, 1) := by decide +kernel
theorem d_M_reduced_10 : decode prog_14_method_63_code 10 = .ok (.iconst 5, 1) := by decide +kernel
theorem d_M_reduced_11 : decode prog_14_method_63_code 11 = .ok (.if_icmp .ge 20, 3) := by decide +kernel
theorem d_M_reduced_14 : decode prog_14_method_63_code 14 = .ok (.aload_n 0, 1) := by decide +kernel
theorem d_M_reduced_15 : decode prog_14_method_63_code 15 = .ok (.getfield 39, 3) := by decide +kernel
theorem d_M_reduced_18 : decode prog_14_method_63_code 18 = .ok (.iload_n 3, 1) := by decide +kernel
theorem d_M_reduced_19 : decode prog_14_method_63_code 19 = .ok (.laload, 1) := by decide +kernel
theorem d_M_reduced_20 : decode prog_14_method_63_code 20 = .ok (.lload_n 1, 1) := by decide +kernel
theorem d_M_reduced_21 : decode prog_14_method_63_code 21 = .ok (.invokestatic 186, 3) := by decide +kernel
theorem d_M_reduced_24 : decode prog_14_method_63_code 24 = .ok (.lstore_n 1, 1) := by decide +kernel
theorem d_M_reduced_25 : decode prog_14_method_63_code 25 = .ok (.iinc 3 1, 3) := by decide +kernel
theorem d_M_reduced_28 : decode prog_14_method_63_code 28 = .ok (.goto (-19), 3) := by decide +kernel
theorem d_M_reduced_31 : decode prog_14_method_63_code 31 = .ok (.iconst 0, 1) := by decide +kernel
theorem d_M_reduced_32 : decode prog_14_method_63_code 32 = .ok (.istore_n 3, 1) := by decide +kernel
theorem d_M_reduced_33 : decode prog_14_method_63_code 33 = .ok (.iload_n 3, 1) := by decide +kernel
theorem d_M_reduced_34 : decode prog_14_method_63_code 34 = .ok (.bipush 6, 2) := by decide +kernel
theorem d_M_reduced_36 : decode prog_14_method_63_code 36 = .ok (.if_icmp .ge 19, 3) := by decide +kernel
theorem d_M_reduced_39 : decode prog_14_method_63_code 39 = .ok (.aload_n 0, 1) := by decide +kernel
theorem d_M_reduced_40 : decode prog_14_method_63_code 40 = .ok (.getfield 39, 3) := by decide +kernel
theorem d_M_reduced_43 : decode prog_14_method_63_code 43 = .ok (.iload_n 3, 1) := by decide +kernel
theorem d_M_reduced_44 : decode prog_14_method_63_code 44 = .ok (.dup2, 1) := by decide +kernel
theorem d_M_reduced_45 : decode prog_14_method_63_code 45 = .ok (.laload, 1) := by decide +kernel
theorem d_M_reduced_46 : decode prog_14_method_63_code 46 = .ok (.lload_n 1, 1) := by decide +kernel
theorem d_M_reduced_47 : decode prog_14_method_63_code 47 = .ok (.ldiv, 1) := by decide +kernel
theorem d_M_reduced_48 : decode prog_14_method_63_code 48 = .ok (.lastore, 1) := by decide +kernel
theorem d_M_reduced_49 : decode prog_14_method_63_code 49 = .ok (.iinc 3 1, 3) := by decide +kernel
theorem d_M_reduced_52 : decode prog_14_method_63_code 52 = .ok (.goto (-19), 3) := by decide +kernel
theorem d_M_reduced_55 : decode prog_14_method_63_code 55 = .ok (.iconst 0, 1) := by decide +kernel
theorem d_M_reduced_56 : decode prog_14_method_63_code 56 = .ok (.istore_n 3, 1) := by decide +kernel
theorem d_M_reduced_57 : decode prog_14_method_63_code 57 = .ok (.iload_n 3, 1) := by decide +kernel
theorem d_M_reduced_58 : decode prog_14_method_63_code 58 = .ok (.iconst 5, 1) := by decide +kernel
theorem d_M_reduced_59 : decode prog_14_method_63_code 59 = .ok (.if_icmp .ge 37, 3) := by decide +kernel
theorem d_M_reduced_62 : decode prog_14_method_63_code 62 = .ok (.aload_n 0, 1) := by decide +kernel
theorem d_M_reduced_63 : decode prog_14_method_63_code 63 = .ok (.getfield 39, 3) := by decide +kernel
theorem d_M_reduced_66 : decode prog_14_method_63_code 66 = .ok (.iload_n 3, 1) := by decide +kernel
theorem d_M_reduced_67 : decode prog_14_method_63_code 67 = .ok (.laload, 1) := by decide +kernel
theorem d_M_reduced_68 : decode prog_14_method_63_code 68 = .ok (.ldc2_w 190, 3) := by decide +kernel
theorem d_M_reduced_71 : decode prog_14_method_63_code 71 = .ok (.lcmp, 1) := by decide +kernel
theorem d_M_reduced_72 : decode prog_14_method_63_code 72 = .ok (.ifCond .gt 16, 3) := by decide +kernel
theorem d_M_reduced_75 : decode prog_14_method_63_code 75 = .ok (.aload_n 0, 1) := by decide +kernel
theorem d_M_reduced_76 : decode prog_14_method_63_code 76 = .ok (.getfield 39, 3) := by decide +kernel
theorem d_M_reduced_79 : decode prog_14_method_63_code 79 = .ok (.iload_n 3, 1) := by decide +kernel
theorem d_M_reduced_80 : decode prog_14_method_63_code 80 = .ok (.laload, 1) := by decide +kernel
theorem d_M_reduced_81 : decode prog_14_method_63_code 81 = .ok (.ldc2_w 192, 3) := by decide +kernel
theorem d_M_reduced_84 : decode prog_14_method_63_code 84 = .ok (.lcmp, 1) := by decide +kernel
theorem d_M_reduced_85 : decode prog_14_method_63_code 85 = .ok (.ifCond .ge 5, 3) := by decide +kernel
theorem d_M_reduced_88 : decode prog_14_method_63_code 88 = .ok (.iconst 0, 1) := by decide +kernel
theorem d_M_reduced_89 : decode prog_14_method_63_code 89 = .ok (.ireturn, 1) := by decide +kernel
theorem d_M_reduced_90 : decode prog_14_method_63_code 90 = .ok (.iinc 3 1, 3) := by decide +kernel
theorem d_M_reduced_93 : decode prog_14_method_63_code 93 = .ok (.goto (-36), 3) := by decide +kernel
theorem d_M_reduced_96 : decode prog_14_method_63_code 96 = .ok (.aload_n 0, 1) := by decide +kernel
theorem d_M_reduced_97 : decode prog_14_method_63_code 97 = .ok (.getfield 39, 3) := by decide +kernel
theorem d_M_reduced_100 : decode prog_14_method_63_code 100 = .ok (.iconst 5, 1) := by decide +kernel
theorem d_M_reduced_101 : decode prog_14_method_63_code 101 = .ok (.laload, 1) := by decide +kernel
theorem d_M_reduced_102 : decode prog_14_method_63_code 102 = .ok (.ldc2_w 194, 3) := by decide +kernel
theorem d_M_reduced_105 : decode prog_14_method_63_code 105 = .ok (.lcmp, 1) := by decide +kernel
theorem d_M_reduced_106 : decode prog_14_method_63_code 106 = .ok (.ifCond .gt 7, 3) := by decide +kernel
theorem d_M_reduced_109 : decode prog_14_method_63_code 109 = .ok (.iconst 1, 1) := by decide +kernel
theorem d_M_reduced_110 : decode prog_14_method_63_code 110 = .ok (.goto 4, 3) := by decide +kernel
theorem d_M_reduced_113 : decode prog_14_method_63_code 113 = .ok (.iconst 0, 1) := by decide +kernel
theorem d_M_reduced_114 : decode prog_14_method_63_code 114 = .ok (.ireturn, 1) := by decide +kernel
theorem d_M_isNumber_0 : decode prog_14_method_64_code 0 = .ok (.aload_n 0, 1) := by decide +kernel
theorem d_M_isNumber_1 : decode prog_14_method_64_code 1 = .ok (.getfield 39, 3) := by decide +kernel
theorem d_M_isNumber_4 : decode prog_14_method_64_code 4 = .ok (.iconst 0, 1) := by decide +kernel
theorem d_M_isNumber_5 : decode prog_14_method_64_code 5 = .ok (.laload, 1) := by decide +kernel
theorem d_M_isNumber_6 : decode prog_14_method_64_code 6 = .ok (.lconst 0, 1) := by decide +kernel
theorem d_M_isNumber_7 : decode prog_14_method_64_code 7 = .ok (.lcmp, 1) := by decide +kernel
theorem d_M_isNumber_8 : decode prog_14_method_64_code 8 = .ok (.ifCond .ne 40, 3) := by decide +kernel
theorem d_M_isNumber_11 : decode prog_14_method_64_code 11 = .ok (.aload_n 0, 1) := by decide +kernel
theorem d_M_isNumber_12 : decode prog_14_method_64_code 12 = .ok (.getfield 39, 3) := by decide +kernel
theorem d_M_isNumber_15 : decode prog_14_method_64_code 15 = .ok (.iconst 1, 1) := by decide +kernel
theorem d_M_isNumber_16 : decode prog_14_method_64_code 16 = .ok (.laload, 1) := by decide +kernel
theorem d_M_isNumber_17 : decode prog_14_method_64_code 17 = .ok (.lconst 0, 1) := by decide +kernel
theorem d_M_isNumber_18 : decode prog_14_method_64_code 18 = .ok (.lcmp, 1) := by decide +kernel
theorem d_M_isNumber_19 : decode prog_14_method_64_code 19 = .ok (.ifCond .ne 29, 3) := by decide +kernel
theorem d_M_isNumber_22 : decode prog_14_method_64_code 22 = .ok (.aload_n 0, 1) := by decide +kernel
theorem d_M_isNumber_23 : decode prog_14_method_64_code 23 = .ok (.getfield 39, 3) := by decide +kernel
theorem d_M_isNumber_26 : decode prog_14_method_64_code 26 = .ok (.iconst 2, 1) := by decide +kernel
theorem d_M_isNumber_27 : decode prog_14_method_64_code 27 = .ok (.laload, 1) := by decide +kernel
theorem d_M_isNumber_28 : decode prog_14_method_64_code 28 = .ok (.lconst 0, 1) := by decide +kernel
theorem d_M_isNumber_29 : decode prog_14_method_64_code 29 = .ok (.lcmp, 1) := by decide +kernel
theorem d_M_isNumber_30 : decode prog_14_method_64_code 30 = .ok (.ifCond .ne 18, 3) := by decide +kernel
theorem d_M_isNumber_33 : decode prog_14_method_64_code 33 = .ok (.aload_n 0, 1) := by decide +kernel
theorem d_M_isNumber_34 : decode prog_14_method_64_code 34 = .ok (.getfield 39, 3) := by decide +kernel
theorem d_M_isNumber_37 : decode prog_14_method_64_code 37 = .ok (.iconst 3, 1) := by decide +kernel
theorem d_M_isNumber_38 : decode prog_14_method_64_code 38 = .ok (.laload, 1) := by decide +kernel
theorem d_M_isNumber_39 : decode prog_14_method_64_code 39 = .ok (.lconst 0, 1) := by decide +kernel
theorem d_M_isNumber_40 : decode prog_14_method_64_code 40 = .ok (.lcmp, 1) := by decide +kernel
theorem d_M_isNumber_41 : decode prog_14_method_64_code 41 = .ok (.ifCond .ne 7, 3) := by decide +kernel
theorem d_M_isNumber_44 : decode prog_14_method_64_code 44 = .ok (.iconst 1, 1) := by decide +kernel
theorem d_M_isNumber_45 : decode prog_14_method_64_code 45 = .ok (.goto 4, 3) := by decide +kernel
theorem d_M_isNumber_48 : decode prog_14_method_64_code 48 = .ok (.iconst 0, 1) := by decide +kernel
theorem d_M_isNumber_49 : decode prog_14_method_64_code 49 = .ok (.ireturn, 1) := by decide +kernel
theorem d_M_fits_0 : decode prog_14_method_68_code 0 = .ok (.aload_n 0, 1) := by decide +kernel
theorem d_M_fits_1 : decode prog_14_method_68_code 1 = .ok (.iload_n 1, 1) := by decide +kernel
theorem d_M_fits_2 : decode prog_14_method_68_code 2 = .ok (.invokevirtual 169, 3) := by decide +kernel
theorem d_M_fits_5 : decode prog_14_method_68_code 5 = .ok (.ifCond .eq 25, 3) := by decide +kernel
theorem d_M_fits_8 : decode prog_14_method_68_code 8 = .ok (.iload_n 2, 1) := by decide +kernel
theorem d_M_fits_9 : decode prog_14_method_68_code 9 = .ok (.iconst (-1), 1) := by decide +kernel
theorem d_M_fits_10 : decode prog_14_method_68_code 10 = .ok (.iconst 3, 1) := by decide +kernel
theorem d_M_fits_11 : decode prog_14_method_68_code 11 = .ok (.invokestatic 68, 3) := by decide +kernel
theorem d_M_fits_14 : decode prog_14_method_68_code 14 = .ok (.ifCond .eq 16, 3) := by decide +kernel
theorem d_M_fits_17 : decode prog_14_method_68_code 17 = .ok (.iload_n 2, 1) := by decide +kernel
theorem d_M_fits_18 : decode prog_14_method_68_code 18 = .ok (.ifCond .lt 14, 3) := by decide +kernel
theorem d_M_fits_21 : decode prog_14_method_68_code 21 = .ok (.iload_n 3, 1) := by decide +kernel
theorem d_M_fits_22 : decode prog_14_method_68_code 22 = .ok (.iconst 0, 1) := by decide +kernel
theorem d_M_fits_23 : decode prog_14_method_68_code 23 = .ok (.iconst 2, 1) := by decide +kernel
theorem d_M_fits_24 : decode prog_14_method_68_code 24 = .ok (.invokestatic 68, 3) := by decide +kernel
theorem d_M_fits_27 : decode prog_14_method_68_code 27 = .ok (.ifCond .ne 5, 3) := by decide +kernel
theorem d_M_fits_30 : decode prog_14_method_68_code 30 = .ok (.iconst (-1), 1) := by decide +kernel
theorem d_M_fits_31 : decode prog_14_method_68_code 31 = .ok (.ireturn, 1) := by decide +kernel
theorem d_M_fits_32 : decode prog_14_method_68_code 32 = .ok (.aload_n 0, 1) := by decide +kernel
theorem d_M_fits_33 : decode prog_14_method_68_code 33 = .ok (.iload_n 1, 1) := by decide +kernel
theorem d_M_fits_34 : decode prog_14_method_68_code 34 = .ok (.invokevirtual 263, 3) := by decide +kernel
theorem d_M_fits_37 : decode prog_14_method_68_code 37 = .ok (.istore 4, 2) := by decide +kernel
theorem d_M_fits_39 : decode prog_14_method_68_code 39 = .ok (.iload 4, 2) := by decide +kernel
theorem d_M_fits_41 : decode prog_14_method_68_code 41 = .ok (.sipush 20000, 3) := by decide +kernel
theorem d_M_fits_44 : decode prog_14_method_68_code 44 = .ok (.if_icmp .le 6, 3) := by decide +kernel
theorem d_M_fits_47 : decode prog_14_method_68_code 47 = .ok (.bipush (-2), 2) := by decide +kernel
theorem d_M_fits_49 : decode prog_14_method_68_code 49 = .ok (.ireturn, 1) := by decide +kernel
theorem d_M_fits_50 : decode prog_14_method_68_code 50 = .ok (.iconst 0, 1) := by decide +kernel
theorem d_M_fits_51 : decode prog_14_method_68_code 51 = .ok (.istore 5, 2) := by decide +kernel
theorem d_M_fits_53 : decode prog_14_method_68_code 53 = .ok (.iload 5, 2) := by decide +kernel
theorem d_M_fits_55 : decode prog_14_method_68_code 55 = .ok (.sipush 10000, 3) := by decide +kernel
theorem d_M_fits_58 : decode prog_14_method_68_code 58 = .ok (.if_icmp .ge 17, 3) := by decide +kernel
theorem d_M_fits_61 : decode prog_14_method_68_code 61 = .ok (.aload_n 0, 1) := by decide +kernel
theorem d_M_fits_62 : decode prog_14_method_68_code 62 = .ok (.getfield 42, 3) := by decide +kernel
theorem d_M_fits_65 : decode prog_14_method_68_code 65 = .ok (.iload 5, 2) := by decide +kernel
theorem d_M_fits_67 : decode prog_14_method_68_code 67 = .ok (.iconst 0, 1) := by decide +kernel
theorem d_M_fits_68 : decode prog_14_method_68_code 68 = .ok (.bastore, 1) := by decide +kernel
theorem d_M_fits_69 : decode prog_14_method_68_code 69 = .ok (.iinc 5 1, 3) := by decide +kernel
theorem d_M_fits_72 : decode prog_14_method_68_code 72 = .ok (.goto (-19), 3) := by decide +kernel
theorem d_M_fits_75 : decode prog_14_method_68_code 75 = .ok (.iconst 0, 1) := by decide +kernel
theorem d_M_fits_76 : decode prog_14_method_68_code 76 = .ok (.istore 5, 2) := by decide +kernel
theorem d_M_fits_78 : decode prog_14_method_68_code 78 = .ok (.iconst 0, 1) := by decide +kernel
theorem d_M_fits_79 : decode prog_14_method_68_code 79 = .ok (.istore 6, 2) := by decide +kernel
theorem d_M_fits_81 : decode prog_14_method_68_code 81 = .ok (.iconst 0, 1) := by decide +kernel
theorem d_M_fits_82 : decode prog_14_method_68_code 82 = .ok (.istore 7, 2) := by decide +kernel
theorem d_M_fits_84 : decode prog_14_method_68_code 84 = .ok (.iconst 0, 1) := by decide +kernel
theorem d_M_fits_85 : decode prog_14_method_68_code 85 = .ok (.istore 8, 2) := by decide +kernel
theorem d_M_fits_87 : decode prog_14_method_68_code 87 = .ok (.aload_n 0, 1) := by decide +kernel
theorem d_M_fits_88 : decode prog_14_method_68_code 88 = .ok (.iload_n 1, 1) := by decide +kernel
theorem d_M_fits_89 : decode prog_14_method_68_code 89 = .ok (.invokevirtual 266, 3) := by decide +kernel
theorem d_M_fits_92 : decode prog_14_method_68_code 92 = .ok (.iconst 0, 1) := by decide +kernel
theorem d_M_fits_93 : decode prog_14_method_68_code 93 = .ok (.istore 9, 2) := by decide +kernel
theorem d_M_fits_95 : decode prog_14_method_68_code 95 = .ok (.iload 9, 2) := by decide +kernel
theorem d_M_fits_97 : decode prog_14_method_68_code 97 = .ok (.iload 4, 2) := by decide +kernel
theorem d_M_fits_99 : decode prog_14_method_68_code 99 = .ok (.if_icmp .ge 111, 3) := by decide +kernel
theorem d_M_fits_102 : decode prog_14_method_68_code 102 = .ok (.aload_n 0, 1) := by decide +kernel
theorem d_M_fits_103 : decode prog_14_method_68_code 103 = .ok (.iload_n 1, 1) := by decide +kernel
theorem d_M_fits_104 : decode prog_14_method_68_code 104 = .ok (.invokevirtual 285, 3) := by decide +kernel
theorem d_M_fits_107 : decode prog_14_method_68_code 107 = .ok (.ifCond .eq 92, 3) := by decide +kernel
theorem d_M_fits_110 : decode prog_14_method_68_code 110 = .ok (.iload_n 2, 1) := by decide +kernel
theorem d_M_fits_111 : decode prog_14_method_68_code 111 = .ok (.ifCond .ge 7, 3) := by decide +kernel
theorem d_M_fits_114 : decode prog_14_method_68_code 114 = .ok (.iconst 0, 1) := by decide +kernel
theorem d_M_fits_115 : decode prog_14_method_68_code 115 = .ok (.goto 9, 3) := by decide +kernel
theorem d_M_fits_118 : decode prog_14_method_68_code 118 = .ok (.aload_n 0, 1) := by decide +kernel
theorem d_M_fits_119 : decode prog_14_method_68_code 119 = .ok (.getfield 36, 3) := by decide +kernel
theorem d_M_fits_122 : decode prog_14_method_68_code 122 = .ok (.iload_n 2, 1) := by decide +kernel
theorem d_M_fits_123 : decode prog_14_method_68_code 123 = .ok (.iaload, 1) := by decide +kernel
theorem d_M_fits_124 : decode prog_14_method_68_code 124 = .ok (.istore 10, 2) := by decide +kernel
theorem d_M_fits_126 : decode prog_14_method_68_code 126 = .ok (.iload 5, 2) := by decide +kernel
theorem d_M_fits_128 : decode prog_14_method_68_code 128 = .ok (.ifCond .eq 10, 3) := by decide +kernel
theorem d_M_fits_131 : decode prog_14_method_68_code 131 = .ok (.iload 10, 2) := by decide +kernel
theorem d_M_fits_133 : decode prog_14_method_68_code 133 = .ok (.iload 7, 2) := by decide +kernel
theorem d_M_fits_135 : decode prog_14_method_68_code 135 = .ok (.if_icmp .ge 8, 3) := by decide +kernel
theorem d_M_fits_138 : decode prog_14_method_68_code 138 = .ok (.iload 10, 2) := by decide +kernel
theorem d_M_fits_140 : decode prog_14_method_68_code 140 = .ok (.goto 5, 3) := by decide +kernel
theorem d_M_fits_143 : decode prog_14_method_68_code 143 = .ok (.iload 7, 2) := by decide +kernel
theorem d_M_fits_145 : decode prog_14_method_68_code 145 = .ok (.istore 7, 2) := by decide +kernel
theorem d_M_fits_147 : decode prog_14_method_68_code 147 = .ok (.iload 5, 2) := by decide +kernel
theorem d_M_fits_149 : decode prog_14_method_68_code 149 = .ok (.ifCond .eq 10, 3) := by decide +kernel
theorem d_M_fits_152 : decode prog_14_method_68_code 152 = .ok (.iload 10, 2) := by decide +kernel
theorem d_M_fits_154 : decode prog_14_method_68_code 154 = .ok (.iload 8, 2) := by decide +kernel
theorem d_M_fits_156 : decode prog_14_method_68_code 156 = .ok (.if_icmp .le 8, 3) := by decide +kernel
theorem d_M_fits_159 : decode prog_14_method_68_code 159 = .ok (.iload 10, 2) := by decide +kernel
theorem d_M_fits_161 : decode prog_14_method_68_code 161 = .ok (.goto 5, 3) := by decide +kernel
theorem d_M_fits_164 : decode prog_14_method_68_code 164 = .ok (.iload 8, 2) := by decide +kernel
theorem d_M_fits_166 : decode prog_14_method_68_code 166 = .ok (.istore 8, 2) := by decide +kernel
theorem d_M_fits_168 : decode prog_14_method_68_code 168 = .ok (.iload 6, 2) := by decide +kernel
theorem d_M_fits_170 : decode prog_14_method_68_code 170 = .ok (.aload_n 0, 1) := by decide +kernel
theorem d_M_fits_171 : decode prog_14_method_68_code 171 = .ok (.getfield 42, 3) := by decide +kernel
theorem d_M_fits_174 : decode prog_14_method_68_code 174 = .ok (.iload 10, 2) := by decide +kernel
theorem d_M_fits_176 : decode prog_14_method_68_code 176 = .ok (.baload, 1) := by decide +kernel
theorem d_M_fits_177 : decode prog_14_method_68_code 177 = .ok (.ifCond .eq 7, 3) := by decide +kernel
theorem d_M_fits_180 : decode prog_14_method_68_code 180 = .ok (.iconst 0, 1) := by decide +kernel
theorem d_M_fits_181 : decode prog_14_method_68_code 181 = .ok (.goto 4, 3) := by decide +kernel
theorem d_M_fits_184 : decode prog_14_method_68_code 184 = .ok (.iconst 1, 1) := by decide +kernel
theorem d_M_fits_185 : decode prog_14_method_68_code 185 = .ok (.iadd, 1) := by decide +kernel
theorem d_M_fits_186 : decode prog_14_method_68_code 186 = .ok (.istore 6, 2) := by decide +kernel
theorem d_M_fits_188 : decode prog_14_method_68_code 188 = .ok (.aload_n 0, 1) := by decide +kernel
theorem d_M_fits_189 : decode prog_14_method_68_code 189 = .ok (.getfield 42, 3) := by decide +kernel
theorem d_M_fits_192 : decode prog_14_method_68_code 192 = .ok (.iload 10, 2) := by decide +kernel
theorem d_M_fits_194 : decode prog_14_method_68_code 194 = .ok (.iconst 1, 1) := by decide +kernel
theorem d_M_fits_195 : decode prog_14_method_68_code 195 = .ok (.bastore, 1) := by decide +kernel
theorem d_M_fits_196 : decode prog_14_method_68_code 196 = .ok (.iinc 5 1, 3) := by decide +kernel
theorem d_M_fits_199 : decode prog_14_method_68_code 199 = .ok (.aload_n 0, 1) := by decide +kernel
theorem d_M_fits_200 : decode prog_14_method_68_code 200 = .ok (.iload_n 1, 1) := by decide +kernel
theorem d_M_fits_201 : decode prog_14_method_68_code 201 = .ok (.invokevirtual 269, 3) := by decide +kernel
theorem d_M_fits_204 : decode prog_14_method_68_code 204 = .ok (.iinc 9 1, 3) := by decide +kernel
theorem d_M_fits_207 : decode prog_14_method_68_code 207 = .ok (.goto (-112), 3) := by decide +kernel
theorem d_M_fits_210 : decode prog_14_method_68_code 210 = .ok (.iload_n 2, 1) := by decide +kernel
theorem d_M_fits_211 : decode prog_14_method_68_code 211 = .ok (.ifCond .ge 6, 3) := by decide +kernel
theorem d_M_fits_214 : decode prog_14_method_68_code 214 = .ok (.iload 5, 2) := by decide +kernel
theorem d_M_fits_216 : decode prog_14_method_68_code 216 = .ok (.ireturn, 1) := by decide +kernel
theorem d_M_fits_217 : decode prog_14_method_68_code 217 = .ok (.iload 5, 2) := by decide +kernel
theorem d_M_fits_219 : decode prog_14_method_68_code 219 = .ok (.ifCond .ne 7, 3) := by decide +kernel
theorem d_M_fits_222 : decode prog_14_method_68_code 222 = .ok (.iconst (-1), 1) := by decide +kernel
theorem d_M_fits_223 : decode prog_14_method_68_code 223 = .ok (.goto 24, 3) := by decide +kernel
theorem d_M_fits_226 : decode prog_14_method_68_code 226 = .ok (.iload_n 3, 1) := by decide +kernel
theorem d_M_fits_227 : decode prog_14_method_68_code 227 = .ok (.ifCond .ne 8, 3) := by decide +kernel
theorem d_M_fits_230 : decode prog_14_method_68_code 230 = .ok (.iload 7, 2) := by decide +kernel
theorem d_M_fits_232 : decode prog_14_method_68_code 232 = .ok (.goto 15, 3) := by decide +kernel
theorem d_M_fits_235 : decode prog_14_method_68_code 235 = .ok (.iload_n 3, 1) := by decide +kernel
theorem d_M_fits_236 : decode prog_14_method_68_code 236 = .ok (.iconst 1, 1) := by decide +kernel
theorem d_M_fits_237 : decode prog_14_method_68_code 237 = .ok (.if_icmp .ne 8, 3) := by decide +kernel
theorem d_M_fits_240 : decode prog_14_method_68_code 240 = .ok (.iload 8, 2) := by decide +kernel
theorem d_M_fits_242 : decode prog_14_method_68_code 242 = .ok (.goto 5, 3) := by decide +kernel
theorem d_M_fits_245 : decode prog_14_method_68_code 245 = .ok (.iload 6, 2) := by decide +kernel
theorem d_M_fits_247 : decode prog_14_method_68_code 247 = .ok (.ireturn, 1) := by decide +kernel
theorem d_M_isFit_0 : decode prog_14_method_67_code 0 = .ok (.aload_n 0, 1) := by decide +kernel
theorem d_M_isFit_1 : decode prog_14_method_67_code 1 = .ok (.iload_n 1, 1) := by decide +kernel
theorem d_M_isFit_2 : decode prog_14_method_67_code 2 = .ok (.invokevirtual 227, 3) := by decide +kernel
theorem d_M_isFit_5 : decode prog_14_method_67_code 5 = .ok (.iconst 0, 1) := by decide +kernel
theorem d_M_isFit_6 : decode prog_14_method_67_code 6 = .ok (.istore_n 2, 1) := by decide +kernel
theorem d_M_isFit_7 : decode prog_14_method_67_code 7 = .ok (.iconst 0, 1) := by decide +kernel
theorem d_M_isFit_8 : decode prog_14_method_67_code 8 = .ok (.istore_n 3, 1) := by decide +kernel
theorem d_M_isFit_9 : decode prog_14_method_67_code 9 = .ok (.iload_n 3, 1) := by decide +kernel
theorem d_M_isFit_10 : decode prog_14_method_67_code 10 = .ok (.aload_n 0, 1) := by decide +kernel
theorem d_M_isFit_11 : decode prog_14_method_67_code 11 = .ok (.iload_n 1, 1) := by decide +kernel
theorem d_M_isFit_12 : decode prog_14_method_67_code 12 = .ok (.invokevirtual 172, 3) := by decide +kernel
theorem d_M_isFit_15 : decode prog_14_method_67_code 15 = .ok (.if_icmp .ge 99, 3) := by decide +kernel
theorem d_M_isFit_18 : decode prog_14_method_67_code 18 = .ok (.aload_n 0, 1) := by decide +kernel
theorem d_M_isFit_19 : decode prog_14_method_67_code 19 = .ok (.aload_n 0, 1) := by decide +kernel
theorem d_M_isFit_20 : decode prog_14_method_67_code 20 = .ok (.iload_n 1, 1) := by decide +kernel
theorem d_M_isFit_21 : decode prog_14_method_67_code 21 = .ok (.iload_n 3, 1) := by decide +kernel
theorem d_M_isFit_22 : decode prog_14_method_67_code 22 = .ok (.invokevirtual 179, 3) := by decide +kernel
theorem d_M_isFit_25 : decode prog_14_method_67_code 25 = .ok (.aload_n 0, 1) := by decide +kernel
theorem d_M_isFit_26 : decode prog_14_method_67_code 26 = .ok (.iload_n 1, 1) := by decide +kernel
theorem d_M_isFit_27 : decode prog_14_method_67_code 27 = .ok (.iload_n 3, 1) := by decide +kernel
theorem d_M_isFit_28 : decode prog_14_method_67_code 28 = .ok (.invokevirtual 175, 3) := by decide +kernel
theorem d_M_isFit_31 : decode prog_14_method_67_code 31 = .ok (.invokevirtual 230, 3) := by decide +kernel
theorem d_M_isFit_34 : decode prog_14_method_67_code 34 = .ok (.ifCond .ne 5, 3) := by decide +kernel
theorem d_M_isFit_37 : decode prog_14_method_67_code 37 = .ok (.iconst 0, 1) := by decide +kernel
theorem d_M_isFit_38 : decode prog_14_method_67_code 38 = .ok (.ireturn, 1) := by decide +kernel
theorem d_M_isFit_39 : decode prog_14_method_67_code 39 = .ok (.aload_n 0, 1) := by decide +kernel
theorem d_M_isFit_40 : decode prog_14_method_67_code 40 = .ok (.iload_n 1, 1) := by decide +kernel
theorem d_M_isFit_41 : decode prog_14_method_67_code 41 = .ok (.iload_n 3, 1) := by decide +kernel
theorem d_M_isFit_42 : decode prog_14_method_67_code 42 = .ok (.invokevirtual 179, 3) := by decide +kernel
theorem d_M_isFit_45 : decode prog_14_method_67_code 45 = .ok (.bipush 9, 2) := by decide +kernel
theorem d_M_isFit_47 : decode prog_14_method_67_code 47 = .ok (.if_icmp .eq 6, 3) := by decide +kernel
theorem d_M_isFit_50 : decode prog_14_method_67_code 50 = .ok (.goto 58, 3) := by decide +kernel
theorem d_M_isFit_53 : decode prog_14_method_67_code 53 = .ok (.iload_n 2, 1) := by decide +kernel
theorem d_M_isFit_54 : decode prog_14_method_67_code 54 = .ok (.aload_n 0, 1) := by decide +kernel
theorem d_M_isFit_55 : decode prog_14_method_67_code 55 = .ok (.getfield 7, 3) := by decide +kernel
theorem d_M_isFit_58 : decode prog_14_method_67_code 58 = .ok (.iconst 5, 1) := by decide +kernel
theorem d_M_isFit_59 : decode prog_14_method_67_code 59 = .ok (.iaload, 1) := by decide +kernel
theorem d_M_isFit_60 : decode prog_14_method_67_code 60 = .ok (.if_icmp .eq 43, 3) := by decide +kernel
theorem d_M_isFit_63 : decode prog_14_method_67_code 63 = .ok (.aload_n 0, 1) := by decide +kernel
theorem d_M_isFit_64 : decode prog_14_method_67_code 64 = .ok (.getfield 196, 3) := by decide +kernel
theorem d_M_isFit_67 : decode prog_14_method_67_code 67 = .ok (.aload_n 0, 1) := by decide +kernel
theorem d_M_isFit_68 : decode prog_14_method_67_code 68 = .ok (.getfield 16, 3) := by decide +kernel
theorem d_M_isFit_71 : decode prog_14_method_67_code 71 = .ok (.bipush 48, 2) := by decide +kernel
theorem d_M_isFit_73 : decode prog_14_method_67_code 73 = .ok (.iconst 2, 1) := by decide +kernel
theorem d_M_isFit_74 : decode prog_14_method_67_code 74 = .ok (.iload_n 2, 1) := by decide +kernel
theorem d_M_isFit_75 : decode prog_14_method_67_code 75 = .ok (.imul, 1) := by decide +kernel
theorem d_M_isFit_76 : decode prog_14_method_67_code 76 = .ok (.iadd, 1) := by decide +kernel
theorem d_M_isFit_77 : decode prog_14_method_67_code 77 = .ok (.laload, 1) := by decide +kernel
theorem d_M_isFit_78 : decode prog_14_method_67_code 78 = .ok (.lcmp, 1) := by decide +kernel
theorem d_M_isFit_79 : decode prog_14_method_67_code 79 = .ok (.ifCond .ne 24, 3) := by decide +kernel
theorem d_M_isFit_82 : decode prog_14_method_67_code 82 = .ok (.aload_n 0, 1) := by decide +kernel
theorem d_M_isFit_83 : decode prog_14_method_67_code 83 = .ok (.getfield 199, 3) := by decide +kernel
theorem d_M_isFit_86 : decode prog_14_method_67_code 86 = .ok (.aload_n 0, 1) := by decide +kernel
theorem d_M_isFit_87 : decode prog_14_method_67_code 87 = .ok (.getfield 16, 3) := by decide +kernel
theorem d_M_isFit_90 : decode prog_14_method_67_code 90 = .ok (.bipush 48, 2) := by decide +kernel
theorem d_M_isFit_92 : decode prog_14_method_67_code 92 = .ok (.iconst 2, 1) := by decide +kernel
theorem d_M_isFit_93 : decode prog_14_method_67_code 93 = .ok (.iload_n 2, 1) := by decide +kernel
theorem d_M_isFit_94 : decode prog_14_method_67_code 94 = .ok (.imul, 1) := by decide +kernel
theorem d_M_isFit_95 : decode prog_14_method_67_code 95 = .ok (.iadd, 1) := by decide +kernel
theorem d_M_isFit_96 : decode prog_14_method_67_code 96 = .ok (.iconst 1, 1) := by decide +kernel
theorem d_M_isFit_97 : decode prog_14_method_67_code 97 = .ok (.iadd, 1) := by decide +kernel
theorem d_M_isFit_98 : decode prog_14_method_67_code 98 = .ok (.laload, 1) := by decide +kernel
theorem d_M_isFit_99 : decode prog_14_method_67_code 99 = .ok (.lcmp, 1) := by decide +kernel
theorem d_M_isFit_100 : decode prog_14_method_67_code 100 = .ok (.ifCond .eq 5, 3) := by decide +kernel
theorem d_M_isFit_103 : decode prog_14_method_67_code 103 = .ok (.iconst 0, 1) := by decide +kernel
theorem d_M_isFit_104 : decode prog_14_method_67_code 104 = .ok (.ireturn, 1) := by decide +kernel
theorem d_M_isFit_105 : decode prog_14_method_67_code 105 = .ok (.iinc 2 1, 3) := by decide +kernel
theorem d_M_isFit_108 : decode prog_14_method_67_code 108 = .ok (.iinc 3 1, 3) := by decide +kernel
theorem d_M_isFit_111 : decode prog_14_method_67_code 111 = .ok (.goto (-102), 3) := by decide +kernel
theorem d_M_isFit_114 : decode prog_14_method_67_code 114 = .ok (.iload_n 2, 1) := by decide +kernel
theorem d_M_isFit_115 : decode prog_14_method_67_code 115 = .ok (.aload_n 0, 1) := by decide +kernel
theorem d_M_isFit_116 : decode prog_14_method_67_code 116 = .ok (.getfield 7, 3) := by decide +kernel
theorem d_M_isFit_119 : decode prog_14_method_67_code 119 = .ok (.iconst 5, 1) := by decide +kernel
theorem d_M_isFit_120 : decode prog_14_method_67_code 120 = .ok (.iaload, 1) := by decide +kernel
theorem d_M_isFit_121 : decode prog_14_method_67_code 121 = .ok (.if_icmp .ne 7, 3) := by decide +kernel
theorem d_M_isFit_124 : decode prog_14_method_67_code 124 = .ok (.iconst 1, 1) := by decide +kernel
theorem d_M_isFit_125 : decode prog_14_method_67_code 125 = .ok (.goto 4, 3) := by decide +kernel
theorem d_M_isFit_128 : decode prog_14_method_67_code 128 = .ok (.iconst 0, 1) := by decide +kernel
theorem d_M_isFit_129 : decode prog_14_method_67_code 129 = .ok (.ireturn, 1) := by decide +kernel
theorem d_M_more_0 : decode prog_14_method_73_code 0 = .ok (.aload_n 0, 1) := by decide +kernel
theorem d_M_more_1 : decode prog_14_method_73_code 1 = .ok (.iload_n 1, 1) := by decide +kernel
theorem d_M_more_2 : decode prog_14_method_73_code 2 = .ok (.invokevirtual 169, 3) := by decide +kernel
theorem d_M_more_5 : decode prog_14_method_73_code 5 = .ok (.ifCond .ne 5, 3) := by decide +kernel
theorem d_M_more_8 : decode prog_14_method_73_code 8 = .ok (.iconst (-1), 1) := by decide +kernel
theorem d_M_more_9 : decode prog_14_method_73_code 9 = .ok (.ireturn, 1) := by decide +kernel
theorem d_M_more_10 : decode prog_14_method_73_code 10 = .ok (.aload_n 0, 1) := by decide +kernel
theorem d_M_more_11 : decode prog_14_method_73_code 11 = .ok (.iload_n 1, 1) := by decide +kernel
theorem d_M_more_12 : decode prog_14_method_73_code 12 = .ok (.invokevirtual 263, 3) := by decide +kernel
theorem d_M_more_15 : decode prog_14_method_73_code 15 = .ok (.istore_n 2, 1) := by decide +kernel
theorem d_M_more_16 : decode prog_14_method_73_code 16 = .ok (.iload_n 2, 1) := by decide +kernel
theorem d_M_more_17 : decode prog_14_method_73_code 17 = .ok (.sipush 500, 3) := by decide +kernel
theorem d_M_more_20 : decode prog_14_method_73_code 20 = .ok (.if_icmp .le 6, 3) := by decide +kernel
theorem d_M_more_23 : decode prog_14_method_73_code 23 = .ok (.bipush (-2), 2) := by decide +kernel
theorem d_M_more_25 : decode prog_14_method_73_code 25 = .ok (.ireturn, 1) := by decide +kernel
theorem d_M_more_26 : decode prog_14_method_73_code 26 = .ok (.aload_n 0, 1) := by decide +kernel
theorem d_M_more_27 : decode prog_14_method_73_code 27 = .ok (.iload_n 1, 1) := by decide +kernel
theorem d_M_more_28 : decode prog_14_method_73_code 28 = .ok (.iload_n 2, 1) := by decide +kernel
theorem d_M_more_29 : decode prog_14_method_73_code 29 = .ok (.invokevirtual 303, 3) := by decide +kernel
theorem d_M_more_32 : decode prog_14_method_73_code 32 = .ok (.istore_n 3, 1) := by decide +kernel
theorem d_M_more_33 : decode prog_14_method_73_code 33 = .ok (.iconst 0, 1) := by decide +kernel
theorem d_M_more_34 : decode prog_14_method_73_code 34 = .ok (.istore 4, 2) := by decide +kernel
theorem d_M_more_36 : decode prog_14_method_73_code 36 = .ok (.iload 4, 2) := by decide +kernel
theorem d_M_more_38 : decode prog_14_method_73_code 38 = .ok (.aload_n 0, 1) := by decide +kernel
theorem d_M_more_39 : decode prog_14_method_73_code 39 = .ok (.iload_n 1, 1) := by decide +kernel
theorem d_M_more_40 : decode prog_14_method_73_code 40 = .ok (.invokevirtual 172, 3) := by decide +kernel
theorem d_M_more_43 : decode prog_14_method_73_code 43 = .ok (.if_icmp .ge 23, 3) := by decide +kernel
theorem d_M_more_46 : decode prog_14_method_73_code 46 = .ok (.aload_n 0, 1) := by decide +kernel
theorem d_M_more_47 : decode prog_14_method_73_code 47 = .ok (.iload_n 1, 1) := by decide +kernel
theorem d_M_more_48 : decode prog_14_method_73_code 48 = .ok (.iload_n 3, 1) := by decide +kernel
theorem d_M_more_49 : decode prog_14_method_73_code 49 = .ok (.iload 4, 2) := by decide +kernel
theorem d_M_more_51 : decode prog_14_method_73_code 51 = .ok (.invokevirtual 306, 3) := by decide +kernel
theorem d_M_more_54 : decode prog_14_method_73_code 54 = .ok (.ifCond .eq 6, 3) := by decide +kernel
theorem d_M_more_57 : decode prog_14_method_73_code 57 = .ok (.iload 4, 2) := by decide +kernel
theorem d_M_more_59 : decode prog_14_method_73_code 59 = .ok (.ireturn, 1) := by decide +kernel
theorem d_M_more_60 : decode prog_14_method_73_code 60 = .ok (.iinc 4 1, 3) := by decide +kernel
theorem d_M_more_63 : decode prog_14_method_73_code 63 = .ok (.goto (-27), 3) := by decide +kernel
theorem d_M_more_66 : decode prog_14_method_73_code 66 = .ok (.iconst (-1), 1) := by decide +kernel
theorem d_M_more_67 : decode prog_14_method_73_code 67 = .ok (.ireturn, 1) := by decide +kernel
theorem d_M_layAll_0 : decode prog_14_method_69_code 0 = .ok (.iconst 0, 1) := by decide +kernel
theorem d_M_layAll_1 : decode prog_14_method_69_code 1 = .ok (.istore_n 3, 1) := by decide +kernel
theorem d_M_layAll_2 : decode prog_14_method_69_code 2 = .ok (.aload_n 0, 1) := by decide +kernel
theorem d_M_layAll_3 : decode prog_14_method_69_code 3 = .ok (.iload_n 1, 1) := by decide +kernel
theorem d_M_layAll_4 : decode prog_14_method_69_code 4 = .ok (.invokevirtual 266, 3) := by decide +kernel
theorem d_M_layAll_7 : decode prog_14_method_69_code 7 = .ok (.iconst 0, 1) := by decide +kernel
theorem d_M_layAll_8 : decode prog_14_method_69_code 8 = .ok (.istore 4, 2) := by decide +kernel
theorem d_M_layAll_10 : decode prog_14_method_69_code 10 = .ok (.iload 4, 2) := by decide +kernel
theorem d_M_layAll_12 : decode prog_14_method_69_code 12 = .ok (.iload_n 2, 1) := by decide +kernel
theorem d_M_layAll_13 : decode prog_14_method_69_code 13 = .ok (.if_icmp .ge 111, 3) := by decide +kernel
theorem d_M_layAll_16 : decode prog_14_method_69_code 16 = .ok (.aload_n 0, 1) := by decide +kernel
theorem d_M_layAll_17 : decode prog_14_method_69_code 17 = .ok (.iload_n 1, 1) := by decide +kernel
theorem d_M_layAll_18 : decode prog_14_method_69_code 18 = .ok (.invokevirtual 227, 3) := by decide +kernel
theorem d_M_layAll_21 : decode prog_14_method_69_code 21 = .ok (.iconst 1, 1) := by decide +kernel
theorem d_M_layAll_22 : decode prog_14_method_69_code 22 = .ok (.istore 5, 2) := by decide +kernel
theorem d_M_layAll_24 : decode prog_14_method_69_code 24 = .ok (.iconst 0, 1) := by decide +kernel
theorem d_M_layAll_25 : decode prog_14_method_69_code 25 = .ok (.istore 6, 2) := by decide +kernel
theorem d_M_layAll_27 : decode prog_14_method_69_code 27 = .ok (.iload 6, 2) := by decide +kernel
theorem d_M_layAll_29 : decode prog_14_method_69_code 29 = .ok (.aload_n 0, 1) := by decide +kernel
theorem d_M_layAll_30 : decode prog_14_method_69_code 30 = .ok (.iload_n 1, 1) := by decide +kernel
theorem d_M_layAll_31 : decode prog_14_method_69_code 31 = .ok (.invokevirtual 172, 3) := by decide +kernel
theorem d_M_layAll_34 : decode prog_14_method_69_code 34 = .ok (.if_icmp .ge 66, 3) := by decide +kernel
theorem d_M_layAll_37 : decode prog_14_method_69_code 37 = .ok (.iload 5, 2) := by decide +kernel
theorem d_M_layAll_39 : decode prog_14_method_69_code 39 = .ok (.ifCond .eq 61, 3) := by decide +kernel
theorem d_M_layAll_42 : decode prog_14_method_69_code 42 = .ok (.aload_n 0, 1) := by decide +kernel
theorem d_M_layAll_43 : decode prog_14_method_69_code 43 = .ok (.aload_n 0, 1) := by decide +kernel
theorem d_M_layAll_44 : decode prog_14_method_69_code 44 = .ok (.iload_n 1, 1) := by decide +kernel
theorem d_M_layAll_45 : decode prog_14_method_69_code 45 = .ok (.iload 6, 2) := by decide +kernel
theorem d_M_layAll_47 : decode prog_14_method_69_code 47 = .ok (.invokevirtual 179, 3) := by decide +kernel
theorem d_M_layAll_50 : decode prog_14_method_69_code 50 = .ok (.aload_n 0, 1) := by decide +kernel
theorem d_M_layAll_51 : decode prog_14_method_69_code 51 = .ok (.iload_n 1, 1) := by decide +kernel
theorem d_M_layAll_52 : decode prog_14_method_69_code 52 = .ok (.iload 6, 2) := by decide +kernel
theorem d_M_layAll_54 : decode prog_14_method_69_code 54 = .ok (.invokevirtual 175, 3) := by decide +kernel
theorem d_M_layAll_57 : decode prog_14_method_69_code 57 = .ok (.invokevirtual 230, 3) := by decide +kernel
theorem d_M_layAll_60 : decode prog_14_method_69_code 60 = .ok (.istore 5, 2) := by decide +kernel
theorem d_M_layAll_62 : decode prog_14_method_69_code 62 = .ok (.aload_n 0, 1) := by decide +kernel
theorem d_M_layAll_63 : decode prog_14_method_69_code 63 = .ok (.getfield 46, 3) := by decide +kernel
theorem d_M_layAll_66 : decode prog_14_method_69_code 66 = .ok (.bipush 24, 2) := by decide +kernel
theorem d_M_layAll_68 : decode prog_14_method_69_code 68 = .ok (.iload_n 3, 1) := by decide +kernel
theorem d_M_layAll_69 : decode prog_14_method_69_code 69 = .ok (.imul, 1) := by decide +kernel
theorem d_M_layAll_70 : decode prog_14_method_69_code 70 = .ok (.iload 6, 2) := by decide +kernel
theorem d_M_layAll_72 : decode prog_14_method_69_code 72 = .ok (.iadd, 1) := by decide +kernel
theorem d_M_layAll_73 : decode prog_14_method_69_code 73 = .ok (.aload_n 0, 1) := by decide +kernel
theorem d_M_layAll_74 : decode prog_14_method_69_code 74 = .ok (.getfield 196, 3) := by decide +kernel
theorem d_M_layAll_77 : decode prog_14_method_69_code 77 = .ok (.lastore, 1) := by decide +kernel
theorem d_M_layAll_78 : decode prog_14_method_69_code 78 = .ok (.aload_n 0, 1) := by decide +kernel
theorem d_M_layAll_79 : decode prog_14_method_69_code 79 = .ok (.getfield 49, 3) := by decide +kernel
theorem d_M_layAll_82 : decode prog_14_method_69_code 82 = .ok (.bipush 24, 2) := by decide +kernel
theorem d_M_layAll_84 : decode prog_14_method_69_code 84 = .ok (.iload_n 3, 1) := by decide +kernel
theorem d_M_layAll_85 : decode prog_14_method_69_code 85 = .ok (.imul, 1) := by decide +kernel
theorem d_M_layAll_86 : decode prog_14_method_69_code 86 = .ok (.iload 6, 2) := by decide +kernel
theorem d_M_layAll_88 : decode prog_14_method_69_code 88 = .ok (.iadd, 1) := by decide +kernel
theorem d_M_layAll_89 : decode prog_14_method_69_code 89 = .ok (.aload_n 0, 1) := by decide +kernel
theorem d_M_layAll_90 : decode prog_14_method_69_code 90 = .ok (.getfield 199, 3) := by decide +kernel
theorem d_M_layAll_93 : decode prog_14_method_69_code 93 = .ok (.lastore, 1) := by decide +kernel
theorem d_M_layAll_94 : decode prog_14_method_69_code 94 = .ok (.iinc 6 1, 3) := by decide +kernel
theorem d_M_layAll_97 : decode prog_14_method_69_code 97 = .ok (.goto (-70), 3) := by decide +kernel
theorem d_M_layAll_100 : decode prog_14_method_69_code 100 = .ok (.iload_n 3, 1) := by decide +kernel
theorem d_M_layAll_101 : decode prog_14_method_69_code 101 = .ok (.iload 5, 2) := by decide +kernel
theorem d_M_layAll_103 : decode prog_14_method_69_code 103 = .ok (.ifCond .eq 7, 3) := by decide +kernel
theorem d_M_layAll_106 : decode prog_14_method_69_code 106 = .ok (.iconst 1, 1) := by decide +kernel
theorem d_M_layAll_107 : decode prog_14_method_69_code 107 = .ok (.goto 4, 3) := by decide +kernel
theorem d_M_layAll_110 : decode prog_14_method_69_code 110 = .ok (.iconst 0, 1) := by decide +kernel
theorem d_M_layAll_111 : decode prog_14_method_69_code 111 = .ok (.iadd, 1) := by decide +kernel
theorem d_M_layAll_112 : decode prog_14_method_69_code 112 = .ok (.istore_n 3, 1) := by decide +kernel
theorem d_M_layAll_113 : decode prog_14_method_69_code 113 = .ok (.aload_n 0, 1) := by decide +kernel
theorem d_M_layAll_114 : decode prog_14_method_69_code 114 = .ok (.iload_n 1, 1) := by decide +kernel
theorem d_M_layAll_115 : decode prog_14_method_69_code 115 = .ok (.invokevirtual 269, 3) := by decide +kernel
theorem d_M_layAll_118 : decode prog_14_method_69_code 118 = .ok (.iinc 4 1, 3) := by decide +kernel
theorem d_M_layAll_121 : decode prog_14_method_69_code 121 = .ok (.goto (-111), 3) := by decide +kernel
theorem d_M_layAll_124 : decode prog_14_method_69_code 124 = .ok (.iload_n 3, 1) := by decide +kernel
theorem d_M_layAll_125 : decode prog_14_method_69_code 125 = .ok (.ireturn, 1) := by decide +kernel
theorem d_M_areUnlike_0 : decode prog_14_method_72_code 0 = .ok (.iconst 0, 1) := by decide +kernel
theorem d_M_areUnlike_1 : decode prog_14_method_72_code 1 = .ok (.istore 4, 2) := by decide +kernel
theorem d_M_areUnlike_3 : decode prog_14_method_72_code 3 = .ok (.iload 4, 2) := by decide +kernel
theorem d_M_areUnlike_5 : decode prog_14_method_72_code 5 = .ok (.sipush 1024, 3) := by decide +kernel
theorem d_M_areUnlike_8 : decode prog_14_method_72_code 8 = .ok (.if_icmp .ge 17, 3) := by decide +kernel
theorem d_M_areUnlike_11 : decode prog_14_method_72_code 11 = .ok (.aload_n 0, 1) := by decide +kernel
theorem d_M_areUnlike_12 : decode prog_14_method_72_code 12 = .ok (.getfield 55, 3) := by decide +kernel
theorem d_M_areUnlike_15 : decode prog_14_method_72_code 15 = .ok (.iload 4, 2) := by decide +kernel
theorem d_M_areUnlike_17 : decode prog_14_method_72_code 17 = .ok (.iconst (-1), 1) := by decide +kernel
theorem d_M_areUnlike_18 : decode prog_14_method_72_code 18 = .ok (.iastore, 1) := by decide +kernel
theorem d_M_areUnlike_19 : decode prog_14_method_72_code 19 = .ok (.iinc 4 1, 3) := by decide +kernel
theorem d_M_areUnlike_22 : decode prog_14_method_72_code 22 = .ok (.goto (-19), 3) := by decide +kernel
theorem d_M_areUnlike_25 : decode prog_14_method_72_code 25 = .ok (.iconst 0, 1) := by decide +kernel
theorem d_M_areUnlike_26 : decode prog_14_method_72_code 26 = .ok (.istore 4, 2) := by decide +kernel
theorem d_M_areUnlike_28 : decode prog_14_method_72_code 28 = .ok (.iload 4, 2) := by decide +kernel
theorem d_M_areUnlike_30 : decode prog_14_method_72_code 30 = .ok (.iload_n 2, 1) := by decide +kernel
theorem d_M_areUnlike_31 : decode prog_14_method_72_code 31 = .ok (.if_icmp .ge 83, 3) := by decide +kernel
theorem d_M_areUnlike_34 : decode prog_14_method_72_code 34 = .ok (.aload_n 0, 1) := by decide +kernel
theorem d_M_areUnlike_35 : decode prog_14_method_72_code 35 = .ok (.iload_n 1, 1) := by decide +kernel
theorem d_M_areUnlike_36 : decode prog_14_method_72_code 36 = .ok (.iload 4, 2) := by decide +kernel
theorem d_M_areUnlike_38 : decode prog_14_method_72_code 38 = .ok (.iload_n 3, 1) := by decide +kernel
theorem d_M_areUnlike_39 : decode prog_14_method_72_code 39 = .ok (.invokevirtual 296, 3) := by decide +kernel
theorem d_M_areUnlike_42 : decode prog_14_method_72_code 42 = .ok (.istore 5, 2) := by decide +kernel
theorem d_M_areUnlike_44 : decode prog_14_method_72_code 44 = .ok (.aload_n 0, 1) := by decide +kernel
theorem d_M_areUnlike_45 : decode prog_14_method_72_code 45 = .ok (.getfield 55, 3) := by decide +kernel
theorem d_M_areUnlike_48 : decode prog_14_method_72_code 48 = .ok (.iload 5, 2) := by decide +kernel
theorem d_M_areUnlike_50 : decode prog_14_method_72_code 50 = .ok (.iaload, 1) := by decide +kernel
theorem d_M_areUnlike_51 : decode prog_14_method_72_code 51 = .ok (.istore 6, 2) := by decide +kernel
theorem d_M_areUnlike_53 : decode prog_14_method_72_code 53 = .ok (.iload 6, 2) := by decide +kernel
theorem d_M_areUnlike_55 : decode prog_14_method_72_code 55 = .ok (.ifCond .lt 30, 3) := by decide +kernel
theorem d_M_areUnlike_58 : decode prog_14_method_72_code 58 = .ok (.aload_n 0, 1) := by decide +kernel
theorem d_M_areUnlike_59 : decode prog_14_method_72_code 59 = .ok (.iload_n 1, 1) := by decide +kernel
theorem d_M_areUnlike_60 : decode prog_14_method_72_code 60 = .ok (.iload 6, 2) := by decide +kernel
theorem d_M_areUnlike_62 : decode prog_14_method_72_code 62 = .ok (.iload 4, 2) := by decide +kernel
theorem d_M_areUnlike_64 : decode prog_14_method_72_code 64 = .ok (.iload_n 3, 1) := by decide +kernel
theorem d_M_areUnlike_65 : decode prog_14_method_72_code 65 = .ok (.invokevirtual 299, 3) := by decide +kernel
theorem d_M_areUnlike_68 : decode prog_14_method_72_code 68 = .ok (.ifCond .eq 5, 3) := by decide +kernel
theorem d_M_areUnlike_71 : decode prog_14_method_72_code 71 = .ok (.iconst 0, 1) := by decide +kernel
theorem d_M_areUnlike_72 : decode prog_14_method_72_code 72 = .ok (.ireturn, 1) := by decide +kernel
theorem d_M_areUnlike_73 : decode prog_14_method_72_code 73 = .ok (.aload_n 0, 1) := by decide +kernel
theorem d_M_areUnlike_74 : decode prog_14_method_72_code 74 = .ok (.getfield 52, 3) := by decide +kernel
theorem d_M_areUnlike_77 : decode prog_14_method_72_code 77 = .ok (.iload 6, 2) := by decide +kernel
theorem d_M_areUnlike_79 : decode prog_14_method_72_code 79 = .ok (.iaload, 1) := by decide +kernel
theorem d_M_areUnlike_80 : decode prog_14_method_72_code 80 = .ok (.istore 6, 2) := by decide +kernel
theorem d_M_areUnlike_82 : decode prog_14_method_72_code 82 = .ok (.goto (-29), 3) := by decide +kernel
theorem d_M_areUnlike_85 : decode prog_14_method_72_code 85 = .ok (.aload_n 0, 1) := by decide +kernel
theorem d_M_areUnlike_86 : decode prog_14_method_72_code 86 = .ok (.getfield 52, 3) := by decide +kernel
theorem d_M_areUnlike_89 : decode prog_14_method_72_code 89 = .ok (.iload 4, 2) := by decide +kernel
theorem d_M_areUnlike_91 : decode prog_14_method_72_code 91 = .ok (.aload_n 0, 1) := by decide +kernel
theorem d_M_areUnlike_92 : decode prog_14_method_72_code 92 = .ok (.getfield 55, 3) := by decide +kernel
theorem d_M_areUnlike_95 : decode prog_14_method_72_code 95 = .ok (.iload 5, 2) := by decide +kernel
theorem d_M_areUnlike_97 : decode prog_14_method_72_code 97 = .ok (.iaload, 1) := by decide +kernel
theorem d_M_areUnlike_98 : decode prog_14_method_72_code 98 = .ok (.iastore, 1) := by decide +kernel
theorem d_M_areUnlike_99 : decode prog_14_method_72_code 99 = .ok (.aload_n 0, 1) := by decide +kernel
theorem d_M_areUnlike_100 : decode prog_14_method_72_code 100 = .ok (.getfield 55, 3) := by decide +kernel
theorem d_M_areUnlike_103 : decode prog_14_method_72_code 103 = .ok (.iload 5, 2) := by decide +kernel
theorem d_M_areUnlike_105 : decode prog_14_method_72_code 105 = .ok (.iload 4, 2) := by decide +kernel
theorem d_M_areUnlike_107 : decode prog_14_method_72_code 107 = .ok (.iastore, 1) := by decide +kernel
theorem d_M_areUnlike_108 : decode prog_14_method_72_code 108 = .ok (.iinc 4 1, 3) := by decide +kernel
theorem d_M_areUnlike_111 : decode prog_14_method_72_code 111 = .ok (.goto (-83), 3) := by decide +kernel
theorem d_M_areUnlike_114 : decode prog_14_method_72_code 114 = .ok (.iconst 1, 1) := by decide +kernel
theorem d_M_areUnlike_115 : decode prog_14_method_72_code 115 = .ok (.ireturn, 1) := by decide +kernel
theorem d_M_sumOf_0 : decode prog_14_method_71_code 0 = .ok (.lconst 0, 1) := by decide +kernel
theorem d_M_sumOf_1 : decode prog_14_method_71_code 1 = .ok (.lstore 4, 2) := by decide +kernel
theorem d_M_sumOf_3 : decode prog_14_method_71_code 3 = .ok (.iconst 0, 1) := by decide +kernel
theorem d_M_sumOf_4 : decode prog_14_method_71_code 4 = .ok (.istore 6, 2) := by decide +kernel
theorem d_M_sumOf_6 : decode prog_14_method_71_code 6 = .ok (.iload 6, 2) := by decide +kernel
theorem d_M_sumOf_8 : decode prog_14_method_71_code 8 = .ok (.aload_n 0, 1) := by decide +kernel
theorem d_M_sumOf_9 : decode prog_14_method_71_code 9 = .ok (.iload_n 1, 1) := by decide +kernel
theorem d_M_sumOf_10 : decode prog_14_method_71_code 10 = .ok (.invokevirtual 172, 3) := by decide +kernel
theorem d_M_sumOf_13 : decode prog_14_method_71_code 13 = .ok (.if_icmp .ge 69, 3) := by decide +kernel
theorem d_M_sumOf_16 : decode prog_14_method_71_code 16 = .ok (.iload 6, 2) := by decide +kernel
theorem d_M_sumOf_18 : decode prog_14_method_71_code 18 = .ok (.iload_n 3, 1) := by decide +kernel
theorem d_M_sumOf_19 : decode prog_14_method_71_code 19 = .ok (.if_icmp .eq 15, 3) := by decide +kernel
theorem d_M_sumOf_22 : decode prog_14_method_71_code 22 = .ok (.aload_n 0, 1) := by decide +kernel
theorem d_M_sumOf_23 : decode prog_14_method_71_code 23 = .ok (.iload_n 1, 1) := by decide +kernel
theorem d_M_sumOf_24 : decode prog_14_method_71_code 24 = .ok (.iload 6, 2) := by decide +kernel
theorem d_M_sumOf_26 : decode prog_14_method_71_code 26 = .ok (.invokevirtual 179, 3) := by decide +kernel
theorem d_M_sumOf_29 : decode prog_14_method_71_code 29 = .ok (.bipush 9, 2) := by decide +kernel
theorem d_M_sumOf_31 : decode prog_14_method_71_code 31 = .ok (.if_icmp .ne 45, 3) := by decide +kernel
theorem d_M_sumOf_34 : decode prog_14_method_71_code 34 = .ok (.ldc2_w 288, 3) := by decide +kernel
theorem d_M_sumOf_37 : decode prog_14_method_71_code 37 = .ok (.lload 4, 2) := by decide +kernel
theorem d_M_sumOf_39 : decode prog_14_method_71_code 39 = .ok (.lmul, 1) := by decide +kernel
theorem d_M_sumOf_40 : decode prog_14_method_71_code 40 = .ok (.aload_n 0, 1) := by decide +kernel
theorem d_M_sumOf_41 : decode prog_14_method_71_code 41 = .ok (.getfield 46, 3) := by decide +kernel
theorem d_M_sumOf_44 : decode prog_14_method_71_code 44 = .ok (.bipush 24, 2) := by decide +kernel
theorem d_M_sumOf_46 : decode prog_14_method_71_code 46 = .ok (.iload_n 2, 1) := by decide +kernel
theorem d_M_sumOf_47 : decode prog_14_method_71_code 47 = .ok (.imul, 1) := by decide +kernel
theorem d_M_sumOf_48 : decode prog_14_method_71_code 48 = .ok (.iload 6, 2) := by decide +kernel
theorem d_M_sumOf_50 : decode prog_14_method_71_code 50 = .ok (.iadd, 1) := by decide +kernel
theorem d_M_sumOf_51 : decode prog_14_method_71_code 51 = .ok (.laload, 1) := by decide +kernel
theorem d_M_sumOf_52 : decode prog_14_method_71_code 52 = .ok (.ldc2_w 290, 3) := by decide +kernel
theorem d_M_sumOf_55 : decode prog_14_method_71_code 55 = .ok (.lmul, 1) := by decide +kernel
theorem d_M_sumOf_56 : decode prog_14_method_71_code 56 = .ok (.ladd, 1) := by decide +kernel
theorem d_M_sumOf_57 : decode prog_14_method_71_code 57 = .ok (.aload_n 0, 1) := by decide +kernel
theorem d_M_sumOf_58 : decode prog_14_method_71_code 58 = .ok (.getfield 49, 3) := by decide +kernel
theorem d_M_sumOf_61 : decode prog_14_method_71_code 61 = .ok (.bipush 24, 2) := by decide +kernel
theorem d_M_sumOf_63 : decode prog_14_method_71_code 63 = .ok (.iload_n 2, 1) := by decide +kernel
theorem d_M_sumOf_64 : decode prog_14_method_71_code 64 = .ok (.imul, 1) := by decide +kernel
theorem d_M_sumOf_65 : decode prog_14_method_71_code 65 = .ok (.iload 6, 2) := by decide +kernel
theorem d_M_sumOf_67 : decode prog_14_method_71_code 67 = .ok (.iadd, 1) := by decide +kernel
theorem d_M_sumOf_68 : decode prog_14_method_71_code 68 = .ok (.laload, 1) := by decide +kernel
theorem d_M_sumOf_69 : decode prog_14_method_71_code 69 = .ok (.ladd, 1) := by decide +kernel
theorem d_M_sumOf_70 : decode prog_14_method_71_code 70 = .ok (.ldc2_w 292, 3) := by decide +kernel
theorem d_M_sumOf_73 : decode prog_14_method_71_code 73 = .ok (.lrem, 1) := by decide +kernel
theorem d_M_sumOf_74 : decode prog_14_method_71_code 74 = .ok (.lstore 4, 2) := by decide +kernel
theorem d_M_sumOf_76 : decode prog_14_method_71_code 76 = .ok (.iinc 6 1, 3) := by decide +kernel
theorem d_M_sumOf_79 : decode prog_14_method_71_code 79 = .ok (.goto (-73), 3) := by decide +kernel
theorem d_M_sumOf_82 : decode prog_14_method_71_code 82 = .ok (.lload 4, 2) := by decide +kernel
theorem d_M_sumOf_84 : decode prog_14_method_71_code 84 = .ok (.ldc2_w 292, 3) := by decide +kernel
theorem d_M_sumOf_87 : decode prog_14_method_71_code 87 = .ok (.ladd, 1) := by decide +kernel
theorem d_M_sumOf_88 : decode prog_14_method_71_code 88 = .ok (.ldc2_w 294, 3) := by decide +kernel
theorem d_M_sumOf_91 : decode prog_14_method_71_code 91 = .ok (.lrem, 1) := by decide +kernel
theorem d_M_sumOf_92 : decode prog_14_method_71_code 92 = .ok (.l2i, 1) := by decide +kernel
theorem d_M_sumOf_93 : decode prog_14_method_71_code 93 = .ok (.ireturn, 1) := by decide +kernel
theorem d_M_isAlike_0 : decode prog_14_method_70_code 0 = .ok (.iconst 0, 1) := by decide +kernel
theorem d_M_isAlike_1 : decode prog_14_method_70_code 1 = .ok (.istore 5, 2) := by decide +kernel
theorem d_M_isAlike_3 : decode prog_14_method_70_code 3 = .ok (.iload 5, 2) := by decide +kernel
theorem d_M_isAlike_5 : decode prog_14_method_70_code 5 = .ok (.aload_n 0, 1) := by decide +kernel
theorem d_M_isAlike_6 : decode prog_14_method_70_code 6 = .ok (.iload_n 1, 1) := by decide +kernel
theorem d_M_isAlike_7 : decode prog_14_method_70_code 7 = .ok (.invokevirtual 172, 3) := by decide +kernel
theorem d_M_isAlike_10 : decode prog_14_method_70_code 10 = .ok (.if_icmp .ge 89, 3) := by decide +kernel
theorem d_M_isAlike_13 : decode prog_14_method_70_code 13 = .ok (.iload 5, 2) := by decide +kernel
theorem d_M_isAlike_15 : decode prog_14_method_70_code 15 = .ok (.iload 4, 2) := by decide +kernel
theorem d_M_isAlike_17 : decode prog_14_method_70_code 17 = .ok (.if_icmp .eq 18, 3) := by decide +kernel
theorem d_M_isAlike_20 : decode prog_14_method_70_code 20 = .ok (.aload_n 0, 1) := by decide +kernel
theorem d_M_isAlike_21 : decode prog_14_method_70_code 21 = .ok (.iload_n 1, 1) := by decide +kernel
theorem d_M_isAlike_22 : decode prog_14_method_70_code 22 = .ok (.iload 5, 2) := by decide +kernel
theorem d_M_isAlike_24 : decode prog_14_method_70_code 24 = .ok (.invokevirtual 179, 3) := by decide +kernel
theorem d_M_isAlike_27 : decode prog_14_method_70_code 27 = .ok (.bipush 9, 2) := by decide +kernel
theorem d_M_isAlike_29 : decode prog_14_method_70_code 29 = .ok (.if_icmp .eq 6, 3) := by decide +kernel
theorem d_M_isAlike_32 : decode prog_14_method_70_code 32 = .ok (.goto 61, 3) := by decide +kernel
theorem d_M_isAlike_35 : decode prog_14_method_70_code 35 = .ok (.aload_n 0, 1) := by decide +kernel
theorem d_M_isAlike_36 : decode prog_14_method_70_code 36 = .ok (.getfield 46, 3) := by decide +kernel
theorem d_M_isAlike_39 : decode prog_14_method_70_code 39 = .ok (.bipush 24, 2) := by decide +kernel
theorem d_M_isAlike_41 : decode prog_14_method_70_code 41 = .ok (.iload_n 2, 1) := by decide +kernel
theorem d_M_isAlike_42 : decode prog_14_method_70_code 42 = .ok (.imul, 1) := by decide +kernel
theorem d_M_isAlike_43 : decode prog_14_method_70_code 43 = .ok (.iload 5, 2) := by decide +kernel
theorem d_M_isAlike_45 : decode prog_14_method_70_code 45 = .ok (.iadd, 1) := by decide +kernel
theorem d_M_isAlike_46 : decode prog_14_method_70_code 46 = .ok (.laload, 1) := by decide +kernel
theorem d_M_isAlike_47 : decode prog_14_method_70_code 47 = .ok (.aload_n 0, 1) := by decide +kernel
theorem d_M_isAlike_48 : decode prog_14_method_70_code 48 = .ok (.getfield 46, 3) := by decide +kernel
theorem d_M_isAlike_51 : decode prog_14_method_70_code 51 = .ok (.bipush 24, 2) := by decide +kernel
theorem d_M_isAlike_53 : decode prog_14_method_70_code 53 = .ok (.iload_n 3, 1) := by decide +kernel
theorem d_M_isAlike_54 : decode prog_14_method_70_code 54 = .ok (.imul, 1) := by decide +kernel
theorem d_M_isAlike_55 : decode prog_14_method_70_code 55 = .ok (.iload 5, 2) := by decide +kernel
theorem d_M_isAlike_57 : decode prog_14_method_70_code 57 = .ok (.iadd, 1) := by decide +kernel
theorem d_M_isAlike_58 : decode prog_14_method_70_code 58 = .ok (.laload, 1) := by decide +kernel
theorem d_M_isAlike_59 : decode prog_14_method_70_code 59 = .ok (.lcmp, 1) := by decide +kernel
theorem d_M_isAlike_60 : decode prog_14_method_70_code 60 = .ok (.ifCond .ne 31, 3) := by decide +kernel
theorem d_M_isAlike_63 : decode prog_14_method_70_code 63 = .ok (.aload_n 0, 1) := by decide +kernel
theorem d_M_isAlike_64 : decode prog_14_method_70_code 64 = .ok (.getfield 49, 3) := by decide +kernel
theorem d_M_isAlike_67 : decode prog_14_method_70_code 67 = .ok (.bipush 24, 2) := by decide +kernel
theorem d_M_isAlike_69 : decode prog_14_method_70_code 69 = .ok (.iload_n 2, 1) := by decide +kernel
theorem d_M_isAlike_70 : decode prog_14_method_70_code 70 = .ok (.imul, 1) := by decide +kernel
theorem d_M_isAlike_71 : decode prog_14_method_70_code 71 = .ok (.iload 5, 2) := by decide +kernel
theorem d_M_isAlike_73 : decode prog_14_method_70_code 73 = .ok (.iadd, 1) := by decide +kernel
theorem d_M_isAlike_74 : decode prog_14_method_70_code 74 = .ok (.laload, 1) := by decide +kernel
theorem d_M_isAlike_75 : decode prog_14_method_70_code 75 = .ok (.aload_n 0, 1) := by decide +kernel
theorem d_M_isAlike_76 : decode prog_14_method_70_code 76 = .ok (.getfield 49, 3) := by decide +kernel
theorem d_M_isAlike_79 : decode prog_14_method_70_code 79 = .ok (.bipush 24, 2) := by decide +kernel
theorem d_M_isAlike_81 : decode prog_14_method_70_code 81 = .ok (.iload_n 3, 1) := by decide +kernel
theorem d_M_isAlike_82 : decode prog_14_method_70_code 82 = .ok (.imul, 1) := by decide +kernel
theorem d_M_isAlike_83 : decode prog_14_method_70_code 83 = .ok (.iload 5, 2) := by decide +kernel
theorem d_M_isAlike_85 : decode prog_14_method_70_code 85 = .ok (.iadd, 1) := by decide +kernel
theorem d_M_isAlike_86 : decode prog_14_method_70_code 86 = .ok (.laload, 1) := by decide +kernel
theorem d_M_isAlike_87 : decode prog_14_method_70_code 87 = .ok (.lcmp, 1) := by decide +kernel
theorem d_M_isAlike_88 : decode prog_14_method_70_code 88 = .ok (.ifCond .eq 5, 3) := by decide +kernel
theorem d_M_isAlike_91 : decode prog_14_method_70_code 91 = .ok (.iconst 0, 1) := by decide +kernel
theorem d_M_isAlike_92 : decode prog_14_method_70_code 92 = .ok (.ireturn, 1) := by decide +kernel
theorem d_M_isAlike_93 : decode prog_14_method_70_code 93 = .ok (.iinc 5 1, 3) := by decide +kernel
theorem d_M_isAlike_96 : decode prog_14_method_70_code 96 = .ok (.goto (-93), 3) := by decide +kernel
theorem d_M_isAlike_99 : decode prog_14_method_70_code 99 = .ok (.iconst 1, 1) := by decide +kernel
theorem d_M_isAlike_100 : decode prog_14_method_70_code 100 = .ok (.ireturn, 1) := by decide +kernel
theorem d_M_kit_0 : decode prog_14_method_74_code 0 = .ok (.iload_n 1, 1) := by decide +kernel
theorem d_M_kit_1 : decode prog_14_method_74_code 1 = .ok (.iconst (-1), 1) := by decide +kernel
theorem d_M_kit_2 : decode prog_14_method_74_code 2 = .ok (.if_icmp .ne 13, 3) := by decide +kernel
theorem d_M_kit_5 : decode prog_14_method_74_code 5 = .ok (.aload_n 0, 1) := by decide +kernel
theorem d_M_kit_6 : decode prog_14_method_74_code 6 = .ok (.getfield 7, 3) := by decide +kernel
theorem d_M_kit_9 : decode prog_14_method_74_code 9 = .ok (.bipush 6, 2) := by decide +kernel
theorem d_M_kit_11 : decode prog_14_method_74_code 11 = .ok (.iconst 0, 1) := by decide +kernel
theorem d_M_kit_12 : decode prog_14_method_74_code 12 = .ok (.iastore, 1) := by decide +kernel
theorem d_M_kit_13 : decode prog_14_method_74_code 13 = .ok (.iconst 0, 1) := by decide +kernel
theorem d_M_kit_14 : decode prog_14_method_74_code 14 = .ok (.ireturn, 1) := by decide +kernel
theorem d_M_kit_15 : decode prog_14_method_74_code 15 = .ok (.iload_n 1, 1) := by decide +kernel
theorem d_M_kit_16 : decode prog_14_method_74_code 16 = .ok (.bipush 6, 2) := by decide +kernel
theorem d_M_kit_18 : decode prog_14_method_74_code 18 = .ok (.if_icmp .eq 9, 3) := by decide +kernel
theorem d_M_kit_21 : decode prog_14_method_74_code 21 = .ok (.iload_n 1, 1) := by decide +kernel
theorem d_M_kit_22 : decode prog_14_method_74_code 22 = .ok (.bipush 7, 2) := by decide +kernel
theorem d_M_kit_24 : decode prog_14_method_74_code 24 = .ok (.if_icmp .ne 7, 3) := by decide +kernel
theorem d_M_kit_27 : decode prog_14_method_74_code 27 = .ok (.iconst 1, 1) := by decide +kernel
theorem d_M_kit_28 : decode prog_14_method_74_code 28 = .ok (.goto 4, 3) := by decide +kernel
theorem d_M_kit_31 : decode prog_14_method_74_code 31 = .ok (.iconst 0, 1) := by decide +kernel
theorem d_M_kit_32 : decode prog_14_method_74_code 32 = .ok (.istore_n 3, 1) := by decide +kernel
theorem d_M_kit_33 : decode prog_14_method_74_code 33 = .ok (.iload_n 1, 1) := by decide +kernel
theorem d_M_kit_34 : decode prog_14_method_74_code 34 = .ok (.iconst 0, 1) := by decide +kernel
theorem d_M_kit_35 : decode prog_14_method_74_code 35 = .ok (.bipush 7, 2) := by decide +kernel
theorem d_M_kit_37 : decode prog_14_method_74_code 37 = .ok (.invokestatic 68, 3) := by decide +kernel
theorem d_M_kit_40 : decode prog_14_method_74_code 40 = .ok (.ifCond .eq 30, 3) := by decide +kernel
theorem d_M_kit_43 : decode prog_14_method_74_code 43 = .ok (.iload_n 3, 1) := by decide +kernel
theorem d_M_kit_44 : decode prog_14_method_74_code 44 = .ok (.ifCond .ne 14, 3) := by decide +kernel
theorem d_M_kit_47 : decode prog_14_method_74_code 47 = .ok (.iload_n 2, 1) := by decide +kernel
theorem d_M_kit_48 : decode prog_14_method_74_code 48 = .ok (.iconst (-1), 1) := by decide +kernel
theorem d_M_kit_49 : decode prog_14_method_74_code 49 = .ok (.sipush 9999, 3) := by decide +kernel
theorem d_M_kit_52 : decode prog_14_method_74_code 52 = .ok (.invokestatic 68, 3) := by decide +kernel
theorem d_M_kit_55 : decode prog_14_method_74_code 55 = .ok (.ifCond .eq 15, 3) := by decide +kernel
theorem d_M_kit_58 : decode prog_14_method_74_code 58 = .ok (.aload_n 0, 1) := by decide +kernel
theorem d_M_kit_59 : decode prog_14_method_74_code 59 = .ok (.getfield 7, 3) := by decide +kernel
theorem d_M_kit_62 : decode prog_14_method_74_code 62 = .ok (.bipush 6, 2) := by decide +kernel
theorem d_M_kit_64 : decode prog_14_method_74_code 64 = .ok (.iaload, 1) := by decide +kernel
theorem d_M_kit_65 : decode prog_14_method_74_code 65 = .ok (.bipush 6, 2) := by decide +kernel
theorem d_M_kit_67 : decode prog_14_method_74_code 67 = .ok (.if_icmp .ne 5, 3) := by decide +kernel
theorem d_M_kit_70 : decode prog_14_method_74_code 70 = .ok (.iconst (-1), 1) := by decide +kernel
theorem d_M_kit_71 : decode prog_14_method_74_code 71 = .ok (.ireturn, 1) := by decide +kernel
theorem d_M_kit_72 : decode prog_14_method_74_code 72 = .ok (.aload_n 0, 1) := by decide +kernel
theorem d_M_kit_73 : decode prog_14_method_74_code 73 = .ok (.getfield 7, 3) := by decide +kernel
theorem d_M_kit_76 : decode prog_14_method_74_code 76 = .ok (.bipush 12, 2) := by decide +kernel
theorem d_M_kit_78 : decode prog_14_method_74_code 78 = .ok (.iconst 2, 1) := by decide +kernel
theorem d_M_kit_79 : decode prog_14_method_74_code 79 = .ok (.aload_n 0, 1) := by decide +kernel
theorem d_M_kit_80 : decode prog_14_method_74_code 80 = .ok (.getfield 7, 3) := by decide +kernel
theorem d_M_kit_83 : decode prog_14_method_74_code 83 = .ok (.bipush 6, 2) := by decide +kernel
theorem d_M_kit_85 : decode prog_14_method_74_code 85 = .ok (.iaload, 1) := by decide +kernel
theorem d_M_kit_86 : decode prog_14_method_74_code 86 = .ok (.imul, 1) := by decide +kernel
theorem d_M_kit_87 : decode prog_14_method_74_code 87 = .ok (.iadd, 1) := by decide +kernel
theorem d_M_kit_88 : decode prog_14_method_74_code 88 = .ok (.iload_n 1, 1) := by decide +kernel
theorem d_M_kit_89 : decode prog_14_method_74_code 89 = .ok (.iastore, 1) := by decide +kernel
theorem d_M_kit_90 : decode prog_14_method_74_code 90 = .ok (.aload_n 0, 1) := by decide +kernel
theorem d_M_kit_91 : decode prog_14_method_74_code 91 = .ok (.getfield 7, 3) := by decide +kernel
theorem d_M_kit_94 : decode prog_14_method_74_code 94 = .ok (.bipush 12, 2) := by decide +kernel
theorem d_M_kit_96 : decode prog_14_method_74_code 96 = .ok (.iconst 2, 1) := by decide +kernel
theorem d_M_kit_97 : decode prog_14_method_74_code 97 = .ok (.aload_n 0, 1) := by decide +kernel
theorem d_M_kit_98 : decode prog_14_method_74_code 98 = .ok (.getfield 7, 3) := by decide +kernel
theorem d_M_kit_101 : decode prog_14_method_74_code 101 = .ok (.bipush 6, 2) := by decide +kernel
theorem d_M_kit_103 : decode prog_14_method_74_code 103 = .ok (.iaload, 1) := by decide +kernel
theorem d_M_kit_104 : decode prog_14_method_74_code 104 = .ok (.imul, 1) := by decide +kernel
theorem d_M_kit_105 : decode prog_14_method_74_code 105 = .ok (.iadd, 1) := by decide +kernel
theorem d_M_kit_106 : decode prog_14_method_74_code 106 = .ok (.iconst 1, 1) := by decide +kernel
theorem d_M_kit_107 : decode prog_14_method_74_code 107 = .ok (.iadd, 1) := by decide +kernel
theorem d_M_kit_108 : decode prog_14_method_74_code 108 = .ok (.iload_n 3, 1) := by decide +kernel
theorem d_M_kit_109 : decode prog_14_method_74_code 109 = .ok (.ifCond .eq 7, 3) := by decide +kernel
theorem d_M_kit_112 : decode prog_14_method_74_code 112 = .ok (.iconst 0, 1) := by decide +kernel
theorem d_M_kit_113 : decode prog_14_method_74_code 113 = .ok (.goto 15, 3) := by decide +kernel
theorem d_M_kit_116 : decode prog_14_method_74_code 116 = .ok (.iload_n 2, 1) := by decide +kernel
theorem d_M_kit_117 : decode prog_14_method_74_code 117 = .ok (.iconst (-1), 1) := by decide +kernel
theorem d_M_kit_118 : decode prog_14_method_74_code 118 = .ok (.if_icmp .ne 9, 3) := by decide +kernel
theorem d_M_kit_121 : decode prog_14_method_74_code 121 = .ok (.sipush 10000, 3) := by decide +kernel
theorem d_M_kit_124 : decode prog_14_method_74_code 124 = .ok (.goto 4, 3) := by decide +kernel
theorem d_M_kit_127 : decode prog_14_method_74_code 127 = .ok (.iload_n 2, 1) := by decide +kernel
theorem d_M_kit_128 : decode prog_14_method_74_code 128 = .ok (.iastore, 1) := by decide +kernel
theorem d_M_kit_129 : decode prog_14_method_74_code 129 = .ok (.aload_n 0, 1) := by decide +kernel
theorem d_M_kit_130 : decode prog_14_method_74_code 130 = .ok (.getfield 7, 3) := by decide +kernel
theorem d_M_kit_133 : decode prog_14_method_74_code 133 = .ok (.bipush 6, 2) := by decide +kernel
theorem d_M_kit_135 : decode prog_14_method_74_code 135 = .ok (.dup2, 1) := by decide +kernel
theorem d_M_kit_136 : decode prog_14_method_74_code 136 = .ok (.iaload, 1) := by decide +kernel
theorem d_M_kit_137 : decode prog_14_method_74_code 137 = .ok (.iconst 1, 1) := by decide +kernel
theorem d_M_kit_138 : decode prog_14_method_74_code 138 = .ok (.iadd, 1) := by decide +kernel
theorem d_M_kit_139 : decode prog_14_method_74_code 139 = .ok (.iastore, 1) := by decide +kernel
theorem d_M_kit_140 : decode prog_14_method_74_code 140 = .ok (.aload_n 0, 1) := by decide +kernel
theorem d_M_kit_141 : decode prog_14_method_74_code 141 = .ok (.getfield 7, 3) := by decide +kernel
theorem d_M_kit_144 : decode prog_14_method_74_code 144 = .ok (.bipush 6, 2) := by decide +kernel
theorem d_M_kit_146 : decode prog_14_method_74_code 146 = .ok (.iaload, 1) := by decide +kernel
theorem d_M_kit_147 : decode prog_14_method_74_code 147 = .ok (.ireturn, 1) := by decide +kernel
theorem d_M_made_0 : decode prog_14_method_78_code 0 = .ok (.iload_n 1, 1) := by decide +kernel
theorem d_M_made_1 : decode prog_14_method_78_code 1 = .ok (.iconst 0, 1) := by decide +kernel
theorem d_M_made_2 : decode prog_14_method_78_code 2 = .ok (.sipush 9999, 3) := by decide +kernel
theorem d_M_made_5 : decode prog_14_method_78_code 5 = .ok (.invokestatic 68, 3) := by decide +kernel
theorem d_M_made_8 : decode prog_14_method_78_code 8 = .ok (.ifCond .eq 49, 3) := by decide +kernel
theorem d_M_made_11 : decode prog_14_method_78_code 11 = .ok (.iload_n 2, 1) := by decide +kernel
theorem d_M_made_12 : decode prog_14_method_78_code 12 = .ok (.iload_n 1, 1) := by decide +kernel
theorem d_M_made_13 : decode prog_14_method_78_code 13 = .ok (.sipush 9999, 3) := by decide +kernel
theorem d_M_made_16 : decode prog_14_method_78_code 16 = .ok (.invokestatic 68, 3) := by decide +kernel
theorem d_M_made_19 : decode prog_14_method_78_code 19 = .ok (.ifCond .eq 38, 3) := by decide +kernel
theorem d_M_made_22 : decode prog_14_method_78_code 22 = .ok (.iload_n 2, 1) := by decide +kernel
theorem d_M_made_23 : decode prog_14_method_78_code 23 = .ok (.iload_n 1, 1) := by decide +kernel
theorem d_M_made_24 : decode prog_14_method_78_code 24 = .ok (.isub, 1) := by decide +kernel
theorem d_M_made_25 : decode prog_14_method_78_code 25 = .ok (.bipush 99, 2) := by decide +kernel
theorem d_M_made_27 : decode prog_14_method_78_code 27 = .ok (.if_icmp .gt 30, 3) := by decide +kernel
theorem d_M_made_30 : decode prog_14_method_78_code 30 = .ok (.iload_n 3, 1) := by decide +kernel
theorem d_M_made_31 : decode prog_14_method_78_code 31 = .ok (.iconst 0, 1) := by decide +kernel
theorem d_M_made_32 : decode prog_14_method_78_code 32 = .ok (.sipush 9999, 3) := by decide +kernel
theorem d_M_made_35 : decode prog_14_method_78_code 35 = .ok (.invokestatic 68, 3) := by decide +kernel
theorem d_M_made_38 : decode prog_14_method_78_code 38 = .ok (.ifCond .eq 19, 3) := by decide +kernel
theorem d_M_made_41 : decode prog_14_method_78_code 41 = .ok (.iload 4, 2) := by decide +kernel
theorem d_M_made_43 : decode prog_14_method_78_code 43 = .ok (.iconst 1, 1) := by decide +kernel
theorem d_M_made_44 : decode prog_14_method_78_code 44 = .ok (.iconst 5, 1) := by decide +kernel
theorem d_M_made_45 : decode prog_14_method_78_code 45 = .ok (.invokestatic 68, 3) := by decide +kernel
theorem d_M_made_48 : decode prog_14_method_78_code 48 = .ok (.ifCond .eq 9, 3) := by decide +kernel
theorem d_M_made_51 : decode prog_14_method_78_code 51 = .ok (.iload 5, 2) := by decide +kernel
theorem d_M_made_53 : decode prog_14_method_78_code 53 = .ok (.iconst (-1), 1) := by decide +kernel
theorem d_M_made_54 : decode prog_14_method_78_code 54 = .ok (.if_icmp .ge 6, 3) := by decide +kernel
theorem d_M_made_57 : decode prog_14_method_78_code 57 = .ok (.bipush (-2), 2) := by decide +kernel
theorem d_M_made_59 : decode prog_14_method_78_code 59 = .ok (.ireturn, 1) := by decide +kernel
theorem d_M_made_60 : decode prog_14_method_78_code 60 = .ok (.iload_n 1, 1) := by decide +kernel
theorem d_M_made_61 : decode prog_14_method_78_code 61 = .ok (.iload_n 2, 1) := by decide +kernel
theorem d_M_made_62 : decode prog_14_method_78_code 62 = .ok (.if_icmp .ne 21, 3) := by decide +kernel
theorem d_M_made_65 : decode prog_14_method_78_code 65 = .ok (.iload_n 1, 1) := by decide +kernel
theorem d_M_made_66 : decode prog_14_method_78_code 66 = .ok (.iload_n 3, 1) := by decide +kernel
theorem d_M_made_67 : decode prog_14_method_78_code 67 = .ok (.if_icmp .ne 16, 3) := by decide +kernel
theorem d_M_made_70 : decode prog_14_method_78_code 70 = .ok (.iload 5, 2) := by decide +kernel
theorem d_M_made_72 : decode prog_14_method_78_code 72 = .ok (.iconst (-1), 1) := by decide +kernel
theorem d_M_made_73 : decode prog_14_method_78_code 73 = .ok (.if_icmp .ne 7, 3) := by decide +kernel
theorem d_M_made_76 : decode prog_14_method_78_code 76 = .ok (.iconst 0, 1) := by decide +kernel
theorem d_M_made_77 : decode prog_14_method_78_code 77 = .ok (.goto 5, 3) := by decide +kernel
theorem d_M_made_80 : decode prog_14_method_78_code 80 = .ok (.bipush (-2), 2) := by decide +kernel
theorem d_M_made_82 : decode prog_14_method_78_code 82 = .ok (.ireturn, 1) := by decide +kernel
theorem d_M_made_83 : decode prog_14_method_78_code 83 = .ok (.iconst 1, 1) := by decide +kernel
theorem d_M_made_84 : decode prog_14_method_78_code 84 = .ok (.istore 6, 2) := by decide +kernel
theorem d_M_made_86 : decode prog_14_method_78_code 86 = .ok (.iload 6, 2) := by decide +kernel
theorem d_M_made_88 : decode prog_14_method_78_code 88 = .ok (.iload 4, 2) := by decide +kernel
theorem d_M_made_90 : decode prog_14_method_78_code 90 = .ok (.if_icmp .gt 52, 3) := by decide +kernel
theorem d_M_made_93 : decode prog_14_method_78_code 93 = .ok (.aload_n 0, 1) := by decide +kernel
theorem d_M_made_94 : decode prog_14_method_78_code 94 = .ok (.iload_n 1, 1) := by decide +kernel
theorem d_M_made_95 : decode prog_14_method_78_code 95 = .ok (.iload_n 2, 1) := by decide +kernel
theorem d_M_made_96 : decode prog_14_method_78_code 96 = .ok (.iload_n 3, 1) := by decide +kernel
theorem d_M_made_97 : decode prog_14_method_78_code 97 = .ok (.iload 6, 2) := by decide +kernel
theorem d_M_made_99 : decode prog_14_method_78_code 99 = .ok (.invokevirtual 315, 3) := by decide +kernel
theorem d_M_made_102 : decode prog_14_method_78_code 102 = .ok (.ifCond .eq 34, 3) := by decide +kernel
theorem d_M_made_105 : decode prog_14_method_78_code 105 = .ok (.iload 5, 2) := by decide +kernel
theorem d_M_made_107 : decode prog_14_method_78_code 107 = .ok (.iconst (-1), 1) := by decide +kernel
theorem d_M_made_108 : decode prog_14_method_78_code 108 = .ok (.if_icmp .ne 8, 3) := by decide +kernel
theorem d_M_made_111 : decode prog_14_method_78_code 111 = .ok (.iload 6, 2) := by decide +kernel
theorem d_M_made_113 : decode prog_14_method_78_code 113 = .ok (.goto 22, 3) := by decide +kernel
theorem d_M_made_116 : decode prog_14_method_78_code 116 = .ok (.iload 5, 2) := by decide +kernel
theorem d_M_made_118 : decode prog_14_method_78_code 118 = .ok (.iload 6, 2) := by decide +kernel
theorem d_M_made_120 : decode prog_14_method_78_code 120 = .ok (.if_icmp .ge 13, 3) := by decide +kernel
theorem d_M_made_123 : decode prog_14_method_78_code 123 = .ok (.aload_n 0, 1) := by decide +kernel
theorem d_M_made_124 : decode prog_14_method_78_code 124 = .ok (.getfield 58, 3) := by decide +kernel
theorem d_M_made_127 : decode prog_14_method_78_code 127 = .ok (.iload 5, 2) := by decide +kernel
theorem d_M_made_129 : decode prog_14_method_78_code 129 = .ok (.iaload, 1) := by decide +kernel
theorem d_M_made_130 : decode prog_14_method_78_code 130 = .ok (.goto 5, 3) := by decide +kernel
theorem d_M_made_133 : decode prog_14_method_78_code 133 = .ok (.bipush (-2), 2) := by decide +kernel
theorem d_M_made_135 : decode prog_14_method_78_code 135 = .ok (.ireturn, 1) := by decide +kernel
theorem d_M_made_136 : decode prog_14_method_78_code 136 = .ok (.iinc 6 1, 3) := by decide +kernel
theorem d_M_made_139 : decode prog_14_method_78_code 139 = .ok (.goto (-53), 3) := by decide +kernel
theorem d_M_made_142 : decode prog_14_method_78_code 142 = .ok (.bipush (-2), 2) := by decide +kernel
theorem d_M_made_144 : decode prog_14_method_78_code 144 = .ok (.ireturn, 1) := by decide +kernel
theorem d_M_isMade_0 : decode prog_14_method_77_code 0 = .ok (.iconst 1, 1) := by decide +kernel
theorem d_M_isMade_1 : decode prog_14_method_77_code 1 = .ok (.istore 5, 2) := by decide +kernel
theorem d_M_isMade_3 : decode prog_14_method_77_code 3 = .ok (.iconst 0, 1) := by decide +kernel
theorem d_M_isMade_4 : decode prog_14_method_77_code 4 = .ok (.istore 6, 2) := by decide +kernel
theorem d_M_isMade_6 : decode prog_14_method_77_code 6 = .ok (.iload 6, 2) := by decide +kernel
theorem d_M_isMade_8 : decode prog_14_method_77_code 8 = .ok (.iload 4, 2) := by decide +kernel
theorem d_M_isMade_10 : decode prog_14_method_77_code 10 = .ok (.if_icmp .ge 21, 3) := by decide +kernel
theorem d_M_isMade_13 : decode prog_14_method_77_code 13 = .ok (.iload 5, 2) := by decide +kernel
theorem d_M_isMade_15 : decode prog_14_method_77_code 15 = .ok (.aload_n 0, 1) := by decide +kernel
theorem d_M_isMade_16 : decode prog_14_method_77_code 16 = .ok (.getfield 7, 3) := by decide +kernel
theorem d_M_isMade_19 : decode prog_14_method_77_code 19 = .ok (.bipush 6, 2) := by decide +kernel
theorem d_M_isMade_21 : decode prog_14_method_77_code 21 = .ok (.iaload, 1) := by decide +kernel
theorem d_M_isMade_22 : decode prog_14_method_77_code 22 = .ok (.imul, 1) := by decide +kernel
theorem d_M_isMade_23 : decode prog_14_method_77_code 23 = .ok (.istore 5, 2) := by decide +kernel
theorem d_M_isMade_25 : decode prog_14_method_77_code 25 = .ok (.iinc 6 1, 3) := by decide +kernel
theorem d_M_isMade_28 : decode prog_14_method_77_code 28 = .ok (.goto (-22), 3) := by decide +kernel
theorem d_M_isMade_31 : decode prog_14_method_77_code 31 = .ok (.iconst 0, 1) := by decide +kernel
theorem d_M_isMade_32 : decode prog_14_method_77_code 32 = .ok (.istore 6, 2) := by decide +kernel
theorem d_M_isMade_34 : decode prog_14_method_77_code 34 = .ok (.iload 6, 2) := by decide +kernel
theorem d_M_isMade_36 : decode prog_14_method_77_code 36 = .ok (.iload 5, 2) := by decide +kernel
theorem d_M_isMade_38 : decode prog_14_method_77_code 38 = .ok (.if_icmp .ge 73, 3) := by decide +kernel
theorem d_M_isMade_41 : decode prog_14_method_77_code 41 = .ok (.iload 6, 2) := by decide +kernel
theorem d_M_isMade_43 : decode prog_14_method_77_code 43 = .ok (.istore 7, 2) := by decide +kernel
theorem d_M_isMade_45 : decode prog_14_method_77_code 45 = .ok (.iload 4, 2) := by decide +kernel
theorem d_M_isMade_47 : decode prog_14_method_77_code 47 = .ok (.iconst 1, 1) := by decide +kernel
theorem d_M_isMade_48 : decode prog_14_method_77_code 48 = .ok (.isub, 1) := by decide +kernel
theorem d_M_isMade_49 : decode prog_14_method_77_code 49 = .ok (.istore 8, 2) := by decide +kernel
theorem d_M_isMade_51 : decode prog_14_method_77_code 51 = .ok (.iload 8, 2) := by decide +kernel
theorem d_M_isMade_53 : decode prog_14_method_77_code 53 = .ok (.ifCond .lt 38, 3) := by decide +kernel
theorem d_M_isMade_56 : decode prog_14_method_77_code 56 = .ok (.aload_n 0, 1) := by decide +kernel
theorem d_M_isMade_57 : decode prog_14_method_77_code 57 = .ok (.getfield 58, 3) := by decide +kernel
theorem d_M_isMade_60 : decode prog_14_method_77_code 60 = .ok (.iload 8, 2) := by decide +kernel
theorem d_M_isMade_62 : decode prog_14_method_77_code 62 = .ok (.iload 7, 2) := by decide +kernel
theorem d_M_isMade_64 : decode prog_14_method_77_code 64 = .ok (.aload_n 0, 1) := by decide +kernel
theorem d_M_isMade_65 : decode prog_14_method_77_code 65 = .ok (.getfield 7, 3) := by decide +kernel
theorem d_M_isMade_68 : decode prog_14_method_77_code 68 = .ok (.bipush 6, 2) := by decide +kernel
theorem d_M_isMade_70 : decode prog_14_method_77_code 70 = .ok (.iaload, 1) := by decide +kernel
theorem d_M_isMade_71 : decode prog_14_method_77_code 71 = .ok (.irem, 1) := by decide +kernel
theorem d_M_isMade_72 : decode prog_14_method_77_code 72 = .ok (.iastore, 1) := by decide +kernel
theorem d_M_isMade_73 : decode prog_14_method_77_code 73 = .ok (.iload 7, 2) := by decide +kernel
theorem d_M_isMade_75 : decode prog_14_method_77_code 75 = .ok (.aload_n 0, 1) := by decide +kernel
theorem d_M_isMade_76 : decode prog_14_method_77_code 76 = .ok (.getfield 7, 3) := by decide +kernel
theorem d_M_isMade_79 : decode prog_14_method_77_code 79 = .ok (.bipush 6, 2) := by decide +kernel
theorem d_M_isMade_81 : decode prog_14_method_77_code 81 = .ok (.iaload, 1) := by decide +kernel
theorem d_M_isMade_82 : decode prog_14_method_77_code 82 = .ok (.idiv, 1) := by decide +kernel
theorem d_M_isMade_83 : decode prog_14_method_77_code 83 = .ok (.istore 7, 2) := by decide +kernel
theorem d_M_isMade_85 : decode prog_14_method_77_code 85 = .ok (.iinc 8 (-1), 3) := by decide +kernel
theorem d_M_isMade_88 : decode prog_14_method_77_code 88 = .ok (.goto (-37), 3) := by decide +kernel
theorem d_M_isMade_91 : decode prog_14_method_77_code 91 = .ok (.aload_n 0, 1) := by decide +kernel
theorem d_M_isMade_92 : decode prog_14_method_77_code 92 = .ok (.iload_n 1, 1) := by decide +kernel
theorem d_M_isMade_93 : decode prog_14_method_77_code 93 = .ok (.iload_n 2, 1) := by decide +kernel
theorem d_M_isMade_94 : decode prog_14_method_77_code 94 = .ok (.iload_n 3, 1) := by decide +kernel
theorem d_M_isMade_95 : decode prog_14_method_77_code 95 = .ok (.iload 4, 2) := by decide +kernel
theorem d_M_isMade_97 : decode prog_14_method_77_code 97 = .ok (.invokevirtual 312, 3) := by decide +kernel
theorem d_M_isMade_100 : decode prog_14_method_77_code 100 = .ok (.ifCond .eq 5, 3) := by decide +kernel
theorem d_M_isMade_103 : decode prog_14_method_77_code 103 = .ok (.iconst 1, 1) := by decide +kernel
theorem d_M_isMade_104 : decode prog_14_method_77_code 104 = .ok (.ireturn, 1) := by decide +kernel
theorem d_M_isMade_105 : decode prog_14_method_77_code 105 = .ok (.iinc 6 1, 3) := by decide +kernel
theorem d_M_isMade_108 : decode prog_14_method_77_code 108 = .ok (.goto (-74), 3) := by decide +kernel
theorem d_M_isMade_111 : decode prog_14_method_77_code 111 = .ok (.iconst 0, 1) := by decide +kernel
theorem d_M_isMade_112 : decode prog_14_method_77_code 112 = .ok (.ireturn, 1) := by decide +kernel
theorem d_M_leadsAll_0 : decode prog_14_method_76_code 0 = .ok (.iload_n 1, 1) := by decide +kernel
theorem d_M_leadsAll_1 : decode prog_14_method_76_code 1 = .ok (.istore 5, 2) := by decide +kernel
theorem d_M_leadsAll_3 : decode prog_14_method_76_code 3 = .ok (.iload 5, 2) := by decide +kernel
theorem d_M_leadsAll_5 : decode prog_14_method_76_code 5 = .ok (.iload_n 2, 1) := by decide +kernel
theorem d_M_leadsAll_6 : decode prog_14_method_76_code 6 = .ok (.if_icmp .gt 23, 3) := by decide +kernel
theorem d_M_leadsAll_9 : decode prog_14_method_76_code 9 = .ok (.aload_n 0, 1) := by decide +kernel
theorem d_M_leadsAll_10 : decode prog_14_method_76_code 10 = .ok (.iload 5, 2) := by decide +kernel
theorem d_M_leadsAll_12 : decode prog_14_method_76_code 12 = .ok (.iload_n 3, 1) := by decide +kernel
theorem d_M_leadsAll_13 : decode prog_14_method_76_code 13 = .ok (.iload 4, 2) := by decide +kernel
theorem d_M_leadsAll_15 : decode prog_14_method_76_code 15 = .ok (.invokevirtual 309, 3) := by decide +kernel
theorem d_M_leadsAll_18 : decode prog_14_method_76_code 18 = .ok (.ifCond .ne 5, 3) := by decide +kernel
theorem d_M_leadsAll_21 : decode prog_14_method_76_code 21 = .ok (.iconst 0, 1) := by decide +kernel
theorem d_M_leadsAll_22 : decode prog_14_method_76_code 22 = .ok (.ireturn, 1) := by decide +kernel
theorem d_M_leadsAll_23 : decode prog_14_method_76_code 23 = .ok (.iinc 5 1, 3) := by decide +kernel
theorem d_M_leadsAll_26 : decode prog_14_method_76_code 26 = .ok (.goto (-23), 3) := by decide +kernel
theorem d_M_leadsAll_29 : decode prog_14_method_76_code 29 = .ok (.iconst 1, 1) := by decide +kernel
theorem d_M_leadsAll_30 : decode prog_14_method_76_code 30 = .ok (.ireturn, 1) := by decide +kernel
theorem d_M_leads_0 : decode prog_14_method_75_code 0 = .ok (.aload_n 0, 1) := by decide +kernel
theorem d_M_leads_1 : decode prog_14_method_75_code 1 = .ok (.getfield 36, 3) := by decide +kernel
theorem d_M_leads_4 : decode prog_14_method_75_code 4 = .ok (.iconst 0, 1) := by decide +kernel
theorem d_M_leads_5 : decode prog_14_method_75_code 5 = .ok (.iload_n 1, 1) := by decide +kernel
theorem d_M_leads_6 : decode prog_14_method_75_code 6 = .ok (.iastore, 1) := by decide +kernel
theorem d_M_leads_7 : decode prog_14_method_75_code 7 = .ok (.aload_n 0, 1) := by decide +kernel
theorem d_M_leads_8 : decode prog_14_method_75_code 8 = .ok (.iload_n 1, 1) := by decide +kernel
theorem d_M_leads_9 : decode prog_14_method_75_code 9 = .ok (.i2l, 1) := by decide +kernel
theorem d_M_leads_10 : decode prog_14_method_75_code 10 = .ok (.putfield 196, 3) := by decide +kernel
theorem d_M_leads_13 : decode prog_14_method_75_code 13 = .ok (.aload_n 0, 1) := by decide +kernel
theorem d_M_leads_14 : decode prog_14_method_75_code 14 = .ok (.lconst 1, 1) := by decide +kernel
theorem d_M_leads_15 : decode prog_14_method_75_code 15 = .ok (.putfield 199, 3) := by decide +kernel
theorem d_M_leads_18 : decode prog_14_method_75_code 18 = .ok (.iconst 0, 1) := by decide +kernel
theorem d_M_leads_19 : decode prog_14_method_75_code 19 = .ok (.istore 4, 2) := by decide +kernel
theorem d_M_leads_21 : decode prog_14_method_75_code 21 = .ok (.iload 4, 2) := by decide +kernel
theorem d_M_leads_23 : decode prog_14_method_75_code 23 = .ok (.iload_n 3, 1) := by decide +kernel
theorem d_M_leads_24 : decode prog_14_method_75_code 24 = .ok (.if_icmp .ge 72, 3) := by decide +kernel
theorem d_M_leads_27 : decode prog_14_method_75_code 27 = .ok (.aload_n 0, 1) := by decide +kernel
theorem d_M_leads_28 : decode prog_14_method_75_code 28 = .ok (.aload_n 0, 1) := by decide +kernel
theorem d_M_leads_29 : decode prog_14_method_75_code 29 = .ok (.getfield 7, 3) := by decide +kernel
theorem d_M_leads_32 : decode prog_14_method_75_code 32 = .ok (.bipush 12, 2) := by decide +kernel
theorem d_M_leads_34 : decode prog_14_method_75_code 34 = .ok (.iconst 2, 1) := by decide +kernel
theorem d_M_leads_35 : decode prog_14_method_75_code 35 = .ok (.aload_n 0, 1) := by decide +kernel
theorem d_M_leads_36 : decode prog_14_method_75_code 36 = .ok (.getfield 58, 3) := by decide +kernel
theorem d_M_leads_39 : decode prog_14_method_75_code 39 = .ok (.iload 4, 2) := by decide +kernel
theorem d_M_leads_41 : decode prog_14_method_75_code 41 = .ok (.iaload, 1) := by decide +kernel
theorem d_M_leads_42 : decode prog_14_method_75_code 42 = .ok (.imul, 1) := by decide +kernel
theorem d_M_leads_43 : decode prog_14_method_75_code 43 = .ok (.iadd, 1) := by decide +kernel
theorem d_M_leads_44 : decode prog_14_method_75_code 44 = .ok (.iaload, 1) := by decide +kernel
theorem d_M_leads_45 : decode prog_14_method_75_code 45 = .ok (.aload_n 0, 1) := by decide +kernel
theorem d_M_leads_46 : decode prog_14_method_75_code 46 = .ok (.getfield 7, 3) := by decide +kernel
theorem d_M_leads_49 : decode prog_14_method_75_code 49 = .ok (.bipush 12, 2) := by decide +kernel
theorem d_M_leads_51 : decode prog_14_method_75_code 51 = .ok (.iconst 2, 1) := by decide +kernel
theorem d_M_leads_52 : decode prog_14_method_75_code 52 = .ok (.aload_n 0, 1) := by decide +kernel
theorem d_M_leads_53 : decode prog_14_method_75_code 53 = .ok (.getfield 58, 3) := by decide +kernel
theorem d_M_leads_56 : decode prog_14_method_75_code 56 = .ok (.iload 4, 2) := by decide +kernel
theorem d_M_leads_58 : decode prog_14_method_75_code 58 = .ok (.iaload, 1) := by decide +kernel
theorem d_M_leads_59 : decode prog_14_method_75_code 59 = .ok (.imul, 1) := by decide +kernel
theorem d_M_leads_60 : decode prog_14_method_75_code 60 = .ok (.iadd, 1) := by decide +kernel
theorem d_M_leads_61 : decode prog_14_method_75_code 61 = .ok (.iconst 1, 1) := by decide +kernel
theorem d_M_leads_62 : decode prog_14_method_75_code 62 = .ok (.iadd, 1) := by decide +kernel
theorem d_M_leads_63 : decode prog_14_method_75_code 63 = .ok (.iaload, 1) := by decide +kernel
theorem d_M_leads_64 : decode prog_14_method_75_code 64 = .ok (.invokevirtual 230, 3) := by decide +kernel
theorem d_M_leads_67 : decode prog_14_method_75_code 67 = .ok (.ifCond .eq 21, 3) := by decide +kernel
theorem d_M_leads_70 : decode prog_14_method_75_code 70 = .ok (.aload_n 0, 1) := by decide +kernel
theorem d_M_leads_71 : decode prog_14_method_75_code 71 = .ok (.getfield 199, 3) := by decide +kernel
theorem d_M_leads_74 : decode prog_14_method_75_code 74 = .ok (.lconst 1, 1) := by decide +kernel
theorem d_M_leads_75 : decode prog_14_method_75_code 75 = .ok (.lcmp, 1) := by decide +kernel
theorem d_M_leads_76 : decode prog_14_method_75_code 76 = .ok (.ifCond .ne 12, 3) := by decide +kernel
theorem d_M_leads_79 : decode prog_14_method_75_code 79 = .ok (.aload_n 0, 1) := by decide +kernel
theorem d_M_leads_80 : decode prog_14_method_75_code 80 = .ok (.getfield 196, 3) := by decide +kernel
theorem d_M_leads_83 : decode prog_14_method_75_code 83 = .ok (.lconst 0, 1) := by decide +kernel
theorem d_M_leads_84 : decode prog_14_method_75_code 84 = .ok (.lcmp, 1) := by decide +kernel
theorem d_M_leads_85 : decode prog_14_method_75_code 85 = .ok (.ifCond .ge 5, 3) := by decide +kernel
theorem d_M_leads_88 : decode prog_14_method_75_code 88 = .ok (.iconst 0, 1) := by decide +kernel
theorem d_M_leads_89 : decode prog_14_method_75_code 89 = .ok (.ireturn, 1) := by decide +kernel
theorem d_M_leads_90 : decode prog_14_method_75_code 90 = .ok (.iinc 4 1, 3) := by decide +kernel
theorem d_M_leads_93 : decode prog_14_method_75_code 93 = .ok (.goto (-72), 3) := by decide +kernel
theorem d_M_leads_96 : decode prog_14_method_75_code 96 = .ok (.aload_n 0, 1) := by decide +kernel
theorem d_M_leads_97 : decode prog_14_method_75_code 97 = .ok (.getfield 196, 3) := by decide +kernel
theorem d_M_leads_100 : decode prog_14_method_75_code 100 = .ok (.iload_n 2, 1) := by decide +kernel
theorem d_M_leads_101 : decode prog_14_method_75_code 101 = .ok (.i2l, 1) := by decide +kernel
theorem d_M_leads_102 : decode prog_14_method_75_code 102 = .ok (.lcmp, 1) := by decide +kernel
theorem d_M_leads_103 : decode prog_14_method_75_code 103 = .ok (.ifCond .ne 7, 3) := by decide +kernel
theorem d_M_leads_106 : decode prog_14_method_75_code 106 = .ok (.iconst 1, 1) := by decide +kernel
theorem d_M_leads_107 : decode prog_14_method_75_code 107 = .ok (.goto 4, 3) := by decide +kernel
theorem d_M_leads_110 : decode prog_14_method_75_code 110 = .ok (.iconst 0, 1) := by decide +kernel
theorem d_M_leads_111 : decode prog_14_method_75_code 111 = .ok (.ireturn, 1) := by decide +kernel
theorem d_M_slip_0 : decode prog_14_method_82_code 0 = .ok (.aload_n 0, 1) := by decide +kernel
theorem d_M_slip_1 : decode prog_14_method_82_code 1 = .ok (.iload_n 1, 1) := by decide +kernel
theorem d_M_slip_2 : decode prog_14_method_82_code 2 = .ok (.invokevirtual 169, 3) := by decide +kernel
theorem d_M_slip_5 : decode prog_14_method_82_code 5 = .ok (.ifCond .eq 17, 3) := by decide +kernel
theorem d_M_slip_8 : decode prog_14_method_82_code 8 = .ok (.iload_n 2, 1) := by decide +kernel
theorem d_M_slip_9 : decode prog_14_method_82_code 9 = .ok (.iload_n 3, 1) := by decide +kernel
theorem d_M_slip_10 : decode prog_14_method_82_code 10 = .ok (.invokestatic 244, 3) := by decide +kernel
theorem d_M_slip_13 : decode prog_14_method_82_code 13 = .ok (.ifCond .eq 9, 3) := by decide +kernel
theorem d_M_slip_16 : decode prog_14_method_82_code 16 = .ok (.iload 4, 2) := by decide +kernel
theorem d_M_slip_18 : decode prog_14_method_82_code 18 = .ok (.iconst (-1), 1) := by decide +kernel
theorem d_M_slip_19 : decode prog_14_method_82_code 19 = .ok (.if_icmp .ge 5, 3) := by decide +kernel
theorem d_M_slip_22 : decode prog_14_method_82_code 22 = .ok (.iconst (-1), 1) := by decide +kernel
theorem d_M_slip_23 : decode prog_14_method_82_code 23 = .ok (.ireturn, 1) := by decide +kernel
theorem d_M_slip_24 : decode prog_14_method_82_code 24 = .ok (.aload_n 0, 1) := by decide +kernel
theorem d_M_slip_25 : decode prog_14_method_82_code 25 = .ok (.invokevirtual 235, 3) := by decide +kernel
theorem d_M_slip_28 : decode prog_14_method_82_code 28 = .ok (.iload_n 2, 1) := by decide +kernel
theorem d_M_slip_29 : decode prog_14_method_82_code 29 = .ok (.i2l, 1) := by decide +kernel
theorem d_M_slip_30 : decode prog_14_method_82_code 30 = .ok (.iload_n 3, 1) := by decide +kernel
theorem d_M_slip_31 : decode prog_14_method_82_code 31 = .ok (.i2l, 1) := by decide +kernel
theorem d_M_slip_32 : decode prog_14_method_82_code 32 = .ok (.invokestatic 186, 3) := by decide +kernel
theorem d_M_slip_35 : decode prog_14_method_82_code 35 = .ok (.lstore 5, 2) := by decide +kernel
theorem d_M_slip_37 : decode prog_14_method_82_code 37 = .ok (.iconst 0, 1) := by decide +kernel
theorem d_M_slip_38 : decode prog_14_method_82_code 38 = .ok (.istore 7, 2) := by decide +kernel
theorem d_M_slip_40 : decode prog_14_method_82_code 40 = .ok (.iconst 0, 1) := by decide +kernel
theorem d_M_slip_41 : decode prog_14_method_82_code 41 = .ok (.istore 8, 2) := by decide +kernel
theorem d_M_slip_43 : decode prog_14_method_82_code 43 = .ok (.iload 8, 2) := by decide +kernel
theorem d_M_slip_45 : decode prog_14_method_82_code 45 = .ok (.iconst 3, 1) := by decide +kernel
theorem d_M_slip_46 : decode prog_14_method_82_code 46 = .ok (.aload_n 0, 1) := by decide +kernel
theorem d_M_slip_47 : decode prog_14_method_82_code 47 = .ok (.iload_n 1, 1) := by decide +kernel
theorem d_M_slip_48 : decode prog_14_method_82_code 48 = .ok (.invokevirtual 172, 3) := by decide +kernel
theorem d_M_slip_51 : decode prog_14_method_82_code 51 = .ok (.imul, 1) := by decide +kernel
theorem d_M_slip_52 : decode prog_14_method_82_code 52 = .ok (.if_icmp .ge 51, 3) := by decide +kernel
theorem d_M_slip_55 : decode prog_14_method_82_code 55 = .ok (.aload_n 0, 1) := by decide +kernel
theorem d_M_slip_56 : decode prog_14_method_82_code 56 = .ok (.iload_n 1, 1) := by decide +kernel
theorem d_M_slip_57 : decode prog_14_method_82_code 57 = .ok (.iload 8, 2) := by decide +kernel
theorem d_M_slip_59 : decode prog_14_method_82_code 59 = .ok (.iconst 3, 1) := by decide +kernel
theorem d_M_slip_60 : decode prog_14_method_82_code 60 = .ok (.idiv, 1) := by decide +kernel
theorem d_M_slip_61 : decode prog_14_method_82_code 61 = .ok (.iload 8, 2) := by decide +kernel
theorem d_M_slip_63 : decode prog_14_method_82_code 63 = .ok (.iconst 3, 1) := by decide +kernel
theorem d_M_slip_64 : decode prog_14_method_82_code 64 = .ok (.irem, 1) := by decide +kernel
theorem d_M_slip_65 : decode prog_14_method_82_code 65 = .ok (.iload_n 2, 1) := by decide +kernel
theorem d_M_slip_66 : decode prog_14_method_82_code 66 = .ok (.i2l, 1) := by decide +kernel
theorem d_M_slip_67 : decode prog_14_method_82_code 67 = .ok (.lload 5, 2) := by decide +kernel
theorem d_M_slip_69 : decode prog_14_method_82_code 69 = .ok (.ldiv, 1) := by decide +kernel
theorem d_M_slip_70 : decode prog_14_method_82_code 70 = .ok (.iload_n 3, 1) := by decide +kernel
theorem d_M_slip_71 : decode prog_14_method_82_code 71 = .ok (.i2l, 1) := by decide +kernel
theorem d_M_slip_72 : decode prog_14_method_82_code 72 = .ok (.lload 5, 2) := by decide +kernel
theorem d_M_slip_74 : decode prog_14_method_82_code 74 = .ok (.ldiv, 1) := by decide +kernel
theorem d_M_slip_75 : decode prog_14_method_82_code 75 = .ok (.invokevirtual 324, 3) := by decide +kernel
theorem d_M_slip_78 : decode prog_14_method_82_code 78 = .ok (.ifCond .ne 6, 3) := by decide +kernel
theorem d_M_slip_81 : decode prog_14_method_82_code 81 = .ok (.goto 16, 3) := by decide +kernel
theorem d_M_slip_84 : decode prog_14_method_82_code 84 = .ok (.iload 7, 2) := by decide +kernel
theorem d_M_slip_86 : decode prog_14_method_82_code 86 = .ok (.iload 4, 2) := by decide +kernel
theorem d_M_slip_88 : decode prog_14_method_82_code 88 = .ok (.if_icmp .ne 6, 3) := by decide +kernel
theorem d_M_slip_91 : decode prog_14_method_82_code 91 = .ok (.iload 8, 2) := by decide +kernel
theorem d_M_slip_93 : decode prog_14_method_82_code 93 = .ok (.ireturn, 1) := by decide +kernel
theorem d_M_slip_94 : decode prog_14_method_82_code 94 = .ok (.iinc 7 1, 3) := by decide +kernel
theorem d_M_slip_97 : decode prog_14_method_82_code 97 = .ok (.iinc 8 1, 3) := by decide +kernel
theorem d_M_slip_100 : decode prog_14_method_82_code 100 = .ok (.goto (-57), 3) := by decide +kernel
theorem d_M_slip_103 : decode prog_14_method_82_code 103 = .ok (.iload 4, 2) := by decide +kernel
theorem d_M_slip_105 : decode prog_14_method_82_code 105 = .ok (.iconst (-1), 1) := by decide +kernel
theorem d_M_slip_106 : decode prog_14_method_82_code 106 = .ok (.if_icmp .ne 8, 3) := by decide +kernel
theorem d_M_slip_109 : decode prog_14_method_82_code 109 = .ok (.iload 7, 2) := by decide +kernel
theorem d_M_slip_111 : decode prog_14_method_82_code 111 = .ok (.goto 4, 3) := by decide +kernel
theorem d_M_slip_114 : decode prog_14_method_82_code 114 = .ok (.iconst (-1), 1) := by decide +kernel
