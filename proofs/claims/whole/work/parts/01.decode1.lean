/-! decode rows (by program: wip/whole/facts.py) -/
theorem d_Value_without_36 : decode prog_11_method_10_code 36 = .ok (.ifCond .le 25, 3) := by decide +kernel
theorem d_Value_without_39 : decode prog_11_method_10_code 39 = .ok (.aload_n 0, 1) := by decide +kernel
theorem d_Value_without_40 : decode prog_11_method_10_code 40 = .ok (.getfield 15, 3) := by decide +kernel
theorem d_Value_without_43 : decode prog_11_method_10_code 43 = .ok (.lload_n 3, 1) := by decide +kernel
theorem d_Value_without_44 : decode prog_11_method_10_code 44 = .ok (.ldiv, 1) := by decide +kernel
theorem d_Value_without_45 : decode prog_11_method_10_code 45 = .ok (.ldc2_w 55, 3) := by decide +kernel
theorem d_Value_without_48 : decode prog_11_method_10_code 48 = .ok (.ldiv, 1) := by decide +kernel
theorem d_Value_without_49 : decode prog_11_method_10_code 49 = .ok (.lload_n 3, 1) := by decide +kernel
theorem d_Value_without_50 : decode prog_11_method_10_code 50 = .ok (.lmul, 1) := by decide +kernel
theorem d_Value_without_51 : decode prog_11_method_10_code 51 = .ok (.aload_n 0, 1) := by decide +kernel
theorem d_Value_without_52 : decode prog_11_method_10_code 52 = .ok (.getfield 15, 3) := by decide +kernel
theorem d_Value_without_55 : decode prog_11_method_10_code 55 = .ok (.lload_n 3, 1) := by decide +kernel
theorem d_Value_without_56 : decode prog_11_method_10_code 56 = .ok (.lrem, 1) := by decide +kernel
theorem d_Value_without_57 : decode prog_11_method_10_code 57 = .ok (.ladd, 1) := by decide +kernel
theorem d_Value_without_58 : decode prog_11_method_10_code 58 = .ok (.goto 7, 3) := by decide +kernel
theorem d_Value_without_61 : decode prog_11_method_10_code 61 = .ok (.aload_n 0, 1) := by decide +kernel
theorem d_Value_without_62 : decode prog_11_method_10_code 62 = .ok (.getfield 15, 3) := by decide +kernel
theorem d_Value_without_65 : decode prog_11_method_10_code 65 = .ok (.lreturn, 1) := by decide +kernel
theorem d_Value_part_0 : decode prog_11_method_5_code 0 = .ok (.iload_n 1, 1) := by decide +kernel
theorem d_Value_part_1 : decode prog_11_method_5_code 1 = .ok (.ifCond .eq 10, 3) := by decide +kernel
theorem d_Value_part_4 : decode prog_11_method_5_code 4 = .ok (.aload_n 0, 1) := by decide +kernel
theorem d_Value_part_5 : decode prog_11_method_5_code 5 = .ok (.getfield 9, 3) := by decide +kernel
theorem d_Value_part_8 : decode prog_11_method_5_code 8 = .ok (.goto 7, 3) := by decide +kernel
theorem d_Value_part_11 : decode prog_11_method_5_code 11 = .ok (.aload_n 0, 1) := by decide +kernel
theorem d_Value_part_12 : decode prog_11_method_5_code 12 = .ok (.getfield 15, 3) := by decide +kernel
theorem d_Value_part_15 : decode prog_11_method_5_code 15 = .ok (.lreturn, 1) := by decide +kernel
theorem d_A_fails_0 : decode prog_1_method_10_code 0 = .ok (.aload_n 0, 1) := by decide +kernel
theorem d_A_fails_1 : decode prog_1_method_10_code 1 = .ok (.iload_n 1, 1) := by decide +kernel
theorem d_A_fails_2 : decode prog_1_method_10_code 2 = .ok (.invokevirtual 115, 3) := by decide +kernel
theorem d_A_fails_5 : decode prog_1_method_10_code 5 = .ok (.astore_n 2, 1) := by decide +kernel
theorem d_A_fails_6 : decode prog_1_method_10_code 6 = .ok (.aload_n 2, 1) := by decide +kernel
theorem d_A_fails_7 : decode prog_1_method_10_code 7 = .ok (.ifnonnull 6, 3) := by decide +kernel
theorem d_A_fails_10 : decode prog_1_method_10_code 10 = .ok (.bipush (-2), 2) := by decide +kernel
theorem d_A_fails_12 : decode prog_1_method_10_code 12 = .ok (.ireturn, 1) := by decide +kernel
theorem d_A_fails_13 : decode prog_1_method_10_code 13 = .ok (.aload_n 2, 1) := by decide +kernel
theorem d_A_fails_14 : decode prog_1_method_10_code 14 = .ok (.aload_n 2, 1) := by decide +kernel
theorem d_A_fails_15 : decode prog_1_method_10_code 15 = .ok (.getfield 119, 3) := by decide +kernel
theorem d_A_fails_18 : decode prog_1_method_10_code 18 = .ok (.getfield 123, 3) := by decide +kernel
theorem d_A_fails_21 : decode prog_1_method_10_code 21 = .ok (.aload_n 0, 1) := by decide +kernel
theorem d_A_fails_22 : decode prog_1_method_10_code 22 = .ok (.getfield 35, 3) := by decide +kernel
theorem d_A_fails_25 : decode prog_1_method_10_code 25 = .ok (.getfield 88, 3) := by decide +kernel
theorem d_A_fails_28 : decode prog_1_method_10_code 28 = .ok (.aload_n 0, 1) := by decide +kernel
theorem d_A_fails_29 : decode prog_1_method_10_code 29 = .ok (.getfield 45, 3) := by decide +kernel
theorem d_A_fails_32 : decode prog_1_method_10_code 32 = .ok (.invokevirtual 148, 3) := by decide +kernel
theorem d_A_fails_35 : decode prog_1_method_10_code 35 = .ok (.istore_n 3, 1) := by decide +kernel
theorem d_A_fails_36 : decode prog_1_method_10_code 36 = .ok (.iload_n 3, 1) := by decide +kernel
theorem d_A_fails_37 : decode prog_1_method_10_code 37 = .ok (.aload_n 2, 1) := by decide +kernel
theorem d_A_fails_38 : decode prog_1_method_10_code 38 = .ok (.getfield 119, 3) := by decide +kernel
theorem d_A_fails_41 : decode prog_1_method_10_code 41 = .ok (.getfield 123, 3) := by decide +kernel
theorem d_A_fails_44 : decode prog_1_method_10_code 44 = .ok (.if_icmp .ge 7, 3) := by decide +kernel
theorem d_A_fails_47 : decode prog_1_method_10_code 47 = .ok (.iload_n 3, 1) := by decide +kernel
theorem d_A_fails_48 : decode prog_1_method_10_code 48 = .ok (.goto 4, 3) := by decide +kernel
theorem d_A_fails_51 : decode prog_1_method_10_code 51 = .ok (.iconst (-1), 1) := by decide +kernel
theorem d_A_fails_52 : decode prog_1_method_10_code 52 = .ok (.ireturn, 1) := by decide +kernel
theorem d_A_said_0 : decode prog_1_method_11_code 0 = .ok (.aload_n 0, 1) := by decide +kernel
theorem d_A_said_1 : decode prog_1_method_11_code 1 = .ok (.iload_n 1, 1) := by decide +kernel
theorem d_A_said_2 : decode prog_1_method_11_code 2 = .ok (.invokevirtual 115, 3) := by decide +kernel
theorem d_A_said_5 : decode prog_1_method_11_code 5 = .ok (.astore 4, 2) := by decide +kernel
theorem d_A_said_7 : decode prog_1_method_11_code 7 = .ok (.aload 4, 2) := by decide +kernel
theorem d_A_said_9 : decode prog_1_method_11_code 9 = .ok (.ifnull 7, 3) := by decide +kernel
theorem d_A_said_12 : decode prog_1_method_11_code 12 = .ok (.iload_n 2, 1) := by decide +kernel
theorem d_A_said_13 : decode prog_1_method_11_code 13 = .ok (.ifCond .ge 7, 3) := by decide +kernel
theorem d_A_said_16 : decode prog_1_method_11_code 16 = .ok (.ldc2_w 146, 3) := by decide +kernel
theorem d_A_said_19 : decode prog_1_method_11_code 19 = .ok (.lreturn, 1) := by decide +kernel
theorem d_A_said_20 : decode prog_1_method_11_code 20 = .ok (.iconst 0, 1) := by decide +kernel
theorem d_A_said_21 : decode prog_1_method_11_code 21 = .ok (.istore 5, 2) := by decide +kernel
theorem d_A_said_23 : decode prog_1_method_11_code 23 = .ok (.aload 4, 2) := by decide +kernel
theorem d_A_said_25 : decode prog_1_method_11_code 25 = .ok (.aload_n 0, 1) := by decide +kernel
theorem d_A_said_26 : decode prog_1_method_11_code 26 = .ok (.getfield 45, 3) := by decide +kernel
theorem d_A_said_29 : decode prog_1_method_11_code 29 = .ok (.aload_n 0, 1) := by decide +kernel
theorem d_A_said_30 : decode prog_1_method_11_code 30 = .ok (.getfield 35, 3) := by decide +kernel
theorem d_A_said_33 : decode prog_1_method_11_code 33 = .ok (.getfield 88, 3) := by decide +kernel
theorem d_A_said_36 : decode prog_1_method_11_code 36 = .ok (.invokevirtual 156, 3) := by decide +kernel
theorem d_A_said_39 : decode prog_1_method_11_code 39 = .ok (.iconst 0, 1) := by decide +kernel
theorem d_A_said_40 : decode prog_1_method_11_code 40 = .ok (.istore 6, 2) := by decide +kernel
theorem d_A_said_42 : decode prog_1_method_11_code 42 = .ok (.iload 6, 2) := by decide +kernel
theorem d_A_said_44 : decode prog_1_method_11_code 44 = .ok (.aload 4, 2) := by decide +kernel
theorem d_A_said_46 : decode prog_1_method_11_code 46 = .ok (.getfield 119, 3) := by decide +kernel
theorem d_A_said_49 : decode prog_1_method_11_code 49 = .ok (.getfield 123, 3) := by decide +kernel
theorem d_A_said_52 : decode prog_1_method_11_code 52 = .ok (.if_icmp .ge 80, 3) := by decide +kernel
theorem d_A_said_55 : decode prog_1_method_11_code 55 = .ok (.aload 4, 2) := by decide +kernel
theorem d_A_said_57 : decode prog_1_method_11_code 57 = .ok (.getfield 119, 3) := by decide +kernel
theorem d_A_said_60 : decode prog_1_method_11_code 60 = .ok (.getfield 134, 3) := by decide +kernel
theorem d_A_said_63 : decode prog_1_method_11_code 63 = .ok (.iload 6, 2) := by decide +kernel
theorem d_A_said_65 : decode prog_1_method_11_code 65 = .ok (.iaload, 1) := by decide +kernel
theorem d_A_said_66 : decode prog_1_method_11_code 66 = .ok (.istore 7, 2) := by decide +kernel
theorem d_A_said_68 : decode prog_1_method_11_code 68 = .ok (.aload_n 0, 1) := by decide +kernel
theorem d_A_said_69 : decode prog_1_method_11_code 69 = .ok (.getfield 45, 3) := by decide +kernel
theorem d_A_said_72 : decode prog_1_method_11_code 72 = .ok (.iload 7, 2) := by decide +kernel
theorem d_A_said_74 : decode prog_1_method_11_code 74 = .ok (.aload 4, 2) := by decide +kernel
theorem d_A_said_76 : decode prog_1_method_11_code 76 = .ok (.getfield 119, 3) := by decide +kernel
theorem d_A_said_79 : decode prog_1_method_11_code 79 = .ok (.iload 6, 2) := by decide +kernel
theorem d_A_said_81 : decode prog_1_method_11_code 81 = .ok (.aload_n 0, 1) := by decide +kernel
theorem d_A_said_82 : decode prog_1_method_11_code 82 = .ok (.getfield 35, 3) := by decide +kernel
theorem d_A_said_85 : decode prog_1_method_11_code 85 = .ok (.getfield 88, 3) := by decide +kernel
theorem d_A_said_88 : decode prog_1_method_11_code 88 = .ok (.invokevirtual 160, 3) := by decide +kernel
theorem d_A_said_91 : decode prog_1_method_11_code 91 = .ok (.invokevirtual 164, 3) := by decide +kernel
theorem d_A_said_94 : decode prog_1_method_11_code 94 = .ok (.ifCond .ne 7, 3) := by decide +kernel
theorem d_A_said_97 : decode prog_1_method_11_code 97 = .ok (.ldc2_w 146, 3) := by decide +kernel
theorem d_A_said_100 : decode prog_1_method_11_code 100 = .ok (.lreturn, 1) := by decide +kernel
theorem d_A_said_101 : decode prog_1_method_11_code 101 = .ok (.iload 7, 2) := by decide +kernel
theorem d_A_said_103 : decode prog_1_method_11_code 103 = .ok (.bipush 9, 2) := by decide +kernel
theorem d_A_said_105 : decode prog_1_method_11_code 105 = .ok (.if_icmp .ne 21, 3) := by decide +kernel
theorem d_A_said_108 : decode prog_1_method_11_code 108 = .ok (.iload 5, 2) := by decide +kernel
theorem d_A_said_110 : decode prog_1_method_11_code 110 = .ok (.iload_n 2, 1) := by decide +kernel
theorem d_A_said_111 : decode prog_1_method_11_code 111 = .ok (.if_icmp .ne 12, 3) := by decide +kernel
theorem d_A_said_114 : decode prog_1_method_11_code 114 = .ok (.aload_n 0, 1) := by decide +kernel
theorem d_A_said_115 : decode prog_1_method_11_code 115 = .ok (.getfield 45, 3) := by decide +kernel
theorem d_A_said_118 : decode prog_1_method_11_code 118 = .ok (.iload_n 3, 1) := by decide +kernel
theorem d_A_said_119 : decode prog_1_method_11_code 119 = .ok (.invokevirtual 152, 3) := by decide +kernel
theorem d_A_said_122 : decode prog_1_method_11_code 122 = .ok (.lreturn, 1) := by decide +kernel
theorem d_A_said_123 : decode prog_1_method_11_code 123 = .ok (.iinc 5 1, 3) := by decide +kernel
theorem d_A_said_126 : decode prog_1_method_11_code 126 = .ok (.iinc 6 1, 3) := by decide +kernel
theorem d_A_said_129 : decode prog_1_method_11_code 129 = .ok (.goto (-87), 3) := by decide +kernel
theorem d_A_said_132 : decode prog_1_method_11_code 132 = .ok (.ldc2_w 146, 3) := by decide +kernel
theorem d_A_said_135 : decode prog_1_method_11_code 135 = .ok (.lreturn, 1) := by decide +kernel
theorem d_A_claim_0 : decode prog_1_method_12_code 0 = .ok (.aload_n 0, 1) := by decide +kernel
theorem d_A_claim_1 : decode prog_1_method_12_code 1 = .ok (.getfield 35, 3) := by decide +kernel
theorem d_A_claim_4 : decode prog_1_method_12_code 4 = .ok (.getfield 168, 3) := by decide +kernel
theorem d_A_claim_7 : decode prog_1_method_12_code 7 = .ok (.iload_n 1, 1) := by decide +kernel
theorem d_A_claim_8 : decode prog_1_method_12_code 8 = .ok (.iload_n 2, 1) := by decide +kernel
theorem d_A_claim_9 : decode prog_1_method_12_code 9 = .ok (.aload_n 0, 1) := by decide +kernel
theorem d_A_claim_10 : decode prog_1_method_12_code 10 = .ok (.getfield 45, 3) := by decide +kernel
theorem d_A_claim_13 : decode prog_1_method_12_code 13 = .ok (.invokevirtual 172, 3) := by decide +kernel
theorem d_A_claim_16 : decode prog_1_method_12_code 16 = .ok (.ireturn, 1) := by decide +kernel
theorem d_Values_tell_0 : decode prog_12_method_2_code 0 = .ok (.iload_n 2, 1) := by decide +kernel
theorem d_Values_tell_1 : decode prog_12_method_2_code 1 = .ok (.ifCond .ne 10, 3) := by decide +kernel
theorem d_Values_tell_4 : decode prog_12_method_2_code 4 = .ok (.aload_n 0, 1) := by decide +kernel
theorem d_Values_tell_5 : decode prog_12_method_2_code 5 = .ok (.iconst 0, 1) := by decide +kernel
theorem d_Values_tell_6 : decode prog_12_method_2_code 6 = .ok (.putfield 18, 3) := by decide +kernel
theorem d_Values_tell_9 : decode prog_12_method_2_code 9 = .ok (.iconst 0, 1) := by decide +kernel
theorem d_Values_tell_10 : decode prog_12_method_2_code 10 = .ok (.ireturn, 1) := by decide +kernel
theorem d_Values_tell_11 : decode prog_12_method_2_code 11 = .ok (.iload_n 1, 1) := by decide +kernel
theorem d_Values_tell_12 : decode prog_12_method_2_code 12 = .ok (.iload_n 2, 1) := by decide +kernel
theorem d_Values_tell_13 : decode prog_12_method_2_code 13 = .ok (.invokestatic 22, 3) := by decide +kernel
theorem d_Values_tell_16 : decode prog_12_method_2_code 16 = .ok (.ifCond .ne 5, 3) := by decide +kernel
theorem d_Values_tell_19 : decode prog_12_method_2_code 19 = .ok (.iconst (-1), 1) := by decide +kernel
theorem d_Values_tell_20 : decode prog_12_method_2_code 20 = .ok (.ireturn, 1) := by decide +kernel
theorem d_Values_tell_21 : decode prog_12_method_2_code 21 = .ok (.aload_n 3, 1) := by decide +kernel
theorem d_Values_tell_22 : decode prog_12_method_2_code 22 = .ok (.iload_n 1, 1) := by decide +kernel
theorem d_Values_tell_23 : decode prog_12_method_2_code 23 = .ok (.i2l, 1) := by decide +kernel
theorem d_Values_tell_24 : decode prog_12_method_2_code 24 = .ok (.iload_n 2, 1) := by decide +kernel
theorem d_Values_tell_25 : decode prog_12_method_2_code 25 = .ok (.i2l, 1) := by decide +kernel
theorem d_Values_tell_26 : decode prog_12_method_2_code 26 = .ok (.invokevirtual 26, 3) := by decide +kernel
theorem d_Values_tell_29 : decode prog_12_method_2_code 29 = .ok (.pop, 1) := by decide +kernel
theorem d_Values_tell_30 : decode prog_12_method_2_code 30 = .ok (.aload_n 0, 1) := by decide +kernel
theorem d_Values_tell_31 : decode prog_12_method_2_code 31 = .ok (.aload_n 3, 1) := by decide +kernel
theorem d_Values_tell_32 : decode prog_12_method_2_code 32 = .ok (.invokevirtual 32, 3) := by decide +kernel
theorem d_Values_tell_35 : decode prog_12_method_2_code 35 = .ok (.ifCond .eq 10, 3) := by decide +kernel
theorem d_Values_tell_38 : decode prog_12_method_2_code 38 = .ok (.aload_n 0, 1) := by decide +kernel
theorem d_Values_tell_39 : decode prog_12_method_2_code 39 = .ok (.getfield 18, 3) := by decide +kernel
theorem d_Values_tell_42 : decode prog_12_method_2_code 42 = .ok (.goto 4, 3) := by decide +kernel
theorem d_Values_tell_45 : decode prog_12_method_2_code 45 = .ok (.iconst (-1), 1) := by decide +kernel
theorem d_Values_tell_46 : decode prog_12_method_2_code 46 = .ok (.ireturn, 1) := by decide +kernel
theorem d_A_isTold_0 : decode prog_1_method_42_code 0 = .ok (.iload_n 0, 1) := by decide +kernel
theorem d_A_isTold_1 : decode prog_1_method_42_code 1 = .ok (.ldc_w 331, 3) := by decide +kernel
theorem d_A_isTold_4 : decode prog_1_method_42_code 4 = .ok (.if_icmp .lt 26, 3) := by decide +kernel
theorem d_A_isTold_7 : decode prog_1_method_42_code 7 = .ok (.iload_n 0, 1) := by decide +kernel
theorem d_A_isTold_8 : decode prog_1_method_42_code 8 = .ok (.ldc_w 332, 3) := by decide +kernel
theorem d_A_isTold_11 : decode prog_1_method_42_code 11 = .ok (.if_icmp .gt 19, 3) := by decide +kernel
theorem d_A_isTold_14 : decode prog_1_method_42_code 14 = .ok (.iload_n 1, 1) := by decide +kernel
theorem d_A_isTold_15 : decode prog_1_method_42_code 15 = .ok (.iconst 1, 1) := by decide +kernel
theorem d_A_isTold_16 : decode prog_1_method_42_code 16 = .ok (.if_icmp .lt 14, 3) := by decide +kernel
theorem d_A_isTold_19 : decode prog_1_method_42_code 19 = .ok (.iload_n 1, 1) := by decide +kernel
theorem d_A_isTold_20 : decode prog_1_method_42_code 20 = .ok (.ldc_w 333, 3) := by decide +kernel
theorem d_A_isTold_23 : decode prog_1_method_42_code 23 = .ok (.if_icmp .gt 7, 3) := by decide +kernel
theorem d_A_isTold_26 : decode prog_1_method_42_code 26 = .ok (.iconst 1, 1) := by decide +kernel
theorem d_A_isTold_27 : decode prog_1_method_42_code 27 = .ok (.goto 4, 3) := by decide +kernel
theorem d_A_isTold_30 : decode prog_1_method_42_code 30 = .ok (.iconst 0, 1) := by decide +kernel
theorem d_A_isTold_31 : decode prog_1_method_42_code 31 = .ok (.ireturn, 1) := by decide +kernel
theorem d_Values_append_0 : decode prog_12_method_3_code 0 = .ok (.aload_n 0, 1) := by decide +kernel
theorem d_Values_append_1 : decode prog_12_method_3_code 1 = .ok (.getfield 18, 3) := by decide +kernel
theorem d_Values_append_4 : decode prog_12_method_3_code 4 = .ok (.aload_n 0, 1) := by decide +kernel
theorem d_Values_append_5 : decode prog_12_method_3_code 5 = .ok (.getfield 9, 3) := by decide +kernel
theorem d_Values_append_8 : decode prog_12_method_3_code 8 = .ok (.arraylength, 1) := by decide +kernel
theorem d_Values_append_9 : decode prog_12_method_3_code 9 = .ok (.if_icmp .lt 5, 3) := by decide +kernel
theorem d_Values_append_12 : decode prog_12_method_3_code 12 = .ok (.iconst 0, 1) := by decide +kernel
theorem d_Values_append_13 : decode prog_12_method_3_code 13 = .ok (.ireturn, 1) := by decide +kernel
theorem d_Values_append_14 : decode prog_12_method_3_code 14 = .ok (.aload_n 0, 1) := by decide +kernel
theorem d_Values_append_15 : decode prog_12_method_3_code 15 = .ok (.getfield 9, 3) := by decide +kernel
theorem d_Values_append_18 : decode prog_12_method_3_code 18 = .ok (.aload_n 0, 1) := by decide +kernel
theorem d_Values_append_19 : decode prog_12_method_3_code 19 = .ok (.getfield 18, 3) := by decide +kernel
theorem d_Values_append_22 : decode prog_12_method_3_code 22 = .ok (.aload_n 1, 1) := by decide +kernel
theorem d_Values_append_23 : decode prog_12_method_3_code 23 = .ok (.getfield 36, 3) := by decide +kernel
theorem d_Values_append_26 : decode prog_12_method_3_code 26 = .ok (.lastore, 1) := by decide +kernel
theorem d_Values_append_27 : decode prog_12_method_3_code 27 = .ok (.aload_n 0, 1) := by decide +kernel
theorem d_Values_append_28 : decode prog_12_method_3_code 28 = .ok (.getfield 15, 3) := by decide +kernel
theorem d_Values_append_31 : decode prog_12_method_3_code 31 = .ok (.aload_n 0, 1) := by decide +kernel
theorem d_Values_append_32 : decode prog_12_method_3_code 32 = .ok (.getfield 18, 3) := by decide +kernel
theorem d_Values_append_35 : decode prog_12_method_3_code 35 = .ok (.aload_n 1, 1) := by decide +kernel
theorem d_Values_append_36 : decode prog_12_method_3_code 36 = .ok (.getfield 40, 3) := by decide +kernel
theorem d_Values_append_39 : decode prog_12_method_3_code 39 = .ok (.lastore, 1) := by decide +kernel
theorem d_Values_append_40 : decode prog_12_method_3_code 40 = .ok (.aload_n 0, 1) := by decide +kernel
theorem d_Values_append_41 : decode prog_12_method_3_code 41 = .ok (.dup, 1) := by decide +kernel
theorem d_Values_append_42 : decode prog_12_method_3_code 42 = .ok (.getfield 18, 3) := by decide +kernel
theorem d_Values_append_45 : decode prog_12_method_3_code 45 = .ok (.iconst 1, 1) := by decide +kernel
theorem d_Values_append_46 : decode prog_12_method_3_code 46 = .ok (.iadd, 1) := by decide +kernel
theorem d_Values_append_47 : decode prog_12_method_3_code 47 = .ok (.putfield 18, 3) := by decide +kernel
theorem d_Values_append_50 : decode prog_12_method_3_code 50 = .ok (.iconst 1, 1) := by decide +kernel
theorem d_Values_append_51 : decode prog_12_method_3_code 51 = .ok (.ireturn, 1) := by decide +kernel
theorem d_A_judge_0 : decode prog_1_method_13_code 0 = .ok (.aload_n 0, 1) := by decide +kernel
theorem d_A_judge_1 : decode prog_1_method_13_code 1 = .ok (.iload_n 1, 1) := by decide +kernel
theorem d_A_judge_2 : decode prog_1_method_13_code 2 = .ok (.invokevirtual 115, 3) := by decide +kernel
theorem d_A_judge_5 : decode prog_1_method_13_code 5 = .ok (.astore_n 2, 1) := by decide +kernel
theorem d_A_judge_6 : decode prog_1_method_13_code 6 = .ok (.aload_n 2, 1) := by decide +kernel
theorem d_A_judge_7 : decode prog_1_method_13_code 7 = .ok (.ifnonnull 6, 3) := by decide +kernel
theorem d_A_judge_10 : decode prog_1_method_13_code 10 = .ok (.bipush (-2), 2) := by decide +kernel
theorem d_A_judge_12 : decode prog_1_method_13_code 12 = .ok (.ireturn, 1) := by decide +kernel
theorem d_A_judge_13 : decode prog_1_method_13_code 13 = .ok (.aload_n 2, 1) := by decide +kernel
theorem d_A_judge_14 : decode prog_1_method_13_code 14 = .ok (.getfield 119, 3) := by decide +kernel
theorem d_A_judge_17 : decode prog_1_method_13_code 17 = .ok (.getfield 123, 3) := by decide +kernel
theorem d_A_judge_20 : decode prog_1_method_13_code 20 = .ok (.aload_n 0, 1) := by decide +kernel
theorem d_A_judge_21 : decode prog_1_method_13_code 21 = .ok (.getfield 35, 3) := by decide +kernel
theorem d_A_judge_24 : decode prog_1_method_13_code 24 = .ok (.getfield 168, 3) := by decide +kernel
theorem d_A_judge_27 : decode prog_1_method_13_code 27 = .ok (.getfield 178, 3) := by decide +kernel
theorem d_A_judge_30 : decode prog_1_method_13_code 30 = .ok (.invokestatic 179, 3) := by decide +kernel
theorem d_A_judge_33 : decode prog_1_method_13_code 33 = .ok (.istore_n 3, 1) := by decide +kernel
theorem d_A_judge_34 : decode prog_1_method_13_code 34 = .ok (.aload_n 2, 1) := by decide +kernel
theorem d_A_judge_35 : decode prog_1_method_13_code 35 = .ok (.aload_n 0, 1) := by decide +kernel
theorem d_A_judge_36 : decode prog_1_method_13_code 36 = .ok (.getfield 45, 3) := by decide +kernel
theorem d_A_judge_39 : decode prog_1_method_13_code 39 = .ok (.aload_n 0, 1) := by decide +kernel
theorem d_A_judge_40 : decode prog_1_method_13_code 40 = .ok (.getfield 35, 3) := by decide +kernel
theorem d_A_judge_43 : decode prog_1_method_13_code 43 = .ok (.getfield 88, 3) := by decide +kernel
theorem d_A_judge_46 : decode prog_1_method_13_code 46 = .ok (.invokevirtual 156, 3) := by decide +kernel
theorem d_A_judge_49 : decode prog_1_method_13_code 49 = .ok (.iconst 0, 1) := by decide +kernel
theorem d_A_judge_50 : decode prog_1_method_13_code 50 = .ok (.istore 4, 2) := by decide +kernel
theorem d_A_judge_52 : decode prog_1_method_13_code 52 = .ok (.iload 4, 2) := by decide +kernel
theorem d_A_judge_54 : decode prog_1_method_13_code 54 = .ok (.iload_n 3, 1) := by decide +kernel
theorem d_A_judge_55 : decode prog_1_method_13_code 55 = .ok (.if_icmp .ge 71, 3) := by decide +kernel
theorem d_A_judge_58 : decode prog_1_method_13_code 58 = .ok (.aload_n 0, 1) := by decide +kernel
theorem d_A_judge_59 : decode prog_1_method_13_code 59 = .ok (.getfield 45, 3) := by decide +kernel
theorem d_A_judge_62 : decode prog_1_method_13_code 62 = .ok (.aload_n 2, 1) := by decide +kernel
theorem d_A_judge_63 : decode prog_1_method_13_code 63 = .ok (.getfield 119, 3) := by decide +kernel
theorem d_A_judge_66 : decode prog_1_method_13_code 66 = .ok (.getfield 134, 3) := by decide +kernel
theorem d_A_judge_69 : decode prog_1_method_13_code 69 = .ok (.iload 4, 2) := by decide +kernel
theorem d_A_judge_71 : decode prog_1_method_13_code 71 = .ok (.iaload, 1) := by decide +kernel
theorem d_A_judge_72 : decode prog_1_method_13_code 72 = .ok (.aload_n 2, 1) := by decide +kernel
theorem d_A_judge_73 : decode prog_1_method_13_code 73 = .ok (.getfield 119, 3) := by decide +kernel
theorem d_A_judge_76 : decode prog_1_method_13_code 76 = .ok (.iload 4, 2) := by decide +kernel
theorem d_A_judge_78 : decode prog_1_method_13_code 78 = .ok (.aload_n 0, 1) := by decide +kernel
theorem d_A_judge_79 : decode prog_1_method_13_code 79 = .ok (.getfield 35, 3) := by decide +kernel
theorem d_A_judge_82 : decode prog_1_method_13_code 82 = .ok (.getfield 88, 3) := by decide +kernel
theorem d_A_judge_85 : decode prog_1_method_13_code 85 = .ok (.invokevirtual 160, 3) := by decide +kernel
theorem d_A_judge_88 : decode prog_1_method_13_code 88 = .ok (.invokevirtual 164, 3) := by decide +kernel
theorem d_A_judge_91 : decode prog_1_method_13_code 91 = .ok (.istore 5, 2) := by decide +kernel
theorem d_A_judge_93 : decode prog_1_method_13_code 93 = .ok (.iload 5, 2) := by decide +kernel
theorem d_A_judge_95 : decode prog_1_method_13_code 95 = .ok (.ifCond .eq 22, 3) := by decide +kernel
theorem d_A_judge_98 : decode prog_1_method_13_code 98 = .ok (.aload_n 0, 1) := by decide +kernel
theorem d_A_judge_99 : decode prog_1_method_13_code 99 = .ok (.getfield 35, 3) := by decide +kernel
theorem d_A_judge_102 : decode prog_1_method_13_code 102 = .ok (.getfield 168, 3) := by decide +kernel
theorem d_A_judge_105 : decode prog_1_method_13_code 105 = .ok (.iload 4, 2) := by decide +kernel
theorem d_A_judge_107 : decode prog_1_method_13_code 107 = .ok (.aload_n 0, 1) := by decide +kernel
theorem d_A_judge_108 : decode prog_1_method_13_code 108 = .ok (.getfield 45, 3) := by decide +kernel
theorem d_A_judge_111 : decode prog_1_method_13_code 111 = .ok (.invokevirtual 185, 3) := by decide +kernel
theorem d_A_judge_114 : decode prog_1_method_13_code 114 = .ok (.ifCond .ne 6, 3) := by decide +kernel
theorem d_A_judge_117 : decode prog_1_method_13_code 117 = .ok (.iload 4, 2) := by decide +kernel
theorem d_A_judge_119 : decode prog_1_method_13_code 119 = .ok (.ireturn, 1) := by decide +kernel
theorem d_A_judge_120 : decode prog_1_method_13_code 120 = .ok (.iinc 4 1, 3) := by decide +kernel
theorem d_A_judge_123 : decode prog_1_method_13_code 123 = .ok (.goto (-71), 3) := by decide +kernel
theorem d_A_judge_126 : decode prog_1_method_13_code 126 = .ok (.iconst (-1), 1) := by decide +kernel
theorem d_A_judge_127 : decode prog_1_method_13_code 127 = .ok (.ireturn, 1) := by decide +kernel
theorem d_Values_holds_0 : decode prog_12_method_5_code 0 = .ok (.iload_n 1, 1) := by decide +kernel
theorem d_Values_holds_1 : decode prog_12_method_5_code 1 = .ok (.ifCond .lt 34, 3) := by decide +kernel
theorem d_Values_holds_4 : decode prog_12_method_5_code 4 = .ok (.iload_n 1, 1) := by decide +kernel
theorem d_Values_holds_5 : decode prog_12_method_5_code 5 = .ok (.aload_n 0, 1) := by decide +kernel
theorem d_Values_holds_6 : decode prog_12_method_5_code 6 = .ok (.getfield 18, 3) := by decide +kernel
theorem d_Values_holds_9 : decode prog_12_method_5_code 9 = .ok (.if_icmp .ge 26, 3) := by decide +kernel
theorem d_Values_holds_12 : decode prog_12_method_5_code 12 = .ok (.aload_n 2, 1) := by decide +kernel
theorem d_Values_holds_13 : decode prog_12_method_5_code 13 = .ok (.aload_n 0, 1) := by decide +kernel
theorem d_Values_holds_14 : decode prog_12_method_5_code 14 = .ok (.getfield 9, 3) := by decide +kernel
theorem d_Values_holds_17 : decode prog_12_method_5_code 17 = .ok (.iload_n 1, 1) := by decide +kernel
theorem d_Values_holds_18 : decode prog_12_method_5_code 18 = .ok (.laload, 1) := by decide +kernel
theorem d_Values_holds_19 : decode prog_12_method_5_code 19 = .ok (.aload_n 0, 1) := by decide +kernel
theorem d_Values_holds_20 : decode prog_12_method_5_code 20 = .ok (.getfield 15, 3) := by decide +kernel
theorem d_Values_holds_23 : decode prog_12_method_5_code 23 = .ok (.iload_n 1, 1) := by decide +kernel
theorem d_Values_holds_24 : decode prog_12_method_5_code 24 = .ok (.laload, 1) := by decide +kernel
theorem d_Values_holds_25 : decode prog_12_method_5_code 25 = .ok (.invokevirtual 47, 3) := by decide +kernel
theorem d_Values_holds_28 : decode prog_12_method_5_code 28 = .ok (.ifCond .eq 7, 3) := by decide +kernel
theorem d_Values_holds_31 : decode prog_12_method_5_code 31 = .ok (.iconst 1, 1) := by decide +kernel
theorem d_Values_holds_32 : decode prog_12_method_5_code 32 = .ok (.goto 4, 3) := by decide +kernel
theorem d_Values_holds_35 : decode prog_12_method_5_code 35 = .ok (.iconst 0, 1) := by decide +kernel
theorem d_Values_holds_36 : decode prog_12_method_5_code 36 = .ok (.ireturn, 1) := by decide +kernel
theorem d_Value_is_0 : decode prog_11_method_4_code 0 = .ok (.aload_n 0, 1) := by decide +kernel
theorem d_Value_is_1 : decode prog_11_method_4_code 1 = .ok (.getfield 15, 3) := by decide +kernel
theorem d_Value_is_4 : decode prog_11_method_4_code 4 = .ok (.lload_n 1, 1) := by decide +kernel
theorem d_Value_is_5 : decode prog_11_method_4_code 5 = .ok (.lcmp, 1) := by decide +kernel
theorem d_Value_is_6 : decode prog_11_method_4_code 6 = .ok (.ifCond .ne 16, 3) := by decide +kernel
theorem d_Value_is_9 : decode prog_11_method_4_code 9 = .ok (.aload_n 0, 1) := by decide +kernel
theorem d_Value_is_10 : decode prog_11_method_4_code 10 = .ok (.getfield 9, 3) := by decide +kernel
theorem d_Value_is_13 : decode prog_11_method_4_code 13 = .ok (.lload_n 3, 1) := by decide +kernel
theorem d_Value_is_14 : decode prog_11_method_4_code 14 = .ok (.lcmp, 1) := by decide +kernel
theorem d_Value_is_15 : decode prog_11_method_4_code 15 = .ok (.ifCond .ne 7, 3) := by decide +kernel
theorem d_Value_is_18 : decode prog_11_method_4_code 18 = .ok (.iconst 1, 1) := by decide +kernel
theorem d_Value_is_19 : decode prog_11_method_4_code 19 = .ok (.goto 4, 3) := by decide +kernel
theorem d_Value_is_22 : decode prog_11_method_4_code 22 = .ok (.iconst 0, 1) := by decide +kernel
theorem d_Value_is_23 : decode prog_11_method_4_code 23 = .ok (.ireturn, 1) := by decide +kernel
theorem d_A_same_0 : decode prog_1_method_14_code 0 = .ok (.aload_n 0, 1) := by decide +kernel
theorem d_A_same_1 : decode prog_1_method_14_code 1 = .ok (.iload_n 1, 1) := by decide +kernel
theorem d_A_same_2 : decode prog_1_method_14_code 2 = .ok (.invokevirtual 115, 3) := by decide +kernel
theorem d_A_same_5 : decode prog_1_method_14_code 5 = .ok (.astore_n 2, 1) := by decide +kernel
theorem d_A_same_6 : decode prog_1_method_14_code 6 = .ok (.aload_n 2, 1) := by decide +kernel
theorem d_A_same_7 : decode prog_1_method_14_code 7 = .ok (.ifnonnull 5, 3) := by decide +kernel
theorem d_A_same_10 : decode prog_1_method_14_code 10 = .ok (.iconst (-1), 1) := by decide +kernel
theorem d_A_same_11 : decode prog_1_method_14_code 11 = .ok (.ireturn, 1) := by decide +kernel
theorem d_A_same_12 : decode prog_1_method_14_code 12 = .ok (.aload_n 2, 1) := by decide +kernel
theorem d_A_same_13 : decode prog_1_method_14_code 13 = .ok (.invokevirtual 189, 3) := by decide +kernel
theorem d_A_same_16 : decode prog_1_method_14_code 16 = .ok (.ldc2_w 193, 3) := by decide +kernel
theorem d_A_same_19 : decode prog_1_method_14_code 19 = .ok (.lcmp, 1) := by decide +kernel
theorem d_A_same_20 : decode prog_1_method_14_code 20 = .ok (.ifCond .le 6, 3) := by decide +kernel
theorem d_A_same_23 : decode prog_1_method_14_code 23 = .ok (.bipush (-2), 2) := by decide +kernel
theorem d_A_same_25 : decode prog_1_method_14_code 25 = .ok (.ireturn, 1) := by decide +kernel
theorem d_A_same_26 : decode prog_1_method_14_code 26 = .ok (.aload_n 0, 1) := by decide +kernel
theorem d_A_same_27 : decode prog_1_method_14_code 27 = .ok (.aload_n 2, 1) := by decide +kernel
theorem d_A_same_28 : decode prog_1_method_14_code 28 = .ok (.invokevirtual 195, 3) := by decide +kernel
theorem d_A_same_31 : decode prog_1_method_14_code 31 = .ok (.ifCond .eq 7, 3) := by decide +kernel
theorem d_A_same_34 : decode prog_1_method_14_code 34 = .ok (.iconst 0, 1) := by decide +kernel
theorem d_A_same_35 : decode prog_1_method_14_code 35 = .ok (.goto 4, 3) := by decide +kernel
theorem d_A_same_38 : decode prog_1_method_14_code 38 = .ok (.iconst 1, 1) := by decide +kernel
theorem d_A_same_39 : decode prog_1_method_14_code 39 = .ok (.ireturn, 1) := by decide +kernel
theorem d_Table_countAll_0 : decode prog_8_method_10_code 0 = .ok (.lconst 1, 1) := by decide +kernel
theorem d_Table_countAll_1 : decode prog_8_method_10_code 1 = .ok (.lstore_n 1, 1) := by decide +kernel
theorem d_Table_countAll_2 : decode prog_8_method_10_code 2 = .ok (.iconst 0, 1) := by decide +kernel
theorem d_Table_countAll_3 : decode prog_8_method_10_code 3 = .ok (.istore_n 3, 1) := by decide +kernel
theorem d_Table_countAll_4 : decode prog_8_method_10_code 4 = .ok (.iload_n 3, 1) := by decide +kernel
theorem d_Table_countAll_5 : decode prog_8_method_10_code 5 = .ok (.iconst 4, 1) := by decide +kernel
theorem d_Table_countAll_6 : decode prog_8_method_10_code 6 = .ok (.if_icmp .ge 36, 3) := by decide +kernel
theorem d_Table_countAll_9 : decode prog_8_method_10_code 9 = .ok (.aload_n 0, 1) := by decide +kernel
theorem d_Table_countAll_10 : decode prog_8_method_10_code 10 = .ok (.iload_n 3, 1) := by decide +kernel
theorem d_Table_countAll_11 : decode prog_8_method_10_code 11 = .ok (.invokevirtual 41, 3) := by decide +kernel
theorem d_Table_countAll_14 : decode prog_8_method_10_code 14 = .ok (.ifCond .eq 22, 3) := by decide +kernel
theorem d_Table_countAll_17 : decode prog_8_method_10_code 17 = .ok (.lload_n 1, 1) := by decide +kernel
theorem d_Table_countAll_18 : decode prog_8_method_10_code 18 = .ok (.aload_n 0, 1) := by decide +kernel
theorem d_Table_countAll_19 : decode prog_8_method_10_code 19 = .ok (.getfield 24, 3) := by decide +kernel
theorem d_Table_countAll_22 : decode prog_8_method_10_code 22 = .ok (.iload_n 3, 1) := by decide +kernel
theorem d_Table_countAll_23 : decode prog_8_method_10_code 23 = .ok (.iaload, 1) := by decide +kernel
theorem d_Table_countAll_24 : decode prog_8_method_10_code 24 = .ok (.aload_n 0, 1) := by decide +kernel
theorem d_Table_countAll_25 : decode prog_8_method_10_code 25 = .ok (.getfield 20, 3) := by decide +kernel
theorem d_Table_countAll_28 : decode prog_8_method_10_code 28 = .ok (.iload_n 3, 1) := by decide +kernel
theorem d_Table_countAll_29 : decode prog_8_method_10_code 29 = .ok (.iaload, 1) := by decide +kernel
theorem d_Table_countAll_30 : decode prog_8_method_10_code 30 = .ok (.isub, 1) := by decide +kernel
theorem d_Table_countAll_31 : decode prog_8_method_10_code 31 = .ok (.iconst 1, 1) := by decide +kernel
theorem d_Table_countAll_32 : decode prog_8_method_10_code 32 = .ok (.iadd, 1) := by decide +kernel
theorem d_Table_countAll_33 : decode prog_8_method_10_code 33 = .ok (.i2l, 1) := by decide +kernel
theorem d_Table_countAll_34 : decode prog_8_method_10_code 34 = .ok (.lmul, 1) := by decide +kernel
theorem d_Table_countAll_35 : decode prog_8_method_10_code 35 = .ok (.lstore_n 1, 1) := by decide +kernel
theorem d_Table_countAll_36 : decode prog_8_method_10_code 36 = .ok (.iinc 3 1, 3) := by decide +kernel
theorem d_Table_countAll_39 : decode prog_8_method_10_code 39 = .ok (.goto (-35), 3) := by decide +kernel
theorem d_Table_countAll_42 : decode prog_8_method_10_code 42 = .ok (.lload_n 1, 1) := by decide +kernel
theorem d_Table_countAll_43 : decode prog_8_method_10_code 43 = .ok (.lreturn, 1) := by decide +kernel
theorem d_A_findUnlike_0 : decode prog_1_method_35_code 0 = .ok (.aload_n 1, 1) := by decide +kernel
theorem d_A_findUnlike_1 : decode prog_1_method_35_code 1 = .ok (.invokevirtual 189, 3) := by decide +kernel
theorem d_A_findUnlike_4 : decode prog_1_method_35_code 4 = .ok (.lstore_n 2, 1) := by decide +kernel
theorem d_A_findUnlike_5 : decode prog_1_method_35_code 5 = .ok (.aload_n 1, 1) := by decide +kernel
theorem d_A_findUnlike_6 : decode prog_1_method_35_code 6 = .ok (.aload_n 0, 1) := by decide +kernel
theorem d_A_findUnlike_7 : decode prog_1_method_35_code 7 = .ok (.getfield 52, 3) := by decide +kernel
theorem d_A_findUnlike_10 : decode prog_1_method_35_code 10 = .ok (.invokevirtual 215, 3) := by decide +kernel
theorem d_A_findUnlike_13 : decode prog_1_method_35_code 13 = .ok (.iconst 0, 1) := by decide +kernel
theorem d_A_findUnlike_14 : decode prog_1_method_35_code 14 = .ok (.istore 4, 2) := by decide +kernel
theorem d_A_findUnlike_16 : decode prog_1_method_35_code 16 = .ok (.iload 4, 2) := by decide +kernel
theorem d_A_findUnlike_18 : decode prog_1_method_35_code 18 = .ok (.i2l, 1) := by decide +kernel
theorem d_A_findUnlike_19 : decode prog_1_method_35_code 19 = .ok (.lload_n 2, 1) := by decide +kernel
theorem d_A_findUnlike_20 : decode prog_1_method_35_code 20 = .ok (.lcmp, 1) := by decide +kernel
theorem d_A_findUnlike_21 : decode prog_1_method_35_code 21 = .ok (.ifCond .ge 84, 3) := by decide +kernel
theorem d_A_findUnlike_24 : decode prog_1_method_35_code 24 = .ok (.iload 4, 2) := by decide +kernel
theorem d_A_findUnlike_26 : decode prog_1_method_35_code 26 = .ok (.sipush 20000, 3) := by decide +kernel
theorem d_A_findUnlike_29 : decode prog_1_method_35_code 29 = .ok (.if_icmp .ge 76, 3) := by decide +kernel
theorem d_A_findUnlike_32 : decode prog_1_method_35_code 32 = .ok (.aload_n 1, 1) := by decide +kernel
theorem d_A_findUnlike_33 : decode prog_1_method_35_code 33 = .ok (.aload_n 0, 1) := by decide +kernel
theorem d_A_findUnlike_34 : decode prog_1_method_35_code 34 = .ok (.getfield 52, 3) := by decide +kernel
theorem d_A_findUnlike_37 : decode prog_1_method_35_code 37 = .ok (.aload_n 0, 1) := by decide +kernel
theorem d_A_findUnlike_38 : decode prog_1_method_35_code 38 = .ok (.getfield 45, 3) := by decide +kernel
theorem d_A_findUnlike_41 : decode prog_1_method_35_code 41 = .ok (.invokevirtual 310, 3) := by decide +kernel
theorem d_A_findUnlike_44 : decode prog_1_method_35_code 44 = .ok (.ifCond .ne 5, 3) := by decide +kernel
theorem d_A_findUnlike_47 : decode prog_1_method_35_code 47 = .ok (.iconst 1, 1) := by decide +kernel
theorem d_A_findUnlike_48 : decode prog_1_method_35_code 48 = .ok (.ireturn, 1) := by decide +kernel
theorem d_A_findUnlike_49 : decode prog_1_method_35_code 49 = .ok (.iload 4, 2) := by decide +kernel
theorem d_A_findUnlike_51 : decode prog_1_method_35_code 51 = .ok (.ifCond .ne 14, 3) := by decide +kernel
theorem d_A_findUnlike_54 : decode prog_1_method_35_code 54 = .ok (.aload_n 0, 1) := by decide +kernel
theorem d_A_findUnlike_55 : decode prog_1_method_35_code 55 = .ok (.getfield 49, 3) := by decide +kernel
theorem d_A_findUnlike_58 : decode prog_1_method_35_code 58 = .ok (.aload_n 0, 1) := by decide +kernel
theorem d_A_findUnlike_59 : decode prog_1_method_35_code 59 = .ok (.getfield 45, 3) := by decide +kernel
theorem d_A_findUnlike_62 : decode prog_1_method_35_code 62 = .ok (.invokevirtual 314, 3) := by decide +kernel
theorem d_A_findUnlike_65 : decode prog_1_method_35_code 65 = .ok (.aload_n 0, 1) := by decide +kernel
theorem d_A_findUnlike_66 : decode prog_1_method_35_code 66 = .ok (.getfield 45, 3) := by decide +kernel
theorem d_A_findUnlike_69 : decode prog_1_method_35_code 69 = .ok (.aload_n 0, 1) := by decide +kernel
theorem d_A_findUnlike_70 : decode prog_1_method_35_code 70 = .ok (.getfield 49, 3) := by decide +kernel
theorem d_A_findUnlike_73 : decode prog_1_method_35_code 73 = .ok (.getfield 264, 3) := by decide +kernel
theorem d_A_findUnlike_76 : decode prog_1_method_35_code 76 = .ok (.aload_n 0, 1) := by decide +kernel
theorem d_A_findUnlike_77 : decode prog_1_method_35_code 77 = .ok (.getfield 49, 3) := by decide +kernel
theorem d_A_findUnlike_80 : decode prog_1_method_35_code 80 = .ok (.getfield 267, 3) := by decide +kernel
theorem d_A_findUnlike_83 : decode prog_1_method_35_code 83 = .ok (.invokevirtual 268, 3) := by decide +kernel
theorem d_A_findUnlike_86 : decode prog_1_method_35_code 86 = .ok (.ifCond .ne 5, 3) := by decide +kernel
theorem d_A_findUnlike_89 : decode prog_1_method_35_code 89 = .ok (.iconst 1, 1) := by decide +kernel
theorem d_A_findUnlike_90 : decode prog_1_method_35_code 90 = .ok (.ireturn, 1) := by decide +kernel
theorem d_A_findUnlike_91 : decode prog_1_method_35_code 91 = .ok (.aload_n 1, 1) := by decide +kernel
theorem d_A_findUnlike_92 : decode prog_1_method_35_code 92 = .ok (.aload_n 0, 1) := by decide +kernel
theorem d_A_findUnlike_93 : decode prog_1_method_35_code 93 = .ok (.getfield 52, 3) := by decide +kernel
theorem d_A_findUnlike_96 : decode prog_1_method_35_code 96 = .ok (.invokevirtual 226, 3) := by decide +kernel
theorem d_A_findUnlike_99 : decode prog_1_method_35_code 99 = .ok (.iinc 4 1, 3) := by decide +kernel
theorem d_A_findUnlike_102 : decode prog_1_method_35_code 102 = .ok (.goto (-86), 3) := by decide +kernel
theorem d_A_findUnlike_105 : decode prog_1_method_35_code 105 = .ok (.iconst 0, 1) := by decide +kernel
theorem d_A_findUnlike_106 : decode prog_1_method_35_code 106 = .ok (.ireturn, 1) := by decide +kernel
theorem d_Table_firstOfAll_0 : decode prog_8_method_11_code 0 = .ok (.iconst 0, 1) := by decide +kernel
theorem d_Table_firstOfAll_1 : decode prog_8_method_11_code 1 = .ok (.istore_n 2, 1) := by decide +kernel
theorem d_Table_firstOfAll_2 : decode prog_8_method_11_code 2 = .ok (.iload_n 2, 1) := by decide +kernel
theorem d_Table_firstOfAll_3 : decode prog_8_method_11_code 3 = .ok (.iconst 4, 1) := by decide +kernel
theorem d_Table_firstOfAll_4 : decode prog_8_method_11_code 4 = .ok (.if_icmp .ge 22, 3) := by decide +kernel
theorem d_Table_firstOfAll_7 : decode prog_8_method_11_code 7 = .ok (.aload_n 1, 1) := by decide +kernel
theorem d_Table_firstOfAll_8 : decode prog_8_method_11_code 8 = .ok (.iload_n 2, 1) := by decide +kernel
theorem d_Table_firstOfAll_9 : decode prog_8_method_11_code 9 = .ok (.aload_n 0, 1) := by decide +kernel
theorem d_Table_firstOfAll_10 : decode prog_8_method_11_code 10 = .ok (.getfield 20, 3) := by decide +kernel
theorem d_Table_firstOfAll_13 : decode prog_8_method_11_code 13 = .ok (.iload_n 2, 1) := by decide +kernel
theorem d_Table_firstOfAll_14 : decode prog_8_method_11_code 14 = .ok (.iaload, 1) := by decide +kernel
theorem d_Table_firstOfAll_15 : decode prog_8_method_11_code 15 = .ok (.iconst 0, 1) := by decide +kernel
theorem d_Table_firstOfAll_16 : decode prog_8_method_11_code 16 = .ok (.invokestatic 86, 3) := by decide +kernel
theorem d_Table_firstOfAll_19 : decode prog_8_method_11_code 19 = .ok (.iastore, 1) := by decide +kernel
theorem d_Table_firstOfAll_20 : decode prog_8_method_11_code 20 = .ok (.iinc 2 1, 3) := by decide +kernel
theorem d_Table_firstOfAll_23 : decode prog_8_method_11_code 23 = .ok (.goto (-21), 3) := by decide +kernel
theorem d_Table_firstOfAll_26 : decode prog_8_method_11_code 26 = .ok (.return_, 1) := by decide +kernel
theorem d_Table_comesToEnd_0 : decode prog_8_method_6_code 0 = .ok (.aload_n 0, 1) := by decide +kernel
theorem d_Table_comesToEnd_1 : decode prog_8_method_6_code 1 = .ok (.aload_n 0, 1) := by decide +kernel
theorem d_Table_comesToEnd_2 : decode prog_8_method_6_code 2 = .ok (.getfield 14, 3) := by decide +kernel
theorem d_Table_comesToEnd_5 : decode prog_8_method_6_code 5 = .ok (.getfield 27, 3) := by decide +kernel
theorem d_Table_comesToEnd_8 : decode prog_8_method_6_code 8 = .ok (.aload_n 1, 1) := by decide +kernel
theorem d_Table_comesToEnd_9 : decode prog_8_method_6_code 9 = .ok (.aload_n 2, 1) := by decide +kernel
theorem d_Table_comesToEnd_10 : decode prog_8_method_6_code 10 = .ok (.invokevirtual 71, 3) := by decide +kernel
theorem d_Table_comesToEnd_13 : decode prog_8_method_6_code 13 = .ok (.aload_n 0, 1) := by decide +kernel
theorem d_Table_comesToEnd_14 : decode prog_8_method_6_code 14 = .ok (.getfield 14, 3) := by decide +kernel
theorem d_Table_comesToEnd_17 : decode prog_8_method_6_code 17 = .ok (.getfield 27, 3) := by decide +kernel
theorem d_Table_comesToEnd_20 : decode prog_8_method_6_code 20 = .ok (.if_icmp .ne 7, 3) := by decide +kernel
theorem d_Table_comesToEnd_23 : decode prog_8_method_6_code 23 = .ok (.iconst 1, 1) := by decide +kernel
theorem d_Table_comesToEnd_24 : decode prog_8_method_6_code 24 = .ok (.goto 4, 3) := by decide +kernel
theorem d_Table_comesToEnd_27 : decode prog_8_method_6_code 27 = .ok (.iconst 0, 1) := by decide +kernel
theorem d_Table_comesToEnd_28 : decode prog_8_method_6_code 28 = .ok (.ireturn, 1) := by decide +kernel
theorem d_Value_copyFrom_0 : decode prog_11_method_3_code 0 = .ok (.aload_n 0, 1) := by decide +kernel
theorem d_Value_copyFrom_1 : decode prog_11_method_3_code 1 = .ok (.aload_n 1, 1) := by decide +kernel
theorem d_Value_copyFrom_2 : decode prog_11_method_3_code 2 = .ok (.getfield 15, 3) := by decide +kernel
theorem d_Value_copyFrom_5 : decode prog_11_method_3_code 5 = .ok (.putfield 15, 3) := by decide +kernel
theorem d_Value_copyFrom_8 : decode prog_11_method_3_code 8 = .ok (.aload_n 0, 1) := by decide +kernel
theorem d_Value_copyFrom_9 : decode prog_11_method_3_code 9 = .ok (.aload_n 1, 1) := by decide +kernel
theorem d_Value_copyFrom_10 : decode prog_11_method_3_code 10 = .ok (.getfield 9, 3) := by decide +kernel
theorem d_Value_copyFrom_13 : decode prog_11_method_3_code 13 = .ok (.putfield 9, 3) := by decide +kernel
theorem d_Value_copyFrom_16 : decode prog_11_method_3_code 16 = .ok (.return_, 1) := by decide +kernel
theorem d_Table_nextOfAll_0 : decode prog_8_method_12_code 0 = .ok (.iconst 3, 1) := by decide +kernel
theorem d_Table_nextOfAll_1 : decode prog_8_method_12_code 1 = .ok (.istore_n 2, 1) := by decide +kernel
theorem d_Table_nextOfAll_2 : decode prog_8_method_12_code 2 = .ok (.iload_n 2, 1) := by decide +kernel
theorem d_Table_nextOfAll_3 : decode prog_8_method_12_code 3 = .ok (.ifCond .lt 46, 3) := by decide +kernel
theorem d_Table_nextOfAll_6 : decode prog_8_method_12_code 6 = .ok (.aload_n 0, 1) := by decide +kernel
theorem d_Table_nextOfAll_7 : decode prog_8_method_12_code 7 = .ok (.iload_n 2, 1) := by decide +kernel
theorem d_Table_nextOfAll_8 : decode prog_8_method_12_code 8 = .ok (.invokevirtual 41, 3) := by decide +kernel
theorem d_Table_nextOfAll_11 : decode prog_8_method_12_code 11 = .ok (.ifCond .eq 32, 3) := by decide +kernel
theorem d_Table_nextOfAll_14 : decode prog_8_method_12_code 14 = .ok (.aload_n 1, 1) := by decide +kernel
theorem d_Table_nextOfAll_15 : decode prog_8_method_12_code 15 = .ok (.iload_n 2, 1) := by decide +kernel
theorem d_Table_nextOfAll_16 : decode prog_8_method_12_code 16 = .ok (.iaload, 1) := by decide +kernel
theorem d_Table_nextOfAll_17 : decode prog_8_method_12_code 17 = .ok (.aload_n 0, 1) := by decide +kernel
theorem d_Table_nextOfAll_18 : decode prog_8_method_12_code 18 = .ok (.getfield 24, 3) := by decide +kernel
theorem d_Table_nextOfAll_21 : decode prog_8_method_12_code 21 = .ok (.iload_n 2, 1) := by decide +kernel
theorem d_Table_nextOfAll_22 : decode prog_8_method_12_code 22 = .ok (.iaload, 1) := by decide +kernel
theorem d_Table_nextOfAll_23 : decode prog_8_method_12_code 23 = .ok (.if_icmp .ge 11, 3) := by decide +kernel
theorem d_Table_nextOfAll_26 : decode prog_8_method_12_code 26 = .ok (.aload_n 1, 1) := by decide +kernel
theorem d_Table_nextOfAll_27 : decode prog_8_method_12_code 27 = .ok (.iload_n 2, 1) := by decide +kernel
theorem d_Table_nextOfAll_28 : decode prog_8_method_12_code 28 = .ok (.dup2, 1) := by decide +kernel
theorem d_Table_nextOfAll_29 : decode prog_8_method_12_code 29 = .ok (.iaload, 1) := by decide +kernel
theorem d_Table_nextOfAll_30 : decode prog_8_method_12_code 30 = .ok (.iconst 1, 1) := by decide +kernel
theorem d_Table_nextOfAll_31 : decode prog_8_method_12_code 31 = .ok (.iadd, 1) := by decide +kernel
theorem d_Table_nextOfAll_32 : decode prog_8_method_12_code 32 = .ok (.iastore, 1) := by decide +kernel
theorem d_Table_nextOfAll_33 : decode prog_8_method_12_code 33 = .ok (.return_, 1) := by decide +kernel
theorem d_Table_nextOfAll_34 : decode prog_8_method_12_code 34 = .ok (.aload_n 1, 1) := by decide +kernel
theorem d_Table_nextOfAll_35 : decode prog_8_method_12_code 35 = .ok (.iload_n 2, 1) := by decide +kernel
theorem d_Table_nextOfAll_36 : decode prog_8_method_12_code 36 = .ok (.aload_n 0, 1) := by decide +kernel
theorem d_Table_nextOfAll_37 : decode prog_8_method_12_code 37 = .ok (.getfield 20, 3) := by decide +kernel
theorem d_Table_nextOfAll_40 : decode prog_8_method_12_code 40 = .ok (.iload_n 2, 1) := by decide +kernel
theorem d_Table_nextOfAll_41 : decode prog_8_method_12_code 41 = .ok (.iaload, 1) := by decide +kernel
theorem d_Table_nextOfAll_42 : decode prog_8_method_12_code 42 = .ok (.iastore, 1) := by decide +kernel
theorem d_Table_nextOfAll_43 : decode prog_8_method_12_code 43 = .ok (.iinc 2 (-1), 3) := by decide +kernel
theorem d_Table_nextOfAll_46 : decode prog_8_method_12_code 46 = .ok (.goto (-44), 3) := by decide +kernel
theorem d_Table_nextOfAll_49 : decode prog_8_method_12_code 49 = .ok (.return_, 1) := by decide +kernel
theorem d_A_unlike_0 : decode prog_1_method_15_code 0 = .ok (.aload_n 0, 1) := by decide +kernel
theorem d_A_unlike_1 : decode prog_1_method_15_code 1 = .ok (.iload_n 1, 1) := by decide +kernel
theorem d_A_unlike_2 : decode prog_1_method_15_code 2 = .ok (.invokevirtual 115, 3) := by decide +kernel
theorem d_A_unlike_5 : decode prog_1_method_15_code 5 = .ok (.astore_n 3, 1) := by decide +kernel
theorem d_A_unlike_6 : decode prog_1_method_15_code 6 = .ok (.aload_n 3, 1) := by decide +kernel
theorem d_A_unlike_7 : decode prog_1_method_15_code 7 = .ok (.ifnull 10, 3) := by decide +kernel
theorem d_A_unlike_10 : decode prog_1_method_15_code 10 = .ok (.iload_n 2, 1) := by decide +kernel
theorem d_A_unlike_11 : decode prog_1_method_15_code 11 = .ok (.invokestatic 137, 3) := by decide +kernel
theorem d_A_unlike_14 : decode prog_1_method_15_code 14 = .ok (.ifCond .ne 5, 3) := by decide +kernel
theorem d_A_unlike_17 : decode prog_1_method_15_code 17 = .ok (.iconst (-1), 1) := by decide +kernel
theorem d_A_unlike_18 : decode prog_1_method_15_code 18 = .ok (.ireturn, 1) := by decide +kernel
theorem d_A_unlike_19 : decode prog_1_method_15_code 19 = .ok (.aload_n 3, 1) := by decide +kernel
theorem d_A_unlike_20 : decode prog_1_method_15_code 20 = .ok (.invokevirtual 189, 3) := by decide +kernel
theorem d_A_unlike_23 : decode prog_1_method_15_code 23 = .ok (.ldc2_w 193, 3) := by decide +kernel
theorem d_A_unlike_26 : decode prog_1_method_15_code 26 = .ok (.lcmp, 1) := by decide +kernel
theorem d_A_unlike_27 : decode prog_1_method_15_code 27 = .ok (.ifCond .le 6, 3) := by decide +kernel
theorem d_A_unlike_30 : decode prog_1_method_15_code 30 = .ok (.bipush (-2), 2) := by decide +kernel
theorem d_A_unlike_32 : decode prog_1_method_15_code 32 = .ok (.ireturn, 1) := by decide +kernel
theorem d_A_unlike_33 : decode prog_1_method_15_code 33 = .ok (.aload_n 0, 1) := by decide +kernel
theorem d_A_unlike_34 : decode prog_1_method_15_code 34 = .ok (.aload_n 3, 1) := by decide +kernel
theorem d_A_unlike_35 : decode prog_1_method_15_code 35 = .ok (.invokevirtual 195, 3) := by decide +kernel
theorem d_A_unlike_38 : decode prog_1_method_15_code 38 = .ok (.ifCond .eq 12, 3) := by decide +kernel
theorem d_A_unlike_41 : decode prog_1_method_15_code 41 = .ok (.aload_n 0, 1) := by decide +kernel
theorem d_A_unlike_42 : decode prog_1_method_15_code 42 = .ok (.getfield 52, 3) := by decide +kernel
theorem d_A_unlike_45 : decode prog_1_method_15_code 45 = .ok (.iload_n 2, 1) := by decide +kernel
theorem d_A_unlike_46 : decode prog_1_method_15_code 46 = .ok (.iaload, 1) := by decide +kernel
theorem d_A_unlike_47 : decode prog_1_method_15_code 47 = .ok (.goto 4, 3) := by decide +kernel
theorem d_A_unlike_50 : decode prog_1_method_15_code 50 = .ok (.iconst (-1), 1) := by decide +kernel
theorem d_A_unlike_51 : decode prog_1_method_15_code 51 = .ok (.ireturn, 1) := by decide +kernel
theorem d_A_proof_0 : decode prog_1_method_16_code 0 = .ok (.aload_n 0, 1) := by decide +kernel
theorem d_A_proof_1 : decode prog_1_method_16_code 1 = .ok (.iload_n 1, 1) := by decide +kernel
theorem d_A_proof_2 : decode prog_1_method_16_code 2 = .ok (.invokevirtual 115, 3) := by decide +kernel
theorem d_A_proof_5 : decode prog_1_method_16_code 5 = .ok (.astore_n 3, 1) := by decide +kernel
theorem d_A_proof_6 : decode prog_1_method_16_code 6 = .ok (.aload_n 3, 1) := by decide +kernel
theorem d_A_proof_7 : decode prog_1_method_16_code 7 = .ok (.ifnull 23, 3) := by decide +kernel
theorem d_A_proof_10 : decode prog_1_method_16_code 10 = .ok (.iload_n 2, 1) := by decide +kernel
theorem d_A_proof_11 : decode prog_1_method_16_code 11 = .ok (.ifCond .lt 19, 3) := by decide +kernel
theorem d_A_proof_14 : decode prog_1_method_16_code 14 = .ok (.iload_n 2, 1) := by decide +kernel
theorem d_A_proof_15 : decode prog_1_method_16_code 15 = .ok (.iconst 5, 1) := by decide +kernel
theorem d_A_proof_16 : decode prog_1_method_16_code 16 = .ok (.if_icmp .gt 14, 3) := by decide +kernel
theorem d_A_proof_19 : decode prog_1_method_16_code 19 = .ok (.aload_n 0, 1) := by decide +kernel
theorem d_A_proof_20 : decode prog_1_method_16_code 20 = .ok (.getfield 66, 3) := by decide +kernel
theorem d_A_proof_23 : decode prog_1_method_16_code 23 = .ok (.aload_n 3, 1) := by decide +kernel
theorem d_A_proof_24 : decode prog_1_method_16_code 24 = .ok (.invokevirtual 198, 3) := by decide +kernel
theorem d_A_proof_27 : decode prog_1_method_16_code 27 = .ok (.ifCond .ne 7, 3) := by decide +kernel
theorem d_A_proof_30 : decode prog_1_method_16_code 30 = .ok (.ldc2_w 146, 3) := by decide +kernel
theorem d_A_proof_33 : decode prog_1_method_16_code 33 = .ok (.lreturn, 1) := by decide +kernel
theorem d_A_proof_34 : decode prog_1_method_16_code 34 = .ok (.iload_n 2, 1) := by decide +kernel
theorem d_A_proof_35 : decode prog_1_method_16_code 35 = .ok (.iconst 4, 1) := by decide +kernel
theorem d_A_proof_36 : decode prog_1_method_16_code 36 = .ok (.if_icmp .gt 15, 3) := by decide +kernel
theorem d_A_proof_39 : decode prog_1_method_16_code 39 = .ok (.aload_n 0, 1) := by decide +kernel
theorem d_A_proof_40 : decode prog_1_method_16_code 40 = .ok (.getfield 66, 3) := by decide +kernel
theorem d_A_proof_43 : decode prog_1_method_16_code 43 = .ok (.getfield 201, 3) := by decide +kernel
theorem d_A_proof_46 : decode prog_1_method_16_code 46 = .ok (.iload_n 2, 1) := by decide +kernel
theorem d_A_proof_47 : decode prog_1_method_16_code 47 = .ok (.laload, 1) := by decide +kernel
theorem d_A_proof_48 : decode prog_1_method_16_code 48 = .ok (.goto 10, 3) := by decide +kernel
theorem d_A_proof_51 : decode prog_1_method_16_code 51 = .ok (.aload_n 0, 1) := by decide +kernel
theorem d_A_proof_52 : decode prog_1_method_16_code 52 = .ok (.getfield 66, 3) := by decide +kernel
theorem d_A_proof_55 : decode prog_1_method_16_code 55 = .ok (.getfield 205, 3) := by decide +kernel
theorem d_A_proof_58 : decode prog_1_method_16_code 58 = .ok (.lreturn, 1) := by decide +kernel
theorem d_Sum_prove_0 : decode prog_7_method_2_code 0 = .ok (.aload_n 0, 1) := by decide +kernel
theorem d_Sum_prove_1 : decode prog_7_method_2_code 1 = .ok (.getfield 9, 3) := by decide +kernel
theorem d_Sum_prove_4 : decode prog_7_method_2_code 4 = .ok (.lconst 0, 1) := by decide +kernel
theorem d_Sum_prove_5 : decode prog_7_method_2_code 5 = .ok (.invokestatic 15, 3) := by decide +kernel
theorem d_Sum_prove_8 : decode prog_7_method_2_code 8 = .ok (.aload_n 0, 1) := by decide +kernel
theorem d_Sum_prove_9 : decode prog_7_method_2_code 9 = .ok (.getfield 9, 3) := by decide +kernel
theorem d_Sum_prove_12 : decode prog_7_method_2_code 12 = .ok (.iconst 0, 1) := by decide +kernel
theorem d_Sum_prove_13 : decode prog_7_method_2_code 13 = .ok (.aload_n 1, 1) := by decide +kernel
theorem d_Sum_prove_14 : decode prog_7_method_2_code 14 = .ok (.iconst 0, 1) := by decide +kernel
theorem d_Sum_prove_15 : decode prog_7_method_2_code 15 = .ok (.invokevirtual 21, 3) := by decide +kernel
theorem d_Sum_prove_18 : decode prog_7_method_2_code 18 = .ok (.ifCond .eq 7, 3) := by decide +kernel
theorem d_Sum_prove_21 : decode prog_7_method_2_code 21 = .ok (.lconst 1, 1) := by decide +kernel
theorem d_Sum_prove_22 : decode prog_7_method_2_code 22 = .ok (.goto 4, 3) := by decide +kernel
theorem d_Sum_prove_25 : decode prog_7_method_2_code 25 = .ok (.lconst 0, 1) := by decide +kernel
theorem d_Sum_prove_26 : decode prog_7_method_2_code 26 = .ok (.lastore, 1) := by decide +kernel
theorem d_Sum_prove_27 : decode prog_7_method_2_code 27 = .ok (.aload_n 0, 1) := by decide +kernel
theorem d_Sum_prove_28 : decode prog_7_method_2_code 28 = .ok (.lconst 1, 1) := by decide +kernel
theorem d_Sum_prove_29 : decode prog_7_method_2_code 29 = .ok (.putfield 27, 3) := by decide +kernel
theorem d_Sum_prove_32 : decode prog_7_method_2_code 32 = .ok (.iconst 0, 1) := by decide +kernel
theorem d_Sum_prove_33 : decode prog_7_method_2_code 33 = .ok (.istore_n 2, 1) := by decide +kernel
theorem d_Sum_prove_34 : decode prog_7_method_2_code 34 = .ok (.iload_n 2, 1) := by decide +kernel
theorem d_Sum_prove_35 : decode prog_7_method_2_code 35 = .ok (.aload_n 1, 1) := by decide +kernel
theorem d_Sum_prove_36 : decode prog_7_method_2_code 36 = .ok (.getfield 31, 3) := by decide +kernel
theorem d_Sum_prove_39 : decode prog_7_method_2_code 39 = .ok (.getfield 35, 3) := by decide +kernel
theorem d_Sum_prove_42 : decode prog_7_method_2_code 42 = .ok (.if_icmp .ge 43, 3) := by decide +kernel
theorem d_Sum_prove_45 : decode prog_7_method_2_code 45 = .ok (.aload_n 0, 1) := by decide +kernel
theorem d_Sum_prove_46 : decode prog_7_method_2_code 46 = .ok (.aload_n 1, 1) := by decide +kernel
theorem d_Sum_prove_47 : decode prog_7_method_2_code 47 = .ok (.getfield 31, 3) := by decide +kernel
theorem d_Sum_prove_50 : decode prog_7_method_2_code 50 = .ok (.getfield 41, 3) := by decide +kernel
theorem d_Sum_prove_53 : decode prog_7_method_2_code 53 = .ok (.iload_n 2, 1) := by decide +kernel
theorem d_Sum_prove_54 : decode prog_7_method_2_code 54 = .ok (.iaload, 1) := by decide +kernel
theorem d_Sum_prove_55 : decode prog_7_method_2_code 55 = .ok (.aload_n 1, 1) := by decide +kernel
theorem d_Sum_prove_56 : decode prog_7_method_2_code 56 = .ok (.getfield 31, 3) := by decide +kernel
theorem d_Sum_prove_59 : decode prog_7_method_2_code 59 = .ok (.getfield 45, 3) := by decide +kernel
theorem d_Sum_prove_62 : decode prog_7_method_2_code 62 = .ok (.iload_n 2, 1) := by decide +kernel
theorem d_Sum_prove_63 : decode prog_7_method_2_code 63 = .ok (.iaload, 1) := by decide +kernel
theorem d_Sum_prove_64 : decode prog_7_method_2_code 64 = .ok (.invokevirtual 48, 3) := by decide +kernel
theorem d_Sum_prove_67 : decode prog_7_method_2_code 67 = .ok (.ifCond .eq 10, 3) := by decide +kernel
theorem d_Sum_prove_70 : decode prog_7_method_2_code 70 = .ok (.aload_n 0, 1) := by decide +kernel
theorem d_Sum_prove_71 : decode prog_7_method_2_code 71 = .ok (.invokevirtual 52, 3) := by decide +kernel
theorem d_Sum_prove_74 : decode prog_7_method_2_code 74 = .ok (.ifCond .ne 5, 3) := by decide +kernel
theorem d_Sum_prove_77 : decode prog_7_method_2_code 77 = .ok (.iconst 0, 1) := by decide +kernel
theorem d_Sum_prove_78 : decode prog_7_method_2_code 78 = .ok (.ireturn, 1) := by decide +kernel
theorem d_Sum_prove_79 : decode prog_7_method_2_code 79 = .ok (.iinc 2 1, 3) := by decide +kernel
theorem d_Sum_prove_82 : decode prog_7_method_2_code 82 = .ok (.goto (-48), 3) := by decide +kernel
theorem d_Sum_prove_85 : decode prog_7_method_2_code 85 = .ok (.iconst 1, 1) := by decide +kernel
theorem d_Sum_prove_86 : decode prog_7_method_2_code 86 = .ok (.ireturn, 1) := by decide +kernel
theorem d_JArr_fillJ_0 : decode prog_21_method_101_code 0 = .ok (.iconst 0, 1) := by decide +kernel
theorem d_JArr_fillJ_1 : decode prog_21_method_101_code 1 = .ok (.istore_n 3, 1) := by decide +kernel
theorem d_JArr_fillJ_2 : decode prog_21_method_101_code 2 = .ok (.aload_n 0, 1) := by decide +kernel
theorem d_JArr_fillJ_3 : decode prog_21_method_101_code 3 = .ok (.arraylength, 1) := by decide +kernel
theorem d_JArr_fillJ_4 : decode prog_21_method_101_code 4 = .ok (.istore 4, 2) := by decide +kernel
theorem d_JArr_fillJ_6 : decode prog_21_method_101_code 6 = .ok (.iload_n 3, 1) := by decide +kernel
theorem d_JArr_fillJ_7 : decode prog_21_method_101_code 7 = .ok (.iload 4, 2) := by decide +kernel
theorem d_JArr_fillJ_9 : decode prog_21_method_101_code 9 = .ok (.if_icmp .ge 13, 3) := by decide +kernel
theorem d_JArr_fillJ_12 : decode prog_21_method_101_code 12 = .ok (.aload_n 0, 1) := by decide +kernel
theorem d_JArr_fillJ_13 : decode prog_21_method_101_code 13 = .ok (.iload_n 3, 1) := by decide +kernel
theorem d_JArr_fillJ_14 : decode prog_21_method_101_code 14 = .ok (.lload_n 1, 1) := by decide +kernel
theorem d_JArr_fillJ_15 : decode prog_21_method_101_code 15 = .ok (.lastore, 1) := by decide +kernel
theorem d_JArr_fillJ_16 : decode prog_21_method_101_code 16 = .ok (.iinc 3 1, 3) := by decide +kernel
theorem d_JArr_fillJ_19 : decode prog_21_method_101_code 19 = .ok (.goto (-13), 3) := by decide +kernel
theorem d_JArr_fillJ_22 : decode prog_21_method_101_code 22 = .ok (.return_, 1) := by decide +kernel
theorem d_Sum_follow_0 : decode prog_7_method_3_code 0 = .ok (.iload_n 2, 1) := by decide +kernel
theorem d_Sum_follow_1 : decode prog_7_method_3_code 1 = .ok (.sipush 10000, 3) := by decide +kernel
theorem d_Sum_follow_4 : decode prog_7_method_3_code 4 = .ok (.if_icmp .ge 7, 3) := by decide +kernel
theorem d_Sum_follow_7 : decode prog_7_method_3_code 7 = .ok (.iconst 1, 1) := by decide +kernel
theorem d_Sum_follow_8 : decode prog_7_method_3_code 8 = .ok (.goto 4, 3) := by decide +kernel
theorem d_Sum_follow_11 : decode prog_7_method_3_code 11 = .ok (.iconst 0, 1) := by decide +kernel
theorem d_Sum_follow_12 : decode prog_7_method_3_code 12 = .ok (.istore_n 3, 1) := by decide +kernel
theorem d_Sum_follow_13 : decode prog_7_method_3_code 13 = .ok (.iload_n 1, 1) := by decide +kernel
theorem d_Sum_follow_14 : decode prog_7_method_3_code 14 = .ok (.tableswitch 126 0 9 #[54, 61, 68, 90, 126, 126, 126, 126, 126, 124], 54) := by decide +kernel
theorem d_Sum_follow_68 : decode prog_7_method_3_code 68 = .ok (.aload_n 0, 1) := by decide +kernel
theorem d_Sum_follow_69 : decode prog_7_method_3_code 69 = .ok (.iload_n 2, 1) := by decide +kernel
theorem d_Sum_follow_70 : decode prog_7_method_3_code 70 = .ok (.iconst 1, 1) := by decide +kernel
theorem d_Sum_follow_71 : decode prog_7_method_3_code 71 = .ok (.invokevirtual 56, 3) := by decide +kernel
theorem d_Sum_follow_74 : decode prog_7_method_3_code 74 = .ok (.ireturn, 1) := by decide +kernel
theorem d_Sum_follow_75 : decode prog_7_method_3_code 75 = .ok (.aload_n 0, 1) := by decide +kernel
theorem d_Sum_follow_76 : decode prog_7_method_3_code 76 = .ok (.iload_n 2, 1) := by decide +kernel
theorem d_Sum_follow_77 : decode prog_7_method_3_code 77 = .ok (.iconst (-1), 1) := by decide +kernel
theorem d_Sum_follow_78 : decode prog_7_method_3_code 78 = .ok (.invokevirtual 56, 3) := by decide +kernel
theorem d_Sum_follow_81 : decode prog_7_method_3_code 81 = .ok (.ireturn, 1) := by decide +kernel
theorem d_Sum_follow_82 : decode prog_7_method_3_code 82 = .ok (.iload_n 3, 1) := by decide +kernel
theorem d_Sum_follow_83 : decode prog_7_method_3_code 83 = .ok (.ifCond .eq 11, 3) := by decide +kernel
theorem d_Sum_follow_86 : decode prog_7_method_3_code 86 = .ok (.aload_n 0, 1) := by decide +kernel
theorem d_Sum_follow_87 : decode prog_7_method_3_code 87 = .ok (.iload_n 2, 1) := by decide +kernel
theorem d_Sum_follow_88 : decode prog_7_method_3_code 88 = .ok (.invokevirtual 59, 3) := by decide +kernel
theorem d_Sum_follow_91 : decode prog_7_method_3_code 91 = .ok (.goto 12, 3) := by decide +kernel
theorem d_Sum_follow_94 : decode prog_7_method_3_code 94 = .ok (.aload_n 0, 1) := by decide +kernel
theorem d_Sum_follow_95 : decode prog_7_method_3_code 95 = .ok (.iload_n 2, 1) := by decide +kernel
theorem d_Sum_follow_96 : decode prog_7_method_3_code 96 = .ok (.sipush 10000, 3) := by decide +kernel
theorem d_Sum_follow_99 : decode prog_7_method_3_code 99 = .ok (.isub, 1) := by decide +kernel
theorem d_Sum_follow_100 : decode prog_7_method_3_code 100 = .ok (.invokevirtual 62, 3) := by decide +kernel
theorem d_Sum_follow_103 : decode prog_7_method_3_code 103 = .ok (.ireturn, 1) := by decide +kernel
theorem d_Sum_follow_104 : decode prog_7_method_3_code 104 = .ok (.aload_n 0, 1) := by decide +kernel
theorem d_Sum_follow_105 : decode prog_7_method_3_code 105 = .ok (.dup, 1) := by decide +kernel
theorem d_Sum_follow_106 : decode prog_7_method_3_code 106 = .ok (.getfield 27, 3) := by decide +kernel
theorem d_Sum_follow_109 : decode prog_7_method_3_code 109 = .ok (.iload_n 3, 1) := by decide +kernel
theorem d_Sum_follow_110 : decode prog_7_method_3_code 110 = .ok (.ifCond .eq 8, 3) := by decide +kernel
theorem d_Sum_follow_113 : decode prog_7_method_3_code 113 = .ok (.iload_n 2, 1) := by decide +kernel
theorem d_Sum_follow_114 : decode prog_7_method_3_code 114 = .ok (.i2l, 1) := by decide +kernel
theorem d_Sum_follow_115 : decode prog_7_method_3_code 115 = .ok (.goto 4, 3) := by decide +kernel
theorem d_Sum_follow_118 : decode prog_7_method_3_code 118 = .ok (.lconst 0, 1) := by decide +kernel
theorem d_Sum_follow_119 : decode prog_7_method_3_code 119 = .ok (.lmul, 1) := by decide +kernel
theorem d_Sum_follow_120 : decode prog_7_method_3_code 120 = .ok (.putfield 27, 3) := by decide +kernel
theorem d_Sum_follow_123 : decode prog_7_method_3_code 123 = .ok (.aload_n 0, 1) := by decide +kernel
theorem d_Sum_follow_124 : decode prog_7_method_3_code 124 = .ok (.getfield 27, 3) := by decide +kernel
theorem d_Sum_follow_127 : decode prog_7_method_3_code 127 = .ok (.lconst 0, 1) := by decide +kernel
theorem d_Sum_follow_128 : decode prog_7_method_3_code 128 = .ok (.lcmp, 1) := by decide +kernel
theorem d_Sum_follow_129 : decode prog_7_method_3_code 129 = .ok (.ifCond .le 7, 3) := by decide +kernel
theorem d_Sum_follow_132 : decode prog_7_method_3_code 132 = .ok (.iconst 1, 1) := by decide +kernel
theorem d_Sum_follow_133 : decode prog_7_method_3_code 133 = .ok (.goto 4, 3) := by decide +kernel
theorem d_Sum_follow_136 : decode prog_7_method_3_code 136 = .ok (.iconst 0, 1) := by decide +kernel
theorem d_Sum_follow_137 : decode prog_7_method_3_code 137 = .ok (.ireturn, 1) := by decide +kernel
theorem d_Sum_follow_138 : decode prog_7_method_3_code 138 = .ok (.iconst 1, 1) := by decide +kernel
theorem d_Sum_follow_139 : decode prog_7_method_3_code 139 = .ok (.ireturn, 1) := by decide +kernel
theorem d_Sum_follow_140 : decode prog_7_method_3_code 140 = .ok (.iconst 0, 1) := by decide +kernel
theorem d_Sum_follow_141 : decode prog_7_method_3_code 141 = .ok (.ireturn, 1) := by decide +kernel
theorem d_Sum_addPart_0 : decode prog_7_method_4_code 0 = .ok (.iload_n 1, 1) := by decide +kernel
theorem d_Sum_addPart_1 : decode prog_7_method_4_code 1 = .ok (.sipush 10000, 3) := by decide +kernel
theorem d_Sum_addPart_4 : decode prog_7_method_4_code 4 = .ok (.isub, 1) := by decide +kernel
theorem d_Sum_addPart_5 : decode prog_7_method_4_code 5 = .ok (.istore_n 3, 1) := by decide +kernel
theorem d_Sum_addPart_6 : decode prog_7_method_4_code 6 = .ok (.iload_n 3, 1) := by decide +kernel
theorem d_Sum_addPart_7 : decode prog_7_method_4_code 7 = .ok (.invokestatic 65, 3) := by decide +kernel
theorem d_Sum_addPart_10 : decode prog_7_method_4_code 10 = .ok (.ifCond .eq 22, 3) := by decide +kernel
theorem d_Sum_addPart_13 : decode prog_7_method_4_code 13 = .ok (.aload_n 0, 1) := by decide +kernel
theorem d_Sum_addPart_14 : decode prog_7_method_4_code 14 = .ok (.getfield 9, 3) := by decide +kernel
theorem d_Sum_addPart_17 : decode prog_7_method_4_code 17 = .ok (.iload_n 3, 1) := by decide +kernel
theorem d_Sum_addPart_18 : decode prog_7_method_4_code 18 = .ok (.dup2, 1) := by decide +kernel
theorem d_Sum_addPart_19 : decode prog_7_method_4_code 19 = .ok (.laload, 1) := by decide +kernel
theorem d_Sum_addPart_20 : decode prog_7_method_4_code 20 = .ok (.iload_n 2, 1) := by decide +kernel
theorem d_Sum_addPart_21 : decode prog_7_method_4_code 21 = .ok (.i2l, 1) := by decide +kernel
theorem d_Sum_addPart_22 : decode prog_7_method_4_code 22 = .ok (.aload_n 0, 1) := by decide +kernel
theorem d_Sum_addPart_23 : decode prog_7_method_4_code 23 = .ok (.getfield 27, 3) := by decide +kernel
theorem d_Sum_addPart_26 : decode prog_7_method_4_code 26 = .ok (.lmul, 1) := by decide +kernel
theorem d_Sum_addPart_27 : decode prog_7_method_4_code 27 = .ok (.ladd, 1) := by decide +kernel
theorem d_Sum_addPart_28 : decode prog_7_method_4_code 28 = .ok (.lastore, 1) := by decide +kernel
theorem d_Sum_addPart_29 : decode prog_7_method_4_code 29 = .ok (.goto 21, 3) := by decide +kernel
theorem d_Sum_addPart_32 : decode prog_7_method_4_code 32 = .ok (.aload_n 0, 1) := by decide +kernel
theorem d_Sum_addPart_33 : decode prog_7_method_4_code 33 = .ok (.getfield 9, 3) := by decide +kernel
theorem d_Sum_addPart_36 : decode prog_7_method_4_code 36 = .ok (.iconst 4, 1) := by decide +kernel
theorem d_Sum_addPart_37 : decode prog_7_method_4_code 37 = .ok (.dup2, 1) := by decide +kernel
theorem d_Sum_addPart_38 : decode prog_7_method_4_code 38 = .ok (.laload, 1) := by decide +kernel
theorem d_Sum_addPart_39 : decode prog_7_method_4_code 39 = .ok (.iload_n 2, 1) := by decide +kernel
theorem d_Sum_addPart_40 : decode prog_7_method_4_code 40 = .ok (.iload_n 1, 1) := by decide +kernel
theorem d_Sum_addPart_41 : decode prog_7_method_4_code 41 = .ok (.imul, 1) := by decide +kernel
theorem d_Sum_addPart_42 : decode prog_7_method_4_code 42 = .ok (.i2l, 1) := by decide +kernel
theorem d_Sum_addPart_43 : decode prog_7_method_4_code 43 = .ok (.aload_n 0, 1) := by decide +kernel
theorem d_Sum_addPart_44 : decode prog_7_method_4_code 44 = .ok (.getfield 27, 3) := by decide +kernel
theorem d_Sum_addPart_47 : decode prog_7_method_4_code 47 = .ok (.lmul, 1) := by decide +kernel
theorem d_Sum_addPart_48 : decode prog_7_method_4_code 48 = .ok (.ladd, 1) := by decide +kernel
theorem d_Sum_addPart_49 : decode prog_7_method_4_code 49 = .ok (.lastore, 1) := by decide +kernel
theorem d_Sum_addPart_50 : decode prog_7_method_4_code 50 = .ok (.iconst 1, 1) := by decide +kernel
theorem d_Sum_addPart_51 : decode prog_7_method_4_code 51 = .ok (.ireturn, 1) := by decide +kernel
theorem d_Sum_multiply_0 : decode prog_7_method_5_code 0 = .ok (.iconst 0, 1) := by decide +kernel
theorem d_Sum_multiply_1 : decode prog_7_method_5_code 1 = .ok (.istore_n 2, 1) := by decide +kernel
theorem d_Sum_multiply_2 : decode prog_7_method_5_code 2 = .ok (.iload_n 2, 1) := by decide +kernel
theorem d_Sum_multiply_3 : decode prog_7_method_5_code 3 = .ok (.aload_n 0, 1) := by decide +kernel
theorem d_Sum_multiply_4 : decode prog_7_method_5_code 4 = .ok (.getfield 9, 3) := by decide +kernel
theorem d_Sum_multiply_7 : decode prog_7_method_5_code 7 = .ok (.arraylength, 1) := by decide +kernel
theorem d_Sum_multiply_8 : decode prog_7_method_5_code 8 = .ok (.if_icmp .ge 20, 3) := by decide +kernel
theorem d_Sum_multiply_11 : decode prog_7_method_5_code 11 = .ok (.aload_n 0, 1) := by decide +kernel
theorem d_Sum_multiply_12 : decode prog_7_method_5_code 12 = .ok (.getfield 9, 3) := by decide +kernel
theorem d_Sum_multiply_15 : decode prog_7_method_5_code 15 = .ok (.iload_n 2, 1) := by decide +kernel
theorem d_Sum_multiply_16 : decode prog_7_method_5_code 16 = .ok (.dup2, 1) := by decide +kernel
theorem d_Sum_multiply_17 : decode prog_7_method_5_code 17 = .ok (.laload, 1) := by decide +kernel
theorem d_Sum_multiply_18 : decode prog_7_method_5_code 18 = .ok (.iload_n 1, 1) := by decide +kernel
theorem d_Sum_multiply_19 : decode prog_7_method_5_code 19 = .ok (.i2l, 1) := by decide +kernel
theorem d_Sum_multiply_20 : decode prog_7_method_5_code 20 = .ok (.lmul, 1) := by decide +kernel
theorem d_Sum_multiply_21 : decode prog_7_method_5_code 21 = .ok (.lastore, 1) := by decide +kernel
theorem d_Sum_multiply_22 : decode prog_7_method_5_code 22 = .ok (.iinc 2 1, 3) := by decide +kernel
theorem d_Sum_multiply_25 : decode prog_7_method_5_code 25 = .ok (.goto (-23), 3) := by decide +kernel
theorem d_Sum_multiply_28 : decode prog_7_method_5_code 28 = .ok (.iconst 1, 1) := by decide +kernel
theorem d_Sum_multiply_29 : decode prog_7_method_5_code 29 = .ok (.ireturn, 1) := by decide +kernel
theorem d_Sum_multiplyByLetter_0 : decode prog_7_method_6_code 0 = .ok (.iconst 0, 1) := by decide +kernel
theorem d_Sum_multiplyByLetter_1 : decode prog_7_method_6_code 1 = .ok (.istore_n 2, 1) := by decide +kernel
theorem d_Sum_multiplyByLetter_2 : decode prog_7_method_6_code 2 = .ok (.iload_n 2, 1) := by decide +kernel
theorem d_Sum_multiplyByLetter_3 : decode prog_7_method_6_code 3 = .ok (.iconst 4, 1) := by decide +kernel
theorem d_Sum_multiplyByLetter_4 : decode prog_7_method_6_code 4 = .ok (.if_icmp .ge 22, 3) := by decide +kernel
theorem d_Sum_multiplyByLetter_7 : decode prog_7_method_6_code 7 = .ok (.aload_n 0, 1) := by decide +kernel
theorem d_Sum_multiplyByLetter_8 : decode prog_7_method_6_code 8 = .ok (.getfield 9, 3) := by decide +kernel
theorem d_Sum_multiplyByLetter_11 : decode prog_7_method_6_code 11 = .ok (.iload_n 2, 1) := by decide +kernel
theorem d_Sum_multiplyByLetter_12 : decode prog_7_method_6_code 12 = .ok (.laload, 1) := by decide +kernel
theorem d_Sum_multiplyByLetter_13 : decode prog_7_method_6_code 13 = .ok (.lconst 0, 1) := by decide +kernel
theorem d_Sum_multiplyByLetter_14 : decode prog_7_method_6_code 14 = .ok (.lcmp, 1) := by decide +kernel
theorem d_Sum_multiplyByLetter_15 : decode prog_7_method_6_code 15 = .ok (.ifCond .eq 5, 3) := by decide +kernel
theorem d_Sum_multiplyByLetter_18 : decode prog_7_method_6_code 18 = .ok (.iconst 0, 1) := by decide +kernel
theorem d_Sum_multiplyByLetter_19 : decode prog_7_method_6_code 19 = .ok (.ireturn, 1) := by decide +kernel
theorem d_Sum_multiplyByLetter_20 : decode prog_7_method_6_code 20 = .ok (.iinc 2 1, 3) := by decide +kernel
theorem d_Sum_multiplyByLetter_23 : decode prog_7_method_6_code 23 = .ok (.goto (-21), 3) := by decide +kernel
theorem d_Sum_multiplyByLetter_26 : decode prog_7_method_6_code 26 = .ok (.iload_n 1, 1) := by decide +kernel
theorem d_Sum_multiplyByLetter_27 : decode prog_7_method_6_code 27 = .ok (.invokestatic 65, 3) := by decide +kernel
theorem d_Sum_multiplyByLetter_30 : decode prog_7_method_6_code 30 = .ok (.ifCond .ne 5, 3) := by decide +kernel
theorem d_Sum_multiplyByLetter_33 : decode prog_7_method_6_code 33 = .ok (.iconst 0, 1) := by decide +kernel
theorem d_Sum_multiplyByLetter_34 : decode prog_7_method_6_code 34 = .ok (.ireturn, 1) := by decide +kernel
theorem d_Sum_multiplyByLetter_35 : decode prog_7_method_6_code 35 = .ok (.aload_n 0, 1) := by decide +kernel
theorem d_Sum_multiplyByLetter_36 : decode prog_7_method_6_code 36 = .ok (.getfield 9, 3) := by decide +kernel
theorem d_Sum_multiplyByLetter_39 : decode prog_7_method_6_code 39 = .ok (.iload_n 1, 1) := by decide +kernel
theorem d_Sum_multiplyByLetter_40 : decode prog_7_method_6_code 40 = .ok (.aload_n 0, 1) := by decide +kernel
theorem d_Sum_multiplyByLetter_41 : decode prog_7_method_6_code 41 = .ok (.getfield 9, 3) := by decide +kernel
theorem d_Sum_multiplyByLetter_44 : decode prog_7_method_6_code 44 = .ok (.iconst 4, 1) := by decide +kernel
theorem d_Sum_multiplyByLetter_45 : decode prog_7_method_6_code 45 = .ok (.laload, 1) := by decide +kernel
theorem d_Sum_multiplyByLetter_46 : decode prog_7_method_6_code 46 = .ok (.lastore, 1) := by decide +kernel
theorem d_Sum_multiplyByLetter_47 : decode prog_7_method_6_code 47 = .ok (.aload_n 0, 1) := by decide +kernel
theorem d_Sum_multiplyByLetter_48 : decode prog_7_method_6_code 48 = .ok (.getfield 9, 3) := by decide +kernel
theorem d_Sum_multiplyByLetter_51 : decode prog_7_method_6_code 51 = .ok (.iconst 4, 1) := by decide +kernel
theorem d_Sum_multiplyByLetter_52 : decode prog_7_method_6_code 52 = .ok (.lconst 0, 1) := by decide +kernel
theorem d_Sum_multiplyByLetter_53 : decode prog_7_method_6_code 53 = .ok (.lastore, 1) := by decide +kernel
theorem d_Sum_multiplyByLetter_54 : decode prog_7_method_6_code 54 = .ok (.iconst 1, 1) := by decide +kernel
theorem d_Sum_multiplyByLetter_55 : decode prog_7_method_6_code 55 = .ok (.ireturn, 1) := by decide +kernel
theorem d_Sum_putInLowestTerms_0 : decode prog_7_method_7_code 0 = .ok (.aload_n 0, 1) := by decide +kernel
theorem d_Sum_putInLowestTerms_1 : decode prog_7_method_7_code 1 = .ok (.getfield 27, 3) := by decide +kernel
theorem d_Sum_putInLowestTerms_4 : decode prog_7_method_7_code 4 = .ok (.lstore_n 1, 1) := by decide +kernel
theorem d_Sum_putInLowestTerms_5 : decode prog_7_method_7_code 5 = .ok (.iconst 0, 1) := by decide +kernel
theorem d_Sum_putInLowestTerms_6 : decode prog_7_method_7_code 6 = .ok (.istore_n 3, 1) := by decide +kernel
theorem d_Sum_putInLowestTerms_7 : decode prog_7_method_7_code 7 = .ok (.iload_n 3, 1) := by decide +kernel
theorem d_Sum_putInLowestTerms_8 : decode prog_7_method_7_code 8 = .ok (.aload_n 0, 1) := by decide +kernel
theorem d_Sum_putInLowestTerms_9 : decode prog_7_method_7_code 9 = .ok (.getfield 9, 3) := by decide +kernel
theorem d_Sum_putInLowestTerms_12 : decode prog_7_method_7_code 12 = .ok (.arraylength, 1) := by decide +kernel
theorem d_Sum_putInLowestTerms_13 : decode prog_7_method_7_code 13 = .ok (.if_icmp .ge 20, 3) := by decide +kernel
theorem d_Sum_putInLowestTerms_16 : decode prog_7_method_7_code 16 = .ok (.aload_n 0, 1) := by decide +kernel
theorem d_Sum_putInLowestTerms_17 : decode prog_7_method_7_code 17 = .ok (.getfield 9, 3) := by decide +kernel
theorem d_Sum_putInLowestTerms_20 : decode prog_7_method_7_code 20 = .ok (.iload_n 3, 1) := by decide +kernel
theorem d_Sum_putInLowestTerms_21 : decode prog_7_method_7_code 21 = .ok (.laload, 1) := by decide +kernel
theorem d_Sum_putInLowestTerms_22 : decode prog_7_method_7_code 22 = .ok (.lload_n 1, 1) := by decide +kernel
theorem d_Sum_putInLowestTerms_23 : decode prog_7_method_7_code 23 = .ok (.invokestatic 68, 3) := by decide +kernel
theorem d_Sum_putInLowestTerms_26 : decode prog_7_method_7_code 26 = .ok (.lstore_n 1, 1) := by decide +kernel
theorem d_Sum_putInLowestTerms_27 : decode prog_7_method_7_code 27 = .ok (.iinc 3 1, 3) := by decide +kernel
theorem d_Sum_putInLowestTerms_30 : decode prog_7_method_7_code 30 = .ok (.goto (-23), 3) := by decide +kernel
theorem d_Sum_putInLowestTerms_33 : decode prog_7_method_7_code 33 = .ok (.lload_n 1, 1) := by decide +kernel
theorem d_Sum_putInLowestTerms_34 : decode prog_7_method_7_code 34 = .ok (.lconst 1, 1) := by decide +kernel
theorem d_Sum_putInLowestTerms_35 : decode prog_7_method_7_code 35 = .ok (.lcmp, 1) := by decide +kernel
theorem d_Sum_putInLowestTerms_36 : decode prog_7_method_7_code 36 = .ok (.ifCond .ge 5, 3) := by decide +kernel
theorem d_Sum_putInLowestTerms_39 : decode prog_7_method_7_code 39 = .ok (.iconst 0, 1) := by decide +kernel
theorem d_Sum_putInLowestTerms_40 : decode prog_7_method_7_code 40 = .ok (.ireturn, 1) := by decide +kernel
theorem d_Sum_putInLowestTerms_41 : decode prog_7_method_7_code 41 = .ok (.aload_n 0, 1) := by decide +kernel
theorem d_Sum_putInLowestTerms_42 : decode prog_7_method_7_code 42 = .ok (.dup, 1) := by decide +kernel
theorem d_Sum_putInLowestTerms_43 : decode prog_7_method_7_code 43 = .ok (.getfield 27, 3) := by decide +kernel
theorem d_Sum_putInLowestTerms_46 : decode prog_7_method_7_code 46 = .ok (.lload_n 1, 1) := by decide +kernel
theorem d_Sum_putInLowestTerms_47 : decode prog_7_method_7_code 47 = .ok (.ldiv, 1) := by decide +kernel
theorem d_Sum_putInLowestTerms_48 : decode prog_7_method_7_code 48 = .ok (.putfield 27, 3) := by decide +kernel
theorem d_Sum_putInLowestTerms_51 : decode prog_7_method_7_code 51 = .ok (.aload_n 0, 1) := by decide +kernel
theorem d_Sum_putInLowestTerms_52 : decode prog_7_method_7_code 52 = .ok (.getfield 27, 3) := by decide +kernel
theorem d_Sum_putInLowestTerms_55 : decode prog_7_method_7_code 55 = .ok (.ldc2_w 72, 3) := by decide +kernel
theorem d_Sum_putInLowestTerms_58 : decode prog_7_method_7_code 58 = .ok (.lcmp, 1) := by decide +kernel
theorem d_Sum_putInLowestTerms_59 : decode prog_7_method_7_code 59 = .ok (.ifCond .gt 7, 3) := by decide +kernel
theorem d_Sum_putInLowestTerms_62 : decode prog_7_method_7_code 62 = .ok (.iconst 1, 1) := by decide +kernel
theorem d_Sum_putInLowestTerms_63 : decode prog_7_method_7_code 63 = .ok (.goto 4, 3) := by decide +kernel
theorem d_Sum_putInLowestTerms_66 : decode prog_7_method_7_code 66 = .ok (.iconst 0, 1) := by decide +kernel
theorem d_Sum_putInLowestTerms_67 : decode prog_7_method_7_code 67 = .ok (.istore_n 3, 1) := by decide +kernel
theorem d_Sum_putInLowestTerms_68 : decode prog_7_method_7_code 68 = .ok (.iconst 0, 1) := by decide +kernel
theorem d_Sum_putInLowestTerms_69 : decode prog_7_method_7_code 69 = .ok (.istore 4, 2) := by decide +kernel
theorem d_Sum_putInLowestTerms_71 : decode prog_7_method_7_code 71 = .ok (.iload 4, 2) := by decide +kernel
theorem d_Sum_putInLowestTerms_73 : decode prog_7_method_7_code 73 = .ok (.aload_n 0, 1) := by decide +kernel
theorem d_Sum_putInLowestTerms_74 : decode prog_7_method_7_code 74 = .ok (.getfield 9, 3) := by decide +kernel
theorem d_Sum_putInLowestTerms_77 : decode prog_7_method_7_code 77 = .ok (.arraylength, 1) := by decide +kernel
theorem d_Sum_putInLowestTerms_78 : decode prog_7_method_7_code 78 = .ok (.if_icmp .ge 58, 3) := by decide +kernel
theorem d_Sum_putInLowestTerms_81 : decode prog_7_method_7_code 81 = .ok (.aload_n 0, 1) := by decide +kernel
theorem d_Sum_putInLowestTerms_82 : decode prog_7_method_7_code 82 = .ok (.getfield 9, 3) := by decide +kernel
theorem d_Sum_putInLowestTerms_85 : decode prog_7_method_7_code 85 = .ok (.iload 4, 2) := by decide +kernel
theorem d_Sum_putInLowestTerms_87 : decode prog_7_method_7_code 87 = .ok (.dup2, 1) := by decide +kernel
theorem d_Sum_putInLowestTerms_88 : decode prog_7_method_7_code 88 = .ok (.laload, 1) := by decide +kernel
theorem d_Sum_putInLowestTerms_89 : decode prog_7_method_7_code 89 = .ok (.lload_n 1, 1) := by decide +kernel
theorem d_Sum_putInLowestTerms_90 : decode prog_7_method_7_code 90 = .ok (.ldiv, 1) := by decide +kernel
theorem d_Sum_putInLowestTerms_91 : decode prog_7_method_7_code 91 = .ok (.lastore, 1) := by decide +kernel
theorem d_Sum_putInLowestTerms_92 : decode prog_7_method_7_code 92 = .ok (.iload_n 3, 1) := by decide +kernel
theorem d_Sum_putInLowestTerms_93 : decode prog_7_method_7_code 93 = .ok (.ifCond .eq 35, 3) := by decide +kernel
theorem d_Sum_putInLowestTerms_96 : decode prog_7_method_7_code 96 = .ok (.aload_n 0, 1) := by decide +kernel
theorem d_Sum_putInLowestTerms_97 : decode prog_7_method_7_code 97 = .ok (.getfield 9, 3) := by decide +kernel
theorem d_Sum_putInLowestTerms_100 : decode prog_7_method_7_code 100 = .ok (.iload 4, 2) := by decide +kernel
theorem d_Sum_putInLowestTerms_102 : decode prog_7_method_7_code 102 = .ok (.laload, 1) := by decide +kernel
theorem d_Sum_putInLowestTerms_103 : decode prog_7_method_7_code 103 = .ok (.ldc2_w 74, 3) := by decide +kernel
theorem d_Sum_putInLowestTerms_106 : decode prog_7_method_7_code 106 = .ok (.lcmp, 1) := by decide +kernel
theorem d_Sum_putInLowestTerms_107 : decode prog_7_method_7_code 107 = .ok (.ifCond .gt 21, 3) := by decide +kernel
theorem d_Sum_putInLowestTerms_110 : decode prog_7_method_7_code 110 = .ok (.aload_n 0, 1) := by decide +kernel
theorem d_Sum_putInLowestTerms_111 : decode prog_7_method_7_code 111 = .ok (.getfield 9, 3) := by decide +kernel
theorem d_Sum_putInLowestTerms_114 : decode prog_7_method_7_code 114 = .ok (.iload 4, 2) := by decide +kernel
theorem d_Sum_putInLowestTerms_116 : decode prog_7_method_7_code 116 = .ok (.laload, 1) := by decide +kernel
theorem d_Sum_putInLowestTerms_117 : decode prog_7_method_7_code 117 = .ok (.ldc2_w 76, 3) := by decide +kernel
theorem d_Sum_putInLowestTerms_120 : decode prog_7_method_7_code 120 = .ok (.lcmp, 1) := by decide +kernel
theorem d_Sum_putInLowestTerms_121 : decode prog_7_method_7_code 121 = .ok (.ifCond .lt 7, 3) := by decide +kernel
theorem d_Sum_putInLowestTerms_124 : decode prog_7_method_7_code 124 = .ok (.iconst 1, 1) := by decide +kernel
theorem d_Sum_putInLowestTerms_125 : decode prog_7_method_7_code 125 = .ok (.goto 4, 3) := by decide +kernel
theorem d_Sum_putInLowestTerms_128 : decode prog_7_method_7_code 128 = .ok (.iconst 0, 1) := by decide +kernel
theorem d_Sum_putInLowestTerms_129 : decode prog_7_method_7_code 129 = .ok (.istore_n 3, 1) := by decide +kernel
theorem d_Sum_putInLowestTerms_130 : decode prog_7_method_7_code 130 = .ok (.iinc 4 1, 3) := by decide +kernel
theorem d_Sum_putInLowestTerms_133 : decode prog_7_method_7_code 133 = .ok (.goto (-62), 3) := by decide +kernel
theorem d_Sum_putInLowestTerms_136 : decode prog_7_method_7_code 136 = .ok (.iload_n 3, 1) := by decide +kernel
theorem d_Sum_putInLowestTerms_137 : decode prog_7_method_7_code 137 = .ok (.ireturn, 1) := by decide +kernel
theorem d_A_hear_0 : decode prog_1_method_17_code 0 = .ok (.aload_n 0, 1) := by decide +kernel
theorem d_A_hear_1 : decode prog_1_method_17_code 1 = .ok (.getfield 35, 3) := by decide +kernel
theorem d_A_hear_4 : decode prog_1_method_17_code 4 = .ok (.getfield 209, 3) := by decide +kernel
theorem d_A_hear_7 : decode prog_1_method_17_code 7 = .ok (.iload_n 1, 1) := by decide +kernel
theorem d_A_hear_8 : decode prog_1_method_17_code 8 = .ok (.iload_n 2, 1) := by decide +kernel
theorem d_A_hear_9 : decode prog_1_method_17_code 9 = .ok (.aload_n 0, 1) := by decide +kernel
theorem d_A_hear_10 : decode prog_1_method_17_code 10 = .ok (.getfield 45, 3) := by decide +kernel
theorem d_A_hear_13 : decode prog_1_method_17_code 13 = .ok (.invokevirtual 172, 3) := by decide +kernel
theorem d_A_hear_16 : decode prog_1_method_17_code 16 = .ok (.ireturn, 1) := by decide +kernel
theorem d_A_fits_0 : decode prog_1_method_18_code 0 = .ok (.aload_n 0, 1) := by decide +kernel
theorem d_A_fits_1 : decode prog_1_method_18_code 1 = .ok (.iload_n 1, 1) := by decide +kernel
theorem d_A_fits_2 : decode prog_1_method_18_code 2 = .ok (.invokevirtual 115, 3) := by decide +kernel
theorem d_A_fits_5 : decode prog_1_method_18_code 5 = .ok (.astore 4, 2) := by decide +kernel
theorem d_A_fits_7 : decode prog_1_method_18_code 7 = .ok (.aload 4, 2) := by decide +kernel
theorem d_A_fits_9 : decode prog_1_method_18_code 9 = .ok (.ifnull 24, 3) := by decide +kernel
theorem d_A_fits_12 : decode prog_1_method_18_code 12 = .ok (.iload_n 2, 1) := by decide +kernel
theorem d_A_fits_13 : decode prog_1_method_18_code 13 = .ok (.iconst (-1), 1) := by decide +kernel
theorem d_A_fits_14 : decode prog_1_method_18_code 14 = .ok (.if_icmp .eq 21, 3) := by decide +kernel
theorem d_A_fits_17 : decode prog_1_method_18_code 17 = .ok (.iload_n 2, 1) := by decide +kernel
theorem d_A_fits_18 : decode prog_1_method_18_code 18 = .ok (.invokestatic 137, 3) := by decide +kernel
theorem d_A_fits_21 : decode prog_1_method_18_code 21 = .ok (.ifCond .eq 12, 3) := by decide +kernel
theorem d_A_fits_24 : decode prog_1_method_18_code 24 = .ok (.iload_n 3, 1) := by decide +kernel
theorem d_A_fits_25 : decode prog_1_method_18_code 25 = .ok (.ifCond .lt 8, 3) := by decide +kernel
theorem d_A_fits_28 : decode prog_1_method_18_code 28 = .ok (.iload_n 3, 1) := by decide +kernel
theorem d_A_fits_29 : decode prog_1_method_18_code 29 = .ok (.iconst 2, 1) := by decide +kernel
theorem d_A_fits_30 : decode prog_1_method_18_code 30 = .ok (.if_icmp .le 5, 3) := by decide +kernel
theorem d_A_fits_33 : decode prog_1_method_18_code 33 = .ok (.iconst (-1), 1) := by decide +kernel
theorem d_A_fits_34 : decode prog_1_method_18_code 34 = .ok (.ireturn, 1) := by decide +kernel
theorem d_A_fits_35 : decode prog_1_method_18_code 35 = .ok (.aload 4, 2) := by decide +kernel
theorem d_A_fits_37 : decode prog_1_method_18_code 37 = .ok (.invokevirtual 189, 3) := by decide +kernel
theorem d_A_fits_40 : decode prog_1_method_18_code 40 = .ok (.lstore 5, 2) := by decide +kernel
theorem d_A_fits_42 : decode prog_1_method_18_code 42 = .ok (.lload 5, 2) := by decide +kernel
theorem d_A_fits_44 : decode prog_1_method_18_code 44 = .ok (.ldc2_w 193, 3) := by decide +kernel
theorem d_A_fits_47 : decode prog_1_method_18_code 47 = .ok (.lcmp, 1) := by decide +kernel
theorem d_A_fits_48 : decode prog_1_method_18_code 48 = .ok (.ifCond .le 6, 3) := by decide +kernel
theorem d_A_fits_51 : decode prog_1_method_18_code 51 = .ok (.bipush (-2), 2) := by decide +kernel
theorem d_A_fits_53 : decode prog_1_method_18_code 53 = .ok (.ireturn, 1) := by decide +kernel
theorem d_A_fits_54 : decode prog_1_method_18_code 54 = .ok (.aload_n 0, 1) := by decide +kernel
theorem d_A_fits_55 : decode prog_1_method_18_code 55 = .ok (.getfield 59, 3) := by decide +kernel
theorem d_A_fits_58 : decode prog_1_method_18_code 58 = .ok (.invokevirtual 212, 3) := by decide +kernel
theorem d_A_fits_61 : decode prog_1_method_18_code 61 = .ok (.aload 4, 2) := by decide +kernel
theorem d_A_fits_63 : decode prog_1_method_18_code 63 = .ok (.aload_n 0, 1) := by decide +kernel
theorem d_A_fits_64 : decode prog_1_method_18_code 64 = .ok (.getfield 52, 3) := by decide +kernel
theorem d_A_fits_67 : decode prog_1_method_18_code 67 = .ok (.invokevirtual 215, 3) := by decide +kernel
theorem d_A_fits_70 : decode prog_1_method_18_code 70 = .ok (.iconst 0, 1) := by decide +kernel
theorem d_A_fits_71 : decode prog_1_method_18_code 71 = .ok (.istore 7, 2) := by decide +kernel
theorem d_A_fits_73 : decode prog_1_method_18_code 73 = .ok (.iload 7, 2) := by decide +kernel
theorem d_A_fits_75 : decode prog_1_method_18_code 75 = .ok (.i2l, 1) := by decide +kernel
theorem d_A_fits_76 : decode prog_1_method_18_code 76 = .ok (.lload 5, 2) := by decide +kernel
theorem d_A_fits_78 : decode prog_1_method_18_code 78 = .ok (.lcmp, 1) := by decide +kernel
theorem d_A_fits_79 : decode prog_1_method_18_code 79 = .ok (.ifCond .ge 63, 3) := by decide +kernel
theorem d_A_fits_82 : decode prog_1_method_18_code 82 = .ok (.aload 4, 2) := by decide +kernel
theorem d_A_fits_84 : decode prog_1_method_18_code 84 = .ok (.aload_n 0, 1) := by decide +kernel
theorem d_A_fits_85 : decode prog_1_method_18_code 85 = .ok (.getfield 35, 3) := by decide +kernel
theorem d_A_fits_88 : decode prog_1_method_18_code 88 = .ok (.getfield 209, 3) := by decide +kernel
theorem d_A_fits_91 : decode prog_1_method_18_code 91 = .ok (.aload_n 0, 1) := by decide +kernel
theorem d_A_fits_92 : decode prog_1_method_18_code 92 = .ok (.getfield 52, 3) := by decide +kernel
theorem d_A_fits_95 : decode prog_1_method_18_code 95 = .ok (.aload_n 0, 1) := by decide +kernel
theorem d_A_fits_96 : decode prog_1_method_18_code 96 = .ok (.getfield 45, 3) := by decide +kernel
theorem d_A_fits_99 : decode prog_1_method_18_code 99 = .ok (.invokevirtual 219, 3) := by decide +kernel
theorem d_A_fits_102 : decode prog_1_method_18_code 102 = .ok (.ifCond .eq 25, 3) := by decide +kernel
theorem d_A_fits_105 : decode prog_1_method_18_code 105 = .ok (.aload_n 0, 1) := by decide +kernel
theorem d_A_fits_106 : decode prog_1_method_18_code 106 = .ok (.getfield 59, 3) := by decide +kernel
theorem d_A_fits_109 : decode prog_1_method_18_code 109 = .ok (.iload_n 2, 1) := by decide +kernel
theorem d_A_fits_110 : decode prog_1_method_18_code 110 = .ok (.iconst (-1), 1) := by decide +kernel
theorem d_A_fits_111 : decode prog_1_method_18_code 111 = .ok (.if_icmp .ne 7, 3) := by decide +kernel
theorem d_A_fits_114 : decode prog_1_method_18_code 114 = .ok (.iconst 0, 1) := by decide +kernel
theorem d_A_fits_115 : decode prog_1_method_18_code 115 = .ok (.goto 9, 3) := by decide +kernel
theorem d_A_fits_118 : decode prog_1_method_18_code 118 = .ok (.aload_n 0, 1) := by decide +kernel
theorem d_A_fits_119 : decode prog_1_method_18_code 119 = .ok (.getfield 52, 3) := by decide +kernel
theorem d_A_fits_122 : decode prog_1_method_18_code 122 = .ok (.iload_n 2, 1) := by decide +kernel
theorem d_A_fits_123 : decode prog_1_method_18_code 123 = .ok (.iaload, 1) := by decide +kernel
theorem d_A_fits_124 : decode prog_1_method_18_code 124 = .ok (.invokevirtual 223, 3) := by decide +kernel
theorem d_A_fits_127 : decode prog_1_method_18_code 127 = .ok (.aload 4, 2) := by decide +kernel
theorem d_A_fits_129 : decode prog_1_method_18_code 129 = .ok (.aload_n 0, 1) := by decide +kernel
theorem d_A_fits_130 : decode prog_1_method_18_code 130 = .ok (.getfield 52, 3) := by decide +kernel
theorem d_A_fits_133 : decode prog_1_method_18_code 133 = .ok (.invokevirtual 226, 3) := by decide +kernel
theorem d_A_fits_136 : decode prog_1_method_18_code 136 = .ok (.iinc 7 1, 3) := by decide +kernel
theorem d_A_fits_139 : decode prog_1_method_18_code 139 = .ok (.goto (-66), 3) := by decide +kernel
theorem d_A_fits_142 : decode prog_1_method_18_code 142 = .ok (.iload_n 2, 1) := by decide +kernel
theorem d_A_fits_143 : decode prog_1_method_18_code 143 = .ok (.iconst (-1), 1) := by decide +kernel
theorem d_A_fits_144 : decode prog_1_method_18_code 144 = .ok (.if_icmp .ne 13, 3) := by decide +kernel
theorem d_A_fits_147 : decode prog_1_method_18_code 147 = .ok (.aload_n 0, 1) := by decide +kernel
theorem d_A_fits_148 : decode prog_1_method_18_code 148 = .ok (.getfield 59, 3) := by decide +kernel
theorem d_A_fits_151 : decode prog_1_method_18_code 151 = .ok (.getfield 229, 3) := by decide +kernel
theorem d_A_fits_154 : decode prog_1_method_18_code 154 = .ok (.goto 11, 3) := by decide +kernel
theorem d_A_fits_157 : decode prog_1_method_18_code 157 = .ok (.aload_n 0, 1) := by decide +kernel
theorem d_A_fits_158 : decode prog_1_method_18_code 158 = .ok (.getfield 59, 3) := by decide +kernel
theorem d_A_fits_161 : decode prog_1_method_18_code 161 = .ok (.iload_n 3, 1) := by decide +kernel
theorem d_A_fits_162 : decode prog_1_method_18_code 162 = .ok (.invokevirtual 230, 3) := by decide +kernel
theorem d_A_fits_165 : decode prog_1_method_18_code 165 = .ok (.ireturn, 1) := by decide +kernel
theorem d_Tally_clear_0 : decode prog_9_method_2_code 0 = .ok (.aload_n 0, 1) := by decide +kernel
theorem d_Tally_clear_1 : decode prog_9_method_2_code 1 = .ok (.getfield 9, 3) := by decide +kernel
theorem d_Tally_clear_4 : decode prog_9_method_2_code 4 = .ok (.lconst 0, 1) := by decide +kernel
theorem d_Tally_clear_5 : decode prog_9_method_2_code 5 = .ok (.invokestatic 15, 3) := by decide +kernel
theorem d_Tally_clear_8 : decode prog_9_method_2_code 8 = .ok (.aload_n 0, 1) := by decide +kernel
theorem d_Tally_clear_9 : decode prog_9_method_2_code 9 = .ok (.iconst 0, 1) := by decide +kernel
theorem d_Tally_clear_10 : decode prog_9_method_2_code 10 = .ok (.putfield 21, 3) := by decide +kernel
theorem d_Tally_clear_13 : decode prog_9_method_2_code 13 = .ok (.aload_n 0, 1) := by decide +kernel
theorem d_Tally_clear_14 : decode prog_9_method_2_code 14 = .ok (.iconst 0, 1) := by decide +kernel
theorem d_Tally_clear_15 : decode prog_9_method_2_code 15 = .ok (.putfield 25, 3) := by decide +kernel
theorem d_Tally_clear_18 : decode prog_9_method_2_code 18 = .ok (.return_, 1) := by decide +kernel
theorem d_Table_saysJust_0 : decode prog_8_method_7_code 0 = .ok (.iconst 0, 1) := by decide +kernel
theorem d_Table_saysJust_1 : decode prog_8_method_7_code 1 = .ok (.istore 4, 2) := by decide +kernel
theorem d_Table_saysJust_3 : decode prog_8_method_7_code 3 = .ok (.aload_n 0, 1) := by decide +kernel
theorem d_Table_saysJust_4 : decode prog_8_method_7_code 4 = .ok (.aload_n 3, 1) := by decide +kernel
theorem d_Table_saysJust_5 : decode prog_8_method_7_code 5 = .ok (.aload_n 2, 1) := by decide +kernel
theorem d_Table_saysJust_6 : decode prog_8_method_7_code 6 = .ok (.invokevirtual 56, 3) := by decide +kernel
theorem d_Table_saysJust_9 : decode prog_8_method_7_code 9 = .ok (.iconst 0, 1) := by decide +kernel
theorem d_Table_saysJust_10 : decode prog_8_method_7_code 10 = .ok (.istore 5, 2) := by decide +kernel
theorem d_Table_saysJust_12 : decode prog_8_method_7_code 12 = .ok (.iload 5, 2) := by decide +kernel
theorem d_Table_saysJust_14 : decode prog_8_method_7_code 14 = .ok (.aload_n 0, 1) := by decide +kernel
theorem d_Table_saysJust_15 : decode prog_8_method_7_code 15 = .ok (.getfield 14, 3) := by decide +kernel
theorem d_Table_saysJust_18 : decode prog_8_method_7_code 18 = .ok (.getfield 27, 3) := by decide +kernel
theorem d_Table_saysJust_21 : decode prog_8_method_7_code 21 = .ok (.if_icmp .ge 64, 3) := by decide +kernel
theorem d_Table_saysJust_24 : decode prog_8_method_7_code 24 = .ok (.aload_n 0, 1) := by decide +kernel
theorem d_Table_saysJust_25 : decode prog_8_method_7_code 25 = .ok (.getfield 14, 3) := by decide +kernel
theorem d_Table_saysJust_28 : decode prog_8_method_7_code 28 = .ok (.getfield 60, 3) := by decide +kernel
theorem d_Table_saysJust_31 : decode prog_8_method_7_code 31 = .ok (.iload 5, 2) := by decide +kernel
theorem d_Table_saysJust_33 : decode prog_8_method_7_code 33 = .ok (.iaload, 1) := by decide +kernel
theorem d_Table_saysJust_34 : decode prog_8_method_7_code 34 = .ok (.istore 6, 2) := by decide +kernel
theorem d_Table_saysJust_36 : decode prog_8_method_7_code 36 = .ok (.aload_n 3, 1) := by decide +kernel
theorem d_Table_saysJust_37 : decode prog_8_method_7_code 37 = .ok (.iload 6, 2) := by decide +kernel
theorem d_Table_saysJust_39 : decode prog_8_method_7_code 39 = .ok (.aload_n 0, 1) := by decide +kernel
theorem d_Table_saysJust_40 : decode prog_8_method_7_code 40 = .ok (.getfield 14, 3) := by decide +kernel
theorem d_Table_saysJust_43 : decode prog_8_method_7_code 43 = .ok (.iload 5, 2) := by decide +kernel
theorem d_Table_saysJust_45 : decode prog_8_method_7_code 45 = .ok (.aload_n 2, 1) := by decide +kernel
theorem d_Table_saysJust_46 : decode prog_8_method_7_code 46 = .ok (.invokevirtual 63, 3) := by decide +kernel
theorem d_Table_saysJust_49 : decode prog_8_method_7_code 49 = .ok (.invokevirtual 67, 3) := by decide +kernel
theorem d_Table_saysJust_52 : decode prog_8_method_7_code 52 = .ok (.ifCond .ne 5, 3) := by decide +kernel
theorem d_Table_saysJust_55 : decode prog_8_method_7_code 55 = .ok (.iconst 0, 1) := by decide +kernel
theorem d_Table_saysJust_56 : decode prog_8_method_7_code 56 = .ok (.ireturn, 1) := by decide +kernel
theorem d_Table_saysJust_57 : decode prog_8_method_7_code 57 = .ok (.iload 6, 2) := by decide +kernel
theorem d_Table_saysJust_59 : decode prog_8_method_7_code 59 = .ok (.bipush 9, 2) := by decide +kernel
theorem d_Table_saysJust_61 : decode prog_8_method_7_code 61 = .ok (.if_icmp .ne 18, 3) := by decide +kernel
theorem d_Table_saysJust_64 : decode prog_8_method_7_code 64 = .ok (.aload_n 1, 1) := by decide +kernel
theorem d_Table_saysJust_65 : decode prog_8_method_7_code 65 = .ok (.iload 4, 2) := by decide +kernel
theorem d_Table_saysJust_67 : decode prog_8_method_7_code 67 = .ok (.aload_n 3, 1) := by decide +kernel
theorem d_Table_saysJust_68 : decode prog_8_method_7_code 68 = .ok (.invokevirtual 75, 3) := by decide +kernel
theorem d_Table_saysJust_71 : decode prog_8_method_7_code 71 = .ok (.ifCond .ne 5, 3) := by decide +kernel
theorem d_Table_saysJust_74 : decode prog_8_method_7_code 74 = .ok (.iconst 0, 1) := by decide +kernel
theorem d_Table_saysJust_75 : decode prog_8_method_7_code 75 = .ok (.ireturn, 1) := by decide +kernel
theorem d_Table_saysJust_76 : decode prog_8_method_7_code 76 = .ok (.iinc 4 1, 3) := by decide +kernel
theorem d_Table_saysJust_79 : decode prog_8_method_7_code 79 = .ok (.iinc 5 1, 3) := by decide +kernel
theorem d_Table_saysJust_82 : decode prog_8_method_7_code 82 = .ok (.goto (-70), 3) := by decide +kernel
theorem d_Table_saysJust_85 : decode prog_8_method_7_code 85 = .ok (.iload 4, 2) := by decide +kernel
theorem d_Table_saysJust_87 : decode prog_8_method_7_code 87 = .ok (.aload_n 1, 1) := by decide +kernel
theorem d_Table_saysJust_88 : decode prog_8_method_7_code 88 = .ok (.getfield 81, 3) := by decide +kernel
theorem d_Table_saysJust_91 : decode prog_8_method_7_code 91 = .ok (.if_icmp .ne 7, 3) := by decide +kernel
theorem d_Table_saysJust_94 : decode prog_8_method_7_code 94 = .ok (.iconst 1, 1) := by decide +kernel
theorem d_Table_saysJust_95 : decode prog_8_method_7_code 95 = .ok (.goto 4, 3) := by decide +kernel
theorem d_Table_saysJust_98 : decode prog_8_method_7_code 98 = .ok (.iconst 0, 1) := by decide +kernel
theorem d_Table_saysJust_99 : decode prog_8_method_7_code 99 = .ok (.ireturn, 1) := by decide +kernel
theorem d_Tally_note_0 : decode prog_9_method_3_code 0 = .ok (.iload_n 1, 1) := by decide +kernel
theorem d_Tally_note_1 : decode prog_9_method_3_code 1 = .ok (.invokestatic 28, 3) := by decide +kernel
theorem d_Tally_note_4 : decode prog_9_method_3_code 4 = .ok (.ifCond .ne 4, 3) := by decide +kernel
theorem d_Tally_note_7 : decode prog_9_method_3_code 7 = .ok (.return_, 1) := by decide +kernel
theorem d_Tally_note_8 : decode prog_9_method_3_code 8 = .ok (.aload_n 0, 1) := by decide +kernel
theorem d_Tally_note_9 : decode prog_9_method_3_code 9 = .ok (.aload_n 0, 1) := by decide +kernel
theorem d_Tally_note_10 : decode prog_9_method_3_code 10 = .ok (.getfield 21, 3) := by decide +kernel
theorem d_Tally_note_13 : decode prog_9_method_3_code 13 = .ok (.ifCond .ne 7, 3) := by decide +kernel
theorem d_Tally_note_16 : decode prog_9_method_3_code 16 = .ok (.iload_n 1, 1) := by decide +kernel
theorem d_Tally_note_17 : decode prog_9_method_3_code 17 = .ok (.goto 11, 3) := by decide +kernel
theorem d_Tally_note_20 : decode prog_9_method_3_code 20 = .ok (.aload_n 0, 1) := by decide +kernel
theorem d_Tally_note_21 : decode prog_9_method_3_code 21 = .ok (.getfield 32, 3) := by decide +kernel
theorem d_Tally_note_24 : decode prog_9_method_3_code 24 = .ok (.iload_n 1, 1) := by decide +kernel
theorem d_Tally_note_25 : decode prog_9_method_3_code 25 = .ok (.invokestatic 35, 3) := by decide +kernel
theorem d_Tally_note_28 : decode prog_9_method_3_code 28 = .ok (.putfield 32, 3) := by decide +kernel
theorem d_Tally_note_31 : decode prog_9_method_3_code 31 = .ok (.aload_n 0, 1) := by decide +kernel
theorem d_Tally_note_32 : decode prog_9_method_3_code 32 = .ok (.aload_n 0, 1) := by decide +kernel
theorem d_Tally_note_33 : decode prog_9_method_3_code 33 = .ok (.getfield 21, 3) := by decide +kernel
theorem d_Tally_note_36 : decode prog_9_method_3_code 36 = .ok (.ifCond .ne 7, 3) := by decide +kernel
theorem d_Tally_note_39 : decode prog_9_method_3_code 39 = .ok (.iload_n 1, 1) := by decide +kernel
theorem d_Tally_note_40 : decode prog_9_method_3_code 40 = .ok (.goto 11, 3) := by decide +kernel
theorem d_Tally_note_43 : decode prog_9_method_3_code 43 = .ok (.aload_n 0, 1) := by decide +kernel
theorem d_Tally_note_44 : decode prog_9_method_3_code 44 = .ok (.getfield 41, 3) := by decide +kernel
theorem d_Tally_note_47 : decode prog_9_method_3_code 47 = .ok (.iload_n 1, 1) := by decide +kernel
theorem d_Tally_note_48 : decode prog_9_method_3_code 48 = .ok (.invokestatic 44, 3) := by decide +kernel
theorem d_Tally_note_51 : decode prog_9_method_3_code 51 = .ok (.putfield 41, 3) := by decide +kernel
theorem d_Tally_note_54 : decode prog_9_method_3_code 54 = .ok (.aload_n 0, 1) := by decide +kernel
theorem d_Tally_note_55 : decode prog_9_method_3_code 55 = .ok (.dup, 1) := by decide +kernel
theorem d_Tally_note_56 : decode prog_9_method_3_code 56 = .ok (.getfield 21, 3) := by decide +kernel
theorem d_Tally_note_59 : decode prog_9_method_3_code 59 = .ok (.iconst 1, 1) := by decide +kernel
theorem d_Tally_note_60 : decode prog_9_method_3_code 60 = .ok (.iadd, 1) := by decide +kernel
theorem d_Tally_note_61 : decode prog_9_method_3_code 61 = .ok (.putfield 21, 3) := by decide +kernel
theorem d_Tally_note_64 : decode prog_9_method_3_code 64 = .ok (.lconst 1, 1) := by decide +kernel
theorem d_Tally_note_65 : decode prog_9_method_3_code 65 = .ok (.iload_n 1, 1) := by decide +kernel
theorem d_Tally_note_66 : decode prog_9_method_3_code 66 = .ok (.bipush 63, 2) := by decide +kernel
theorem d_Tally_note_68 : decode prog_9_method_3_code 68 = .ok (.iand, 1) := by decide +kernel
theorem d_Tally_note_69 : decode prog_9_method_3_code 69 = .ok (.lshl, 1) := by decide +kernel
theorem d_Tally_note_70 : decode prog_9_method_3_code 70 = .ok (.lstore_n 2, 1) := by decide +kernel
theorem d_Tally_note_71 : decode prog_9_method_3_code 71 = .ok (.aload_n 0, 1) := by decide +kernel
theorem d_Tally_note_72 : decode prog_9_method_3_code 72 = .ok (.getfield 9, 3) := by decide +kernel
theorem d_Tally_note_75 : decode prog_9_method_3_code 75 = .ok (.iload_n 1, 1) := by decide +kernel
theorem d_Tally_note_76 : decode prog_9_method_3_code 76 = .ok (.bipush 6, 2) := by decide +kernel
theorem d_Tally_note_78 : decode prog_9_method_3_code 78 = .ok (.ishr, 1) := by decide +kernel
theorem d_Tally_note_79 : decode prog_9_method_3_code 79 = .ok (.laload, 1) := by decide +kernel
theorem d_Tally_note_80 : decode prog_9_method_3_code 80 = .ok (.lload_n 2, 1) := by decide +kernel
theorem d_Tally_note_81 : decode prog_9_method_3_code 81 = .ok (.land, 1) := by decide +kernel
theorem d_Tally_note_82 : decode prog_9_method_3_code 82 = .ok (.lconst 0, 1) := by decide +kernel
theorem d_Tally_note_83 : decode prog_9_method_3_code 83 = .ok (.lcmp, 1) := by decide +kernel
theorem d_Tally_note_84 : decode prog_9_method_3_code 84 = .ok (.ifCond .ne 26, 3) := by decide +kernel
theorem d_Tally_note_87 : decode prog_9_method_3_code 87 = .ok (.aload_n 0, 1) := by decide +kernel
theorem d_Tally_note_88 : decode prog_9_method_3_code 88 = .ok (.getfield 9, 3) := by decide +kernel
theorem d_Tally_note_91 : decode prog_9_method_3_code 91 = .ok (.iload_n 1, 1) := by decide +kernel
theorem d_Tally_note_92 : decode prog_9_method_3_code 92 = .ok (.bipush 6, 2) := by decide +kernel
theorem d_Tally_note_94 : decode prog_9_method_3_code 94 = .ok (.ishr, 1) := by decide +kernel
theorem d_Tally_note_95 : decode prog_9_method_3_code 95 = .ok (.dup2, 1) := by decide +kernel
theorem d_Tally_note_96 : decode prog_9_method_3_code 96 = .ok (.laload, 1) := by decide +kernel
theorem d_Tally_note_97 : decode prog_9_method_3_code 97 = .ok (.lload_n 2, 1) := by decide +kernel
theorem d_Tally_note_98 : decode prog_9_method_3_code 98 = .ok (.lor, 1) := by decide +kernel
theorem d_Tally_note_99 : decode prog_9_method_3_code 99 = .ok (.lastore, 1) := by decide +kernel
theorem d_Tally_note_100 : decode prog_9_method_3_code 100 = .ok (.aload_n 0, 1) := by decide +kernel
theorem d_Tally_note_101 : decode prog_9_method_3_code 101 = .ok (.dup, 1) := by decide +kernel
theorem d_Tally_note_102 : decode prog_9_method_3_code 102 = .ok (.getfield 25, 3) := by decide +kernel
theorem d_Tally_note_105 : decode prog_9_method_3_code 105 = .ok (.iconst 1, 1) := by decide +kernel
theorem d_Tally_note_106 : decode prog_9_method_3_code 106 = .ok (.iadd, 1) := by decide +kernel
theorem d_Tally_note_107 : decode prog_9_method_3_code 107 = .ok (.putfield 25, 3) := by decide +kernel
theorem d_Tally_note_110 : decode prog_9_method_3_code 110 = .ok (.return_, 1) := by decide +kernel
theorem d_Tally_pick_0 : decode prog_9_method_4_code 0 = .ok (.aload_n 0, 1) := by decide +kernel
theorem d_Tally_pick_1 : decode prog_9_method_4_code 1 = .ok (.getfield 21, 3) := by decide +kernel
theorem d_Tally_pick_4 : decode prog_9_method_4_code 4 = .ok (.ifCond .ne 5, 3) := by decide +kernel
theorem d_Tally_pick_7 : decode prog_9_method_4_code 7 = .ok (.iconst (-1), 1) := by decide +kernel
theorem d_Tally_pick_8 : decode prog_9_method_4_code 8 = .ok (.ireturn, 1) := by decide +kernel
theorem d_Tally_pick_9 : decode prog_9_method_4_code 9 = .ok (.iload_n 1, 1) := by decide +kernel
theorem d_Tally_pick_10 : decode prog_9_method_4_code 10 = .ok (.ifCond .ne 10, 3) := by decide +kernel
theorem d_Tally_pick_13 : decode prog_9_method_4_code 13 = .ok (.aload_n 0, 1) := by decide +kernel
theorem d_Tally_pick_14 : decode prog_9_method_4_code 14 = .ok (.getfield 32, 3) := by decide +kernel
theorem d_Tally_pick_17 : decode prog_9_method_4_code 17 = .ok (.goto 19, 3) := by decide +kernel
theorem d_Tally_pick_20 : decode prog_9_method_4_code 20 = .ok (.iload_n 1, 1) := by decide +kernel
theorem d_Tally_pick_21 : decode prog_9_method_4_code 21 = .ok (.iconst 1, 1) := by decide +kernel
theorem d_Tally_pick_22 : decode prog_9_method_4_code 22 = .ok (.if_icmp .ne 10, 3) := by decide +kernel
theorem d_Tally_pick_25 : decode prog_9_method_4_code 25 = .ok (.aload_n 0, 1) := by decide +kernel
theorem d_Tally_pick_26 : decode prog_9_method_4_code 26 = .ok (.getfield 41, 3) := by decide +kernel
theorem d_Tally_pick_29 : decode prog_9_method_4_code 29 = .ok (.goto 7, 3) := by decide +kernel
theorem d_Tally_pick_32 : decode prog_9_method_4_code 32 = .ok (.aload_n 0, 1) := by decide +kernel
theorem d_Tally_pick_33 : decode prog_9_method_4_code 33 = .ok (.getfield 25, 3) := by decide +kernel
theorem d_Tally_pick_36 : decode prog_9_method_4_code 36 = .ok (.ireturn, 1) := by decide +kernel
theorem d_A_more_0 : decode prog_1_method_19_code 0 = .ok (.aload_n 0, 1) := by decide +kernel
theorem d_A_more_1 : decode prog_1_method_19_code 1 = .ok (.iload_n 1, 1) := by decide +kernel
theorem d_A_more_2 : decode prog_1_method_19_code 2 = .ok (.invokevirtual 115, 3) := by decide +kernel
theorem d_A_more_5 : decode prog_1_method_19_code 5 = .ok (.astore_n 2, 1) := by decide +kernel
theorem d_A_more_6 : decode prog_1_method_19_code 6 = .ok (.aload_n 2, 1) := by decide +kernel
theorem d_A_more_7 : decode prog_1_method_19_code 7 = .ok (.ifnonnull 5, 3) := by decide +kernel
theorem d_A_more_10 : decode prog_1_method_19_code 10 = .ok (.iconst (-1), 1) := by decide +kernel
theorem d_A_more_11 : decode prog_1_method_19_code 11 = .ok (.ireturn, 1) := by decide +kernel
theorem d_A_more_12 : decode prog_1_method_19_code 12 = .ok (.aload_n 2, 1) := by decide +kernel
theorem d_A_more_13 : decode prog_1_method_19_code 13 = .ok (.invokevirtual 189, 3) := by decide +kernel
theorem d_A_more_16 : decode prog_1_method_19_code 16 = .ok (.lstore_n 3, 1) := by decide +kernel
theorem d_A_more_17 : decode prog_1_method_19_code 17 = .ok (.lload_n 3, 1) := by decide +kernel
theorem d_A_more_18 : decode prog_1_method_19_code 18 = .ok (.ldc2_w 234, 3) := by decide +kernel
theorem d_A_more_21 : decode prog_1_method_19_code 21 = .ok (.lcmp, 1) := by decide +kernel
theorem d_A_more_22 : decode prog_1_method_19_code 22 = .ok (.ifCond .le 6, 3) := by decide +kernel
theorem d_A_more_25 : decode prog_1_method_19_code 25 = .ok (.bipush (-2), 2) := by decide +kernel
theorem d_A_more_27 : decode prog_1_method_19_code 27 = .ok (.ireturn, 1) := by decide +kernel
theorem d_A_more_28 : decode prog_1_method_19_code 28 = .ok (.aload_n 0, 1) := by decide +kernel
theorem d_A_more_29 : decode prog_1_method_19_code 29 = .ok (.getfield 73, 3) := by decide +kernel
theorem d_A_more_32 : decode prog_1_method_19_code 32 = .ok (.aload_n 2, 1) := by decide +kernel
theorem d_A_more_33 : decode prog_1_method_19_code 33 = .ok (.lload_n 3, 1) := by decide +kernel
theorem d_A_more_34 : decode prog_1_method_19_code 34 = .ok (.l2i, 1) := by decide +kernel
theorem d_A_more_35 : decode prog_1_method_19_code 35 = .ok (.aload_n 0, 1) := by decide +kernel
theorem d_A_more_36 : decode prog_1_method_19_code 36 = .ok (.getfield 52, 3) := by decide +kernel
theorem d_A_more_39 : decode prog_1_method_19_code 39 = .ok (.aload_n 0, 1) := by decide +kernel
theorem d_A_more_40 : decode prog_1_method_19_code 40 = .ok (.getfield 45, 3) := by decide +kernel
theorem d_A_more_43 : decode prog_1_method_19_code 43 = .ok (.invokevirtual 236, 3) := by decide +kernel
theorem d_A_more_46 : decode prog_1_method_19_code 46 = .ok (.ireturn, 1) := by decide +kernel
theorem d_Parting_lowestTelling_0 : decode prog_4_method_2_code 0 = .ok (.aload_n 0, 1) := by decide +kernel
theorem d_Parting_lowestTelling_1 : decode prog_4_method_2_code 1 = .ok (.iload_n 2, 1) := by decide +kernel
theorem d_Parting_lowestTelling_2 : decode prog_4_method_2_code 2 = .ok (.sipush 500, 3) := by decide +kernel
theorem d_Parting_lowestTelling_5 : decode prog_4_method_2_code 5 = .ok (.invokestatic 28, 3) := by decide +kernel
theorem d_Parting_lowestTelling_8 : decode prog_4_method_2_code 8 = .ok (.putfield 34, 3) := by decide +kernel
theorem d_Parting_lowestTelling_11 : decode prog_4_method_2_code 11 = .ok (.aload_n 0, 1) := by decide +kernel
theorem d_Parting_lowestTelling_12 : decode prog_4_method_2_code 12 = .ok (.aload_n 1, 1) := by decide +kernel
theorem d_Parting_lowestTelling_13 : decode prog_4_method_2_code 13 = .ok (.aload_n 3, 1) := by decide +kernel
theorem d_Parting_lowestTelling_14 : decode prog_4_method_2_code 14 = .ok (.aload 4, 2) := by decide +kernel
theorem d_Parting_lowestTelling_16 : decode prog_4_method_2_code 16 = .ok (.invokevirtual 38, 3) := by decide +kernel
theorem d_Parting_lowestTelling_19 : decode prog_4_method_2_code 19 = .ok (.istore 5, 2) := by decide +kernel
theorem d_Parting_lowestTelling_21 : decode prog_4_method_2_code 21 = .ok (.aload_n 0, 1) := by decide +kernel
theorem d_Parting_lowestTelling_22 : decode prog_4_method_2_code 22 = .ok (.aload_n 1, 1) := by decide +kernel
theorem d_Parting_lowestTelling_23 : decode prog_4_method_2_code 23 = .ok (.aload_n 3, 1) := by decide +kernel
theorem d_Parting_lowestTelling_24 : decode prog_4_method_2_code 24 = .ok (.aload 4, 2) := by decide +kernel
theorem d_Parting_lowestTelling_26 : decode prog_4_method_2_code 26 = .ok (.invokevirtual 42, 3) := by decide +kernel
theorem d_Parting_lowestTelling_29 : decode prog_4_method_2_code 29 = .ok (.iconst 0, 1) := by decide +kernel
theorem d_Parting_lowestTelling_30 : decode prog_4_method_2_code 30 = .ok (.istore 6, 2) := by decide +kernel
theorem d_Parting_lowestTelling_32 : decode prog_4_method_2_code 32 = .ok (.iload 6, 2) := by decide +kernel
theorem d_Parting_lowestTelling_34 : decode prog_4_method_2_code 34 = .ok (.aload_n 1, 1) := by decide +kernel
theorem d_Parting_lowestTelling_35 : decode prog_4_method_2_code 35 = .ok (.getfield 46, 3) := by decide +kernel
theorem d_Parting_lowestTelling_38 : decode prog_4_method_2_code 38 = .ok (.getfield 52, 3) := by decide +kernel
theorem d_Parting_lowestTelling_41 : decode prog_4_method_2_code 41 = .ok (.if_icmp .ge 31, 3) := by decide +kernel
theorem d_Parting_lowestTelling_44 : decode prog_4_method_2_code 44 = .ok (.aload_n 0, 1) := by decide +kernel
theorem d_Parting_lowestTelling_45 : decode prog_4_method_2_code 45 = .ok (.aload_n 1, 1) := by decide +kernel
theorem d_Parting_lowestTelling_46 : decode prog_4_method_2_code 46 = .ok (.iload 6, 2) := by decide +kernel
theorem d_Parting_lowestTelling_48 : decode prog_4_method_2_code 48 = .ok (.aload_n 3, 1) := by decide +kernel
theorem d_Parting_lowestTelling_49 : decode prog_4_method_2_code 49 = .ok (.aload 4, 2) := by decide +kernel
theorem d_Parting_lowestTelling_51 : decode prog_4_method_2_code 51 = .ok (.invokevirtual 57, 3) := by decide +kernel
theorem d_Parting_lowestTelling_54 : decode prog_4_method_2_code 54 = .ok (.aload_n 0, 1) := by decide +kernel
theorem d_Parting_lowestTelling_55 : decode prog_4_method_2_code 55 = .ok (.invokevirtual 61, 3) := by decide +kernel
theorem d_Parting_lowestTelling_58 : decode prog_4_method_2_code 58 = .ok (.iload 5, 2) := by decide +kernel
theorem d_Parting_lowestTelling_60 : decode prog_4_method_2_code 60 = .ok (.if_icmp .ne 6, 3) := by decide +kernel
theorem d_Parting_lowestTelling_63 : decode prog_4_method_2_code 63 = .ok (.iload 6, 2) := by decide +kernel
theorem d_Parting_lowestTelling_65 : decode prog_4_method_2_code 65 = .ok (.ireturn, 1) := by decide +kernel
theorem d_Parting_lowestTelling_66 : decode prog_4_method_2_code 66 = .ok (.iinc 6 1, 3) := by decide +kernel
theorem d_Parting_lowestTelling_69 : decode prog_4_method_2_code 69 = .ok (.goto (-37), 3) := by decide +kernel
theorem d_Parting_lowestTelling_72 : decode prog_4_method_2_code 72 = .ok (.iconst (-1), 1) := by decide +kernel
theorem d_Parting_lowestTelling_73 : decode prog_4_method_2_code 73 = .ok (.ireturn, 1) := by decide +kernel
theorem d_Parting_groupBySaid_0 : decode prog_4_method_3_code 0 = .ok (.aload_n 0, 1) := by decide +kernel
theorem d_Parting_groupBySaid_1 : decode prog_4_method_3_code 1 = .ok (.getfield 18, 3) := by decide +kernel
theorem d_Parting_groupBySaid_4 : decode prog_4_method_3_code 4 = .ok (.iconst 0, 1) := by decide +kernel
theorem d_Parting_groupBySaid_5 : decode prog_4_method_3_code 5 = .ok (.invokestatic 65, 3) := by decide +kernel
theorem d_Parting_groupBySaid_8 : decode prog_4_method_3_code 8 = .ok (.aload_n 0, 1) := by decide +kernel
theorem d_Parting_groupBySaid_9 : decode prog_4_method_3_code 9 = .ok (.aload_n 1, 1) := by decide +kernel
theorem d_Parting_groupBySaid_10 : decode prog_4_method_3_code 10 = .ok (.aload_n 2, 1) := by decide +kernel
theorem d_Parting_groupBySaid_11 : decode prog_4_method_3_code 11 = .ok (.aload_n 3, 1) := by decide +kernel
theorem d_Parting_groupBySaid_12 : decode prog_4_method_3_code 12 = .ok (.invokevirtual 42, 3) := by decide +kernel
theorem d_Parting_groupBySaid_15 : decode prog_4_method_3_code 15 = .ok (.iconst 0, 1) := by decide +kernel
theorem d_Parting_groupBySaid_16 : decode prog_4_method_3_code 16 = .ok (.istore 4, 2) := by decide +kernel
theorem d_Parting_groupBySaid_18 : decode prog_4_method_3_code 18 = .ok (.iload 4, 2) := by decide +kernel
theorem d_Parting_groupBySaid_20 : decode prog_4_method_3_code 20 = .ok (.aload_n 1, 1) := by decide +kernel
theorem d_Parting_groupBySaid_21 : decode prog_4_method_3_code 21 = .ok (.getfield 46, 3) := by decide +kernel
theorem d_Parting_groupBySaid_24 : decode prog_4_method_3_code 24 = .ok (.getfield 52, 3) := by decide +kernel
theorem d_Parting_groupBySaid_27 : decode prog_4_method_3_code 27 = .ok (.if_icmp .ge 55, 3) := by decide +kernel
theorem d_Parting_groupBySaid_30 : decode prog_4_method_3_code 30 = .ok (.aload_n 0, 1) := by decide +kernel
theorem d_Parting_groupBySaid_31 : decode prog_4_method_3_code 31 = .ok (.aload_n 1, 1) := by decide +kernel
theorem d_Parting_groupBySaid_32 : decode prog_4_method_3_code 32 = .ok (.iload 4, 2) := by decide +kernel
theorem d_Parting_groupBySaid_34 : decode prog_4_method_3_code 34 = .ok (.aload_n 2, 1) := by decide +kernel
theorem d_Parting_groupBySaid_35 : decode prog_4_method_3_code 35 = .ok (.aload_n 3, 1) := by decide +kernel
theorem d_Parting_groupBySaid_36 : decode prog_4_method_3_code 36 = .ok (.invokevirtual 57, 3) := by decide +kernel
theorem d_Parting_groupBySaid_39 : decode prog_4_method_3_code 39 = .ok (.aload_n 1, 1) := by decide +kernel
theorem d_Parting_groupBySaid_40 : decode prog_4_method_3_code 40 = .ok (.getfield 46, 3) := by decide +kernel
theorem d_Parting_groupBySaid_43 : decode prog_4_method_3_code 43 = .ok (.getfield 71, 3) := by decide +kernel
theorem d_Parting_groupBySaid_46 : decode prog_4_method_3_code 46 = .ok (.iload 4, 2) := by decide +kernel
theorem d_Parting_groupBySaid_48 : decode prog_4_method_3_code 48 = .ok (.iaload, 1) := by decide +kernel
theorem d_Parting_groupBySaid_49 : decode prog_4_method_3_code 49 = .ok (.bipush 9, 2) := by decide +kernel
theorem d_Parting_groupBySaid_51 : decode prog_4_method_3_code 51 = .ok (.if_icmp .ne 25, 3) := by decide +kernel
theorem d_Parting_groupBySaid_54 : decode prog_4_method_3_code 54 = .ok (.aload_n 0, 1) := by decide +kernel
theorem d_Parting_groupBySaid_55 : decode prog_4_method_3_code 55 = .ok (.invokevirtual 61, 3) := by decide +kernel
theorem d_Parting_groupBySaid_58 : decode prog_4_method_3_code 58 = .ok (.pop, 1) := by decide +kernel
theorem d_Parting_groupBySaid_59 : decode prog_4_method_3_code 59 = .ok (.aload_n 0, 1) := by decide +kernel
theorem d_Parting_groupBySaid_60 : decode prog_4_method_3_code 60 = .ok (.getfield 22, 3) := by decide +kernel
theorem d_Parting_groupBySaid_63 : decode prog_4_method_3_code 63 = .ok (.iconst 0, 1) := by decide +kernel
theorem d_Parting_groupBySaid_64 : decode prog_4_method_3_code 64 = .ok (.aload_n 0, 1) := by decide +kernel
theorem d_Parting_groupBySaid_65 : decode prog_4_method_3_code 65 = .ok (.getfield 18, 3) := by decide +kernel
theorem d_Parting_groupBySaid_68 : decode prog_4_method_3_code 68 = .ok (.iconst 0, 1) := by decide +kernel
theorem d_Parting_groupBySaid_69 : decode prog_4_method_3_code 69 = .ok (.aload_n 0, 1) := by decide +kernel
theorem d_Parting_groupBySaid_70 : decode prog_4_method_3_code 70 = .ok (.getfield 34, 3) := by decide +kernel
theorem d_Parting_groupBySaid_73 : decode prog_4_method_3_code 73 = .ok (.invokestatic 74, 3) := by decide +kernel
theorem d_Parting_groupBySaid_76 : decode prog_4_method_3_code 76 = .ok (.iinc 4 1, 3) := by decide +kernel
theorem d_Parting_groupBySaid_79 : decode prog_4_method_3_code 79 = .ok (.goto (-61), 3) := by decide +kernel
theorem d_Parting_groupBySaid_82 : decode prog_4_method_3_code 82 = .ok (.iconst 0, 1) := by decide +kernel
theorem d_Parting_groupBySaid_83 : decode prog_4_method_3_code 83 = .ok (.istore 4, 2) := by decide +kernel
theorem d_Parting_groupBySaid_85 : decode prog_4_method_3_code 85 = .ok (.iconst 0, 1) := by decide +kernel
theorem d_Parting_groupBySaid_86 : decode prog_4_method_3_code 86 = .ok (.istore 5, 2) := by decide +kernel
theorem d_Parting_groupBySaid_88 : decode prog_4_method_3_code 88 = .ok (.iload 5, 2) := by decide +kernel
theorem d_Parting_groupBySaid_90 : decode prog_4_method_3_code 90 = .ok (.aload_n 0, 1) := by decide +kernel
theorem d_Parting_groupBySaid_91 : decode prog_4_method_3_code 91 = .ok (.getfield 34, 3) := by decide +kernel
theorem d_Parting_groupBySaid_94 : decode prog_4_method_3_code 94 = .ok (.if_icmp .ge 35, 3) := by decide +kernel
theorem d_Parting_groupBySaid_97 : decode prog_4_method_3_code 97 = .ok (.aload_n 0, 1) := by decide +kernel
theorem d_Parting_groupBySaid_98 : decode prog_4_method_3_code 98 = .ok (.getfield 15, 3) := by decide +kernel
theorem d_Parting_groupBySaid_101 : decode prog_4_method_3_code 101 = .ok (.iload 5, 2) := by decide +kernel
theorem d_Parting_groupBySaid_103 : decode prog_4_method_3_code 103 = .ok (.laload, 1) := by decide +kernel
theorem d_Parting_groupBySaid_104 : decode prog_4_method_3_code 104 = .ok (.lconst 0, 1) := by decide +kernel
theorem d_Parting_groupBySaid_105 : decode prog_4_method_3_code 105 = .ok (.lcmp, 1) := by decide +kernel
theorem d_Parting_groupBySaid_106 : decode prog_4_method_3_code 106 = .ok (.ifCond .ne 14, 3) := by decide +kernel
theorem d_Parting_groupBySaid_109 : decode prog_4_method_3_code 109 = .ok (.aload_n 0, 1) := by decide +kernel
theorem d_Parting_groupBySaid_110 : decode prog_4_method_3_code 110 = .ok (.getfield 18, 3) := by decide +kernel
theorem d_Parting_groupBySaid_113 : decode prog_4_method_3_code 113 = .ok (.iload 5, 2) := by decide +kernel
theorem d_Parting_groupBySaid_115 : decode prog_4_method_3_code 115 = .ok (.iconst (-1), 1) := by decide +kernel
theorem d_Parting_groupBySaid_116 : decode prog_4_method_3_code 116 = .ok (.iastore, 1) := by decide +kernel
theorem d_Parting_groupBySaid_117 : decode prog_4_method_3_code 117 = .ok (.goto 6, 3) := by decide +kernel
theorem d_Parting_groupBySaid_120 : decode prog_4_method_3_code 120 = .ok (.iinc 4 1, 3) := by decide +kernel
theorem d_Parting_groupBySaid_123 : decode prog_4_method_3_code 123 = .ok (.iinc 5 1, 3) := by decide +kernel
theorem d_Parting_groupBySaid_126 : decode prog_4_method_3_code 126 = .ok (.goto (-38), 3) := by decide +kernel
theorem d_Parting_groupBySaid_129 : decode prog_4_method_3_code 129 = .ok (.iload 4, 2) := by decide +kernel
theorem d_Parting_groupBySaid_131 : decode prog_4_method_3_code 131 = .ok (.ireturn, 1) := by decide +kernel
theorem d_Parting_startAll_0 : decode prog_4_method_4_code 0 = .ok (.aload_n 1, 1) := by decide +kernel
theorem d_Parting_startAll_1 : decode prog_4_method_4_code 1 = .ok (.aload_n 2, 1) := by decide +kernel
theorem d_Parting_startAll_2 : decode prog_4_method_4_code 2 = .ok (.invokevirtual 80, 3) := by decide +kernel
theorem d_Parting_startAll_5 : decode prog_4_method_4_code 5 = .ok (.iconst 0, 1) := by decide +kernel
theorem d_Parting_startAll_6 : decode prog_4_method_4_code 6 = .ok (.istore 4, 2) := by decide +kernel
theorem d_Parting_startAll_8 : decode prog_4_method_4_code 8 = .ok (.iload 4, 2) := by decide +kernel
theorem d_Parting_startAll_10 : decode prog_4_method_4_code 10 = .ok (.aload_n 0, 1) := by decide +kernel
theorem d_Parting_startAll_11 : decode prog_4_method_4_code 11 = .ok (.getfield 34, 3) := by decide +kernel
theorem d_Parting_startAll_14 : decode prog_4_method_4_code 14 = .ok (.if_icmp .ge 57, 3) := by decide +kernel
theorem d_Parting_startAll_17 : decode prog_4_method_4_code 17 = .ok (.aload_n 1, 1) := by decide +kernel
theorem d_Parting_startAll_18 : decode prog_4_method_4_code 18 = .ok (.aload_n 3, 1) := by decide +kernel
theorem d_Parting_startAll_19 : decode prog_4_method_4_code 19 = .ok (.aload_n 2, 1) := by decide +kernel
theorem d_Parting_startAll_20 : decode prog_4_method_4_code 20 = .ok (.invokevirtual 84, 3) := by decide +kernel
theorem d_Parting_startAll_23 : decode prog_4_method_4_code 23 = .ok (.aload_n 0, 1) := by decide +kernel
theorem d_Parting_startAll_24 : decode prog_4_method_4_code 24 = .ok (.getfield 9, 3) := by decide +kernel
theorem d_Parting_startAll_27 : decode prog_4_method_4_code 27 = .ok (.iload 4, 2) := by decide +kernel
theorem d_Parting_startAll_29 : decode prog_4_method_4_code 29 = .ok (.aload_n 3, 1) := by decide +kernel
theorem d_Parting_startAll_30 : decode prog_4_method_4_code 30 = .ok (.getfield 88, 3) := by decide +kernel
theorem d_Parting_startAll_33 : decode prog_4_method_4_code 33 = .ok (.lastore, 1) := by decide +kernel
theorem d_Parting_startAll_34 : decode prog_4_method_4_code 34 = .ok (.aload_n 0, 1) := by decide +kernel
theorem d_Parting_startAll_35 : decode prog_4_method_4_code 35 = .ok (.getfield 15, 3) := by decide +kernel
theorem d_Parting_startAll_38 : decode prog_4_method_4_code 38 = .ok (.iload 4, 2) := by decide +kernel
theorem d_Parting_startAll_40 : decode prog_4_method_4_code 40 = .ok (.aload_n 0, 1) := by decide +kernel
theorem d_Parting_startAll_41 : decode prog_4_method_4_code 41 = .ok (.getfield 18, 3) := by decide +kernel
theorem d_Parting_startAll_44 : decode prog_4_method_4_code 44 = .ok (.iload 4, 2) := by decide +kernel
theorem d_Parting_startAll_46 : decode prog_4_method_4_code 46 = .ok (.iaload, 1) := by decide +kernel
theorem d_Parting_startAll_47 : decode prog_4_method_4_code 47 = .ok (.iconst (-1), 1) := by decide +kernel
theorem d_Parting_startAll_48 : decode prog_4_method_4_code 48 = .ok (.if_icmp .ne 7, 3) := by decide +kernel
theorem d_Parting_startAll_51 : decode prog_4_method_4_code 51 = .ok (.lconst 0, 1) := by decide +kernel
theorem d_Parting_startAll_52 : decode prog_4_method_4_code 52 = .ok (.goto 7, 3) := by decide +kernel
theorem d_Parting_startAll_55 : decode prog_4_method_4_code 55 = .ok (.aload_n 3, 1) := by decide +kernel
theorem d_Parting_startAll_56 : decode prog_4_method_4_code 56 = .ok (.getfield 94, 3) := by decide +kernel
theorem d_Parting_startAll_59 : decode prog_4_method_4_code 59 = .ok (.lastore, 1) := by decide +kernel
theorem d_Parting_startAll_60 : decode prog_4_method_4_code 60 = .ok (.aload_n 1, 1) := by decide +kernel
theorem d_Parting_startAll_61 : decode prog_4_method_4_code 61 = .ok (.aload_n 2, 1) := by decide +kernel
theorem d_Parting_startAll_62 : decode prog_4_method_4_code 62 = .ok (.invokevirtual 97, 3) := by decide +kernel
theorem d_Parting_startAll_65 : decode prog_4_method_4_code 65 = .ok (.iinc 4 1, 3) := by decide +kernel
theorem d_Parting_startAll_68 : decode prog_4_method_4_code 68 = .ok (.goto (-60), 3) := by decide +kernel
theorem d_Parting_startAll_71 : decode prog_4_method_4_code 71 = .ok (.return_, 1) := by decide +kernel
theorem d_Parting_stepAll_0 : decode prog_4_method_5_code 0 = .ok (.aload_n 1, 1) := by decide +kernel
theorem d_Parting_stepAll_1 : decode prog_4_method_5_code 1 = .ok (.aload_n 3, 1) := by decide +kernel
theorem d_Parting_stepAll_2 : decode prog_4_method_5_code 2 = .ok (.invokevirtual 80, 3) := by decide +kernel
theorem d_Parting_stepAll_5 : decode prog_4_method_5_code 5 = .ok (.iconst 0, 1) := by decide +kernel
theorem d_Parting_stepAll_6 : decode prog_4_method_5_code 6 = .ok (.istore 5, 2) := by decide +kernel
theorem d_Parting_stepAll_8 : decode prog_4_method_5_code 8 = .ok (.iload 5, 2) := by decide +kernel
theorem d_Parting_stepAll_10 : decode prog_4_method_5_code 10 = .ok (.aload_n 0, 1) := by decide +kernel
theorem d_Parting_stepAll_11 : decode prog_4_method_5_code 11 = .ok (.getfield 34, 3) := by decide +kernel
theorem d_Parting_stepAll_14 : decode prog_4_method_5_code 14 = .ok (.if_icmp .ge 108, 3) := by decide +kernel
theorem d_Parting_stepAll_17 : decode prog_4_method_5_code 17 = .ok (.aload_n 0, 1) := by decide +kernel
theorem d_Parting_stepAll_18 : decode prog_4_method_5_code 18 = .ok (.getfield 15, 3) := by decide +kernel
theorem d_Parting_stepAll_21 : decode prog_4_method_5_code 21 = .ok (.iload 5, 2) := by decide +kernel
theorem d_Parting_stepAll_23 : decode prog_4_method_5_code 23 = .ok (.laload, 1) := by decide +kernel
theorem d_Parting_stepAll_24 : decode prog_4_method_5_code 24 = .ok (.lconst 0, 1) := by decide +kernel
theorem d_Parting_stepAll_25 : decode prog_4_method_5_code 25 = .ok (.lcmp, 1) := by decide +kernel
theorem d_Parting_stepAll_26 : decode prog_4_method_5_code 26 = .ok (.ifCond .eq 85, 3) := by decide +kernel
theorem d_Parting_stepAll_29 : decode prog_4_method_5_code 29 = .ok (.aload 4, 2) := by decide +kernel
theorem d_Parting_stepAll_31 : decode prog_4_method_5_code 31 = .ok (.aload_n 0, 1) := by decide +kernel
theorem d_Parting_stepAll_32 : decode prog_4_method_5_code 32 = .ok (.getfield 9, 3) := by decide +kernel
theorem d_Parting_stepAll_35 : decode prog_4_method_5_code 35 = .ok (.iload 5, 2) := by decide +kernel
theorem d_Parting_stepAll_37 : decode prog_4_method_5_code 37 = .ok (.laload, 1) := by decide +kernel
theorem d_Parting_stepAll_38 : decode prog_4_method_5_code 38 = .ok (.putfield 88, 3) := by decide +kernel
theorem d_Parting_stepAll_41 : decode prog_4_method_5_code 41 = .ok (.aload 4, 2) := by decide +kernel
theorem d_Parting_stepAll_43 : decode prog_4_method_5_code 43 = .ok (.aload_n 0, 1) := by decide +kernel
theorem d_Parting_stepAll_44 : decode prog_4_method_5_code 44 = .ok (.getfield 15, 3) := by decide +kernel
theorem d_Parting_stepAll_47 : decode prog_4_method_5_code 47 = .ok (.iload 5, 2) := by decide +kernel
theorem d_Parting_stepAll_49 : decode prog_4_method_5_code 49 = .ok (.laload, 1) := by decide +kernel
theorem d_Parting_stepAll_50 : decode prog_4_method_5_code 50 = .ok (.putfield 94, 3) := by decide +kernel
theorem d_Parting_stepAll_53 : decode prog_4_method_5_code 53 = .ok (.aload 4, 2) := by decide +kernel
theorem d_Parting_stepAll_55 : decode prog_4_method_5_code 55 = .ok (.aload_n 1, 1) := by decide +kernel
theorem d_Parting_stepAll_56 : decode prog_4_method_5_code 56 = .ok (.getfield 46, 3) := by decide +kernel
theorem d_Parting_stepAll_59 : decode prog_4_method_5_code 59 = .ok (.getfield 71, 3) := by decide +kernel
theorem d_Parting_stepAll_62 : decode prog_4_method_5_code 62 = .ok (.iload_n 2, 1) := by decide +kernel
theorem d_Parting_stepAll_63 : decode prog_4_method_5_code 63 = .ok (.iaload, 1) := by decide +kernel
theorem d_Parting_stepAll_64 : decode prog_4_method_5_code 64 = .ok (.aload_n 1, 1) := by decide +kernel
theorem d_Parting_stepAll_65 : decode prog_4_method_5_code 65 = .ok (.getfield 46, 3) := by decide +kernel
theorem d_Parting_stepAll_68 : decode prog_4_method_5_code 68 = .ok (.iload_n 2, 1) := by decide +kernel
theorem d_Parting_stepAll_69 : decode prog_4_method_5_code 69 = .ok (.aload_n 3, 1) := by decide +kernel
theorem d_Parting_stepAll_70 : decode prog_4_method_5_code 70 = .ok (.invokevirtual 100, 3) := by decide +kernel
theorem d_Parting_stepAll_73 : decode prog_4_method_5_code 73 = .ok (.invokevirtual 104, 3) := by decide +kernel
theorem d_Parting_stepAll_76 : decode prog_4_method_5_code 76 = .ok (.istore 6, 2) := by decide +kernel
theorem d_Parting_stepAll_78 : decode prog_4_method_5_code 78 = .ok (.aload_n 0, 1) := by decide +kernel
theorem d_Parting_stepAll_79 : decode prog_4_method_5_code 79 = .ok (.getfield 9, 3) := by decide +kernel
theorem d_Parting_stepAll_82 : decode prog_4_method_5_code 82 = .ok (.iload 5, 2) := by decide +kernel
theorem d_Parting_stepAll_84 : decode prog_4_method_5_code 84 = .ok (.aload 4, 2) := by decide +kernel
theorem d_Parting_stepAll_86 : decode prog_4_method_5_code 86 = .ok (.getfield 88, 3) := by decide +kernel
theorem d_Parting_stepAll_89 : decode prog_4_method_5_code 89 = .ok (.lastore, 1) := by decide +kernel
theorem d_Parting_stepAll_90 : decode prog_4_method_5_code 90 = .ok (.aload_n 0, 1) := by decide +kernel
theorem d_Parting_stepAll_91 : decode prog_4_method_5_code 91 = .ok (.getfield 15, 3) := by decide +kernel
theorem d_Parting_stepAll_94 : decode prog_4_method_5_code 94 = .ok (.iload 5, 2) := by decide +kernel
theorem d_Parting_stepAll_96 : decode prog_4_method_5_code 96 = .ok (.iload 6, 2) := by decide +kernel
theorem d_Parting_stepAll_98 : decode prog_4_method_5_code 98 = .ok (.ifCond .eq 11, 3) := by decide +kernel
theorem d_Parting_stepAll_101 : decode prog_4_method_5_code 101 = .ok (.aload 4, 2) := by decide +kernel
theorem d_Parting_stepAll_103 : decode prog_4_method_5_code 103 = .ok (.getfield 94, 3) := by decide +kernel
theorem d_Parting_stepAll_106 : decode prog_4_method_5_code 106 = .ok (.goto 4, 3) := by decide +kernel
theorem d_Parting_stepAll_109 : decode prog_4_method_5_code 109 = .ok (.lconst 0, 1) := by decide +kernel
theorem d_Parting_stepAll_110 : decode prog_4_method_5_code 110 = .ok (.lastore, 1) := by decide +kernel
theorem d_Parting_stepAll_111 : decode prog_4_method_5_code 111 = .ok (.aload_n 1, 1) := by decide +kernel
theorem d_Parting_stepAll_112 : decode prog_4_method_5_code 112 = .ok (.aload_n 3, 1) := by decide +kernel
theorem d_Parting_stepAll_113 : decode prog_4_method_5_code 113 = .ok (.invokevirtual 97, 3) := by decide +kernel
theorem d_Parting_stepAll_116 : decode prog_4_method_5_code 116 = .ok (.iinc 5 1, 3) := by decide +kernel
theorem d_Parting_stepAll_119 : decode prog_4_method_5_code 119 = .ok (.goto (-111), 3) := by decide +kernel
theorem d_Parting_stepAll_122 : decode prog_4_method_5_code 122 = .ok (.return_, 1) := by decide +kernel
theorem d_Parting_countGroups_0 : decode prog_4_method_6_code 0 = .ok (.aload_n 0, 1) := by decide +kernel
theorem d_Parting_countGroups_1 : decode prog_4_method_6_code 1 = .ok (.getfield 25, 3) := by decide +kernel
theorem d_Parting_countGroups_4 : decode prog_4_method_6_code 4 = .ok (.iconst (-1), 1) := by decide +kernel
theorem d_Parting_countGroups_5 : decode prog_4_method_6_code 5 = .ok (.invokestatic 65, 3) := by decide +kernel
theorem d_Parting_countGroups_8 : decode prog_4_method_6_code 8 = .ok (.iconst 0, 1) := by decide +kernel
theorem d_Parting_countGroups_9 : decode prog_4_method_6_code 9 = .ok (.istore_n 1, 1) := by decide +kernel
theorem d_Parting_countGroups_10 : decode prog_4_method_6_code 10 = .ok (.iconst 0, 1) := by decide +kernel
theorem d_Parting_countGroups_11 : decode prog_4_method_6_code 11 = .ok (.istore_n 2, 1) := by decide +kernel
theorem d_Parting_countGroups_12 : decode prog_4_method_6_code 12 = .ok (.iload_n 2, 1) := by decide +kernel
theorem d_Parting_countGroups_13 : decode prog_4_method_6_code 13 = .ok (.aload_n 0, 1) := by decide +kernel
theorem d_Parting_countGroups_14 : decode prog_4_method_6_code 14 = .ok (.getfield 34, 3) := by decide +kernel
theorem d_Parting_countGroups_17 : decode prog_4_method_6_code 17 = .ok (.if_icmp .ge 49, 3) := by decide +kernel
theorem d_Parting_countGroups_20 : decode prog_4_method_6_code 20 = .ok (.aload_n 0, 1) := by decide +kernel
theorem d_Parting_countGroups_21 : decode prog_4_method_6_code 21 = .ok (.getfield 15, 3) := by decide +kernel
theorem d_Parting_countGroups_24 : decode prog_4_method_6_code 24 = .ok (.iload_n 2, 1) := by decide +kernel
theorem d_Parting_countGroups_25 : decode prog_4_method_6_code 25 = .ok (.laload, 1) := by decide +kernel
theorem d_Parting_countGroups_26 : decode prog_4_method_6_code 26 = .ok (.lconst 0, 1) := by decide +kernel
theorem d_Parting_countGroups_27 : decode prog_4_method_6_code 27 = .ok (.lcmp, 1) := by decide +kernel
theorem d_Parting_countGroups_28 : decode prog_4_method_6_code 28 = .ok (.ifCond .eq 32, 3) := by decide +kernel
theorem d_Parting_countGroups_31 : decode prog_4_method_6_code 31 = .ok (.aload_n 0, 1) := by decide +kernel
theorem d_Parting_countGroups_32 : decode prog_4_method_6_code 32 = .ok (.getfield 22, 3) := by decide +kernel
theorem d_Parting_countGroups_35 : decode prog_4_method_6_code 35 = .ok (.iload_n 2, 1) := by decide +kernel
theorem d_Parting_countGroups_36 : decode prog_4_method_6_code 36 = .ok (.aload_n 0, 1) := by decide +kernel
theorem d_Parting_countGroups_37 : decode prog_4_method_6_code 37 = .ok (.iload_n 2, 1) := by decide +kernel
theorem d_Parting_countGroups_38 : decode prog_4_method_6_code 38 = .ok (.invokevirtual 108, 3) := by decide +kernel
theorem d_Parting_countGroups_41 : decode prog_4_method_6_code 41 = .ok (.iastore, 1) := by decide +kernel
theorem d_Parting_countGroups_42 : decode prog_4_method_6_code 42 = .ok (.iload_n 1, 1) := by decide +kernel
theorem d_Parting_countGroups_43 : decode prog_4_method_6_code 43 = .ok (.aload_n 0, 1) := by decide +kernel
theorem d_Parting_countGroups_44 : decode prog_4_method_6_code 44 = .ok (.getfield 22, 3) := by decide +kernel
theorem d_Parting_countGroups_47 : decode prog_4_method_6_code 47 = .ok (.iload_n 2, 1) := by decide +kernel
theorem d_Parting_countGroups_48 : decode prog_4_method_6_code 48 = .ok (.iaload, 1) := by decide +kernel
theorem d_Parting_countGroups_49 : decode prog_4_method_6_code 49 = .ok (.iload_n 2, 1) := by decide +kernel
theorem d_Parting_countGroups_50 : decode prog_4_method_6_code 50 = .ok (.if_icmp .ne 7, 3) := by decide +kernel
theorem d_Parting_countGroups_53 : decode prog_4_method_6_code 53 = .ok (.iconst 1, 1) := by decide +kernel
theorem d_Parting_countGroups_54 : decode prog_4_method_6_code 54 = .ok (.goto 4, 3) := by decide +kernel
theorem d_Parting_countGroups_57 : decode prog_4_method_6_code 57 = .ok (.iconst 0, 1) := by decide +kernel
theorem d_Parting_countGroups_58 : decode prog_4_method_6_code 58 = .ok (.iadd, 1) := by decide +kernel
theorem d_Parting_countGroups_59 : decode prog_4_method_6_code 59 = .ok (.istore_n 1, 1) := by decide +kernel
theorem d_Parting_countGroups_60 : decode prog_4_method_6_code 60 = .ok (.iinc 2 1, 3) := by decide +kernel
theorem d_Parting_countGroups_63 : decode prog_4_method_6_code 63 = .ok (.goto (-51), 3) := by decide +kernel
theorem d_Parting_countGroups_66 : decode prog_4_method_6_code 66 = .ok (.iload_n 1, 1) := by decide +kernel
theorem d_Parting_countGroups_67 : decode prog_4_method_6_code 67 = .ok (.ireturn, 1) := by decide +kernel
theorem d_Parting_seat_0 : decode prog_4_method_7_code 0 = .ok (.aload_n 0, 1) := by decide +kernel
theorem d_Parting_seat_1 : decode prog_4_method_7_code 1 = .ok (.getfield 9, 3) := by decide +kernel
theorem d_Parting_seat_4 : decode prog_4_method_7_code 4 = .ok (.iload_n 1, 1) := by decide +kernel
theorem d_Parting_seat_5 : decode prog_4_method_7_code 5 = .ok (.laload, 1) := by decide +kernel
theorem d_Parting_seat_6 : decode prog_4_method_7_code 6 = .ok (.ldc2_w 112, 3) := by decide +kernel
theorem d_Parting_seat_9 : decode prog_4_method_7_code 9 = .ok (.lmul, 1) := by decide +kernel
theorem d_Parting_seat_10 : decode prog_4_method_7_code 10 = .ok (.aload_n 0, 1) := by decide +kernel
theorem d_Parting_seat_11 : decode prog_4_method_7_code 11 = .ok (.getfield 15, 3) := by decide +kernel
theorem d_Parting_seat_14 : decode prog_4_method_7_code 14 = .ok (.iload_n 1, 1) := by decide +kernel
theorem d_Parting_seat_15 : decode prog_4_method_7_code 15 = .ok (.laload, 1) := by decide +kernel
theorem d_Parting_seat_16 : decode prog_4_method_7_code 16 = .ok (.ladd, 1) := by decide +kernel
theorem d_Parting_seat_17 : decode prog_4_method_7_code 17 = .ok (.ldc2_w 114, 3) := by decide +kernel
theorem d_Parting_seat_20 : decode prog_4_method_7_code 20 = .ok (.lmul, 1) := by decide +kernel
theorem d_Parting_seat_21 : decode prog_4_method_7_code 21 = .ok (.aload_n 0, 1) := by decide +kernel
theorem d_Parting_seat_22 : decode prog_4_method_7_code 22 = .ok (.getfield 18, 3) := by decide +kernel
theorem d_Parting_seat_25 : decode prog_4_method_7_code 25 = .ok (.iload_n 1, 1) := by decide +kernel
theorem d_Parting_seat_26 : decode prog_4_method_7_code 26 = .ok (.iaload, 1) := by decide +kernel
theorem d_Parting_seat_27 : decode prog_4_method_7_code 27 = .ok (.i2l, 1) := by decide +kernel
theorem d_Parting_seat_28 : decode prog_4_method_7_code 28 = .ok (.ladd, 1) := by decide +kernel
theorem d_Parting_seat_29 : decode prog_4_method_7_code 29 = .ok (.lstore_n 2, 1) := by decide +kernel
theorem d_Parting_seat_30 : decode prog_4_method_7_code 30 = .ok (.lload_n 2, 1) := by decide +kernel
theorem d_Parting_seat_31 : decode prog_4_method_7_code 31 = .ok (.lload_n 2, 1) := by decide +kernel
theorem d_Parting_seat_32 : decode prog_4_method_7_code 32 = .ok (.bipush 20, 2) := by decide +kernel
theorem d_Parting_seat_34 : decode prog_4_method_7_code 34 = .ok (.lushr, 1) := by decide +kernel
theorem d_Parting_seat_35 : decode prog_4_method_7_code 35 = .ok (.lxor, 1) := by decide +kernel
theorem d_Parting_seat_36 : decode prog_4_method_7_code 36 = .ok (.lstore_n 2, 1) := by decide +kernel
theorem d_Parting_seat_37 : decode prog_4_method_7_code 37 = .ok (.iconst 0, 1) := by decide +kernel
theorem d_Parting_seat_38 : decode prog_4_method_7_code 38 = .ok (.istore 4, 2) := by decide +kernel
theorem d_Parting_seat_40 : decode prog_4_method_7_code 40 = .ok (.iload 4, 2) := by decide +kernel
theorem d_Parting_seat_42 : decode prog_4_method_7_code 42 = .ok (.sipush 1024, 3) := by decide +kernel
theorem d_Parting_seat_45 : decode prog_4_method_7_code 45 = .ok (.if_icmp .ge 99, 3) := by decide +kernel
theorem d_Parting_seat_48 : decode prog_4_method_7_code 48 = .ok (.lload_n 2, 1) := by decide +kernel
theorem d_Parting_seat_49 : decode prog_4_method_7_code 49 = .ok (.iload 4, 2) := by decide +kernel
theorem d_Parting_seat_51 : decode prog_4_method_7_code 51 = .ok (.i2l, 1) := by decide +kernel
theorem d_Parting_seat_52 : decode prog_4_method_7_code 52 = .ok (.ladd, 1) := by decide +kernel
theorem d_Parting_seat_53 : decode prog_4_method_7_code 53 = .ok (.ldc2_w 116, 3) := by decide +kernel
theorem d_Parting_seat_56 : decode prog_4_method_7_code 56 = .ok (.land, 1) := by decide +kernel
theorem d_Parting_seat_57 : decode prog_4_method_7_code 57 = .ok (.l2i, 1) := by decide +kernel
theorem d_Parting_seat_58 : decode prog_4_method_7_code 58 = .ok (.istore 5, 2) := by decide +kernel
theorem d_Parting_seat_60 : decode prog_4_method_7_code 60 = .ok (.aload_n 0, 1) := by decide +kernel
theorem d_Parting_seat_61 : decode prog_4_method_7_code 61 = .ok (.getfield 25, 3) := by decide +kernel
theorem d_Parting_seat_64 : decode prog_4_method_7_code 64 = .ok (.iload 5, 2) := by decide +kernel
theorem d_Parting_seat_66 : decode prog_4_method_7_code 66 = .ok (.iaload, 1) := by decide +kernel
theorem d_Parting_seat_67 : decode prog_4_method_7_code 67 = .ok (.istore 6, 2) := by decide +kernel
theorem d_Parting_seat_69 : decode prog_4_method_7_code 69 = .ok (.iload 6, 2) := by decide +kernel
theorem d_Parting_seat_71 : decode prog_4_method_7_code 71 = .ok (.iconst (-1), 1) := by decide +kernel
theorem d_Parting_seat_72 : decode prog_4_method_7_code 72 = .ok (.if_icmp .ne 13, 3) := by decide +kernel
theorem d_Parting_seat_75 : decode prog_4_method_7_code 75 = .ok (.aload_n 0, 1) := by decide +kernel
theorem d_Parting_seat_76 : decode prog_4_method_7_code 76 = .ok (.getfield 25, 3) := by decide +kernel
theorem d_Parting_seat_79 : decode prog_4_method_7_code 79 = .ok (.iload 5, 2) := by decide +kernel
theorem d_Parting_seat_81 : decode prog_4_method_7_code 81 = .ok (.iload_n 1, 1) := by decide +kernel
theorem d_Parting_seat_82 : decode prog_4_method_7_code 82 = .ok (.iastore, 1) := by decide +kernel
theorem d_Parting_seat_83 : decode prog_4_method_7_code 83 = .ok (.iload_n 1, 1) := by decide +kernel
theorem d_Parting_seat_84 : decode prog_4_method_7_code 84 = .ok (.ireturn, 1) := by decide +kernel
theorem d_Parting_seat_85 : decode prog_4_method_7_code 85 = .ok (.aload_n 0, 1) := by decide +kernel
theorem d_Parting_seat_86 : decode prog_4_method_7_code 86 = .ok (.getfield 18, 3) := by decide +kernel
theorem d_Parting_seat_89 : decode prog_4_method_7_code 89 = .ok (.iload 6, 2) := by decide +kernel
