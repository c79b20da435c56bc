/-! decode rows (by program: wip/whole/facts.py) -/
theorem d_Parting_seat_91 : decode prog_4_method_7_code 91 = .ok (.iaload, 1) := by decide +kernel
theorem d_Parting_seat_92 : decode prog_4_method_7_code 92 = .ok (.aload_n 0, 1) := by decide +kernel
theorem d_Parting_seat_93 : decode prog_4_method_7_code 93 = .ok (.getfield 18, 3) := by decide +kernel
theorem d_Parting_seat_96 : decode prog_4_method_7_code 96 = .ok (.iload_n 1, 1) := by decide +kernel
theorem d_Parting_seat_97 : decode prog_4_method_7_code 97 = .ok (.iaload, 1) := by decide +kernel
theorem d_Parting_seat_98 : decode prog_4_method_7_code 98 = .ok (.if_icmp .ne 40, 3) := by decide +kernel
theorem d_Parting_seat_101 : decode prog_4_method_7_code 101 = .ok (.aload_n 0, 1) := by decide +kernel
theorem d_Parting_seat_102 : decode prog_4_method_7_code 102 = .ok (.getfield 9, 3) := by decide +kernel
theorem d_Parting_seat_105 : decode prog_4_method_7_code 105 = .ok (.iload 6, 2) := by decide +kernel
theorem d_Parting_seat_107 : decode prog_4_method_7_code 107 = .ok (.laload, 1) := by decide +kernel
theorem d_Parting_seat_108 : decode prog_4_method_7_code 108 = .ok (.aload_n 0, 1) := by decide +kernel
theorem d_Parting_seat_109 : decode prog_4_method_7_code 109 = .ok (.getfield 9, 3) := by decide +kernel
theorem d_Parting_seat_112 : decode prog_4_method_7_code 112 = .ok (.iload_n 1, 1) := by decide +kernel
theorem d_Parting_seat_113 : decode prog_4_method_7_code 113 = .ok (.laload, 1) := by decide +kernel
theorem d_Parting_seat_114 : decode prog_4_method_7_code 114 = .ok (.lcmp, 1) := by decide +kernel
theorem d_Parting_seat_115 : decode prog_4_method_7_code 115 = .ok (.ifCond .ne 23, 3) := by decide +kernel
theorem d_Parting_seat_118 : decode prog_4_method_7_code 118 = .ok (.aload_n 0, 1) := by decide +kernel
theorem d_Parting_seat_119 : decode prog_4_method_7_code 119 = .ok (.getfield 15, 3) := by decide +kernel
theorem d_Parting_seat_122 : decode prog_4_method_7_code 122 = .ok (.iload 6, 2) := by decide +kernel
theorem d_Parting_seat_124 : decode prog_4_method_7_code 124 = .ok (.laload, 1) := by decide +kernel
theorem d_Parting_seat_125 : decode prog_4_method_7_code 125 = .ok (.aload_n 0, 1) := by decide +kernel
theorem d_Parting_seat_126 : decode prog_4_method_7_code 126 = .ok (.getfield 15, 3) := by decide +kernel
theorem d_Parting_seat_129 : decode prog_4_method_7_code 129 = .ok (.iload_n 1, 1) := by decide +kernel
theorem d_Parting_seat_130 : decode prog_4_method_7_code 130 = .ok (.laload, 1) := by decide +kernel
theorem d_Parting_seat_131 : decode prog_4_method_7_code 131 = .ok (.lcmp, 1) := by decide +kernel
theorem d_Parting_seat_132 : decode prog_4_method_7_code 132 = .ok (.ifCond .ne 6, 3) := by decide +kernel
theorem d_Parting_seat_135 : decode prog_4_method_7_code 135 = .ok (.iload 6, 2) := by decide +kernel
theorem d_Parting_seat_137 : decode prog_4_method_7_code 137 = .ok (.ireturn, 1) := by decide +kernel
theorem d_Parting_seat_138 : decode prog_4_method_7_code 138 = .ok (.iinc 4 1, 3) := by decide +kernel
theorem d_Parting_seat_141 : decode prog_4_method_7_code 141 = .ok (.goto (-101), 3) := by decide +kernel
theorem d_Parting_seat_144 : decode prog_4_method_7_code 144 = .ok (.iload_n 1, 1) := by decide +kernel
theorem d_Parting_seat_145 : decode prog_4_method_7_code 145 = .ok (.ireturn, 1) := by decide +kernel
theorem d_A_kit_0 : decode prog_1_method_20_code 0 = .ok (.iload_n 1, 1) := by decide +kernel
theorem d_A_kit_1 : decode prog_1_method_20_code 1 = .ok (.iconst (-1), 1) := by decide +kernel
theorem d_A_kit_2 : decode prog_1_method_20_code 2 = .ok (.if_icmp .ne 16, 3) := by decide +kernel
theorem d_A_kit_5 : decode prog_1_method_20_code 5 = .ok (.aload_n 0, 1) := by decide +kernel
theorem d_A_kit_6 : decode prog_1_method_20_code 6 = .ok (.getfield 35, 3) := by decide +kernel
theorem d_A_kit_9 : decode prog_1_method_20_code 9 = .ok (.getfield 240, 3) := by decide +kernel
theorem d_A_kit_12 : decode prog_1_method_20_code 12 = .ok (.iconst 0, 1) := by decide +kernel
theorem d_A_kit_13 : decode prog_1_method_20_code 13 = .ok (.putfield 123, 3) := by decide +kernel
theorem d_A_kit_16 : decode prog_1_method_20_code 16 = .ok (.iconst 0, 1) := by decide +kernel
theorem d_A_kit_17 : decode prog_1_method_20_code 17 = .ok (.ireturn, 1) := by decide +kernel
theorem d_A_kit_18 : decode prog_1_method_20_code 18 = .ok (.iload_n 1, 1) := by decide +kernel
theorem d_A_kit_19 : decode prog_1_method_20_code 19 = .ok (.ifCond .lt 9, 3) := by decide +kernel
theorem d_A_kit_22 : decode prog_1_method_20_code 22 = .ok (.iload_n 1, 1) := by decide +kernel
theorem d_A_kit_23 : decode prog_1_method_20_code 23 = .ok (.bipush 7, 2) := by decide +kernel
theorem d_A_kit_25 : decode prog_1_method_20_code 25 = .ok (.if_icmp .le 5, 3) := by decide +kernel
theorem d_A_kit_28 : decode prog_1_method_20_code 28 = .ok (.iconst (-1), 1) := by decide +kernel
theorem d_A_kit_29 : decode prog_1_method_20_code 29 = .ok (.ireturn, 1) := by decide +kernel
theorem d_A_kit_30 : decode prog_1_method_20_code 30 = .ok (.iload_n 1, 1) := by decide +kernel
theorem d_A_kit_31 : decode prog_1_method_20_code 31 = .ok (.bipush 6, 2) := by decide +kernel
theorem d_A_kit_33 : decode prog_1_method_20_code 33 = .ok (.if_icmp .ge 7, 3) := by decide +kernel
theorem d_A_kit_36 : decode prog_1_method_20_code 36 = .ok (.iconst 1, 1) := by decide +kernel
theorem d_A_kit_37 : decode prog_1_method_20_code 37 = .ok (.goto 4, 3) := by decide +kernel
theorem d_A_kit_40 : decode prog_1_method_20_code 40 = .ok (.iconst 0, 1) := by decide +kernel
theorem d_A_kit_41 : decode prog_1_method_20_code 41 = .ok (.istore_n 3, 1) := by decide +kernel
theorem d_A_kit_42 : decode prog_1_method_20_code 42 = .ok (.iload_n 3, 1) := by decide +kernel
theorem d_A_kit_43 : decode prog_1_method_20_code 43 = .ok (.ifCond .eq 17, 3) := by decide +kernel
theorem d_A_kit_46 : decode prog_1_method_20_code 46 = .ok (.iload_n 2, 1) := by decide +kernel
theorem d_A_kit_47 : decode prog_1_method_20_code 47 = .ok (.iconst (-1), 1) := by decide +kernel
theorem d_A_kit_48 : decode prog_1_method_20_code 48 = .ok (.if_icmp .eq 12, 3) := by decide +kernel
theorem d_A_kit_51 : decode prog_1_method_20_code 51 = .ok (.iload_n 2, 1) := by decide +kernel
theorem d_A_kit_52 : decode prog_1_method_20_code 52 = .ok (.invokestatic 84, 3) := by decide +kernel
theorem d_A_kit_55 : decode prog_1_method_20_code 55 = .ok (.ifCond .ne 5, 3) := by decide +kernel
theorem d_A_kit_58 : decode prog_1_method_20_code 58 = .ok (.iconst (-1), 1) := by decide +kernel
theorem d_A_kit_59 : decode prog_1_method_20_code 59 = .ok (.ireturn, 1) := by decide +kernel
theorem d_A_kit_60 : decode prog_1_method_20_code 60 = .ok (.iload_n 3, 1) := by decide +kernel
theorem d_A_kit_61 : decode prog_1_method_20_code 61 = .ok (.ifCond .ne 7, 3) := by decide +kernel
theorem d_A_kit_64 : decode prog_1_method_20_code 64 = .ok (.iconst 0, 1) := by decide +kernel
theorem d_A_kit_65 : decode prog_1_method_20_code 65 = .ok (.goto 15, 3) := by decide +kernel
theorem d_A_kit_68 : decode prog_1_method_20_code 68 = .ok (.iload_n 2, 1) := by decide +kernel
theorem d_A_kit_69 : decode prog_1_method_20_code 69 = .ok (.iconst (-1), 1) := by decide +kernel
theorem d_A_kit_70 : decode prog_1_method_20_code 70 = .ok (.if_icmp .ne 9, 3) := by decide +kernel
theorem d_A_kit_73 : decode prog_1_method_20_code 73 = .ok (.sipush 10000, 3) := by decide +kernel
theorem d_A_kit_76 : decode prog_1_method_20_code 76 = .ok (.goto 4, 3) := by decide +kernel
theorem d_A_kit_79 : decode prog_1_method_20_code 79 = .ok (.iload_n 2, 1) := by decide +kernel
theorem d_A_kit_80 : decode prog_1_method_20_code 80 = .ok (.istore 4, 2) := by decide +kernel
theorem d_A_kit_82 : decode prog_1_method_20_code 82 = .ok (.aload_n 0, 1) := by decide +kernel
theorem d_A_kit_83 : decode prog_1_method_20_code 83 = .ok (.getfield 35, 3) := by decide +kernel
theorem d_A_kit_86 : decode prog_1_method_20_code 86 = .ok (.getfield 240, 3) := by decide +kernel
theorem d_A_kit_89 : decode prog_1_method_20_code 89 = .ok (.iload_n 1, 1) := by decide +kernel
theorem d_A_kit_90 : decode prog_1_method_20_code 90 = .ok (.iload 4, 2) := by decide +kernel
theorem d_A_kit_92 : decode prog_1_method_20_code 92 = .ok (.invokevirtual 243, 3) := by decide +kernel
theorem d_A_kit_95 : decode prog_1_method_20_code 95 = .ok (.ifCond .eq 16, 3) := by decide +kernel
theorem d_A_kit_98 : decode prog_1_method_20_code 98 = .ok (.aload_n 0, 1) := by decide +kernel
theorem d_A_kit_99 : decode prog_1_method_20_code 99 = .ok (.getfield 35, 3) := by decide +kernel
theorem d_A_kit_102 : decode prog_1_method_20_code 102 = .ok (.getfield 240, 3) := by decide +kernel
theorem d_A_kit_105 : decode prog_1_method_20_code 105 = .ok (.getfield 123, 3) := by decide +kernel
theorem d_A_kit_108 : decode prog_1_method_20_code 108 = .ok (.goto 4, 3) := by decide +kernel
theorem d_A_kit_111 : decode prog_1_method_20_code 111 = .ok (.iconst (-1), 1) := by decide +kernel
theorem d_A_kit_112 : decode prog_1_method_20_code 112 = .ok (.ireturn, 1) := by decide +kernel
theorem d_A_made_0 : decode prog_1_method_21_code 0 = .ok (.iload_n 1, 1) := by decide +kernel
theorem d_A_made_1 : decode prog_1_method_21_code 1 = .ok (.invokestatic 84, 3) := by decide +kernel
theorem d_A_made_4 : decode prog_1_method_21_code 4 = .ok (.ifCond .eq 29, 3) := by decide +kernel
theorem d_A_made_7 : decode prog_1_method_21_code 7 = .ok (.iload_n 2, 1) := by decide +kernel
theorem d_A_made_8 : decode prog_1_method_21_code 8 = .ok (.invokestatic 84, 3) := by decide +kernel
theorem d_A_made_11 : decode prog_1_method_21_code 11 = .ok (.ifCond .eq 22, 3) := by decide +kernel
theorem d_A_made_14 : decode prog_1_method_21_code 14 = .ok (.iload_n 3, 1) := by decide +kernel
theorem d_A_made_15 : decode prog_1_method_21_code 15 = .ok (.invokestatic 84, 3) := by decide +kernel
theorem d_A_made_18 : decode prog_1_method_21_code 18 = .ok (.ifCond .eq 15, 3) := by decide +kernel
theorem d_A_made_21 : decode prog_1_method_21_code 21 = .ok (.iload 4, 2) := by decide +kernel
theorem d_A_made_23 : decode prog_1_method_21_code 23 = .ok (.iconst 1, 1) := by decide +kernel
theorem d_A_made_24 : decode prog_1_method_21_code 24 = .ok (.if_icmp .lt 9, 3) := by decide +kernel
theorem d_A_made_27 : decode prog_1_method_21_code 27 = .ok (.iload 4, 2) := by decide +kernel
theorem d_A_made_29 : decode prog_1_method_21_code 29 = .ok (.iconst 5, 1) := by decide +kernel
theorem d_A_made_30 : decode prog_1_method_21_code 30 = .ok (.if_icmp .le 6, 3) := by decide +kernel
theorem d_A_made_33 : decode prog_1_method_21_code 33 = .ok (.bipush (-2), 2) := by decide +kernel
theorem d_A_made_35 : decode prog_1_method_21_code 35 = .ok (.ireturn, 1) := by decide +kernel
theorem d_A_made_36 : decode prog_1_method_21_code 36 = .ok (.iload_n 1, 1) := by decide +kernel
theorem d_A_made_37 : decode prog_1_method_21_code 37 = .ok (.iload_n 2, 1) := by decide +kernel
theorem d_A_made_38 : decode prog_1_method_21_code 38 = .ok (.if_icmp .gt 11, 3) := by decide +kernel
theorem d_A_made_41 : decode prog_1_method_21_code 41 = .ok (.iload_n 2, 1) := by decide +kernel
theorem d_A_made_42 : decode prog_1_method_21_code 42 = .ok (.iload_n 1, 1) := by decide +kernel
theorem d_A_made_43 : decode prog_1_method_21_code 43 = .ok (.isub, 1) := by decide +kernel
theorem d_A_made_44 : decode prog_1_method_21_code 44 = .ok (.bipush 100, 2) := by decide +kernel
theorem d_A_made_46 : decode prog_1_method_21_code 46 = .ok (.if_icmp .lt 6, 3) := by decide +kernel
theorem d_A_made_49 : decode prog_1_method_21_code 49 = .ok (.bipush (-2), 2) := by decide +kernel
theorem d_A_made_51 : decode prog_1_method_21_code 51 = .ok (.ireturn, 1) := by decide +kernel
theorem d_A_made_52 : decode prog_1_method_21_code 52 = .ok (.aload_n 0, 1) := by decide +kernel
theorem d_A_made_53 : decode prog_1_method_21_code 53 = .ok (.getfield 80, 3) := by decide +kernel
theorem d_A_made_56 : decode prog_1_method_21_code 56 = .ok (.aload_n 0, 1) := by decide +kernel
theorem d_A_made_57 : decode prog_1_method_21_code 57 = .ok (.getfield 35, 3) := by decide +kernel
theorem d_A_made_60 : decode prog_1_method_21_code 60 = .ok (.getfield 240, 3) := by decide +kernel
theorem d_A_made_63 : decode prog_1_method_21_code 63 = .ok (.iload_n 1, 1) := by decide +kernel
theorem d_A_made_64 : decode prog_1_method_21_code 64 = .ok (.iload_n 2, 1) := by decide +kernel
theorem d_A_made_65 : decode prog_1_method_21_code 65 = .ok (.iload_n 3, 1) := by decide +kernel
theorem d_A_made_66 : decode prog_1_method_21_code 66 = .ok (.iload 4, 2) := by decide +kernel
theorem d_A_made_68 : decode prog_1_method_21_code 68 = .ok (.invokevirtual 246, 3) := by decide +kernel
theorem d_A_made_71 : decode prog_1_method_21_code 71 = .ok (.istore 6, 2) := by decide +kernel
theorem d_A_made_73 : decode prog_1_method_21_code 73 = .ok (.iload 5, 2) := by decide +kernel
theorem d_A_made_75 : decode prog_1_method_21_code 75 = .ok (.iconst (-1), 1) := by decide +kernel
theorem d_A_made_76 : decode prog_1_method_21_code 76 = .ok (.if_icmp .ne 6, 3) := by decide +kernel
theorem d_A_made_79 : decode prog_1_method_21_code 79 = .ok (.iload 6, 2) := by decide +kernel
theorem d_A_made_81 : decode prog_1_method_21_code 81 = .ok (.ireturn, 1) := by decide +kernel
theorem d_A_made_82 : decode prog_1_method_21_code 82 = .ok (.iload 5, 2) := by decide +kernel
theorem d_A_made_84 : decode prog_1_method_21_code 84 = .ok (.ifCond .lt 23, 3) := by decide +kernel
theorem d_A_made_87 : decode prog_1_method_21_code 87 = .ok (.iload 5, 2) := by decide +kernel
theorem d_A_made_89 : decode prog_1_method_21_code 89 = .ok (.iload 6, 2) := by decide +kernel
theorem d_A_made_91 : decode prog_1_method_21_code 91 = .ok (.if_icmp .ge 16, 3) := by decide +kernel
theorem d_A_made_94 : decode prog_1_method_21_code 94 = .ok (.aload_n 0, 1) := by decide +kernel
theorem d_A_made_95 : decode prog_1_method_21_code 95 = .ok (.getfield 80, 3) := by decide +kernel
theorem d_A_made_98 : decode prog_1_method_21_code 98 = .ok (.getfield 250, 3) := by decide +kernel
theorem d_A_made_101 : decode prog_1_method_21_code 101 = .ok (.iload 5, 2) := by decide +kernel
theorem d_A_made_103 : decode prog_1_method_21_code 103 = .ok (.iaload, 1) := by decide +kernel
theorem d_A_made_104 : decode prog_1_method_21_code 104 = .ok (.goto 5, 3) := by decide +kernel
theorem d_A_made_107 : decode prog_1_method_21_code 107 = .ok (.bipush (-2), 2) := by decide +kernel
theorem d_A_made_109 : decode prog_1_method_21_code 109 = .ok (.ireturn, 1) := by decide +kernel
theorem d_Maker_fewest_0 : decode prog_2_method_2_code 0 = .ok (.aload_n 0, 1) := by decide +kernel
theorem d_Maker_fewest_1 : decode prog_2_method_2_code 1 = .ok (.iload_n 2, 1) := by decide +kernel
theorem d_Maker_fewest_2 : decode prog_2_method_2_code 2 = .ok (.putfield 30, 3) := by decide +kernel
theorem d_Maker_fewest_5 : decode prog_2_method_2_code 5 = .ok (.aload_n 0, 1) := by decide +kernel
theorem d_Maker_fewest_6 : decode prog_2_method_2_code 6 = .ok (.iload 4, 2) := by decide +kernel
theorem d_Maker_fewest_8 : decode prog_2_method_2_code 8 = .ok (.putfield 34, 3) := by decide +kernel
theorem d_Maker_fewest_11 : decode prog_2_method_2_code 11 = .ok (.aload_n 0, 1) := by decide +kernel
theorem d_Maker_fewest_12 : decode prog_2_method_2_code 12 = .ok (.iload_n 3, 1) := by decide +kernel
theorem d_Maker_fewest_13 : decode prog_2_method_2_code 13 = .ok (.aload_n 0, 1) := by decide +kernel
theorem d_Maker_fewest_14 : decode prog_2_method_2_code 14 = .ok (.getfield 30, 3) := by decide +kernel
theorem d_Maker_fewest_17 : decode prog_2_method_2_code 17 = .ok (.isub, 1) := by decide +kernel
theorem d_Maker_fewest_18 : decode prog_2_method_2_code 18 = .ok (.iconst 1, 1) := by decide +kernel
theorem d_Maker_fewest_19 : decode prog_2_method_2_code 19 = .ok (.iadd, 1) := by decide +kernel
theorem d_Maker_fewest_20 : decode prog_2_method_2_code 20 = .ok (.bipush 100, 2) := by decide +kernel
theorem d_Maker_fewest_22 : decode prog_2_method_2_code 22 = .ok (.invokestatic 37, 3) := by decide +kernel
theorem d_Maker_fewest_25 : decode prog_2_method_2_code 25 = .ok (.putfield 43, 3) := by decide +kernel
theorem d_Maker_fewest_28 : decode prog_2_method_2_code 28 = .ok (.aload_n 0, 1) := by decide +kernel
theorem d_Maker_fewest_29 : decode prog_2_method_2_code 29 = .ok (.getfield 30, 3) := by decide +kernel
theorem d_Maker_fewest_32 : decode prog_2_method_2_code 32 = .ok (.iload_n 3, 1) := by decide +kernel
theorem d_Maker_fewest_33 : decode prog_2_method_2_code 33 = .ok (.if_icmp .ne 16, 3) := by decide +kernel
theorem d_Maker_fewest_36 : decode prog_2_method_2_code 36 = .ok (.aload_n 0, 1) := by decide +kernel
theorem d_Maker_fewest_37 : decode prog_2_method_2_code 37 = .ok (.getfield 30, 3) := by decide +kernel
theorem d_Maker_fewest_40 : decode prog_2_method_2_code 40 = .ok (.aload_n 0, 1) := by decide +kernel
theorem d_Maker_fewest_41 : decode prog_2_method_2_code 41 = .ok (.getfield 34, 3) := by decide +kernel
theorem d_Maker_fewest_44 : decode prog_2_method_2_code 44 = .ok (.if_icmp .ne 5, 3) := by decide +kernel
theorem d_Maker_fewest_47 : decode prog_2_method_2_code 47 = .ok (.iconst 0, 1) := by decide +kernel
theorem d_Maker_fewest_48 : decode prog_2_method_2_code 48 = .ok (.ireturn, 1) := by decide +kernel
theorem d_Maker_fewest_49 : decode prog_2_method_2_code 49 = .ok (.iconst 0, 1) := by decide +kernel
theorem d_Maker_fewest_50 : decode prog_2_method_2_code 50 = .ok (.istore 6, 2) := by decide +kernel
theorem d_Maker_fewest_52 : decode prog_2_method_2_code 52 = .ok (.iload 6, 2) := by decide +kernel
theorem d_Maker_fewest_54 : decode prog_2_method_2_code 54 = .ok (.aload_n 0, 1) := by decide +kernel
theorem d_Maker_fewest_55 : decode prog_2_method_2_code 55 = .ok (.getfield 43, 3) := by decide +kernel
theorem d_Maker_fewest_58 : decode prog_2_method_2_code 58 = .ok (.if_icmp .ge 26, 3) := by decide +kernel
theorem d_Maker_fewest_61 : decode prog_2_method_2_code 61 = .ok (.aload_n 0, 1) := by decide +kernel
theorem d_Maker_fewest_62 : decode prog_2_method_2_code 62 = .ok (.getfield 11, 3) := by decide +kernel
theorem d_Maker_fewest_65 : decode prog_2_method_2_code 65 = .ok (.iconst 0, 1) := by decide +kernel
theorem d_Maker_fewest_66 : decode prog_2_method_2_code 66 = .ok (.aaload, 1) := by decide +kernel
theorem d_Maker_fewest_67 : decode prog_2_method_2_code 67 = .ok (.iload 6, 2) := by decide +kernel
theorem d_Maker_fewest_69 : decode prog_2_method_2_code 69 = .ok (.aload_n 0, 1) := by decide +kernel
theorem d_Maker_fewest_70 : decode prog_2_method_2_code 70 = .ok (.getfield 30, 3) := by decide +kernel
theorem d_Maker_fewest_73 : decode prog_2_method_2_code 73 = .ok (.iload 6, 2) := by decide +kernel
theorem d_Maker_fewest_75 : decode prog_2_method_2_code 75 = .ok (.iadd, 1) := by decide +kernel
theorem d_Maker_fewest_76 : decode prog_2_method_2_code 76 = .ok (.i2l, 1) := by decide +kernel
theorem d_Maker_fewest_77 : decode prog_2_method_2_code 77 = .ok (.lastore, 1) := by decide +kernel
theorem d_Maker_fewest_78 : decode prog_2_method_2_code 78 = .ok (.iinc 6 1, 3) := by decide +kernel
theorem d_Maker_fewest_81 : decode prog_2_method_2_code 81 = .ok (.goto (-29), 3) := by decide +kernel
theorem d_Maker_fewest_84 : decode prog_2_method_2_code 84 = .ok (.iconst 1, 1) := by decide +kernel
theorem d_Maker_fewest_85 : decode prog_2_method_2_code 85 = .ok (.istore 6, 2) := by decide +kernel
theorem d_Maker_fewest_87 : decode prog_2_method_2_code 87 = .ok (.iload 6, 2) := by decide +kernel
theorem d_Maker_fewest_89 : decode prog_2_method_2_code 89 = .ok (.iload 5, 2) := by decide +kernel
theorem d_Maker_fewest_91 : decode prog_2_method_2_code 91 = .ok (.if_icmp .gt 29, 3) := by decide +kernel
theorem d_Maker_fewest_94 : decode prog_2_method_2_code 94 = .ok (.iload 6, 2) := by decide +kernel
theorem d_Maker_fewest_96 : decode prog_2_method_2_code 96 = .ok (.iconst 5, 1) := by decide +kernel
theorem d_Maker_fewest_97 : decode prog_2_method_2_code 97 = .ok (.if_icmp .gt 23, 3) := by decide +kernel
theorem d_Maker_fewest_100 : decode prog_2_method_2_code 100 = .ok (.aload_n 0, 1) := by decide +kernel
theorem d_Maker_fewest_101 : decode prog_2_method_2_code 101 = .ok (.aload_n 1, 1) := by decide +kernel
theorem d_Maker_fewest_102 : decode prog_2_method_2_code 102 = .ok (.iconst 0, 1) := by decide +kernel
theorem d_Maker_fewest_103 : decode prog_2_method_2_code 103 = .ok (.iload 6, 2) := by decide +kernel
theorem d_Maker_fewest_105 : decode prog_2_method_2_code 105 = .ok (.invokevirtual 46, 3) := by decide +kernel
theorem d_Maker_fewest_108 : decode prog_2_method_2_code 108 = .ok (.ifCond .eq 6, 3) := by decide +kernel
theorem d_Maker_fewest_111 : decode prog_2_method_2_code 111 = .ok (.iload 6, 2) := by decide +kernel
theorem d_Maker_fewest_113 : decode prog_2_method_2_code 113 = .ok (.ireturn, 1) := by decide +kernel
theorem d_Maker_fewest_114 : decode prog_2_method_2_code 114 = .ok (.iinc 6 1, 3) := by decide +kernel
theorem d_Maker_fewest_117 : decode prog_2_method_2_code 117 = .ok (.goto (-30), 3) := by decide +kernel
theorem d_Maker_fewest_120 : decode prog_2_method_2_code 120 = .ok (.bipush (-2), 2) := by decide +kernel
theorem d_Maker_fewest_122 : decode prog_2_method_2_code 122 = .ok (.ireturn, 1) := by decide +kernel
theorem d_Maker_reaches_0 : decode prog_2_method_3_code 0 = .ok (.iload_n 2, 1) := by decide +kernel
theorem d_Maker_reaches_1 : decode prog_2_method_3_code 1 = .ok (.iload_n 3, 1) := by decide +kernel
theorem d_Maker_reaches_2 : decode prog_2_method_3_code 2 = .ok (.if_icmp .ge 8, 3) := by decide +kernel
theorem d_Maker_reaches_5 : decode prog_2_method_3_code 5 = .ok (.iload_n 2, 1) := by decide +kernel
theorem d_Maker_reaches_6 : decode prog_2_method_3_code 6 = .ok (.iconst 5, 1) := by decide +kernel
theorem d_Maker_reaches_7 : decode prog_2_method_3_code 7 = .ok (.if_icmp .lt 5, 3) := by decide +kernel
theorem d_Maker_reaches_10 : decode prog_2_method_3_code 10 = .ok (.iconst 0, 1) := by decide +kernel
theorem d_Maker_reaches_11 : decode prog_2_method_3_code 11 = .ok (.ireturn, 1) := by decide +kernel
theorem d_Maker_reaches_12 : decode prog_2_method_3_code 12 = .ok (.iload_n 2, 1) := by decide +kernel
theorem d_Maker_reaches_13 : decode prog_2_method_3_code 13 = .ok (.iconst 1, 1) := by decide +kernel
theorem d_Maker_reaches_14 : decode prog_2_method_3_code 14 = .ok (.iadd, 1) := by decide +kernel
theorem d_Maker_reaches_15 : decode prog_2_method_3_code 15 = .ok (.iload_n 3, 1) := by decide +kernel
theorem d_Maker_reaches_16 : decode prog_2_method_3_code 16 = .ok (.if_icmp .ne 7, 3) := by decide +kernel
theorem d_Maker_reaches_19 : decode prog_2_method_3_code 19 = .ok (.iconst 1, 1) := by decide +kernel
theorem d_Maker_reaches_20 : decode prog_2_method_3_code 20 = .ok (.goto 4, 3) := by decide +kernel
theorem d_Maker_reaches_23 : decode prog_2_method_3_code 23 = .ok (.iconst 0, 1) := by decide +kernel
theorem d_Maker_reaches_24 : decode prog_2_method_3_code 24 = .ok (.istore 4, 2) := by decide +kernel
theorem d_Maker_reaches_26 : decode prog_2_method_3_code 26 = .ok (.iconst 0, 1) := by decide +kernel
theorem d_Maker_reaches_27 : decode prog_2_method_3_code 27 = .ok (.istore 5, 2) := by decide +kernel
theorem d_Maker_reaches_29 : decode prog_2_method_3_code 29 = .ok (.iload 5, 2) := by decide +kernel
theorem d_Maker_reaches_31 : decode prog_2_method_3_code 31 = .ok (.aload_n 1, 1) := by decide +kernel
theorem d_Maker_reaches_32 : decode prog_2_method_3_code 32 = .ok (.getfield 50, 3) := by decide +kernel
theorem d_Maker_reaches_35 : decode prog_2_method_3_code 35 = .ok (.if_icmp .ge 49, 3) := by decide +kernel
theorem d_Maker_reaches_38 : decode prog_2_method_3_code 38 = .ok (.aload_n 0, 1) := by decide +kernel
theorem d_Maker_reaches_39 : decode prog_2_method_3_code 39 = .ok (.aload_n 1, 1) := by decide +kernel
theorem d_Maker_reaches_40 : decode prog_2_method_3_code 40 = .ok (.iload 5, 2) := by decide +kernel
theorem d_Maker_reaches_42 : decode prog_2_method_3_code 42 = .ok (.iload_n 2, 1) := by decide +kernel
theorem d_Maker_reaches_43 : decode prog_2_method_3_code 43 = .ok (.iload 4, 2) := by decide +kernel
theorem d_Maker_reaches_45 : decode prog_2_method_3_code 45 = .ok (.invokevirtual 55, 3) := by decide +kernel
theorem d_Maker_reaches_48 : decode prog_2_method_3_code 48 = .ok (.ifCond .eq 30, 3) := by decide +kernel
theorem d_Maker_reaches_51 : decode prog_2_method_3_code 51 = .ok (.aload_n 0, 1) := by decide +kernel
theorem d_Maker_reaches_52 : decode prog_2_method_3_code 52 = .ok (.getfield 27, 3) := by decide +kernel
theorem d_Maker_reaches_55 : decode prog_2_method_3_code 55 = .ok (.iload_n 2, 1) := by decide +kernel
theorem d_Maker_reaches_56 : decode prog_2_method_3_code 56 = .ok (.iload 5, 2) := by decide +kernel
theorem d_Maker_reaches_58 : decode prog_2_method_3_code 58 = .ok (.iastore, 1) := by decide +kernel
theorem d_Maker_reaches_59 : decode prog_2_method_3_code 59 = .ok (.iload 4, 2) := by decide +kernel
theorem d_Maker_reaches_61 : decode prog_2_method_3_code 61 = .ok (.ifCond .ne 15, 3) := by decide +kernel
theorem d_Maker_reaches_64 : decode prog_2_method_3_code 64 = .ok (.aload_n 0, 1) := by decide +kernel
theorem d_Maker_reaches_65 : decode prog_2_method_3_code 65 = .ok (.aload_n 1, 1) := by decide +kernel
theorem d_Maker_reaches_66 : decode prog_2_method_3_code 66 = .ok (.iload_n 2, 1) := by decide +kernel
theorem d_Maker_reaches_67 : decode prog_2_method_3_code 67 = .ok (.iconst 1, 1) := by decide +kernel
theorem d_Maker_reaches_68 : decode prog_2_method_3_code 68 = .ok (.iadd, 1) := by decide +kernel
theorem d_Maker_reaches_69 : decode prog_2_method_3_code 69 = .ok (.iload_n 3, 1) := by decide +kernel
theorem d_Maker_reaches_70 : decode prog_2_method_3_code 70 = .ok (.invokevirtual 46, 3) := by decide +kernel
theorem d_Maker_reaches_73 : decode prog_2_method_3_code 73 = .ok (.ifCond .eq 5, 3) := by decide +kernel
theorem d_Maker_reaches_76 : decode prog_2_method_3_code 76 = .ok (.iconst 1, 1) := by decide +kernel
theorem d_Maker_reaches_77 : decode prog_2_method_3_code 77 = .ok (.ireturn, 1) := by decide +kernel
theorem d_Maker_reaches_78 : decode prog_2_method_3_code 78 = .ok (.iinc 5 1, 3) := by decide +kernel
theorem d_Maker_reaches_81 : decode prog_2_method_3_code 81 = .ok (.goto (-52), 3) := by decide +kernel
theorem d_Maker_reaches_84 : decode prog_2_method_3_code 84 = .ok (.iconst 0, 1) := by decide +kernel
theorem d_Maker_reaches_85 : decode prog_2_method_3_code 85 = .ok (.ireturn, 1) := by decide +kernel
theorem d_Maker_spread_0 : decode prog_2_method_4_code 0 = .ok (.iconst 0, 1) := by decide +kernel
theorem d_Maker_spread_1 : decode prog_2_method_4_code 1 = .ok (.istore 5, 2) := by decide +kernel
theorem d_Maker_spread_3 : decode prog_2_method_4_code 3 = .ok (.iload 5, 2) := by decide +kernel
theorem d_Maker_spread_5 : decode prog_2_method_4_code 5 = .ok (.aload_n 0, 1) := by decide +kernel
theorem d_Maker_spread_6 : decode prog_2_method_4_code 6 = .ok (.getfield 43, 3) := by decide +kernel
theorem d_Maker_spread_9 : decode prog_2_method_4_code 9 = .ok (.if_icmp .ge 134, 3) := by decide +kernel
theorem d_Maker_spread_12 : decode prog_2_method_4_code 12 = .ok (.aload_n 0, 1) := by decide +kernel
theorem d_Maker_spread_13 : decode prog_2_method_4_code 13 = .ok (.getfield 23, 3) := by decide +kernel
theorem d_Maker_spread_16 : decode prog_2_method_4_code 16 = .ok (.aload_n 0, 1) := by decide +kernel
theorem d_Maker_spread_17 : decode prog_2_method_4_code 17 = .ok (.getfield 11, 3) := by decide +kernel
theorem d_Maker_spread_20 : decode prog_2_method_4_code 20 = .ok (.iload_n 3, 1) := by decide +kernel
theorem d_Maker_spread_21 : decode prog_2_method_4_code 21 = .ok (.aaload, 1) := by decide +kernel
theorem d_Maker_spread_22 : decode prog_2_method_4_code 22 = .ok (.iload 5, 2) := by decide +kernel
theorem d_Maker_spread_24 : decode prog_2_method_4_code 24 = .ok (.laload, 1) := by decide +kernel
theorem d_Maker_spread_25 : decode prog_2_method_4_code 25 = .ok (.invokevirtual 59, 3) := by decide +kernel
theorem d_Maker_spread_28 : decode prog_2_method_4_code 28 = .ok (.aload_n 0, 1) := by decide +kernel
theorem d_Maker_spread_29 : decode prog_2_method_4_code 29 = .ok (.getfield 16, 3) := by decide +kernel
theorem d_Maker_spread_32 : decode prog_2_method_4_code 32 = .ok (.iconst 0, 1) := by decide +kernel
theorem d_Maker_spread_33 : decode prog_2_method_4_code 33 = .ok (.aload_n 0, 1) := by decide +kernel
theorem d_Maker_spread_34 : decode prog_2_method_4_code 34 = .ok (.getfield 30, 3) := by decide +kernel
theorem d_Maker_spread_37 : decode prog_2_method_4_code 37 = .ok (.iload 5, 2) := by decide +kernel
theorem d_Maker_spread_39 : decode prog_2_method_4_code 39 = .ok (.iadd, 1) := by decide +kernel
theorem d_Maker_spread_40 : decode prog_2_method_4_code 40 = .ok (.iastore, 1) := by decide +kernel
theorem d_Maker_spread_41 : decode prog_2_method_4_code 41 = .ok (.aload_n 0, 1) := by decide +kernel
theorem d_Maker_spread_42 : decode prog_2_method_4_code 42 = .ok (.getfield 23, 3) := by decide +kernel
theorem d_Maker_spread_45 : decode prog_2_method_4_code 45 = .ok (.aload_n 1, 1) := by decide +kernel
theorem d_Maker_spread_46 : decode prog_2_method_4_code 46 = .ok (.getfield 63, 3) := by decide +kernel
theorem d_Maker_spread_49 : decode prog_2_method_4_code 49 = .ok (.iload_n 2, 1) := by decide +kernel
theorem d_Maker_spread_50 : decode prog_2_method_4_code 50 = .ok (.iaload, 1) := by decide +kernel
theorem d_Maker_spread_51 : decode prog_2_method_4_code 51 = .ok (.aload_n 1, 1) := by decide +kernel
theorem d_Maker_spread_52 : decode prog_2_method_4_code 52 = .ok (.iload_n 2, 1) := by decide +kernel
theorem d_Maker_spread_53 : decode prog_2_method_4_code 53 = .ok (.aload_n 0, 1) := by decide +kernel
theorem d_Maker_spread_54 : decode prog_2_method_4_code 54 = .ok (.getfield 16, 3) := by decide +kernel
theorem d_Maker_spread_57 : decode prog_2_method_4_code 57 = .ok (.invokevirtual 66, 3) := by decide +kernel
theorem d_Maker_spread_60 : decode prog_2_method_4_code 60 = .ok (.invokevirtual 70, 3) := by decide +kernel
theorem d_Maker_spread_63 : decode prog_2_method_4_code 63 = .ok (.istore 6, 2) := by decide +kernel
theorem d_Maker_spread_65 : decode prog_2_method_4_code 65 = .ok (.iload 6, 2) := by decide +kernel
theorem d_Maker_spread_67 : decode prog_2_method_4_code 67 = .ok (.ifCond .eq 27, 3) := by decide +kernel
theorem d_Maker_spread_70 : decode prog_2_method_4_code 70 = .ok (.aload_n 0, 1) := by decide +kernel
theorem d_Maker_spread_71 : decode prog_2_method_4_code 71 = .ok (.getfield 23, 3) := by decide +kernel
theorem d_Maker_spread_74 : decode prog_2_method_4_code 74 = .ok (.getfield 74, 3) := by decide +kernel
theorem d_Maker_spread_77 : decode prog_2_method_4_code 77 = .ok (.lconst 1, 1) := by decide +kernel
theorem d_Maker_spread_78 : decode prog_2_method_4_code 78 = .ok (.lcmp, 1) := by decide +kernel
theorem d_Maker_spread_79 : decode prog_2_method_4_code 79 = .ok (.ifCond .ne 15, 3) := by decide +kernel
theorem d_Maker_spread_82 : decode prog_2_method_4_code 82 = .ok (.aload_n 0, 1) := by decide +kernel
theorem d_Maker_spread_83 : decode prog_2_method_4_code 83 = .ok (.getfield 23, 3) := by decide +kernel
theorem d_Maker_spread_86 : decode prog_2_method_4_code 86 = .ok (.getfield 77, 3) := by decide +kernel
theorem d_Maker_spread_89 : decode prog_2_method_4_code 89 = .ok (.lconst 0, 1) := by decide +kernel
theorem d_Maker_spread_90 : decode prog_2_method_4_code 90 = .ok (.lcmp, 1) := by decide +kernel
theorem d_Maker_spread_91 : decode prog_2_method_4_code 91 = .ok (.ifCond .ge 5, 3) := by decide +kernel
theorem d_Maker_spread_94 : decode prog_2_method_4_code 94 = .ok (.iconst 0, 1) := by decide +kernel
theorem d_Maker_spread_95 : decode prog_2_method_4_code 95 = .ok (.ireturn, 1) := by decide +kernel
theorem d_Maker_spread_96 : decode prog_2_method_4_code 96 = .ok (.iload 4, 2) := by decide +kernel
theorem d_Maker_spread_98 : decode prog_2_method_4_code 98 = .ok (.ifCond .eq 21, 3) := by decide +kernel
theorem d_Maker_spread_101 : decode prog_2_method_4_code 101 = .ok (.aload_n 0, 1) := by decide +kernel
theorem d_Maker_spread_102 : decode prog_2_method_4_code 102 = .ok (.getfield 23, 3) := by decide +kernel
theorem d_Maker_spread_105 : decode prog_2_method_4_code 105 = .ok (.getfield 77, 3) := by decide +kernel
theorem d_Maker_spread_108 : decode prog_2_method_4_code 108 = .ok (.aload_n 0, 1) := by decide +kernel
theorem d_Maker_spread_109 : decode prog_2_method_4_code 109 = .ok (.getfield 34, 3) := by decide +kernel
theorem d_Maker_spread_112 : decode prog_2_method_4_code 112 = .ok (.i2l, 1) := by decide +kernel
theorem d_Maker_spread_113 : decode prog_2_method_4_code 113 = .ok (.lcmp, 1) := by decide +kernel
theorem d_Maker_spread_114 : decode prog_2_method_4_code 114 = .ok (.ifCond .eq 5, 3) := by decide +kernel
theorem d_Maker_spread_117 : decode prog_2_method_4_code 117 = .ok (.iconst 0, 1) := by decide +kernel
theorem d_Maker_spread_118 : decode prog_2_method_4_code 118 = .ok (.ireturn, 1) := by decide +kernel
theorem d_Maker_spread_119 : decode prog_2_method_4_code 119 = .ok (.aload_n 0, 1) := by decide +kernel
theorem d_Maker_spread_120 : decode prog_2_method_4_code 120 = .ok (.getfield 11, 3) := by decide +kernel
theorem d_Maker_spread_123 : decode prog_2_method_4_code 123 = .ok (.iload_n 3, 1) := by decide +kernel
theorem d_Maker_spread_124 : decode prog_2_method_4_code 124 = .ok (.iconst 1, 1) := by decide +kernel
theorem d_Maker_spread_125 : decode prog_2_method_4_code 125 = .ok (.iadd, 1) := by decide +kernel
theorem d_Maker_spread_126 : decode prog_2_method_4_code 126 = .ok (.aaload, 1) := by decide +kernel
theorem d_Maker_spread_127 : decode prog_2_method_4_code 127 = .ok (.iload 5, 2) := by decide +kernel
theorem d_Maker_spread_129 : decode prog_2_method_4_code 129 = .ok (.aload_n 0, 1) := by decide +kernel
theorem d_Maker_spread_130 : decode prog_2_method_4_code 130 = .ok (.getfield 23, 3) := by decide +kernel
theorem d_Maker_spread_133 : decode prog_2_method_4_code 133 = .ok (.getfield 77, 3) := by decide +kernel
theorem d_Maker_spread_136 : decode prog_2_method_4_code 136 = .ok (.lastore, 1) := by decide +kernel
theorem d_Maker_spread_137 : decode prog_2_method_4_code 137 = .ok (.iinc 5 1, 3) := by decide +kernel
theorem d_Maker_spread_140 : decode prog_2_method_4_code 140 = .ok (.goto (-137), 3) := by decide +kernel
theorem d_Maker_spread_143 : decode prog_2_method_4_code 143 = .ok (.iconst 1, 1) := by decide +kernel
theorem d_Maker_spread_144 : decode prog_2_method_4_code 144 = .ok (.ireturn, 1) := by decide +kernel
theorem d_A_slip_0 : decode prog_1_method_22_code 0 = .ok (.aload_n 0, 1) := by decide +kernel
theorem d_A_slip_1 : decode prog_1_method_22_code 1 = .ok (.iload_n 1, 1) := by decide +kernel
theorem d_A_slip_2 : decode prog_1_method_22_code 2 = .ok (.invokevirtual 115, 3) := by decide +kernel
theorem d_A_slip_5 : decode prog_1_method_22_code 5 = .ok (.astore 5, 2) := by decide +kernel
theorem d_A_slip_7 : decode prog_1_method_22_code 7 = .ok (.aload 5, 2) := by decide +kernel
theorem d_A_slip_9 : decode prog_1_method_22_code 9 = .ok (.ifnull 11, 3) := by decide +kernel
theorem d_A_slip_12 : decode prog_1_method_22_code 12 = .ok (.iload_n 2, 1) := by decide +kernel
theorem d_A_slip_13 : decode prog_1_method_22_code 13 = .ok (.iload_n 3, 1) := by decide +kernel
theorem d_A_slip_14 : decode prog_1_method_22_code 14 = .ok (.invokestatic 253, 3) := by decide +kernel
theorem d_A_slip_17 : decode prog_1_method_22_code 17 = .ok (.ifCond .ne 5, 3) := by decide +kernel
theorem d_A_slip_20 : decode prog_1_method_22_code 20 = .ok (.iconst (-1), 1) := by decide +kernel
theorem d_A_slip_21 : decode prog_1_method_22_code 21 = .ok (.ireturn, 1) := by decide +kernel
theorem d_A_slip_22 : decode prog_1_method_22_code 22 = .ok (.aload_n 0, 1) := by decide +kernel
theorem d_A_slip_23 : decode prog_1_method_22_code 23 = .ok (.getfield 49, 3) := by decide +kernel
theorem d_A_slip_26 : decode prog_1_method_22_code 26 = .ok (.iload_n 2, 1) := by decide +kernel
theorem d_A_slip_27 : decode prog_1_method_22_code 27 = .ok (.i2l, 1) := by decide +kernel
theorem d_A_slip_28 : decode prog_1_method_22_code 28 = .ok (.iload_n 3, 1) := by decide +kernel
theorem d_A_slip_29 : decode prog_1_method_22_code 29 = .ok (.i2l, 1) := by decide +kernel
theorem d_A_slip_30 : decode prog_1_method_22_code 30 = .ok (.invokevirtual 256, 3) := by decide +kernel
theorem d_A_slip_33 : decode prog_1_method_22_code 33 = .ok (.pop, 1) := by decide +kernel
theorem d_A_slip_34 : decode prog_1_method_22_code 34 = .ok (.iconst 0, 1) := by decide +kernel
theorem d_A_slip_35 : decode prog_1_method_22_code 35 = .ok (.istore 6, 2) := by decide +kernel
theorem d_A_slip_37 : decode prog_1_method_22_code 37 = .ok (.iconst 0, 1) := by decide +kernel
theorem d_A_slip_38 : decode prog_1_method_22_code 38 = .ok (.istore 7, 2) := by decide +kernel
theorem d_A_slip_40 : decode prog_1_method_22_code 40 = .ok (.iload 7, 2) := by decide +kernel
theorem d_A_slip_42 : decode prog_1_method_22_code 42 = .ok (.iconst 3, 1) := by decide +kernel
theorem d_A_slip_43 : decode prog_1_method_22_code 43 = .ok (.aload 5, 2) := by decide +kernel
theorem d_A_slip_45 : decode prog_1_method_22_code 45 = .ok (.getfield 119, 3) := by decide +kernel
theorem d_A_slip_48 : decode prog_1_method_22_code 48 = .ok (.getfield 123, 3) := by decide +kernel
theorem d_A_slip_51 : decode prog_1_method_22_code 51 = .ok (.imul, 1) := by decide +kernel
theorem d_A_slip_52 : decode prog_1_method_22_code 52 = .ok (.if_icmp .ge 67, 3) := by decide +kernel
theorem d_A_slip_55 : decode prog_1_method_22_code 55 = .ok (.aload 5, 2) := by decide +kernel
theorem d_A_slip_57 : decode prog_1_method_22_code 57 = .ok (.iload 7, 2) := by decide +kernel
theorem d_A_slip_59 : decode prog_1_method_22_code 59 = .ok (.aload_n 0, 1) := by decide +kernel
theorem d_A_slip_60 : decode prog_1_method_22_code 60 = .ok (.getfield 35, 3) := by decide +kernel
theorem d_A_slip_63 : decode prog_1_method_22_code 63 = .ok (.getfield 88, 3) := by decide +kernel
theorem d_A_slip_66 : decode prog_1_method_22_code 66 = .ok (.aload_n 0, 1) := by decide +kernel
theorem d_A_slip_67 : decode prog_1_method_22_code 67 = .ok (.getfield 45, 3) := by decide +kernel
theorem d_A_slip_70 : decode prog_1_method_22_code 70 = .ok (.invokevirtual 260, 3) := by decide +kernel
theorem d_A_slip_73 : decode prog_1_method_22_code 73 = .ok (.ifCond .eq 40, 3) := by decide +kernel
theorem d_A_slip_76 : decode prog_1_method_22_code 76 = .ok (.aload_n 0, 1) := by decide +kernel
theorem d_A_slip_77 : decode prog_1_method_22_code 77 = .ok (.getfield 45, 3) := by decide +kernel
theorem d_A_slip_80 : decode prog_1_method_22_code 80 = .ok (.aload_n 0, 1) := by decide +kernel
theorem d_A_slip_81 : decode prog_1_method_22_code 81 = .ok (.getfield 49, 3) := by decide +kernel
theorem d_A_slip_84 : decode prog_1_method_22_code 84 = .ok (.getfield 264, 3) := by decide +kernel
theorem d_A_slip_87 : decode prog_1_method_22_code 87 = .ok (.aload_n 0, 1) := by decide +kernel
theorem d_A_slip_88 : decode prog_1_method_22_code 88 = .ok (.getfield 49, 3) := by decide +kernel
theorem d_A_slip_91 : decode prog_1_method_22_code 91 = .ok (.getfield 267, 3) := by decide +kernel
theorem d_A_slip_94 : decode prog_1_method_22_code 94 = .ok (.invokevirtual 268, 3) := by decide +kernel
theorem d_A_slip_97 : decode prog_1_method_22_code 97 = .ok (.ifCond .eq 16, 3) := by decide +kernel
theorem d_A_slip_100 : decode prog_1_method_22_code 100 = .ok (.iload 6, 2) := by decide +kernel
theorem d_A_slip_102 : decode prog_1_method_22_code 102 = .ok (.iload 4, 2) := by decide +kernel
theorem d_A_slip_104 : decode prog_1_method_22_code 104 = .ok (.if_icmp .ne 6, 3) := by decide +kernel
theorem d_A_slip_107 : decode prog_1_method_22_code 107 = .ok (.iload 7, 2) := by decide +kernel
theorem d_A_slip_109 : decode prog_1_method_22_code 109 = .ok (.ireturn, 1) := by decide +kernel
theorem d_A_slip_110 : decode prog_1_method_22_code 110 = .ok (.iinc 6 1, 3) := by decide +kernel
theorem d_A_slip_113 : decode prog_1_method_22_code 113 = .ok (.iinc 7 1, 3) := by decide +kernel
theorem d_A_slip_116 : decode prog_1_method_22_code 116 = .ok (.goto (-76), 3) := by decide +kernel
theorem d_A_slip_119 : decode prog_1_method_22_code 119 = .ok (.iload 4, 2) := by decide +kernel
theorem d_A_slip_121 : decode prog_1_method_22_code 121 = .ok (.iconst (-1), 1) := by decide +kernel
theorem d_A_slip_122 : decode prog_1_method_22_code 122 = .ok (.if_icmp .ne 8, 3) := by decide +kernel
theorem d_A_slip_125 : decode prog_1_method_22_code 125 = .ok (.iload 6, 2) := by decide +kernel
theorem d_A_slip_127 : decode prog_1_method_22_code 127 = .ok (.goto 4, 3) := by decide +kernel
theorem d_A_slip_130 : decode prog_1_method_22_code 130 = .ok (.iconst (-1), 1) := by decide +kernel
theorem d_A_slip_131 : decode prog_1_method_22_code 131 = .ok (.ireturn, 1) := by decide +kernel
theorem d_Table_runWithSlip_0 : decode prog_8_method_8_code 0 = .ok (.iload_n 1, 1) := by decide +kernel
theorem d_Table_runWithSlip_1 : decode prog_8_method_8_code 1 = .ok (.iconst 3, 1) := by decide +kernel
theorem d_Table_runWithSlip_2 : decode prog_8_method_8_code 2 = .ok (.idiv, 1) := by decide +kernel
theorem d_Table_runWithSlip_3 : decode prog_8_method_8_code 3 = .ok (.istore 4, 2) := by decide +kernel
theorem d_Table_runWithSlip_5 : decode prog_8_method_8_code 5 = .ok (.aload_n 0, 1) := by decide +kernel
theorem d_Table_runWithSlip_6 : decode prog_8_method_8_code 6 = .ok (.aload_n 3, 1) := by decide +kernel
theorem d_Table_runWithSlip_7 : decode prog_8_method_8_code 7 = .ok (.aload_n 2, 1) := by decide +kernel
theorem d_Table_runWithSlip_8 : decode prog_8_method_8_code 8 = .ok (.invokevirtual 56, 3) := by decide +kernel
theorem d_Table_runWithSlip_11 : decode prog_8_method_8_code 11 = .ok (.iconst 0, 1) := by decide +kernel
theorem d_Table_runWithSlip_12 : decode prog_8_method_8_code 12 = .ok (.istore 5, 2) := by decide +kernel
theorem d_Table_runWithSlip_14 : decode prog_8_method_8_code 14 = .ok (.iload 5, 2) := by decide +kernel
theorem d_Table_runWithSlip_16 : decode prog_8_method_8_code 16 = .ok (.aload_n 0, 1) := by decide +kernel
theorem d_Table_runWithSlip_17 : decode prog_8_method_8_code 17 = .ok (.getfield 14, 3) := by decide +kernel
theorem d_Table_runWithSlip_20 : decode prog_8_method_8_code 20 = .ok (.getfield 27, 3) := by decide +kernel
theorem d_Table_runWithSlip_23 : decode prog_8_method_8_code 23 = .ok (.if_icmp .ge 71, 3) := by decide +kernel
theorem d_Table_runWithSlip_26 : decode prog_8_method_8_code 26 = .ok (.aload_n 0, 1) := by decide +kernel
theorem d_Table_runWithSlip_27 : decode prog_8_method_8_code 27 = .ok (.getfield 14, 3) := by decide +kernel
theorem d_Table_runWithSlip_30 : decode prog_8_method_8_code 30 = .ok (.getfield 60, 3) := by decide +kernel
theorem d_Table_runWithSlip_33 : decode prog_8_method_8_code 33 = .ok (.iload 5, 2) := by decide +kernel
theorem d_Table_runWithSlip_35 : decode prog_8_method_8_code 35 = .ok (.iaload, 1) := by decide +kernel
theorem d_Table_runWithSlip_36 : decode prog_8_method_8_code 36 = .ok (.istore 6, 2) := by decide +kernel
theorem d_Table_runWithSlip_38 : decode prog_8_method_8_code 38 = .ok (.aload_n 0, 1) := by decide +kernel
theorem d_Table_runWithSlip_39 : decode prog_8_method_8_code 39 = .ok (.getfield 14, 3) := by decide +kernel
theorem d_Table_runWithSlip_42 : decode prog_8_method_8_code 42 = .ok (.iload 5, 2) := by decide +kernel
theorem d_Table_runWithSlip_44 : decode prog_8_method_8_code 44 = .ok (.aload_n 2, 1) := by decide +kernel
theorem d_Table_runWithSlip_45 : decode prog_8_method_8_code 45 = .ok (.invokevirtual 63, 3) := by decide +kernel
theorem d_Table_runWithSlip_48 : decode prog_8_method_8_code 48 = .ok (.istore 7, 2) := by decide +kernel
theorem d_Table_runWithSlip_50 : decode prog_8_method_8_code 50 = .ok (.iload 5, 2) := by decide +kernel
theorem d_Table_runWithSlip_52 : decode prog_8_method_8_code 52 = .ok (.iload 4, 2) := by decide +kernel
theorem d_Table_runWithSlip_54 : decode prog_8_method_8_code 54 = .ok (.if_icmp .ne 17, 3) := by decide +kernel
theorem d_Table_runWithSlip_57 : decode prog_8_method_8_code 57 = .ok (.iload 6, 2) := by decide +kernel
theorem d_Table_runWithSlip_59 : decode prog_8_method_8_code 59 = .ok (.iload 7, 2) := by decide +kernel
theorem d_Table_runWithSlip_61 : decode prog_8_method_8_code 61 = .ok (.iload_n 1, 1) := by decide +kernel
theorem d_Table_runWithSlip_62 : decode prog_8_method_8_code 62 = .ok (.iconst 3, 1) := by decide +kernel
theorem d_Table_runWithSlip_63 : decode prog_8_method_8_code 63 = .ok (.irem, 1) := by decide +kernel
theorem d_Table_runWithSlip_64 : decode prog_8_method_8_code 64 = .ok (.aload_n 3, 1) := by decide +kernel
theorem d_Table_runWithSlip_65 : decode prog_8_method_8_code 65 = .ok (.invokestatic 82, 3) := by decide +kernel
theorem d_Table_runWithSlip_68 : decode prog_8_method_8_code 68 = .ok (.goto 11, 3) := by decide +kernel
theorem d_Table_runWithSlip_71 : decode prog_8_method_8_code 71 = .ok (.aload_n 3, 1) := by decide +kernel
theorem d_Table_runWithSlip_72 : decode prog_8_method_8_code 72 = .ok (.iload 6, 2) := by decide +kernel
theorem d_Table_runWithSlip_74 : decode prog_8_method_8_code 74 = .ok (.iload 7, 2) := by decide +kernel
theorem d_Table_runWithSlip_76 : decode prog_8_method_8_code 76 = .ok (.invokevirtual 67, 3) := by decide +kernel
theorem d_Table_runWithSlip_79 : decode prog_8_method_8_code 79 = .ok (.istore 8, 2) := by decide +kernel
theorem d_Table_runWithSlip_81 : decode prog_8_method_8_code 81 = .ok (.iload 8, 2) := by decide +kernel
theorem d_Table_runWithSlip_83 : decode prog_8_method_8_code 83 = .ok (.ifCond .ne 5, 3) := by decide +kernel
theorem d_Table_runWithSlip_86 : decode prog_8_method_8_code 86 = .ok (.iconst 0, 1) := by decide +kernel
theorem d_Table_runWithSlip_87 : decode prog_8_method_8_code 87 = .ok (.ireturn, 1) := by decide +kernel
theorem d_Table_runWithSlip_88 : decode prog_8_method_8_code 88 = .ok (.iinc 5 1, 3) := by decide +kernel
theorem d_Table_runWithSlip_91 : decode prog_8_method_8_code 91 = .ok (.goto (-77), 3) := by decide +kernel
theorem d_Table_runWithSlip_94 : decode prog_8_method_8_code 94 = .ok (.iconst 1, 1) := by decide +kernel
theorem d_Table_runWithSlip_95 : decode prog_8_method_8_code 95 = .ok (.ireturn, 1) := by decide +kernel
theorem d_Table_slipAt_0 : decode prog_8_method_9_code 0 = .ok (.iload_n 2, 1) := by decide +kernel
theorem d_Table_slipAt_1 : decode prog_8_method_9_code 1 = .ok (.ifCond .ne 5, 3) := by decide +kernel
theorem d_Table_slipAt_4 : decode prog_8_method_9_code 4 = .ok (.iconst 1, 1) := by decide +kernel
theorem d_Table_slipAt_5 : decode prog_8_method_9_code 5 = .ok (.ireturn, 1) := by decide +kernel
theorem d_Table_slipAt_6 : decode prog_8_method_9_code 6 = .ok (.iload_n 2, 1) := by decide +kernel
theorem d_Table_slipAt_7 : decode prog_8_method_9_code 7 = .ok (.iconst 1, 1) := by decide +kernel
theorem d_Table_slipAt_8 : decode prog_8_method_9_code 8 = .ok (.if_icmp .ne 27, 3) := by decide +kernel
theorem d_Table_slipAt_11 : decode prog_8_method_9_code 11 = .ok (.aload_n 3, 1) := by decide +kernel
theorem d_Table_slipAt_12 : decode prog_8_method_9_code 12 = .ok (.iload_n 0, 1) := by decide +kernel
theorem d_Table_slipAt_13 : decode prog_8_method_9_code 13 = .ok (.iload_n 1, 1) := by decide +kernel
theorem d_Table_slipAt_14 : decode prog_8_method_9_code 14 = .ok (.invokevirtual 67, 3) := by decide +kernel
theorem d_Table_slipAt_17 : decode prog_8_method_9_code 17 = .ok (.ifCond .eq 16, 3) := by decide +kernel
theorem d_Table_slipAt_20 : decode prog_8_method_9_code 20 = .ok (.aload_n 3, 1) := by decide +kernel
theorem d_Table_slipAt_21 : decode prog_8_method_9_code 21 = .ok (.iload_n 0, 1) := by decide +kernel
theorem d_Table_slipAt_22 : decode prog_8_method_9_code 22 = .ok (.iload_n 1, 1) := by decide +kernel
theorem d_Table_slipAt_23 : decode prog_8_method_9_code 23 = .ok (.invokevirtual 67, 3) := by decide +kernel
theorem d_Table_slipAt_26 : decode prog_8_method_9_code 26 = .ok (.ifCond .eq 7, 3) := by decide +kernel
theorem d_Table_slipAt_29 : decode prog_8_method_9_code 29 = .ok (.iconst 1, 1) := by decide +kernel
theorem d_Table_slipAt_30 : decode prog_8_method_9_code 30 = .ok (.goto 4, 3) := by decide +kernel
theorem d_Table_slipAt_33 : decode prog_8_method_9_code 33 = .ok (.iconst 0, 1) := by decide +kernel
theorem d_Table_slipAt_34 : decode prog_8_method_9_code 34 = .ok (.ireturn, 1) := by decide +kernel
theorem d_Table_slipAt_35 : decode prog_8_method_9_code 35 = .ok (.iload_n 0, 1) := by decide +kernel
theorem d_Table_slipAt_36 : decode prog_8_method_9_code 36 = .ok (.iconst 3, 1) := by decide +kernel
theorem d_Table_slipAt_37 : decode prog_8_method_9_code 37 = .ok (.if_icmp .gt 18, 3) := by decide +kernel
theorem d_Table_slipAt_40 : decode prog_8_method_9_code 40 = .ok (.aload_n 3, 1) := by decide +kernel
theorem d_Table_slipAt_41 : decode prog_8_method_9_code 41 = .ok (.iload_n 0, 1) := by decide +kernel
theorem d_Table_slipAt_42 : decode prog_8_method_9_code 42 = .ok (.iconst 1, 1) := by decide +kernel
theorem d_Table_slipAt_43 : decode prog_8_method_9_code 43 = .ok (.ixor, 1) := by decide +kernel
theorem d_Table_slipAt_44 : decode prog_8_method_9_code 44 = .ok (.iload_n 1, 1) := by decide +kernel
theorem d_Table_slipAt_45 : decode prog_8_method_9_code 45 = .ok (.invokevirtual 67, 3) := by decide +kernel
theorem d_Table_slipAt_48 : decode prog_8_method_9_code 48 = .ok (.ifCond .eq 7, 3) := by decide +kernel
theorem d_Table_slipAt_51 : decode prog_8_method_9_code 51 = .ok (.iconst 1, 1) := by decide +kernel
theorem d_Table_slipAt_52 : decode prog_8_method_9_code 52 = .ok (.goto 4, 3) := by decide +kernel
theorem d_Table_slipAt_55 : decode prog_8_method_9_code 55 = .ok (.iconst 0, 1) := by decide +kernel
theorem d_Table_slipAt_56 : decode prog_8_method_9_code 56 = .ok (.ireturn, 1) := by decide +kernel
theorem d_A_ask_0 : decode prog_1_method_23_code 0 = .ok (.iload_n 1, 1) := by decide +kernel
theorem d_A_ask_1 : decode prog_1_method_23_code 1 = .ok (.ifCond .ne 13, 3) := by decide +kernel
theorem d_A_ask_4 : decode prog_1_method_23_code 4 = .ok (.aload_n 0, 1) := by decide +kernel
theorem d_A_ask_5 : decode prog_1_method_23_code 5 = .ok (.getfield 35, 3) := by decide +kernel
theorem d_A_ask_8 : decode prog_1_method_23_code 8 = .ok (.iconst 0, 1) := by decide +kernel
theorem d_A_ask_9 : decode prog_1_method_23_code 9 = .ok (.putfield 271, 3) := by decide +kernel
theorem d_A_ask_12 : decode prog_1_method_23_code 12 = .ok (.iconst 0, 1) := by decide +kernel
theorem d_A_ask_13 : decode prog_1_method_23_code 13 = .ok (.ireturn, 1) := by decide +kernel
theorem d_A_ask_14 : decode prog_1_method_23_code 14 = .ok (.iload_n 1, 1) := by decide +kernel
theorem d_A_ask_15 : decode prog_1_method_23_code 15 = .ok (.iconst 2, 1) := by decide +kernel
theorem d_A_ask_16 : decode prog_1_method_23_code 16 = .ok (.if_icmp .lt 21, 3) := by decide +kernel
theorem d_A_ask_19 : decode prog_1_method_23_code 19 = .ok (.iload_n 1, 1) := by decide +kernel
theorem d_A_ask_20 : decode prog_1_method_23_code 20 = .ok (.bipush 30, 2) := by decide +kernel
theorem d_A_ask_22 : decode prog_1_method_23_code 22 = .ok (.if_icmp .gt 15, 3) := by decide +kernel
theorem d_A_ask_25 : decode prog_1_method_23_code 25 = .ok (.aload_n 0, 1) := by decide +kernel
theorem d_A_ask_26 : decode prog_1_method_23_code 26 = .ok (.getfield 35, 3) := by decide +kernel
theorem d_A_ask_29 : decode prog_1_method_23_code 29 = .ok (.getfield 271, 3) := by decide +kernel
theorem d_A_ask_32 : decode prog_1_method_23_code 32 = .ok (.bipush 6, 2) := by decide +kernel
theorem d_A_ask_34 : decode prog_1_method_23_code 34 = .ok (.if_icmp .lt 5, 3) := by decide +kernel
theorem d_A_ask_37 : decode prog_1_method_23_code 37 = .ok (.iconst (-1), 1) := by decide +kernel
theorem d_A_ask_38 : decode prog_1_method_23_code 38 = .ok (.ireturn, 1) := by decide +kernel
theorem d_A_ask_39 : decode prog_1_method_23_code 39 = .ok (.aload_n 0, 1) := by decide +kernel
theorem d_A_ask_40 : decode prog_1_method_23_code 40 = .ok (.getfield 35, 3) := by decide +kernel
theorem d_A_ask_43 : decode prog_1_method_23_code 43 = .ok (.getfield 274, 3) := by decide +kernel
theorem d_A_ask_46 : decode prog_1_method_23_code 46 = .ok (.aload_n 0, 1) := by decide +kernel
theorem d_A_ask_47 : decode prog_1_method_23_code 47 = .ok (.getfield 35, 3) := by decide +kernel
theorem d_A_ask_50 : decode prog_1_method_23_code 50 = .ok (.getfield 271, 3) := by decide +kernel
theorem d_A_ask_53 : decode prog_1_method_23_code 53 = .ok (.iload_n 1, 1) := by decide +kernel
theorem d_A_ask_54 : decode prog_1_method_23_code 54 = .ok (.iastore, 1) := by decide +kernel
theorem d_A_ask_55 : decode prog_1_method_23_code 55 = .ok (.aload_n 0, 1) := by decide +kernel
theorem d_A_ask_56 : decode prog_1_method_23_code 56 = .ok (.getfield 35, 3) := by decide +kernel
theorem d_A_ask_59 : decode prog_1_method_23_code 59 = .ok (.dup, 1) := by decide +kernel
theorem d_A_ask_60 : decode prog_1_method_23_code 60 = .ok (.getfield 271, 3) := by decide +kernel
theorem d_A_ask_63 : decode prog_1_method_23_code 63 = .ok (.iconst 1, 1) := by decide +kernel
theorem d_A_ask_64 : decode prog_1_method_23_code 64 = .ok (.iadd, 1) := by decide +kernel
theorem d_A_ask_65 : decode prog_1_method_23_code 65 = .ok (.putfield 271, 3) := by decide +kernel
theorem d_A_ask_68 : decode prog_1_method_23_code 68 = .ok (.aload_n 0, 1) := by decide +kernel
theorem d_A_ask_69 : decode prog_1_method_23_code 69 = .ok (.getfield 35, 3) := by decide +kernel
theorem d_A_ask_72 : decode prog_1_method_23_code 72 = .ok (.getfield 271, 3) := by decide +kernel
theorem d_A_ask_75 : decode prog_1_method_23_code 75 = .ok (.ireturn, 1) := by decide +kernel
theorem d_A_known_0 : decode prog_1_method_24_code 0 = .ok (.iload_n 1, 1) := by decide +kernel
theorem d_A_known_1 : decode prog_1_method_24_code 1 = .ok (.iconst 1, 1) := by decide +kernel
theorem d_A_known_2 : decode prog_1_method_24_code 2 = .ok (.if_icmp .lt 9, 3) := by decide +kernel
theorem d_A_known_5 : decode prog_1_method_24_code 5 = .ok (.iload_n 1, 1) := by decide +kernel
theorem d_A_known_6 : decode prog_1_method_24_code 6 = .ok (.bipush 24, 2) := by decide +kernel
theorem d_A_known_8 : decode prog_1_method_24_code 8 = .ok (.if_icmp .le 5, 3) := by decide +kernel
theorem d_A_known_11 : decode prog_1_method_24_code 11 = .ok (.iconst (-1), 1) := by decide +kernel
theorem d_A_known_12 : decode prog_1_method_24_code 12 = .ok (.ireturn, 1) := by decide +kernel
theorem d_A_known_13 : decode prog_1_method_24_code 13 = .ok (.iconst 1, 1) := by decide +kernel
theorem d_A_known_14 : decode prog_1_method_24_code 14 = .ok (.iload_n 1, 1) := by decide +kernel
theorem d_A_known_15 : decode prog_1_method_24_code 15 = .ok (.ishl, 1) := by decide +kernel
theorem d_A_known_16 : decode prog_1_method_24_code 16 = .ok (.iconst 1, 1) := by decide +kernel
theorem d_A_known_17 : decode prog_1_method_24_code 17 = .ok (.isub, 1) := by decide +kernel
theorem d_A_known_18 : decode prog_1_method_24_code 18 = .ok (.istore_n 3, 1) := by decide +kernel
theorem d_A_known_19 : decode prog_1_method_24_code 19 = .ok (.aload_n 0, 1) := by decide +kernel
theorem d_A_known_20 : decode prog_1_method_24_code 20 = .ok (.iload_n 3, 1) := by decide +kernel
theorem d_A_known_21 : decode prog_1_method_24_code 21 = .ok (.iconst 0, 1) := by decide +kernel
theorem d_A_known_22 : decode prog_1_method_24_code 22 = .ok (.invokevirtual 277, 3) := by decide +kernel
theorem d_A_known_25 : decode prog_1_method_24_code 25 = .ok (.istore 4, 2) := by decide +kernel
theorem d_A_known_27 : decode prog_1_method_24_code 27 = .ok (.iload 4, 2) := by decide +kernel
theorem d_A_known_29 : decode prog_1_method_24_code 29 = .ok (.bipush 100, 2) := by decide +kernel
theorem d_A_known_31 : decode prog_1_method_24_code 31 = .ok (.if_icmp .lt 5, 3) := by decide +kernel
theorem d_A_known_34 : decode prog_1_method_24_code 34 = .ok (.iconst (-1), 1) := by decide +kernel
theorem d_A_known_35 : decode prog_1_method_24_code 35 = .ok (.ireturn, 1) := by decide +kernel
theorem d_A_known_36 : decode prog_1_method_24_code 36 = .ok (.iload_n 2, 1) := by decide +kernel
theorem d_A_known_37 : decode prog_1_method_24_code 37 = .ok (.ifCond .eq 13, 3) := by decide +kernel
theorem d_A_known_40 : decode prog_1_method_24_code 40 = .ok (.aload_n 0, 1) := by decide +kernel
theorem d_A_known_41 : decode prog_1_method_24_code 41 = .ok (.iload_n 3, 1) := by decide +kernel
theorem d_A_known_42 : decode prog_1_method_24_code 42 = .ok (.iload 4, 2) := by decide +kernel
theorem d_A_known_44 : decode prog_1_method_24_code 44 = .ok (.invokevirtual 280, 3) := by decide +kernel
theorem d_A_known_47 : decode prog_1_method_24_code 47 = .ok (.goto 5, 3) := by decide +kernel
theorem d_A_known_50 : decode prog_1_method_24_code 50 = .ok (.iload 4, 2) := by decide +kernel
theorem d_A_known_52 : decode prog_1_method_24_code 52 = .ok (.ireturn, 1) := by decide +kernel
theorem d_A_fewestAsks_0 : decode prog_1_method_36_code 0 = .ok (.iload_n 1, 1) := by decide +kernel
theorem d_A_fewestAsks_1 : decode prog_1_method_36_code 1 = .ok (.invokestatic 316, 3) := by decide +kernel
theorem d_A_fewestAsks_4 : decode prog_1_method_36_code 4 = .ok (.iconst 1, 1) := by decide +kernel
theorem d_A_fewestAsks_5 : decode prog_1_method_36_code 5 = .ok (.if_icmp .gt 5, 3) := by decide +kernel
theorem d_A_fewestAsks_8 : decode prog_1_method_36_code 8 = .ok (.iconst 0, 1) := by decide +kernel
theorem d_A_fewestAsks_9 : decode prog_1_method_36_code 9 = .ok (.ireturn, 1) := by decide +kernel
theorem d_A_fewestAsks_10 : decode prog_1_method_36_code 10 = .ok (.bipush 100, 2) := by decide +kernel
theorem d_A_fewestAsks_12 : decode prog_1_method_36_code 12 = .ok (.istore_n 3, 1) := by decide +kernel
theorem d_A_fewestAsks_13 : decode prog_1_method_36_code 13 = .ok (.iconst 0, 1) := by decide +kernel
theorem d_A_fewestAsks_14 : decode prog_1_method_36_code 14 = .ok (.istore 4, 2) := by decide +kernel
theorem d_A_fewestAsks_16 : decode prog_1_method_36_code 16 = .ok (.iload 4, 2) := by decide +kernel
theorem d_A_fewestAsks_18 : decode prog_1_method_36_code 18 = .ok (.aload_n 0, 1) := by decide +kernel
theorem d_A_fewestAsks_19 : decode prog_1_method_36_code 19 = .ok (.getfield 35, 3) := by decide +kernel
theorem d_A_fewestAsks_22 : decode prog_1_method_36_code 22 = .ok (.getfield 271, 3) := by decide +kernel
theorem d_A_fewestAsks_25 : decode prog_1_method_36_code 25 = .ok (.if_icmp .ge 33, 3) := by decide +kernel
theorem d_A_fewestAsks_28 : decode prog_1_method_36_code 28 = .ok (.iload_n 2, 1) := by decide +kernel
theorem d_A_fewestAsks_29 : decode prog_1_method_36_code 29 = .ok (.iconst 1, 1) := by decide +kernel
theorem d_A_fewestAsks_30 : decode prog_1_method_36_code 30 = .ok (.iload 4, 2) := by decide +kernel
theorem d_A_fewestAsks_32 : decode prog_1_method_36_code 32 = .ok (.ishl, 1) := by decide +kernel
theorem d_A_fewestAsks_33 : decode prog_1_method_36_code 33 = .ok (.iand, 1) := by decide +kernel
theorem d_A_fewestAsks_34 : decode prog_1_method_36_code 34 = .ok (.ifCond .ne 18, 3) := by decide +kernel
theorem d_A_fewestAsks_37 : decode prog_1_method_36_code 37 = .ok (.iload_n 3, 1) := by decide +kernel
theorem d_A_fewestAsks_38 : decode prog_1_method_36_code 38 = .ok (.iconst 1, 1) := by decide +kernel
theorem d_A_fewestAsks_39 : decode prog_1_method_36_code 39 = .ok (.aload_n 0, 1) := by decide +kernel
theorem d_A_fewestAsks_40 : decode prog_1_method_36_code 40 = .ok (.iload_n 1, 1) := by decide +kernel
theorem d_A_fewestAsks_41 : decode prog_1_method_36_code 41 = .ok (.iload 4, 2) := by decide +kernel
theorem d_A_fewestAsks_43 : decode prog_1_method_36_code 43 = .ok (.iload_n 2, 1) := by decide +kernel
theorem d_A_fewestAsks_44 : decode prog_1_method_36_code 44 = .ok (.invokevirtual 321, 3) := by decide +kernel
theorem d_A_fewestAsks_47 : decode prog_1_method_36_code 47 = .ok (.iadd, 1) := by decide +kernel
theorem d_A_fewestAsks_48 : decode prog_1_method_36_code 48 = .ok (.invokestatic 179, 3) := by decide +kernel
theorem d_A_fewestAsks_51 : decode prog_1_method_36_code 51 = .ok (.istore_n 3, 1) := by decide +kernel
theorem d_A_fewestAsks_52 : decode prog_1_method_36_code 52 = .ok (.iinc 4 1, 3) := by decide +kernel
theorem d_A_fewestAsks_55 : decode prog_1_method_36_code 55 = .ok (.goto (-39), 3) := by decide +kernel
theorem d_A_fewestAsks_58 : decode prog_1_method_36_code 58 = .ok (.iload_n 3, 1) := by decide +kernel
theorem d_A_fewestAsks_59 : decode prog_1_method_36_code 59 = .ok (.ireturn, 1) := by decide +kernel
theorem d_JInt_bitCount_0 : decode prog_15_method_49_code 0 = .ok (.iload_n 0, 1) := by decide +kernel
theorem d_JInt_bitCount_1 : decode prog_15_method_49_code 1 = .ok (.iload_n 0, 1) := by decide +kernel
theorem d_JInt_bitCount_2 : decode prog_15_method_49_code 2 = .ok (.iconst 1, 1) := by decide +kernel
theorem d_JInt_bitCount_3 : decode prog_15_method_49_code 3 = .ok (.iushr, 1) := by decide +kernel
theorem d_JInt_bitCount_4 : decode prog_15_method_49_code 4 = .ok (.ldc_w 265, 3) := by decide +kernel
theorem d_JInt_bitCount_7 : decode prog_15_method_49_code 7 = .ok (.iand, 1) := by decide +kernel
theorem d_JInt_bitCount_8 : decode prog_15_method_49_code 8 = .ok (.isub, 1) := by decide +kernel
theorem d_JInt_bitCount_9 : decode prog_15_method_49_code 9 = .ok (.istore_n 0, 1) := by decide +kernel
theorem d_JInt_bitCount_10 : decode prog_15_method_49_code 10 = .ok (.iload_n 0, 1) := by decide +kernel
theorem d_JInt_bitCount_11 : decode prog_15_method_49_code 11 = .ok (.ldc_w 266, 3) := by decide +kernel
theorem d_JInt_bitCount_14 : decode prog_15_method_49_code 14 = .ok (.iand, 1) := by decide +kernel
theorem d_JInt_bitCount_15 : decode prog_15_method_49_code 15 = .ok (.iload_n 0, 1) := by decide +kernel
theorem d_JInt_bitCount_16 : decode prog_15_method_49_code 16 = .ok (.iconst 2, 1) := by decide +kernel
theorem d_JInt_bitCount_17 : decode prog_15_method_49_code 17 = .ok (.iushr, 1) := by decide +kernel
theorem d_JInt_bitCount_18 : decode prog_15_method_49_code 18 = .ok (.ldc_w 266, 3) := by decide +kernel
theorem d_JInt_bitCount_21 : decode prog_15_method_49_code 21 = .ok (.iand, 1) := by decide +kernel
theorem d_JInt_bitCount_22 : decode prog_15_method_49_code 22 = .ok (.iadd, 1) := by decide +kernel
theorem d_JInt_bitCount_23 : decode prog_15_method_49_code 23 = .ok (.istore_n 0, 1) := by decide +kernel
theorem d_JInt_bitCount_24 : decode prog_15_method_49_code 24 = .ok (.iload_n 0, 1) := by decide +kernel
theorem d_JInt_bitCount_25 : decode prog_15_method_49_code 25 = .ok (.iload_n 0, 1) := by decide +kernel
theorem d_JInt_bitCount_26 : decode prog_15_method_49_code 26 = .ok (.iconst 4, 1) := by decide +kernel
theorem d_JInt_bitCount_27 : decode prog_15_method_49_code 27 = .ok (.iushr, 1) := by decide +kernel
theorem d_JInt_bitCount_28 : decode prog_15_method_49_code 28 = .ok (.iadd, 1) := by decide +kernel
theorem d_JInt_bitCount_29 : decode prog_15_method_49_code 29 = .ok (.ldc_w 267, 3) := by decide +kernel
theorem d_JInt_bitCount_32 : decode prog_15_method_49_code 32 = .ok (.iand, 1) := by decide +kernel
theorem d_JInt_bitCount_33 : decode prog_15_method_49_code 33 = .ok (.istore_n 0, 1) := by decide +kernel
theorem d_JInt_bitCount_34 : decode prog_15_method_49_code 34 = .ok (.iload_n 0, 1) := by decide +kernel
theorem d_JInt_bitCount_35 : decode prog_15_method_49_code 35 = .ok (.iload_n 0, 1) := by decide +kernel
theorem d_JInt_bitCount_36 : decode prog_15_method_49_code 36 = .ok (.bipush 8, 2) := by decide +kernel
theorem d_JInt_bitCount_38 : decode prog_15_method_49_code 38 = .ok (.iushr, 1) := by decide +kernel
theorem d_JInt_bitCount_39 : decode prog_15_method_49_code 39 = .ok (.iadd, 1) := by decide +kernel
theorem d_JInt_bitCount_40 : decode prog_15_method_49_code 40 = .ok (.istore_n 0, 1) := by decide +kernel
theorem d_JInt_bitCount_41 : decode prog_15_method_49_code 41 = .ok (.iload_n 0, 1) := by decide +kernel
theorem d_JInt_bitCount_42 : decode prog_15_method_49_code 42 = .ok (.iload_n 0, 1) := by decide +kernel
theorem d_JInt_bitCount_43 : decode prog_15_method_49_code 43 = .ok (.bipush 16, 2) := by decide +kernel
theorem d_JInt_bitCount_45 : decode prog_15_method_49_code 45 = .ok (.iushr, 1) := by decide +kernel
theorem d_JInt_bitCount_46 : decode prog_15_method_49_code 46 = .ok (.iadd, 1) := by decide +kernel
theorem d_JInt_bitCount_47 : decode prog_15_method_49_code 47 = .ok (.istore_n 0, 1) := by decide +kernel
theorem d_JInt_bitCount_48 : decode prog_15_method_49_code 48 = .ok (.iload_n 0, 1) := by decide +kernel
theorem d_JInt_bitCount_49 : decode prog_15_method_49_code 49 = .ok (.bipush 63, 2) := by decide +kernel
theorem d_JInt_bitCount_51 : decode prog_15_method_49_code 51 = .ok (.iand, 1) := by decide +kernel
theorem d_JInt_bitCount_52 : decode prog_15_method_49_code 52 = .ok (.ireturn, 1) := by decide +kernel
theorem d_A_mostAsksBehind_0 : decode prog_1_method_37_code 0 = .ok (.aload_n 0, 1) := by decide +kernel
theorem d_A_mostAsksBehind_1 : decode prog_1_method_37_code 1 = .ok (.getfield 35, 3) := by decide +kernel
theorem d_A_mostAsksBehind_4 : decode prog_1_method_37_code 4 = .ok (.getfield 274, 3) := by decide +kernel
theorem d_A_mostAsksBehind_7 : decode prog_1_method_37_code 7 = .ok (.iload_n 2, 1) := by decide +kernel
theorem d_A_mostAsksBehind_8 : decode prog_1_method_37_code 8 = .ok (.iaload, 1) := by decide +kernel
theorem d_A_mostAsksBehind_9 : decode prog_1_method_37_code 9 = .ok (.istore 4, 2) := by decide +kernel
theorem d_A_mostAsksBehind_11 : decode prog_1_method_37_code 11 = .ok (.iload 4, 2) := by decide +kernel
theorem d_A_mostAsksBehind_13 : decode prog_1_method_37_code 13 = .ok (.invokestatic 325, 3) := by decide +kernel
theorem d_A_mostAsksBehind_16 : decode prog_1_method_37_code 16 = .ok (.istore 5, 2) := by decide +kernel
theorem d_A_mostAsksBehind_18 : decode prog_1_method_37_code 18 = .ok (.iconst 0, 1) := by decide +kernel
theorem d_A_mostAsksBehind_19 : decode prog_1_method_37_code 19 = .ok (.istore 6, 2) := by decide +kernel
theorem d_A_mostAsksBehind_21 : decode prog_1_method_37_code 21 = .ok (.iconst 0, 1) := by decide +kernel
theorem d_A_mostAsksBehind_22 : decode prog_1_method_37_code 22 = .ok (.istore 7, 2) := by decide +kernel
theorem d_A_mostAsksBehind_24 : decode prog_1_method_37_code 24 = .ok (.iload 7, 2) := by decide +kernel
theorem d_A_mostAsksBehind_26 : decode prog_1_method_37_code 26 = .ok (.iload 4, 2) := by decide +kernel
theorem d_A_mostAsksBehind_28 : decode prog_1_method_37_code 28 = .ok (.if_icmp .ge 64, 3) := by decide +kernel
theorem d_A_mostAsksBehind_31 : decode prog_1_method_37_code 31 = .ok (.iload 7, 2) := by decide +kernel
theorem d_A_mostAsksBehind_33 : decode prog_1_method_37_code 33 = .ok (.bipush 24, 2) := by decide +kernel
theorem d_A_mostAsksBehind_35 : decode prog_1_method_37_code 35 = .ok (.if_icmp .ge 57, 3) := by decide +kernel
theorem d_A_mostAsksBehind_38 : decode prog_1_method_37_code 38 = .ok (.iload_n 1, 1) := by decide +kernel
theorem d_A_mostAsksBehind_39 : decode prog_1_method_37_code 39 = .ok (.iload 5, 2) := by decide +kernel
theorem d_A_mostAsksBehind_41 : decode prog_1_method_37_code 41 = .ok (.iload 7, 2) := by decide +kernel
theorem d_A_mostAsksBehind_43 : decode prog_1_method_37_code 43 = .ok (.ishl, 1) := by decide +kernel
theorem d_A_mostAsksBehind_44 : decode prog_1_method_37_code 44 = .ok (.iand, 1) := by decide +kernel
theorem d_A_mostAsksBehind_45 : decode prog_1_method_37_code 45 = .ok (.istore 8, 2) := by decide +kernel
theorem d_A_mostAsksBehind_47 : decode prog_1_method_37_code 47 = .ok (.iload 8, 2) := by decide +kernel
theorem d_A_mostAsksBehind_49 : decode prog_1_method_37_code 49 = .ok (.iload_n 1, 1) := by decide +kernel
theorem d_A_mostAsksBehind_50 : decode prog_1_method_37_code 50 = .ok (.if_icmp .ne 7, 3) := by decide +kernel
theorem d_A_mostAsksBehind_53 : decode prog_1_method_37_code 53 = .ok (.iconst 1, 1) := by decide +kernel
theorem d_A_mostAsksBehind_54 : decode prog_1_method_37_code 54 = .ok (.goto 4, 3) := by decide +kernel
theorem d_A_mostAsksBehind_57 : decode prog_1_method_37_code 57 = .ok (.iconst 0, 1) := by decide +kernel
theorem d_A_mostAsksBehind_58 : decode prog_1_method_37_code 58 = .ok (.istore 9, 2) := by decide +kernel
theorem d_A_mostAsksBehind_60 : decode prog_1_method_37_code 60 = .ok (.iload 9, 2) := by decide +kernel
theorem d_A_mostAsksBehind_62 : decode prog_1_method_37_code 62 = .ok (.ifCond .eq 6, 3) := by decide +kernel
theorem d_A_mostAsksBehind_65 : decode prog_1_method_37_code 65 = .ok (.bipush 100, 2) := by decide +kernel
theorem d_A_mostAsksBehind_67 : decode prog_1_method_37_code 67 = .ok (.ireturn, 1) := by decide +kernel
theorem d_A_mostAsksBehind_68 : decode prog_1_method_37_code 68 = .ok (.iload 6, 2) := by decide +kernel
theorem d_A_mostAsksBehind_70 : decode prog_1_method_37_code 70 = .ok (.aload_n 0, 1) := by decide +kernel
theorem d_A_mostAsksBehind_71 : decode prog_1_method_37_code 71 = .ok (.iload 8, 2) := by decide +kernel
theorem d_A_mostAsksBehind_73 : decode prog_1_method_37_code 73 = .ok (.iload_n 3, 1) := by decide +kernel
theorem d_A_mostAsksBehind_74 : decode prog_1_method_37_code 74 = .ok (.iconst 1, 1) := by decide +kernel
theorem d_A_mostAsksBehind_75 : decode prog_1_method_37_code 75 = .ok (.iload_n 2, 1) := by decide +kernel
theorem d_A_mostAsksBehind_76 : decode prog_1_method_37_code 76 = .ok (.ishl, 1) := by decide +kernel
theorem d_A_mostAsksBehind_77 : decode prog_1_method_37_code 77 = .ok (.ior, 1) := by decide +kernel
theorem d_A_mostAsksBehind_78 : decode prog_1_method_37_code 78 = .ok (.invokevirtual 277, 3) := by decide +kernel
theorem d_A_mostAsksBehind_81 : decode prog_1_method_37_code 81 = .ok (.invokestatic 328, 3) := by decide +kernel
theorem d_A_mostAsksBehind_84 : decode prog_1_method_37_code 84 = .ok (.istore 6, 2) := by decide +kernel
theorem d_A_mostAsksBehind_86 : decode prog_1_method_37_code 86 = .ok (.iinc 7 1, 3) := by decide +kernel
theorem d_A_mostAsksBehind_89 : decode prog_1_method_37_code 89 = .ok (.goto (-65), 3) := by decide +kernel
theorem d_A_mostAsksBehind_92 : decode prog_1_method_37_code 92 = .ok (.iload 6, 2) := by decide +kernel
theorem d_A_mostAsksBehind_94 : decode prog_1_method_37_code 94 = .ok (.ireturn, 1) := by decide +kernel
theorem d_A_multiplesOf_0 : decode prog_1_method_39_code 0 = .ok (.iconst 0, 1) := by decide +kernel
theorem d_A_multiplesOf_1 : decode prog_1_method_39_code 1 = .ok (.istore_n 1, 1) := by decide +kernel
theorem d_A_multiplesOf_2 : decode prog_1_method_39_code 2 = .ok (.iconst 0, 1) := by decide +kernel
theorem d_A_multiplesOf_3 : decode prog_1_method_39_code 3 = .ok (.istore_n 2, 1) := by decide +kernel
theorem d_A_multiplesOf_4 : decode prog_1_method_39_code 4 = .ok (.iload_n 2, 1) := by decide +kernel
theorem d_A_multiplesOf_5 : decode prog_1_method_39_code 5 = .ok (.bipush 24, 2) := by decide +kernel
theorem d_A_multiplesOf_7 : decode prog_1_method_39_code 7 = .ok (.if_icmp .ge 25, 3) := by decide +kernel
theorem d_A_multiplesOf_10 : decode prog_1_method_39_code 10 = .ok (.iload_n 0, 1) := by decide +kernel
theorem d_A_multiplesOf_11 : decode prog_1_method_39_code 11 = .ok (.ifCond .le 15, 3) := by decide +kernel
theorem d_A_multiplesOf_14 : decode prog_1_method_39_code 14 = .ok (.iload_n 2, 1) := by decide +kernel
theorem d_A_multiplesOf_15 : decode prog_1_method_39_code 15 = .ok (.iload_n 0, 1) := by decide +kernel
theorem d_A_multiplesOf_16 : decode prog_1_method_39_code 16 = .ok (.irem, 1) := by decide +kernel
theorem d_A_multiplesOf_17 : decode prog_1_method_39_code 17 = .ok (.ifCond .ne 9, 3) := by decide +kernel
theorem d_A_multiplesOf_20 : decode prog_1_method_39_code 20 = .ok (.iload_n 1, 1) := by decide +kernel
theorem d_A_multiplesOf_21 : decode prog_1_method_39_code 21 = .ok (.iconst 1, 1) := by decide +kernel
theorem d_A_multiplesOf_22 : decode prog_1_method_39_code 22 = .ok (.iload_n 2, 1) := by decide +kernel
theorem d_A_multiplesOf_23 : decode prog_1_method_39_code 23 = .ok (.ishl, 1) := by decide +kernel
theorem d_A_multiplesOf_24 : decode prog_1_method_39_code 24 = .ok (.ior, 1) := by decide +kernel
theorem d_A_multiplesOf_25 : decode prog_1_method_39_code 25 = .ok (.istore_n 1, 1) := by decide +kernel
theorem d_A_multiplesOf_26 : decode prog_1_method_39_code 26 = .ok (.iinc 2 1, 3) := by decide +kernel
theorem d_A_multiplesOf_29 : decode prog_1_method_39_code 29 = .ok (.goto (-25), 3) := by decide +kernel
theorem d_A_multiplesOf_32 : decode prog_1_method_39_code 32 = .ok (.iload_n 1, 1) := by decide +kernel
theorem d_A_multiplesOf_33 : decode prog_1_method_39_code 33 = .ok (.ireturn, 1) := by decide +kernel
theorem d_A_lowestFirstAsk_0 : decode prog_1_method_38_code 0 = .ok (.iload_n 2, 1) := by decide +kernel
theorem d_A_lowestFirstAsk_1 : decode prog_1_method_38_code 1 = .ok (.ifCond .ne 5, 3) := by decide +kernel
theorem d_A_lowestFirstAsk_4 : decode prog_1_method_38_code 4 = .ok (.iconst (-1), 1) := by decide +kernel
theorem d_A_lowestFirstAsk_5 : decode prog_1_method_38_code 5 = .ok (.ireturn, 1) := by decide +kernel
theorem d_A_lowestFirstAsk_6 : decode prog_1_method_38_code 6 = .ok (.iconst 0, 1) := by decide +kernel
theorem d_A_lowestFirstAsk_7 : decode prog_1_method_38_code 7 = .ok (.istore_n 3, 1) := by decide +kernel
theorem d_A_lowestFirstAsk_8 : decode prog_1_method_38_code 8 = .ok (.iload_n 3, 1) := by decide +kernel
theorem d_A_lowestFirstAsk_9 : decode prog_1_method_38_code 9 = .ok (.aload_n 0, 1) := by decide +kernel
theorem d_A_lowestFirstAsk_10 : decode prog_1_method_38_code 10 = .ok (.getfield 35, 3) := by decide +kernel
theorem d_A_lowestFirstAsk_13 : decode prog_1_method_38_code 13 = .ok (.getfield 271, 3) := by decide +kernel
theorem d_A_lowestFirstAsk_16 : decode prog_1_method_38_code 16 = .ok (.if_icmp .ge 24, 3) := by decide +kernel
theorem d_A_lowestFirstAsk_19 : decode prog_1_method_38_code 19 = .ok (.iconst 1, 1) := by decide +kernel
theorem d_A_lowestFirstAsk_20 : decode prog_1_method_38_code 20 = .ok (.aload_n 0, 1) := by decide +kernel
theorem d_A_lowestFirstAsk_21 : decode prog_1_method_38_code 21 = .ok (.iload_n 1, 1) := by decide +kernel
theorem d_A_lowestFirstAsk_22 : decode prog_1_method_38_code 22 = .ok (.iload_n 3, 1) := by decide +kernel
theorem d_A_lowestFirstAsk_23 : decode prog_1_method_38_code 23 = .ok (.iconst 0, 1) := by decide +kernel
theorem d_A_lowestFirstAsk_24 : decode prog_1_method_38_code 24 = .ok (.invokevirtual 321, 3) := by decide +kernel
theorem d_A_lowestFirstAsk_27 : decode prog_1_method_38_code 27 = .ok (.iadd, 1) := by decide +kernel
theorem d_A_lowestFirstAsk_28 : decode prog_1_method_38_code 28 = .ok (.iload_n 2, 1) := by decide +kernel
theorem d_A_lowestFirstAsk_29 : decode prog_1_method_38_code 29 = .ok (.if_icmp .ne 5, 3) := by decide +kernel
theorem d_A_lowestFirstAsk_32 : decode prog_1_method_38_code 32 = .ok (.iload_n 3, 1) := by decide +kernel
theorem d_A_lowestFirstAsk_33 : decode prog_1_method_38_code 33 = .ok (.ireturn, 1) := by decide +kernel
theorem d_A_lowestFirstAsk_34 : decode prog_1_method_38_code 34 = .ok (.iinc 3 1, 3) := by decide +kernel
theorem d_A_lowestFirstAsk_37 : decode prog_1_method_38_code 37 = .ok (.goto (-29), 3) := by decide +kernel
theorem d_A_lowestFirstAsk_40 : decode prog_1_method_38_code 40 = .ok (.iconst (-1), 1) := by decide +kernel
theorem d_A_lowestFirstAsk_41 : decode prog_1_method_38_code 41 = .ok (.ireturn, 1) := by decide +kernel
theorem d_A_rest_0 : decode prog_1_method_25_code 0 = .ok (.iload_n 1, 1) := by decide +kernel
theorem d_A_rest_1 : decode prog_1_method_25_code 1 = .ok (.iconst 1, 1) := by decide +kernel
theorem d_A_rest_2 : decode prog_1_method_25_code 2 = .ok (.if_icmp .lt 20, 3) := by decide +kernel
theorem d_A_rest_5 : decode prog_1_method_25_code 5 = .ok (.iload_n 1, 1) := by decide +kernel
theorem d_A_rest_6 : decode prog_1_method_25_code 6 = .ok (.sipush 9999, 3) := by decide +kernel
theorem d_A_rest_9 : decode prog_1_method_25_code 9 = .ok (.if_icmp .gt 13, 3) := by decide +kernel
theorem d_A_rest_12 : decode prog_1_method_25_code 12 = .ok (.aload_n 0, 1) := by decide +kernel
theorem d_A_rest_13 : decode prog_1_method_25_code 13 = .ok (.getfield 10, 3) := by decide +kernel
theorem d_A_rest_16 : decode prog_1_method_25_code 16 = .ok (.invokevirtual 283, 3) := by decide +kernel
theorem d_A_rest_19 : decode prog_1_method_25_code 19 = .ok (.ifCond .eq 5, 3) := by decide +kernel
theorem d_A_rest_22 : decode prog_1_method_25_code 22 = .ok (.iconst (-1), 1) := by decide +kernel
theorem d_A_rest_23 : decode prog_1_method_25_code 23 = .ok (.ireturn, 1) := by decide +kernel
theorem d_A_rest_24 : decode prog_1_method_25_code 24 = .ok (.aload_n 0, 1) := by decide +kernel
theorem d_A_rest_25 : decode prog_1_method_25_code 25 = .ok (.getfield 10, 3) := by decide +kernel
theorem d_A_rest_28 : decode prog_1_method_25_code 28 = .ok (.iload_n 1, 1) := by decide +kernel
theorem d_A_rest_29 : decode prog_1_method_25_code 29 = .ok (.iconst 0, 1) := by decide +kernel
theorem d_A_rest_30 : decode prog_1_method_25_code 30 = .ok (.invokevirtual 287, 3) := by decide +kernel
theorem d_A_rest_33 : decode prog_1_method_25_code 33 = .ok (.ireturn, 1) := by decide +kernel
theorem d_Tape_marks_0 : decode prog_10_method_4_code 0 = .ok (.iconst 0, 1) := by decide +kernel
theorem d_Tape_marks_1 : decode prog_10_method_4_code 1 = .ok (.istore_n 1, 1) := by decide +kernel
theorem d_Tape_marks_2 : decode prog_10_method_4_code 2 = .ok (.iconst 0, 1) := by decide +kernel
theorem d_Tape_marks_3 : decode prog_10_method_4_code 3 = .ok (.istore_n 2, 1) := by decide +kernel
theorem d_Tape_marks_4 : decode prog_10_method_4_code 4 = .ok (.iload_n 2, 1) := by decide +kernel
theorem d_Tape_marks_5 : decode prog_10_method_4_code 5 = .ok (.aload_n 0, 1) := by decide +kernel
theorem d_Tape_marks_6 : decode prog_10_method_4_code 6 = .ok (.getfield 15, 3) := by decide +kernel
theorem d_Tape_marks_9 : decode prog_10_method_4_code 9 = .ok (.if_icmp .ge 50, 3) := by decide +kernel
theorem d_Tape_marks_12 : decode prog_10_method_4_code 12 = .ok (.aload_n 0, 1) := by decide +kernel
theorem d_Tape_marks_13 : decode prog_10_method_4_code 13 = .ok (.getfield 11, 3) := by decide +kernel
theorem d_Tape_marks_16 : decode prog_10_method_4_code 16 = .ok (.iload_n 2, 1) := by decide +kernel
theorem d_Tape_marks_17 : decode prog_10_method_4_code 17 = .ok (.baload, 1) := by decide +kernel
theorem d_Tape_marks_18 : decode prog_10_method_4_code 18 = .ok (.bipush 63, 2) := by decide +kernel
theorem d_Tape_marks_20 : decode prog_10_method_4_code 20 = .ok (.if_icmp .ne 9, 3) := by decide +kernel
theorem d_Tape_marks_23 : decode prog_10_method_4_code 23 = .ok (.iinc 1 1, 3) := by decide +kernel
theorem d_Tape_marks_26 : decode prog_10_method_4_code 26 = .ok (.goto 27, 3) := by decide +kernel
theorem d_Tape_marks_29 : decode prog_10_method_4_code 29 = .ok (.aload_n 0, 1) := by decide +kernel
theorem d_Tape_marks_30 : decode prog_10_method_4_code 30 = .ok (.getfield 11, 3) := by decide +kernel
theorem d_Tape_marks_33 : decode prog_10_method_4_code 33 = .ok (.iload_n 2, 1) := by decide +kernel
theorem d_Tape_marks_34 : decode prog_10_method_4_code 34 = .ok (.baload, 1) := by decide +kernel
theorem d_Tape_marks_35 : decode prog_10_method_4_code 35 = .ok (.bipush 48, 2) := by decide +kernel
theorem d_Tape_marks_37 : decode prog_10_method_4_code 37 = .ok (.if_icmp .lt 14, 3) := by decide +kernel
theorem d_Tape_marks_40 : decode prog_10_method_4_code 40 = .ok (.aload_n 0, 1) := by decide +kernel
theorem d_Tape_marks_41 : decode prog_10_method_4_code 41 = .ok (.getfield 11, 3) := by decide +kernel
theorem d_Tape_marks_44 : decode prog_10_method_4_code 44 = .ok (.iload_n 2, 1) := by decide +kernel
theorem d_Tape_marks_45 : decode prog_10_method_4_code 45 = .ok (.baload, 1) := by decide +kernel
theorem d_Tape_marks_46 : decode prog_10_method_4_code 46 = .ok (.bipush 57, 2) := by decide +kernel
theorem d_Tape_marks_48 : decode prog_10_method_4_code 48 = .ok (.if_icmp .le 5, 3) := by decide +kernel
theorem d_Tape_marks_51 : decode prog_10_method_4_code 51 = .ok (.iconst (-1), 1) := by decide +kernel
theorem d_Tape_marks_52 : decode prog_10_method_4_code 52 = .ok (.ireturn, 1) := by decide +kernel
theorem d_Tape_marks_53 : decode prog_10_method_4_code 53 = .ok (.iinc 2 1, 3) := by decide +kernel
theorem d_Tape_marks_56 : decode prog_10_method_4_code 56 = .ok (.goto (-52), 3) := by decide +kernel
theorem d_Tape_marks_59 : decode prog_10_method_4_code 59 = .ok (.aload_n 0, 1) := by decide +kernel
theorem d_Tape_marks_60 : decode prog_10_method_4_code 60 = .ok (.getfield 15, 3) := by decide +kernel
theorem d_Tape_marks_63 : decode prog_10_method_4_code 63 = .ok (.ifCond .eq 8, 3) := by decide +kernel
theorem d_Tape_marks_66 : decode prog_10_method_4_code 66 = .ok (.iload_n 1, 1) := by decide +kernel
theorem d_Tape_marks_67 : decode prog_10_method_4_code 67 = .ok (.iconst 1, 1) := by decide +kernel
theorem d_Tape_marks_68 : decode prog_10_method_4_code 68 = .ok (.if_icmp .le 7, 3) := by decide +kernel
theorem d_Tape_marks_71 : decode prog_10_method_4_code 71 = .ok (.iconst (-1), 1) := by decide +kernel
theorem d_Tape_marks_72 : decode prog_10_method_4_code 72 = .ok (.goto 4, 3) := by decide +kernel
theorem d_Tape_marks_75 : decode prog_10_method_4_code 75 = .ok (.iload_n 1, 1) := by decide +kernel
theorem d_Tape_marks_76 : decode prog_10_method_4_code 76 = .ok (.ireturn, 1) := by decide +kernel
theorem d_Tape_restBy_0 : decode prog_10_method_5_code 0 = .ok (.iconst 0, 1) := by decide +kernel
theorem d_Tape_restBy_1 : decode prog_10_method_5_code 1 = .ok (.istore_n 3, 1) := by decide +kernel
theorem d_Tape_restBy_2 : decode prog_10_method_5_code 2 = .ok (.iconst 0, 1) := by decide +kernel
theorem d_Tape_restBy_3 : decode prog_10_method_5_code 3 = .ok (.istore 4, 2) := by decide +kernel
theorem d_Tape_restBy_5 : decode prog_10_method_5_code 5 = .ok (.iload 4, 2) := by decide +kernel
theorem d_Tape_restBy_7 : decode prog_10_method_5_code 7 = .ok (.aload_n 0, 1) := by decide +kernel
theorem d_Tape_restBy_8 : decode prog_10_method_5_code 8 = .ok (.getfield 15, 3) := by decide +kernel
theorem d_Tape_restBy_11 : decode prog_10_method_5_code 11 = .ok (.if_icmp .ge 51, 3) := by decide +kernel
theorem d_Tape_restBy_14 : decode prog_10_method_5_code 14 = .ok (.iload_n 1, 1) := by decide +kernel
theorem d_Tape_restBy_15 : decode prog_10_method_5_code 15 = .ok (.ifCond .le 47, 3) := by decide +kernel
theorem d_Tape_restBy_18 : decode prog_10_method_5_code 18 = .ok (.aload_n 0, 1) := by decide +kernel
theorem d_Tape_restBy_19 : decode prog_10_method_5_code 19 = .ok (.getfield 11, 3) := by decide +kernel
theorem d_Tape_restBy_22 : decode prog_10_method_5_code 22 = .ok (.iload 4, 2) := by decide +kernel
theorem d_Tape_restBy_24 : decode prog_10_method_5_code 24 = .ok (.baload, 1) := by decide +kernel
theorem d_Tape_restBy_25 : decode prog_10_method_5_code 25 = .ok (.bipush 63, 2) := by decide +kernel
theorem d_Tape_restBy_27 : decode prog_10_method_5_code 27 = .ok (.if_icmp .ne 7, 3) := by decide +kernel
theorem d_Tape_restBy_30 : decode prog_10_method_5_code 30 = .ok (.iload_n 2, 1) := by decide +kernel
theorem d_Tape_restBy_31 : decode prog_10_method_5_code 31 = .ok (.goto 13, 3) := by decide +kernel
theorem d_Tape_restBy_34 : decode prog_10_method_5_code 34 = .ok (.aload_n 0, 1) := by decide +kernel
theorem d_Tape_restBy_35 : decode prog_10_method_5_code 35 = .ok (.getfield 11, 3) := by decide +kernel
theorem d_Tape_restBy_38 : decode prog_10_method_5_code 38 = .ok (.iload 4, 2) := by decide +kernel
theorem d_Tape_restBy_40 : decode prog_10_method_5_code 40 = .ok (.baload, 1) := by decide +kernel
theorem d_Tape_restBy_41 : decode prog_10_method_5_code 41 = .ok (.bipush 48, 2) := by decide +kernel
theorem d_Tape_restBy_43 : decode prog_10_method_5_code 43 = .ok (.isub, 1) := by decide +kernel
theorem d_Tape_restBy_44 : decode prog_10_method_5_code 44 = .ok (.istore 5, 2) := by decide +kernel
theorem d_Tape_restBy_46 : decode prog_10_method_5_code 46 = .ok (.iload_n 3, 1) := by decide +kernel
theorem d_Tape_restBy_47 : decode prog_10_method_5_code 47 = .ok (.bipush 10, 2) := by decide +kernel
theorem d_Tape_restBy_49 : decode prog_10_method_5_code 49 = .ok (.imul, 1) := by decide +kernel
theorem d_Tape_restBy_50 : decode prog_10_method_5_code 50 = .ok (.iload 5, 2) := by decide +kernel
theorem d_Tape_restBy_52 : decode prog_10_method_5_code 52 = .ok (.iadd, 1) := by decide +kernel
theorem d_Tape_restBy_53 : decode prog_10_method_5_code 53 = .ok (.iload_n 1, 1) := by decide +kernel
theorem d_Tape_restBy_54 : decode prog_10_method_5_code 54 = .ok (.irem, 1) := by decide +kernel
theorem d_Tape_restBy_55 : decode prog_10_method_5_code 55 = .ok (.istore_n 3, 1) := by decide +kernel
theorem d_Tape_restBy_56 : decode prog_10_method_5_code 56 = .ok (.iinc 4 1, 3) := by decide +kernel
theorem d_Tape_restBy_59 : decode prog_10_method_5_code 59 = .ok (.goto (-54), 3) := by decide +kernel
theorem d_Tape_restBy_62 : decode prog_10_method_5_code 62 = .ok (.iload_n 3, 1) := by decide +kernel
theorem d_Tape_restBy_63 : decode prog_10_method_5_code 63 = .ok (.ireturn, 1) := by decide +kernel
theorem d_A_struck_0 : decode prog_1_method_26_code 0 = .ok (.iload_n 1, 1) := by decide +kernel
theorem d_A_struck_1 : decode prog_1_method_26_code 1 = .ok (.iconst 1, 1) := by decide +kernel
theorem d_A_struck_2 : decode prog_1_method_26_code 2 = .ok (.if_icmp .lt 21, 3) := by decide +kernel
theorem d_A_struck_5 : decode prog_1_method_26_code 5 = .ok (.iload_n 1, 1) := by decide +kernel
theorem d_A_struck_6 : decode prog_1_method_26_code 6 = .ok (.sipush 9999, 3) := by decide +kernel
theorem d_A_struck_9 : decode prog_1_method_26_code 9 = .ok (.if_icmp .gt 14, 3) := by decide +kernel
theorem d_A_struck_12 : decode prog_1_method_26_code 12 = .ok (.aload_n 0, 1) := by decide +kernel
theorem d_A_struck_13 : decode prog_1_method_26_code 13 = .ok (.getfield 10, 3) := by decide +kernel
theorem d_A_struck_16 : decode prog_1_method_26_code 16 = .ok (.invokevirtual 283, 3) := by decide +kernel
theorem d_A_struck_19 : decode prog_1_method_26_code 19 = .ok (.iconst 1, 1) := by decide +kernel
theorem d_A_struck_20 : decode prog_1_method_26_code 20 = .ok (.if_icmp .eq 5, 3) := by decide +kernel
theorem d_A_struck_23 : decode prog_1_method_26_code 23 = .ok (.iconst (-1), 1) := by decide +kernel
theorem d_A_struck_24 : decode prog_1_method_26_code 24 = .ok (.ireturn, 1) := by decide +kernel
theorem d_A_struck_25 : decode prog_1_method_26_code 25 = .ok (.iconst 0, 1) := by decide +kernel
theorem d_A_struck_26 : decode prog_1_method_26_code 26 = .ok (.istore_n 2, 1) := by decide +kernel
theorem d_A_struck_27 : decode prog_1_method_26_code 27 = .ok (.iconst 0, 1) := by decide +kernel
theorem d_A_struck_28 : decode prog_1_method_26_code 28 = .ok (.istore_n 3, 1) := by decide +kernel
theorem d_A_struck_29 : decode prog_1_method_26_code 29 = .ok (.iload_n 3, 1) := by decide +kernel
theorem d_A_struck_30 : decode prog_1_method_26_code 30 = .ok (.bipush 10, 2) := by decide +kernel
theorem d_A_struck_32 : decode prog_1_method_26_code 32 = .ok (.if_icmp .ge 27, 3) := by decide +kernel
theorem d_A_struck_35 : decode prog_1_method_26_code 35 = .ok (.aload_n 0, 1) := by decide +kernel
theorem d_A_struck_36 : decode prog_1_method_26_code 36 = .ok (.getfield 10, 3) := by decide +kernel
theorem d_A_struck_39 : decode prog_1_method_26_code 39 = .ok (.iload_n 1, 1) := by decide +kernel
theorem d_A_struck_40 : decode prog_1_method_26_code 40 = .ok (.iload_n 3, 1) := by decide +kernel
theorem d_A_struck_41 : decode prog_1_method_26_code 41 = .ok (.invokevirtual 287, 3) := by decide +kernel
theorem d_A_struck_44 : decode prog_1_method_26_code 44 = .ok (.ifCond .ne 9, 3) := by decide +kernel
theorem d_A_struck_47 : decode prog_1_method_26_code 47 = .ok (.iload_n 2, 1) := by decide +kernel
theorem d_A_struck_48 : decode prog_1_method_26_code 48 = .ok (.iconst 1, 1) := by decide +kernel
theorem d_A_struck_49 : decode prog_1_method_26_code 49 = .ok (.iload_n 3, 1) := by decide +kernel
theorem d_A_struck_50 : decode prog_1_method_26_code 50 = .ok (.ishl, 1) := by decide +kernel
theorem d_A_struck_51 : decode prog_1_method_26_code 51 = .ok (.ior, 1) := by decide +kernel
theorem d_A_struck_52 : decode prog_1_method_26_code 52 = .ok (.istore_n 2, 1) := by decide +kernel
theorem d_A_struck_53 : decode prog_1_method_26_code 53 = .ok (.iinc 3 1, 3) := by decide +kernel
theorem d_A_struck_56 : decode prog_1_method_26_code 56 = .ok (.goto (-27), 3) := by decide +kernel
theorem d_A_struck_59 : decode prog_1_method_26_code 59 = .ok (.iload_n 2, 1) := by decide +kernel
theorem d_A_struck_60 : decode prog_1_method_26_code 60 = .ok (.ireturn, 1) := by decide +kernel
theorem d_A_play_0 : decode prog_1_method_27_code 0 = .ok (.aload_n 0, 1) := by decide +kernel
theorem d_A_play_1 : decode prog_1_method_27_code 1 = .ok (.iload_n 1, 1) := by decide +kernel
theorem d_A_play_2 : decode prog_1_method_27_code 2 = .ok (.invokevirtual 115, 3) := by decide +kernel
theorem d_A_play_5 : decode prog_1_method_27_code 5 = .ok (.astore_n 2, 1) := by decide +kernel
theorem d_A_play_6 : decode prog_1_method_27_code 6 = .ok (.aload_n 2, 1) := by decide +kernel
theorem d_A_play_7 : decode prog_1_method_27_code 7 = .ok (.ifnonnull 5, 3) := by decide +kernel
theorem d_A_play_10 : decode prog_1_method_27_code 10 = .ok (.iconst (-1), 1) := by decide +kernel
theorem d_A_play_11 : decode prog_1_method_27_code 11 = .ok (.ireturn, 1) := by decide +kernel
theorem d_A_play_12 : decode prog_1_method_27_code 12 = .ok (.aload_n 0, 1) := by decide +kernel
theorem d_A_play_13 : decode prog_1_method_27_code 13 = .ok (.getfield 35, 3) := by decide +kernel
theorem d_A_play_16 : decode prog_1_method_27_code 16 = .ok (.iload_n 1, 1) := by decide +kernel
theorem d_A_play_17 : decode prog_1_method_27_code 17 = .ok (.putfield 290, 3) := by decide +kernel
theorem d_A_play_20 : decode prog_1_method_27_code 20 = .ok (.aload_n 0, 1) := by decide +kernel
theorem d_A_play_21 : decode prog_1_method_27_code 21 = .ok (.getfield 35, 3) := by decide +kernel
theorem d_A_play_24 : decode prog_1_method_27_code 24 = .ok (.getfield 293, 3) := by decide +kernel
theorem d_A_play_27 : decode prog_1_method_27_code 27 = .ok (.iconst 0, 1) := by decide +kernel
theorem d_A_play_28 : decode prog_1_method_27_code 28 = .ok (.putfield 178, 3) := by decide +kernel
theorem d_A_play_31 : decode prog_1_method_27_code 31 = .ok (.aload_n 2, 1) := by decide +kernel
theorem d_A_play_32 : decode prog_1_method_27_code 32 = .ok (.aload_n 0, 1) := by decide +kernel
theorem d_A_play_33 : decode prog_1_method_27_code 33 = .ok (.getfield 45, 3) := by decide +kernel
theorem d_A_play_36 : decode prog_1_method_27_code 36 = .ok (.aload_n 0, 1) := by decide +kernel
theorem d_A_play_37 : decode prog_1_method_27_code 37 = .ok (.getfield 35, 3) := by decide +kernel
theorem d_A_play_40 : decode prog_1_method_27_code 40 = .ok (.getfield 88, 3) := by decide +kernel
theorem d_A_play_43 : decode prog_1_method_27_code 43 = .ok (.invokevirtual 156, 3) := by decide +kernel
theorem d_A_play_46 : decode prog_1_method_27_code 46 = .ok (.aload_n 0, 1) := by decide +kernel
theorem d_A_play_47 : decode prog_1_method_27_code 47 = .ok (.getfield 35, 3) := by decide +kernel
theorem d_A_play_50 : decode prog_1_method_27_code 50 = .ok (.getfield 293, 3) := by decide +kernel
theorem d_A_play_53 : decode prog_1_method_27_code 53 = .ok (.aload_n 0, 1) := by decide +kernel
theorem d_A_play_54 : decode prog_1_method_27_code 54 = .ok (.getfield 45, 3) := by decide +kernel
theorem d_A_play_57 : decode prog_1_method_27_code 57 = .ok (.invokevirtual 296, 3) := by decide +kernel
theorem d_A_play_60 : decode prog_1_method_27_code 60 = .ok (.pop, 1) := by decide +kernel
theorem d_A_play_61 : decode prog_1_method_27_code 61 = .ok (.aload_n 2, 1) := by decide +kernel
theorem d_A_play_62 : decode prog_1_method_27_code 62 = .ok (.getfield 119, 3) := by decide +kernel
theorem d_A_play_65 : decode prog_1_method_27_code 65 = .ok (.getfield 123, 3) := by decide +kernel
theorem d_A_play_68 : decode prog_1_method_27_code 68 = .ok (.ireturn, 1) := by decide +kernel
theorem d_A_go_0 : decode prog_1_method_28_code 0 = .ok (.aload_n 0, 1) := by decide +kernel
theorem d_A_go_1 : decode prog_1_method_28_code 1 = .ok (.aload_n 0, 1) := by decide +kernel
theorem d_A_go_2 : decode prog_1_method_28_code 2 = .ok (.getfield 35, 3) := by decide +kernel
theorem d_A_go_5 : decode prog_1_method_28_code 5 = .ok (.getfield 290, 3) := by decide +kernel
theorem d_A_go_8 : decode prog_1_method_28_code 8 = .ok (.invokevirtual 115, 3) := by decide +kernel
theorem d_A_go_11 : decode prog_1_method_28_code 11 = .ok (.astore_n 1, 1) := by decide +kernel
theorem d_A_go_12 : decode prog_1_method_28_code 12 = .ok (.aload_n 0, 1) := by decide +kernel
theorem d_A_go_13 : decode prog_1_method_28_code 13 = .ok (.getfield 35, 3) := by decide +kernel
theorem d_A_go_16 : decode prog_1_method_28_code 16 = .ok (.invokevirtual 299, 3) := by decide +kernel
theorem d_A_go_19 : decode prog_1_method_28_code 19 = .ok (.istore_n 2, 1) := by decide +kernel
theorem d_A_go_20 : decode prog_1_method_28_code 20 = .ok (.aload_n 1, 1) := by decide +kernel
theorem d_A_go_21 : decode prog_1_method_28_code 21 = .ok (.ifnull 14, 3) := by decide +kernel
theorem d_A_go_24 : decode prog_1_method_28_code 24 = .ok (.aload_n 1, 1) := by decide +kernel
theorem d_A_go_25 : decode prog_1_method_28_code 25 = .ok (.getfield 119, 3) := by decide +kernel
theorem d_A_go_28 : decode prog_1_method_28_code 28 = .ok (.iload_n 2, 1) := by decide +kernel
theorem d_A_go_29 : decode prog_1_method_28_code 29 = .ok (.invokevirtual 128, 3) := by decide +kernel
theorem d_A_go_32 : decode prog_1_method_28_code 32 = .ok (.ifCond .ne 5, 3) := by decide +kernel
theorem d_A_go_35 : decode prog_1_method_28_code 35 = .ok (.iconst (-1), 1) := by decide +kernel
theorem d_A_go_36 : decode prog_1_method_28_code 36 = .ok (.ireturn, 1) := by decide +kernel
theorem d_A_go_37 : decode prog_1_method_28_code 37 = .ok (.aload_n 0, 1) := by decide +kernel
theorem d_A_go_38 : decode prog_1_method_28_code 38 = .ok (.getfield 35, 3) := by decide +kernel
theorem d_A_go_41 : decode prog_1_method_28_code 41 = .ok (.getfield 293, 3) := by decide +kernel
theorem d_A_go_44 : decode prog_1_method_28_code 44 = .ok (.aload_n 0, 1) := by decide +kernel
theorem d_A_go_45 : decode prog_1_method_28_code 45 = .ok (.getfield 45, 3) := by decide +kernel
theorem d_A_go_48 : decode prog_1_method_28_code 48 = .ok (.invokevirtual 302, 3) := by decide +kernel
theorem d_A_go_51 : decode prog_1_method_28_code 51 = .ok (.aload_n 0, 1) := by decide +kernel
theorem d_A_go_52 : decode prog_1_method_28_code 52 = .ok (.getfield 45, 3) := by decide +kernel
theorem d_A_go_55 : decode prog_1_method_28_code 55 = .ok (.aload_n 1, 1) := by decide +kernel
theorem d_A_go_56 : decode prog_1_method_28_code 56 = .ok (.getfield 119, 3) := by decide +kernel
theorem d_A_go_59 : decode prog_1_method_28_code 59 = .ok (.getfield 134, 3) := by decide +kernel
theorem d_A_go_62 : decode prog_1_method_28_code 62 = .ok (.iload_n 2, 1) := by decide +kernel
theorem d_A_go_63 : decode prog_1_method_28_code 63 = .ok (.iaload, 1) := by decide +kernel
theorem d_A_go_64 : decode prog_1_method_28_code 64 = .ok (.aload_n 1, 1) := by decide +kernel
theorem d_A_go_65 : decode prog_1_method_28_code 65 = .ok (.getfield 119, 3) := by decide +kernel
theorem d_A_go_68 : decode prog_1_method_28_code 68 = .ok (.iload_n 2, 1) := by decide +kernel
theorem d_A_go_69 : decode prog_1_method_28_code 69 = .ok (.aload_n 0, 1) := by decide +kernel
theorem d_A_go_70 : decode prog_1_method_28_code 70 = .ok (.getfield 35, 3) := by decide +kernel
theorem d_A_go_73 : decode prog_1_method_28_code 73 = .ok (.getfield 88, 3) := by decide +kernel
theorem d_A_go_76 : decode prog_1_method_28_code 76 = .ok (.invokevirtual 160, 3) := by decide +kernel
theorem d_A_go_79 : decode prog_1_method_28_code 79 = .ok (.invokevirtual 164, 3) := by decide +kernel
theorem d_A_go_82 : decode prog_1_method_28_code 82 = .ok (.istore_n 3, 1) := by decide +kernel
theorem d_A_go_83 : decode prog_1_method_28_code 83 = .ok (.iload_n 3, 1) := by decide +kernel
theorem d_A_go_84 : decode prog_1_method_28_code 84 = .ok (.ifCond .eq 24, 3) := by decide +kernel
theorem d_A_go_87 : decode prog_1_method_28_code 87 = .ok (.aload_n 0, 1) := by decide +kernel
theorem d_A_go_88 : decode prog_1_method_28_code 88 = .ok (.getfield 35, 3) := by decide +kernel
theorem d_A_go_91 : decode prog_1_method_28_code 91 = .ok (.getfield 293, 3) := by decide +kernel
theorem d_A_go_94 : decode prog_1_method_28_code 94 = .ok (.aload_n 0, 1) := by decide +kernel
theorem d_A_go_95 : decode prog_1_method_28_code 95 = .ok (.getfield 45, 3) := by decide +kernel
theorem d_A_go_98 : decode prog_1_method_28_code 98 = .ok (.invokevirtual 296, 3) := by decide +kernel
theorem d_A_go_101 : decode prog_1_method_28_code 101 = .ok (.ifCond .eq 7, 3) := by decide +kernel
theorem d_A_go_104 : decode prog_1_method_28_code 104 = .ok (.iload_n 2, 1) := by decide +kernel
theorem d_A_go_105 : decode prog_1_method_28_code 105 = .ok (.goto 4, 3) := by decide +kernel
theorem d_A_go_108 : decode prog_1_method_28_code 108 = .ok (.iconst (-1), 1) := by decide +kernel
theorem d_A_go_109 : decode prog_1_method_28_code 109 = .ok (.ireturn, 1) := by decide +kernel
theorem d_State_ordersPlayed_0 : decode prog_6_method_2_code 0 = .ok (.aload_n 0, 1) := by decide +kernel
theorem d_State_ordersPlayed_1 : decode prog_6_method_2_code 1 = .ok (.getfield 41, 3) := by decide +kernel
theorem d_State_ordersPlayed_4 : decode prog_6_method_2_code 4 = .ok (.getfield 44, 3) := by decide +kernel
theorem d_State_ordersPlayed_7 : decode prog_6_method_2_code 7 = .ok (.iconst 1, 1) := by decide +kernel
theorem d_State_ordersPlayed_8 : decode prog_6_method_2_code 8 = .ok (.isub, 1) := by decide +kernel
theorem d_State_ordersPlayed_9 : decode prog_6_method_2_code 9 = .ok (.iconst 0, 1) := by decide +kernel
theorem d_State_ordersPlayed_10 : decode prog_6_method_2_code 10 = .ok (.invokestatic 47, 3) := by decide +kernel
theorem d_State_ordersPlayed_13 : decode prog_6_method_2_code 13 = .ok (.ireturn, 1) := by decide +kernel
theorem d_Values_readLast_0 : decode prog_12_method_4_code 0 = .ok (.aload_n 1, 1) := by decide +kernel
theorem d_Values_readLast_1 : decode prog_12_method_4_code 1 = .ok (.lconst 0, 1) := by decide +kernel
theorem d_Values_readLast_2 : decode prog_12_method_4_code 2 = .ok (.invokevirtual 43, 3) := by decide +kernel
theorem d_Values_readLast_5 : decode prog_12_method_4_code 5 = .ok (.aload_n 0, 1) := by decide +kernel
theorem d_Values_readLast_6 : decode prog_12_method_4_code 6 = .ok (.getfield 18, 3) := by decide +kernel
theorem d_Values_readLast_9 : decode prog_12_method_4_code 9 = .ok (.ifCond .le 45, 3) := by decide +kernel
theorem d_Values_readLast_12 : decode prog_12_method_4_code 12 = .ok (.aload_n 0, 1) := by decide +kernel
theorem d_Values_readLast_13 : decode prog_12_method_4_code 13 = .ok (.getfield 18, 3) := by decide +kernel
theorem d_Values_readLast_16 : decode prog_12_method_4_code 16 = .ok (.aload_n 0, 1) := by decide +kernel
theorem d_Values_readLast_17 : decode prog_12_method_4_code 17 = .ok (.getfield 9, 3) := by decide +kernel
theorem d_Values_readLast_20 : decode prog_12_method_4_code 20 = .ok (.arraylength, 1) := by decide +kernel
theorem d_Values_readLast_21 : decode prog_12_method_4_code 21 = .ok (.if_icmp .gt 33, 3) := by decide +kernel
theorem d_Values_readLast_24 : decode prog_12_method_4_code 24 = .ok (.aload_n 1, 1) := by decide +kernel
theorem d_Values_readLast_25 : decode prog_12_method_4_code 25 = .ok (.aload_n 0, 1) := by decide +kernel
theorem d_Values_readLast_26 : decode prog_12_method_4_code 26 = .ok (.getfield 9, 3) := by decide +kernel
theorem d_Values_readLast_29 : decode prog_12_method_4_code 29 = .ok (.aload_n 0, 1) := by decide +kernel
theorem d_Values_readLast_30 : decode prog_12_method_4_code 30 = .ok (.getfield 18, 3) := by decide +kernel
theorem d_Values_readLast_33 : decode prog_12_method_4_code 33 = .ok (.iconst 1, 1) := by decide +kernel
theorem d_Values_readLast_34 : decode prog_12_method_4_code 34 = .ok (.isub, 1) := by decide +kernel
theorem d_Values_readLast_35 : decode prog_12_method_4_code 35 = .ok (.laload, 1) := by decide +kernel
theorem d_Values_readLast_36 : decode prog_12_method_4_code 36 = .ok (.putfield 36, 3) := by decide +kernel
theorem d_Values_readLast_39 : decode prog_12_method_4_code 39 = .ok (.aload_n 1, 1) := by decide +kernel
theorem d_Values_readLast_40 : decode prog_12_method_4_code 40 = .ok (.aload_n 0, 1) := by decide +kernel
theorem d_Values_readLast_41 : decode prog_12_method_4_code 41 = .ok (.getfield 15, 3) := by decide +kernel
theorem d_Values_readLast_44 : decode prog_12_method_4_code 44 = .ok (.aload_n 0, 1) := by decide +kernel
theorem d_Values_readLast_45 : decode prog_12_method_4_code 45 = .ok (.getfield 18, 3) := by decide +kernel
theorem d_Values_readLast_48 : decode prog_12_method_4_code 48 = .ok (.iconst 1, 1) := by decide +kernel
theorem d_Values_readLast_49 : decode prog_12_method_4_code 49 = .ok (.isub, 1) := by decide +kernel
theorem d_Values_readLast_50 : decode prog_12_method_4_code 50 = .ok (.laload, 1) := by decide +kernel
theorem d_Values_readLast_51 : decode prog_12_method_4_code 51 = .ok (.putfield 40, 3) := by decide +kernel
theorem d_Values_readLast_54 : decode prog_12_method_4_code 54 = .ok (.return_, 1) := by decide +kernel
theorem d_A_undo_0 : decode prog_1_method_29_code 0 = .ok (.aload_n 0, 1) := by decide +kernel
theorem d_A_undo_1 : decode prog_1_method_29_code 1 = .ok (.getfield 35, 3) := by decide +kernel
theorem d_A_undo_4 : decode prog_1_method_29_code 4 = .ok (.invokevirtual 299, 3) := by decide +kernel
theorem d_A_undo_7 : decode prog_1_method_29_code 7 = .ok (.iconst 1, 1) := by decide +kernel
theorem d_A_undo_8 : decode prog_1_method_29_code 8 = .ok (.if_icmp .ge 5, 3) := by decide +kernel
theorem d_A_undo_11 : decode prog_1_method_29_code 11 = .ok (.iconst (-1), 1) := by decide +kernel
theorem d_A_undo_12 : decode prog_1_method_29_code 12 = .ok (.ireturn, 1) := by decide +kernel
theorem d_A_undo_13 : decode prog_1_method_29_code 13 = .ok (.aload_n 0, 1) := by decide +kernel
theorem d_A_undo_14 : decode prog_1_method_29_code 14 = .ok (.getfield 35, 3) := by decide +kernel
theorem d_A_undo_17 : decode prog_1_method_29_code 17 = .ok (.getfield 293, 3) := by decide +kernel
theorem d_A_undo_20 : decode prog_1_method_29_code 20 = .ok (.dup, 1) := by decide +kernel
theorem d_A_undo_21 : decode prog_1_method_29_code 21 = .ok (.getfield 178, 3) := by decide +kernel
theorem d_A_undo_24 : decode prog_1_method_29_code 24 = .ok (.iconst 1, 1) := by decide +kernel
theorem d_A_undo_25 : decode prog_1_method_29_code 25 = .ok (.isub, 1) := by decide +kernel
theorem d_A_undo_26 : decode prog_1_method_29_code 26 = .ok (.putfield 178, 3) := by decide +kernel
theorem d_A_undo_29 : decode prog_1_method_29_code 29 = .ok (.aload_n 0, 1) := by decide +kernel
theorem d_A_undo_30 : decode prog_1_method_29_code 30 = .ok (.getfield 35, 3) := by decide +kernel
theorem d_A_undo_33 : decode prog_1_method_29_code 33 = .ok (.invokevirtual 299, 3) := by decide +kernel
theorem d_A_undo_36 : decode prog_1_method_29_code 36 = .ok (.ireturn, 1) := by decide +kernel
theorem d_A_value_0 : decode prog_1_method_30_code 0 = .ok (.aload_n 0, 1) := by decide +kernel
theorem d_A_value_1 : decode prog_1_method_30_code 1 = .ok (.getfield 35, 3) := by decide +kernel
theorem d_A_value_4 : decode prog_1_method_30_code 4 = .ok (.getfield 293, 3) := by decide +kernel
theorem d_A_value_7 : decode prog_1_method_30_code 7 = .ok (.aload_n 0, 1) := by decide +kernel
theorem d_A_value_8 : decode prog_1_method_30_code 8 = .ok (.getfield 45, 3) := by decide +kernel
theorem d_A_value_11 : decode prog_1_method_30_code 11 = .ok (.invokevirtual 302, 3) := by decide +kernel
theorem d_A_value_14 : decode prog_1_method_30_code 14 = .ok (.aload_n 0, 1) := by decide +kernel
theorem d_A_value_15 : decode prog_1_method_30_code 15 = .ok (.getfield 45, 3) := by decide +kernel
theorem d_A_value_18 : decode prog_1_method_30_code 18 = .ok (.iload_n 1, 1) := by decide +kernel
theorem d_A_value_19 : decode prog_1_method_30_code 19 = .ok (.invokevirtual 152, 3) := by decide +kernel
theorem d_A_value_22 : decode prog_1_method_30_code 22 = .ok (.lreturn, 1) := by decide +kernel
theorem d_A_image_0 : decode prog_1_method_31_code 0 = .ok (.aload_n 0, 1) := by decide +kernel
theorem d_A_image_1 : decode prog_1_method_31_code 1 = .ok (.getfield 39, 3) := by decide +kernel
theorem d_A_image_4 : decode prog_1_method_31_code 4 = .ok (.aload_n 0, 1) := by decide +kernel
theorem d_A_image_5 : decode prog_1_method_31_code 5 = .ok (.getfield 35, 3) := by decide +kernel
theorem d_A_image_8 : decode prog_1_method_31_code 8 = .ok (.invokevirtual 306, 3) := by decide +kernel
theorem d_A_image_11 : decode prog_1_method_31_code 11 = .ok (.aload_n 0, 1) := by decide +kernel
theorem d_A_image_12 : decode prog_1_method_31_code 12 = .ok (.getfield 35, 3) := by decide +kernel
theorem d_A_image_15 : decode prog_1_method_31_code 15 = .ok (.invokevirtual 299, 3) := by decide +kernel
theorem d_A_image_18 : decode prog_1_method_31_code 18 = .ok (.ireturn, 1) := by decide +kernel
theorem d_State_copyFrom_0 : decode prog_6_method_3_code 0 = .ok (.aload_n 0, 1) := by decide +kernel
theorem d_State_copyFrom_1 : decode prog_6_method_3_code 1 = .ok (.aload_n 1, 1) := by decide +kernel
theorem d_State_copyFrom_2 : decode prog_6_method_3_code 2 = .ok (.getfield 53, 3) := by decide +kernel
theorem d_State_copyFrom_5 : decode prog_6_method_3_code 5 = .ok (.putfield 53, 3) := by decide +kernel
theorem d_State_copyFrom_8 : decode prog_6_method_3_code 8 = .ok (.aload_n 1, 1) := by decide +kernel
theorem d_State_copyFrom_9 : decode prog_6_method_3_code 9 = .ok (.getfield 9, 3) := by decide +kernel
theorem d_State_copyFrom_12 : decode prog_6_method_3_code 12 = .ok (.iconst 0, 1) := by decide +kernel
theorem d_State_copyFrom_13 : decode prog_6_method_3_code 13 = .ok (.aload_n 0, 1) := by decide +kernel
theorem d_State_copyFrom_14 : decode prog_6_method_3_code 14 = .ok (.getfield 9, 3) := by decide +kernel
theorem d_State_copyFrom_17 : decode prog_6_method_3_code 17 = .ok (.iconst 0, 1) := by decide +kernel
theorem d_State_copyFrom_18 : decode prog_6_method_3_code 18 = .ok (.iconst 4, 1) := by decide +kernel
theorem d_State_copyFrom_19 : decode prog_6_method_3_code 19 = .ok (.invokestatic 56, 3) := by decide +kernel
theorem d_State_copyFrom_22 : decode prog_6_method_3_code 22 = .ok (.aload_n 0, 1) := by decide +kernel
theorem d_State_copyFrom_23 : decode prog_6_method_3_code 23 = .ok (.getfield 20, 3) := by decide +kernel
theorem d_State_copyFrom_26 : decode prog_6_method_3_code 26 = .ok (.aload_n 1, 1) := by decide +kernel
theorem d_State_copyFrom_27 : decode prog_6_method_3_code 27 = .ok (.getfield 20, 3) := by decide +kernel
theorem d_State_copyFrom_30 : decode prog_6_method_3_code 30 = .ok (.invokevirtual 62, 3) := by decide +kernel
theorem d_State_copyFrom_33 : decode prog_6_method_3_code 33 = .ok (.aload_n 0, 1) := by decide +kernel
theorem d_State_copyFrom_34 : decode prog_6_method_3_code 34 = .ok (.getfield 24, 3) := by decide +kernel
theorem d_State_copyFrom_37 : decode prog_6_method_3_code 37 = .ok (.aload_n 1, 1) := by decide +kernel
theorem d_State_copyFrom_38 : decode prog_6_method_3_code 38 = .ok (.getfield 24, 3) := by decide +kernel
theorem d_State_copyFrom_41 : decode prog_6_method_3_code 41 = .ok (.invokevirtual 62, 3) := by decide +kernel
theorem d_State_copyFrom_44 : decode prog_6_method_3_code 44 = .ok (.aload_n 0, 1) := by decide +kernel
theorem d_State_copyFrom_45 : decode prog_6_method_3_code 45 = .ok (.getfield 30, 3) := by decide +kernel
theorem d_State_copyFrom_48 : decode prog_6_method_3_code 48 = .ok (.aload_n 1, 1) := by decide +kernel
theorem d_State_copyFrom_49 : decode prog_6_method_3_code 49 = .ok (.getfield 30, 3) := by decide +kernel
theorem d_State_copyFrom_52 : decode prog_6_method_3_code 52 = .ok (.invokevirtual 66, 3) := by decide +kernel
theorem d_State_copyFrom_55 : decode prog_6_method_3_code 55 = .ok (.aload_n 1, 1) := by decide +kernel
theorem d_State_copyFrom_56 : decode prog_6_method_3_code 56 = .ok (.getfield 34, 3) := by decide +kernel
theorem d_State_copyFrom_59 : decode prog_6_method_3_code 59 = .ok (.iconst 0, 1) := by decide +kernel
theorem d_State_copyFrom_60 : decode prog_6_method_3_code 60 = .ok (.aload_n 0, 1) := by decide +kernel
theorem d_State_copyFrom_61 : decode prog_6_method_3_code 61 = .ok (.getfield 34, 3) := by decide +kernel
theorem d_State_copyFrom_64 : decode prog_6_method_3_code 64 = .ok (.iconst 0, 1) := by decide +kernel
theorem d_State_copyFrom_65 : decode prog_6_method_3_code 65 = .ok (.bipush 6, 2) := by decide +kernel
theorem d_State_copyFrom_67 : decode prog_6_method_3_code 67 = .ok (.invokestatic 56, 3) := by decide +kernel
theorem d_State_copyFrom_70 : decode prog_6_method_3_code 70 = .ok (.aload_n 0, 1) := by decide +kernel
theorem d_State_copyFrom_71 : decode prog_6_method_3_code 71 = .ok (.aload_n 1, 1) := by decide +kernel
theorem d_State_copyFrom_72 : decode prog_6_method_3_code 72 = .ok (.getfield 69, 3) := by decide +kernel
theorem d_State_copyFrom_75 : decode prog_6_method_3_code 75 = .ok (.putfield 69, 3) := by decide +kernel
theorem d_State_copyFrom_78 : decode prog_6_method_3_code 78 = .ok (.aload_n 0, 1) := by decide +kernel
theorem d_State_copyFrom_79 : decode prog_6_method_3_code 79 = .ok (.aload_n 1, 1) := by decide +kernel
theorem d_State_copyFrom_80 : decode prog_6_method_3_code 80 = .ok (.getfield 37, 3) := by decide +kernel
theorem d_State_copyFrom_83 : decode prog_6_method_3_code 83 = .ok (.putfield 37, 3) := by decide +kernel
theorem d_State_copyFrom_86 : decode prog_6_method_3_code 86 = .ok (.aload_n 0, 1) := by decide +kernel
theorem d_State_copyFrom_87 : decode prog_6_method_3_code 87 = .ok (.getfield 41, 3) := by decide +kernel
theorem d_State_copyFrom_90 : decode prog_6_method_3_code 90 = .ok (.aload_n 1, 1) := by decide +kernel
theorem d_State_copyFrom_91 : decode prog_6_method_3_code 91 = .ok (.getfield 41, 3) := by decide +kernel
theorem d_State_copyFrom_94 : decode prog_6_method_3_code 94 = .ok (.invokevirtual 62, 3) := by decide +kernel
theorem d_State_copyFrom_97 : decode prog_6_method_3_code 97 = .ok (.return_, 1) := by decide +kernel
theorem d_Values_copyFrom_0 : decode prog_12_method_6_code 0 = .ok (.aload_n 0, 1) := by decide +kernel
theorem d_Values_copyFrom_1 : decode prog_12_method_6_code 1 = .ok (.aload_n 1, 1) := by decide +kernel
theorem d_Values_copyFrom_2 : decode prog_12_method_6_code 2 = .ok (.getfield 18, 3) := by decide +kernel
theorem d_Values_copyFrom_5 : decode prog_12_method_6_code 5 = .ok (.aload_n 0, 1) := by decide +kernel
theorem d_Values_copyFrom_6 : decode prog_12_method_6_code 6 = .ok (.getfield 9, 3) := by decide +kernel
theorem d_Values_copyFrom_9 : decode prog_12_method_6_code 9 = .ok (.arraylength, 1) := by decide +kernel
theorem d_Values_copyFrom_10 : decode prog_12_method_6_code 10 = .ok (.invokestatic 50, 3) := by decide +kernel
theorem d_Values_copyFrom_13 : decode prog_12_method_6_code 13 = .ok (.putfield 18, 3) := by decide +kernel
theorem d_Values_copyFrom_16 : decode prog_12_method_6_code 16 = .ok (.aload_n 1, 1) := by decide +kernel
theorem d_Values_copyFrom_17 : decode prog_12_method_6_code 17 = .ok (.getfield 9, 3) := by decide +kernel
theorem d_Values_copyFrom_20 : decode prog_12_method_6_code 20 = .ok (.iconst 0, 1) := by decide +kernel
theorem d_Values_copyFrom_21 : decode prog_12_method_6_code 21 = .ok (.aload_n 0, 1) := by decide +kernel
theorem d_Values_copyFrom_22 : decode prog_12_method_6_code 22 = .ok (.getfield 9, 3) := by decide +kernel
theorem d_Values_copyFrom_25 : decode prog_12_method_6_code 25 = .ok (.iconst 0, 1) := by decide +kernel
theorem d_Values_copyFrom_26 : decode prog_12_method_6_code 26 = .ok (.aload_n 0, 1) := by decide +kernel
theorem d_Values_copyFrom_27 : decode prog_12_method_6_code 27 = .ok (.getfield 18, 3) := by decide +kernel
theorem d_Values_copyFrom_30 : decode prog_12_method_6_code 30 = .ok (.invokestatic 56, 3) := by decide +kernel
theorem d_Values_copyFrom_33 : decode prog_12_method_6_code 33 = .ok (.aload_n 1, 1) := by decide +kernel
theorem d_Values_copyFrom_34 : decode prog_12_method_6_code 34 = .ok (.getfield 15, 3) := by decide +kernel
theorem d_Values_copyFrom_37 : decode prog_12_method_6_code 37 = .ok (.iconst 0, 1) := by decide +kernel
theorem d_Values_copyFrom_38 : decode prog_12_method_6_code 38 = .ok (.aload_n 0, 1) := by decide +kernel
theorem d_Values_copyFrom_39 : decode prog_12_method_6_code 39 = .ok (.getfield 15, 3) := by decide +kernel
theorem d_Values_copyFrom_42 : decode prog_12_method_6_code 42 = .ok (.iconst 0, 1) := by decide +kernel
theorem d_Values_copyFrom_43 : decode prog_12_method_6_code 43 = .ok (.aload_n 0, 1) := by decide +kernel
theorem d_Values_copyFrom_44 : decode prog_12_method_6_code 44 = .ok (.getfield 18, 3) := by decide +kernel
theorem d_Values_copyFrom_47 : decode prog_12_method_6_code 47 = .ok (.invokestatic 56, 3) := by decide +kernel
theorem d_Values_copyFrom_50 : decode prog_12_method_6_code 50 = .ok (.return_, 1) := by decide +kernel
theorem d_Orders_copyFrom_0 : decode prog_3_method_5_code 0 = .ok (.aload_n 0, 1) := by decide +kernel
theorem d_Orders_copyFrom_1 : decode prog_3_method_5_code 1 = .ok (.aload_n 1, 1) := by decide +kernel
theorem d_Orders_copyFrom_2 : decode prog_3_method_5_code 2 = .ok (.getfield 18, 3) := by decide +kernel
theorem d_Orders_copyFrom_5 : decode prog_3_method_5_code 5 = .ok (.aload_n 0, 1) := by decide +kernel
theorem d_Orders_copyFrom_6 : decode prog_3_method_5_code 6 = .ok (.getfield 9, 3) := by decide +kernel
theorem d_Orders_copyFrom_9 : decode prog_3_method_5_code 9 = .ok (.arraylength, 1) := by decide +kernel
theorem d_Orders_copyFrom_10 : decode prog_3_method_5_code 10 = .ok (.invokestatic 26, 3) := by decide +kernel
theorem d_Orders_copyFrom_13 : decode prog_3_method_5_code 13 = .ok (.putfield 18, 3) := by decide +kernel
theorem d_Orders_copyFrom_16 : decode prog_3_method_5_code 16 = .ok (.aload_n 1, 1) := by decide +kernel
theorem d_Orders_copyFrom_17 : decode prog_3_method_5_code 17 = .ok (.getfield 9, 3) := by decide +kernel
theorem d_Orders_copyFrom_20 : decode prog_3_method_5_code 20 = .ok (.iconst 0, 1) := by decide +kernel
theorem d_Orders_copyFrom_21 : decode prog_3_method_5_code 21 = .ok (.aload_n 0, 1) := by decide +kernel
theorem d_Orders_copyFrom_22 : decode prog_3_method_5_code 22 = .ok (.getfield 9, 3) := by decide +kernel
theorem d_Orders_copyFrom_25 : decode prog_3_method_5_code 25 = .ok (.iconst 0, 1) := by decide +kernel
theorem d_Orders_copyFrom_26 : decode prog_3_method_5_code 26 = .ok (.aload_n 0, 1) := by decide +kernel
theorem d_Orders_copyFrom_27 : decode prog_3_method_5_code 27 = .ok (.getfield 18, 3) := by decide +kernel
theorem d_Orders_copyFrom_30 : decode prog_3_method_5_code 30 = .ok (.invokestatic 32, 3) := by decide +kernel
theorem d_Orders_copyFrom_33 : decode prog_3_method_5_code 33 = .ok (.aload_n 1, 1) := by decide +kernel
theorem d_Orders_copyFrom_34 : decode prog_3_method_5_code 34 = .ok (.getfield 15, 3) := by decide +kernel
theorem d_Orders_copyFrom_37 : decode prog_3_method_5_code 37 = .ok (.iconst 0, 1) := by decide +kernel
theorem d_Orders_copyFrom_38 : decode prog_3_method_5_code 38 = .ok (.aload_n 0, 1) := by decide +kernel
theorem d_Orders_copyFrom_39 : decode prog_3_method_5_code 39 = .ok (.getfield 15, 3) := by decide +kernel
theorem d_Orders_copyFrom_42 : decode prog_3_method_5_code 42 = .ok (.iconst 0, 1) := by decide +kernel
theorem d_Orders_copyFrom_43 : decode prog_3_method_5_code 43 = .ok (.aload_n 0, 1) := by decide +kernel
theorem d_Orders_copyFrom_44 : decode prog_3_method_5_code 44 = .ok (.getfield 18, 3) := by decide +kernel
theorem d_Orders_copyFrom_47 : decode prog_3_method_5_code 47 = .ok (.invokestatic 32, 3) := by decide +kernel
theorem d_Orders_copyFrom_50 : decode prog_3_method_5_code 50 = .ok (.return_, 1) := by decide +kernel
theorem d_A_back_0 : decode prog_1_method_32_code 0 = .ok (.aload_n 0, 1) := by decide +kernel
theorem d_A_back_1 : decode prog_1_method_32_code 1 = .ok (.getfield 35, 3) := by decide +kernel
theorem d_A_back_4 : decode prog_1_method_32_code 4 = .ok (.aload_n 0, 1) := by decide +kernel
theorem d_A_back_5 : decode prog_1_method_32_code 5 = .ok (.getfield 39, 3) := by decide +kernel
theorem d_A_back_8 : decode prog_1_method_32_code 8 = .ok (.invokevirtual 306, 3) := by decide +kernel
theorem d_A_back_11 : decode prog_1_method_32_code 11 = .ok (.aload_n 0, 1) := by decide +kernel
theorem d_A_back_12 : decode prog_1_method_32_code 12 = .ok (.getfield 35, 3) := by decide +kernel
theorem d_A_back_15 : decode prog_1_method_32_code 15 = .ok (.invokevirtual 299, 3) := by decide +kernel
theorem d_A_back_18 : decode prog_1_method_32_code 18 = .ok (.ireturn, 1) := by decide +kernel
theorem d_A_about_0 : decode prog_1_method_33_code 0 = .ok (.iload_n 1, 1) := by decide +kernel
theorem d_A_about_1 : decode prog_1_method_33_code 1 = .ok (.tableswitch 124 0 8 #[51, 59, 67, 67, 75, 86, 97, 108, 116], 51) := by decide +kernel
theorem d_A_about_52 : decode prog_1_method_33_code 52 = .ok (.aload_n 0, 1) := by decide +kernel
theorem d_A_about_53 : decode prog_1_method_33_code 53 = .ok (.getfield 35, 3) := by decide +kernel
theorem d_A_about_56 : decode prog_1_method_33_code 56 = .ok (.getfield 103, 3) := by decide +kernel
theorem d_A_about_59 : decode prog_1_method_33_code 59 = .ok (.ireturn, 1) := by decide +kernel
theorem d_A_about_60 : decode prog_1_method_33_code 60 = .ok (.aload_n 0, 1) := by decide +kernel
theorem d_A_about_61 : decode prog_1_method_33_code 61 = .ok (.getfield 35, 3) := by decide +kernel
theorem d_A_about_64 : decode prog_1_method_33_code 64 = .ok (.getfield 290, 3) := by decide +kernel
theorem d_A_about_67 : decode prog_1_method_33_code 67 = .ok (.ireturn, 1) := by decide +kernel
theorem d_A_about_68 : decode prog_1_method_33_code 68 = .ok (.aload_n 0, 1) := by decide +kernel
theorem d_A_about_69 : decode prog_1_method_33_code 69 = .ok (.getfield 35, 3) := by decide +kernel
theorem d_A_about_72 : decode prog_1_method_33_code 72 = .ok (.invokevirtual 299, 3) := by decide +kernel
theorem d_A_about_75 : decode prog_1_method_33_code 75 = .ok (.ireturn, 1) := by decide +kernel
theorem d_A_about_76 : decode prog_1_method_33_code 76 = .ok (.aload_n 0, 1) := by decide +kernel
theorem d_A_about_77 : decode prog_1_method_33_code 77 = .ok (.getfield 35, 3) := by decide +kernel
theorem d_A_about_80 : decode prog_1_method_33_code 80 = .ok (.getfield 168, 3) := by decide +kernel
theorem d_A_about_83 : decode prog_1_method_33_code 83 = .ok (.getfield 178, 3) := by decide +kernel
theorem d_A_about_86 : decode prog_1_method_33_code 86 = .ok (.ireturn, 1) := by decide +kernel
theorem d_A_about_87 : decode prog_1_method_33_code 87 = .ok (.aload_n 0, 1) := by decide +kernel
theorem d_A_about_88 : decode prog_1_method_33_code 88 = .ok (.getfield 35, 3) := by decide +kernel
theorem d_A_about_91 : decode prog_1_method_33_code 91 = .ok (.getfield 209, 3) := by decide +kernel
theorem d_A_about_94 : decode prog_1_method_33_code 94 = .ok (.getfield 178, 3) := by decide +kernel
theorem d_A_about_97 : decode prog_1_method_33_code 97 = .ok (.ireturn, 1) := by decide +kernel
theorem d_A_about_98 : decode prog_1_method_33_code 98 = .ok (.aload_n 0, 1) := by decide +kernel
theorem d_A_about_99 : decode prog_1_method_33_code 99 = .ok (.getfield 35, 3) := by decide +kernel
theorem d_A_about_102 : decode prog_1_method_33_code 102 = .ok (.getfield 240, 3) := by decide +kernel
theorem d_A_about_105 : decode prog_1_method_33_code 105 = .ok (.getfield 123, 3) := by decide +kernel
theorem d_A_about_108 : decode prog_1_method_33_code 108 = .ok (.ireturn, 1) := by decide +kernel
theorem d_A_about_109 : decode prog_1_method_33_code 109 = .ok (.aload_n 0, 1) := by decide +kernel
theorem d_A_about_110 : decode prog_1_method_33_code 110 = .ok (.getfield 35, 3) := by decide +kernel
theorem d_A_about_113 : decode prog_1_method_33_code 113 = .ok (.getfield 271, 3) := by decide +kernel
theorem d_A_about_116 : decode prog_1_method_33_code 116 = .ok (.ireturn, 1) := by decide +kernel
theorem d_A_about_117 : decode prog_1_method_33_code 117 = .ok (.aload_n 0, 1) := by decide +kernel
theorem d_A_about_118 : decode prog_1_method_33_code 118 = .ok (.getfield 10, 3) := by decide +kernel
theorem d_A_about_121 : decode prog_1_method_33_code 121 = .ok (.getfield 99, 3) := by decide +kernel
theorem d_A_about_124 : decode prog_1_method_33_code 124 = .ok (.ireturn, 1) := by decide +kernel
theorem d_A_about_125 : decode prog_1_method_33_code 125 = .ok (.iload_n 1, 1) := by decide +kernel
theorem d_A_about_126 : decode prog_1_method_33_code 126 = .ok (.bipush 10, 2) := by decide +kernel
theorem d_A_about_128 : decode prog_1_method_33_code 128 = .ok (.if_icmp .lt 24, 3) := by decide +kernel
theorem d_A_about_131 : decode prog_1_method_33_code 131 = .ok (.iload_n 1, 1) := by decide +kernel
theorem d_A_about_132 : decode prog_1_method_33_code 132 = .ok (.bipush 14, 2) := by decide +kernel
theorem d_A_about_134 : decode prog_1_method_33_code 134 = .ok (.if_icmp .ge 18, 3) := by decide +kernel
theorem d_A_about_137 : decode prog_1_method_33_code 137 = .ok (.aload_n 0, 1) := by decide +kernel
theorem d_A_about_138 : decode prog_1_method_33_code 138 = .ok (.getfield 35, 3) := by decide +kernel
theorem d_A_about_141 : decode prog_1_method_33_code 141 = .ok (.getfield 88, 3) := by decide +kernel
theorem d_A_about_144 : decode prog_1_method_33_code 144 = .ok (.iload_n 1, 1) := by decide +kernel
theorem d_A_about_145 : decode prog_1_method_33_code 145 = .ok (.bipush 10, 2) := by decide +kernel
theorem d_A_about_147 : decode prog_1_method_33_code 147 = .ok (.isub, 1) := by decide +kernel
theorem d_A_about_148 : decode prog_1_method_33_code 148 = .ok (.iaload, 1) := by decide +kernel
theorem d_A_about_149 : decode prog_1_method_33_code 149 = .ok (.goto 5, 3) := by decide +kernel
theorem d_A_about_152 : decode prog_1_method_33_code 152 = .ok (.bipush (-2), 2) := by decide +kernel
theorem d_A_about_154 : decode prog_1_method_33_code 154 = .ok (.ireturn, 1) := by decide +kernel
theorem d_M_copyAll_0 : decode prog_14_method_2_code 0 = .ok (.iconst 0, 1) := by decide +kernel
theorem d_M_copyAll_1 : decode prog_14_method_2_code 1 = .ok (.istore 4, 2) := by decide +kernel
theorem d_M_copyAll_3 : decode prog_14_method_2_code 3 = .ok (.iload 4, 2) := by decide +kernel
theorem d_M_copyAll_5 : decode prog_14_method_2_code 5 = .ok (.bipush 30, 2) := by decide +kernel
theorem d_M_copyAll_7 : decode prog_14_method_2_code 7 = .ok (.if_icmp .ge 17, 3) := by decide +kernel
theorem d_M_copyAll_10 : decode prog_14_method_2_code 10 = .ok (.aload_n 2, 1) := by decide +kernel
theorem d_M_copyAll_11 : decode prog_14_method_2_code 11 = .ok (.iload 4, 2) := by decide +kernel
theorem d_M_copyAll_13 : decode prog_14_method_2_code 13 = .ok (.aload_n 0, 1) := by decide +kernel
theorem d_M_copyAll_14 : decode prog_14_method_2_code 14 = .ok (.iload 4, 2) := by decide +kernel
theorem d_M_copyAll_16 : decode prog_14_method_2_code 16 = .ok (.iaload, 1) := by decide +kernel
theorem d_M_copyAll_17 : decode prog_14_method_2_code 17 = .ok (.iastore, 1) := by decide +kernel
theorem d_M_copyAll_18 : decode prog_14_method_2_code 18 = .ok (.iinc 4 1, 3) := by decide +kernel
theorem d_M_copyAll_21 : decode prog_14_method_2_code 21 = .ok (.goto (-18), 3) := by decide +kernel
theorem d_M_copyAll_24 : decode prog_14_method_2_code 24 = .ok (.iconst 0, 1) := by decide +kernel
theorem d_M_copyAll_25 : decode prog_14_method_2_code 25 = .ok (.istore 4, 2) := by decide +kernel
theorem d_M_copyAll_27 : decode prog_14_method_2_code 27 = .ok (.iload 4, 2) := by decide +kernel
theorem d_M_copyAll_29 : decode prog_14_method_2_code 29 = .ok (.bipush 122, 2) := by decide +kernel
theorem d_M_copyAll_31 : decode prog_14_method_2_code 31 = .ok (.if_icmp .ge 17, 3) := by decide +kernel
theorem d_M_copyAll_34 : decode prog_14_method_2_code 34 = .ok (.aload_n 3, 1) := by decide +kernel
theorem d_M_copyAll_35 : decode prog_14_method_2_code 35 = .ok (.iload 4, 2) := by decide +kernel
theorem d_M_copyAll_37 : decode prog_14_method_2_code 37 = .ok (.aload_n 1, 1) := by decide +kernel
theorem d_M_copyAll_38 : decode prog_14_method_2_code 38 = .ok (.iload 4, 2) := by decide +kernel
theorem d_M_copyAll_40 : decode prog_14_method_2_code 40 = .ok (.laload, 1) := by decide +kernel
theorem d_M_copyAll_41 : decode prog_14_method_2_code 41 = .ok (.lastore, 1) := by decide +kernel
theorem d_M_copyAll_42 : decode prog_14_method_2_code 42 = .ok (.iinc 4 1, 3) := by decide +kernel
theorem d_M_copyAll_45 : decode prog_14_method_2_code 45 = .ok (.goto (-18), 3) := by decide +kernel
theorem d_M_copyAll_48 : decode prog_14_method_2_code 48 = .ok (.return_, 1) := by decide +kernel
theorem d_M_think_0 : decode prog_14_method_11_code 0 = .ok (.iload_n 1, 1) := by decide +kernel
theorem d_M_think_1 : decode prog_14_method_11_code 1 = .ok (.iconst 0, 1) := by decide +kernel
theorem d_M_think_2 : decode prog_14_method_11_code 2 = .ok (.sipush 9999, 3) := by decide +kernel
theorem d_M_think_5 : decode prog_14_method_11_code 5 = .ok (.invokestatic 68, 3) := by decide +kernel
theorem d_M_think_8 : decode prog_14_method_11_code 8 = .ok (.ifCond .eq 37, 3) := by decide +kernel
theorem d_M_think_11 : decode prog_14_method_11_code 11 = .ok (.iload_n 2, 1) := by decide +kernel
theorem d_M_think_12 : decode prog_14_method_11_code 12 = .ok (.iconst 0, 1) := by decide +kernel
theorem d_M_think_13 : decode prog_14_method_11_code 13 = .ok (.sipush 9999, 3) := by decide +kernel
theorem d_M_think_16 : decode prog_14_method_11_code 16 = .ok (.invokestatic 68, 3) := by decide +kernel
theorem d_M_think_19 : decode prog_14_method_11_code 19 = .ok (.ifCond .eq 26, 3) := by decide +kernel
theorem d_M_think_22 : decode prog_14_method_11_code 22 = .ok (.iload_n 3, 1) := by decide +kernel
theorem d_M_think_23 : decode prog_14_method_11_code 23 = .ok (.iconst 0, 1) := by decide +kernel
theorem d_M_think_24 : decode prog_14_method_11_code 24 = .ok (.sipush 9999, 3) := by decide +kernel
theorem d_M_think_27 : decode prog_14_method_11_code 27 = .ok (.invokestatic 68, 3) := by decide +kernel
theorem d_M_think_30 : decode prog_14_method_11_code 30 = .ok (.ifCond .eq 15, 3) := by decide +kernel
theorem d_M_think_33 : decode prog_14_method_11_code 33 = .ok (.iload 4, 2) := by decide +kernel
theorem d_M_think_35 : decode prog_14_method_11_code 35 = .ok (.iconst 0, 1) := by decide +kernel
theorem d_M_think_36 : decode prog_14_method_11_code 36 = .ok (.sipush 9999, 3) := by decide +kernel
theorem d_M_think_39 : decode prog_14_method_11_code 39 = .ok (.invokestatic 68, 3) := by decide +kernel
theorem d_M_think_42 : decode prog_14_method_11_code 42 = .ok (.ifCond .ne 5, 3) := by decide +kernel
theorem d_M_think_45 : decode prog_14_method_11_code 45 = .ok (.iconst 0, 1) := by decide +kernel
theorem d_M_think_46 : decode prog_14_method_11_code 46 = .ok (.ireturn, 1) := by decide +kernel
theorem d_M_think_47 : decode prog_14_method_11_code 47 = .ok (.aload_n 0, 1) := by decide +kernel
theorem d_M_think_48 : decode prog_14_method_11_code 48 = .ok (.getfield 7, 3) := by decide +kernel
theorem d_M_think_51 : decode prog_14_method_11_code 51 = .ok (.bipush 8, 2) := by decide +kernel
theorem d_M_think_53 : decode prog_14_method_11_code 53 = .ok (.iload_n 1, 1) := by decide +kernel
theorem d_M_think_54 : decode prog_14_method_11_code 54 = .ok (.iastore, 1) := by decide +kernel
theorem d_M_think_55 : decode prog_14_method_11_code 55 = .ok (.aload_n 0, 1) := by decide +kernel
theorem d_M_think_56 : decode prog_14_method_11_code 56 = .ok (.getfield 7, 3) := by decide +kernel
theorem d_M_think_59 : decode prog_14_method_11_code 59 = .ok (.bipush 9, 2) := by decide +kernel
theorem d_M_think_61 : decode prog_14_method_11_code 61 = .ok (.iload_n 2, 1) := by decide +kernel
theorem d_M_think_62 : decode prog_14_method_11_code 62 = .ok (.iastore, 1) := by decide +kernel
theorem d_M_think_63 : decode prog_14_method_11_code 63 = .ok (.aload_n 0, 1) := by decide +kernel
theorem d_M_think_64 : decode prog_14_method_11_code 64 = .ok (.getfield 7, 3) := by decide +kernel
theorem d_M_think_67 : decode prog_14_method_11_code 67 = .ok (.bipush 10, 2) := by decide +kernel
theorem d_M_think_69 : decode prog_14_method_11_code 69 = .ok (.iload_n 3, 1) := by decide +kernel
theorem d_M_think_70 : decode prog_14_method_11_code 70 = .ok (.iastore, 1) := by decide +kernel
theorem d_M_think_71 : decode prog_14_method_11_code 71 = .ok (.aload_n 0, 1) := by decide +kernel
theorem d_M_think_72 : decode prog_14_method_11_code 72 = .ok (.getfield 7, 3) := by decide +kernel
theorem d_M_think_75 : decode prog_14_method_11_code 75 = .ok (.bipush 11, 2) := by decide +kernel
theorem d_M_think_77 : decode prog_14_method_11_code 77 = .ok (.iload 4, 2) := by decide +kernel
theorem d_M_think_79 : decode prog_14_method_11_code 79 = .ok (.iastore, 1) := by decide +kernel
theorem d_M_think_80 : decode prog_14_method_11_code 80 = .ok (.iconst 1, 1) := by decide +kernel
theorem d_M_think_81 : decode prog_14_method_11_code 81 = .ok (.ireturn, 1) := by decide +kernel
theorem d_M_isIn_0 : decode prog_14_method_3_code 0 = .ok (.iload_n 0, 1) := by decide +kernel
theorem d_M_isIn_1 : decode prog_14_method_3_code 1 = .ok (.iload_n 1, 1) := by decide +kernel
theorem d_M_isIn_2 : decode prog_14_method_3_code 2 = .ok (.if_icmp .lt 12, 3) := by decide +kernel
theorem d_M_isIn_5 : decode prog_14_method_3_code 5 = .ok (.iload_n 0, 1) := by decide +kernel
theorem d_M_isIn_6 : decode prog_14_method_3_code 6 = .ok (.iload_n 2, 1) := by decide +kernel
theorem d_M_isIn_7 : decode prog_14_method_3_code 7 = .ok (.if_icmp .gt 7, 3) := by decide +kernel
theorem d_M_isIn_10 : decode prog_14_method_3_code 10 = .ok (.iconst 1, 1) := by decide +kernel
theorem d_M_isIn_11 : decode prog_14_method_3_code 11 = .ok (.goto 4, 3) := by decide +kernel
theorem d_M_isIn_14 : decode prog_14_method_3_code 14 = .ok (.iconst 0, 1) := by decide +kernel
theorem d_M_isIn_15 : decode prog_14_method_3_code 15 = .ok (.ireturn, 1) := by decide +kernel
theorem d_M_feed_0 : decode prog_14_method_13_code 0 = .ok (.aload_n 0, 1) := by decide +kernel
theorem d_M_feed_1 : decode prog_14_method_13_code 1 = .ok (.getfield 76, 3) := by decide +kernel
theorem d_M_feed_4 : decode prog_14_method_13_code 4 = .ok (.bipush 20, 2) := by decide +kernel
theorem d_M_feed_6 : decode prog_14_method_13_code 6 = .ok (.iadd, 1) := by decide +kernel
theorem d_M_feed_7 : decode prog_14_method_13_code 7 = .ok (.sipush 300, 3) := by decide +kernel
theorem d_M_feed_10 : decode prog_14_method_13_code 10 = .ok (.if_icmp .le 5, 3) := by decide +kernel
theorem d_M_feed_13 : decode prog_14_method_13_code 13 = .ok (.iconst (-1), 1) := by decide +kernel
theorem d_M_feed_14 : decode prog_14_method_13_code 14 = .ok (.ireturn, 1) := by decide +kernel
theorem d_M_feed_15 : decode prog_14_method_13_code 15 = .ok (.aload_n 0, 1) := by decide +kernel
theorem d_M_feed_16 : decode prog_14_method_13_code 16 = .ok (.iload_n 1, 1) := by decide +kernel
theorem d_M_feed_17 : decode prog_14_method_13_code 17 = .ok (.invokevirtual 79, 3) := by decide +kernel
theorem d_M_feed_20 : decode prog_14_method_13_code 20 = .ok (.aload_n 0, 1) := by decide +kernel
theorem d_M_feed_21 : decode prog_14_method_13_code 21 = .ok (.iload_n 2, 1) := by decide +kernel
theorem d_M_feed_22 : decode prog_14_method_13_code 22 = .ok (.invokevirtual 79, 3) := by decide +kernel
theorem d_M_feed_25 : decode prog_14_method_13_code 25 = .ok (.aload_n 0, 1) := by decide +kernel
theorem d_M_feed_26 : decode prog_14_method_13_code 26 = .ok (.iload_n 3, 1) := by decide +kernel
theorem d_M_feed_27 : decode prog_14_method_13_code 27 = .ok (.invokevirtual 79, 3) := by decide +kernel
theorem d_M_feed_30 : decode prog_14_method_13_code 30 = .ok (.aload_n 0, 1) := by decide +kernel
theorem d_M_feed_31 : decode prog_14_method_13_code 31 = .ok (.iload 4, 2) := by decide +kernel
theorem d_M_feed_33 : decode prog_14_method_13_code 33 = .ok (.invokevirtual 79, 3) := by decide +kernel
theorem d_M_feed_36 : decode prog_14_method_13_code 36 = .ok (.aload_n 0, 1) := by decide +kernel
theorem d_M_feed_37 : decode prog_14_method_13_code 37 = .ok (.iload 5, 2) := by decide +kernel
theorem d_M_feed_39 : decode prog_14_method_13_code 39 = .ok (.invokevirtual 79, 3) := by decide +kernel
theorem d_M_feed_42 : decode prog_14_method_13_code 42 = .ok (.aload_n 0, 1) := by decide +kernel
theorem d_M_feed_43 : decode prog_14_method_13_code 43 = .ok (.getfield 76, 3) := by decide +kernel
theorem d_M_feed_46 : decode prog_14_method_13_code 46 = .ok (.ireturn, 1) := by decide +kernel
theorem d_M_four_0 : decode prog_14_method_12_code 0 = .ok (.iconst 3, 1) := by decide +kernel
theorem d_M_four_1 : decode prog_14_method_12_code 1 = .ok (.istore_n 2, 1) := by decide +kernel
theorem d_M_four_2 : decode prog_14_method_12_code 2 = .ok (.iload_n 2, 1) := by decide +kernel
theorem d_M_four_3 : decode prog_14_method_12_code 3 = .ok (.ifCond .lt 38, 3) := by decide +kernel
theorem d_M_four_6 : decode prog_14_method_12_code 6 = .ok (.aload_n 0, 1) := by decide +kernel
theorem d_M_four_7 : decode prog_14_method_12_code 7 = .ok (.getfield 26, 3) := by decide +kernel
theorem d_M_four_10 : decode prog_14_method_12_code 10 = .ok (.aload_n 0, 1) := by decide +kernel
theorem d_M_four_11 : decode prog_14_method_12_code 11 = .ok (.getfield 76, 3) := by decide +kernel
theorem d_M_four_14 : decode prog_14_method_12_code 14 = .ok (.iload_n 1, 1) := by decide +kernel
theorem d_M_four_15 : decode prog_14_method_12_code 15 = .ok (.bipush 8, 2) := by decide +kernel
theorem d_M_four_17 : decode prog_14_method_12_code 17 = .ok (.iload_n 2, 1) := by decide +kernel
theorem d_M_four_18 : decode prog_14_method_12_code 18 = .ok (.imul, 1) := by decide +kernel
theorem d_M_four_19 : decode prog_14_method_12_code 19 = .ok (.ishr, 1) := by decide +kernel
theorem d_M_four_20 : decode prog_14_method_12_code 20 = .ok (.sipush 255, 3) := by decide +kernel
theorem d_M_four_23 : decode prog_14_method_12_code 23 = .ok (.iand, 1) := by decide +kernel
theorem d_M_four_24 : decode prog_14_method_12_code 24 = .ok (.iastore, 1) := by decide +kernel
theorem d_M_four_25 : decode prog_14_method_12_code 25 = .ok (.aload_n 0, 1) := by decide +kernel
theorem d_M_four_26 : decode prog_14_method_12_code 26 = .ok (.dup, 1) := by decide +kernel
theorem d_M_four_27 : decode prog_14_method_12_code 27 = .ok (.getfield 76, 3) := by decide +kernel
theorem d_M_four_30 : decode prog_14_method_12_code 30 = .ok (.iconst 1, 1) := by decide +kernel
theorem d_M_four_31 : decode prog_14_method_12_code 31 = .ok (.iadd, 1) := by decide +kernel
theorem d_M_four_32 : decode prog_14_method_12_code 32 = .ok (.putfield 76, 3) := by decide +kernel
theorem d_M_four_35 : decode prog_14_method_12_code 35 = .ok (.iinc 2 (-1), 3) := by decide +kernel
theorem d_M_four_38 : decode prog_14_method_12_code 38 = .ok (.goto (-36), 3) := by decide +kernel
theorem d_M_four_41 : decode prog_14_method_12_code 41 = .ok (.return_, 1) := by decide +kernel
theorem d_M_end_0 : decode prog_14_method_14_code 0 = .ok (.iload_n 1, 1) := by decide +kernel
theorem d_M_end_1 : decode prog_14_method_14_code 1 = .ok (.ifCond .lt 11, 3) := by decide +kernel
theorem d_M_end_4 : decode prog_14_method_14_code 4 = .ok (.iload_n 1, 1) := by decide +kernel
theorem d_M_end_5 : decode prog_14_method_14_code 5 = .ok (.aload_n 0, 1) := by decide +kernel
theorem d_M_end_6 : decode prog_14_method_14_code 6 = .ok (.getfield 76, 3) := by decide +kernel
theorem d_M_end_9 : decode prog_14_method_14_code 9 = .ok (.if_icmp .le 5, 3) := by decide +kernel
theorem d_M_end_12 : decode prog_14_method_14_code 12 = .ok (.iconst (-1), 1) := by decide +kernel
theorem d_M_end_13 : decode prog_14_method_14_code 13 = .ok (.ireturn, 1) := by decide +kernel
theorem d_M_end_14 : decode prog_14_method_14_code 14 = .ok (.aload_n 0, 1) := by decide +kernel
theorem d_M_end_15 : decode prog_14_method_14_code 15 = .ok (.iload_n 1, 1) := by decide +kernel
theorem d_M_end_16 : decode prog_14_method_14_code 16 = .ok (.putfield 76, 3) := by decide +kernel
theorem d_M_end_19 : decode prog_14_method_14_code 19 = .ok (.iload_n 1, 1) := by decide +kernel
theorem d_M_end_20 : decode prog_14_method_14_code 20 = .ok (.ireturn, 1) := by decide +kernel
theorem d_M_table_0 : decode prog_14_method_31_code 0 = .ok (.aload_n 0, 1) := by decide +kernel
theorem d_M_table_1 : decode prog_14_method_31_code 1 = .ok (.getfield 7, 3) := by decide +kernel
theorem d_M_table_4 : decode prog_14_method_31_code 4 = .ok (.iconst 0, 1) := by decide +kernel
theorem d_M_table_5 : decode prog_14_method_31_code 5 = .ok (.iaload, 1) := by decide +kernel
theorem d_M_table_6 : decode prog_14_method_31_code 6 = .ok (.iconst 4, 1) := by decide +kernel
theorem d_M_table_7 : decode prog_14_method_31_code 7 = .ok (.if_icmp .ne 5, 3) := by decide +kernel
theorem d_M_table_10 : decode prog_14_method_31_code 10 = .ok (.iconst (-1), 1) := by decide +kernel
theorem d_M_table_11 : decode prog_14_method_31_code 11 = .ok (.ireturn, 1) := by decide +kernel
theorem d_M_table_12 : decode prog_14_method_31_code 12 = .ok (.aload_n 0, 1) := by decide +kernel
theorem d_M_table_13 : decode prog_14_method_31_code 13 = .ok (.aload_n 0, 1) := by decide +kernel
theorem d_M_table_14 : decode prog_14_method_31_code 14 = .ok (.invokevirtual 166, 3) := by decide +kernel
theorem d_M_table_17 : decode prog_14_method_31_code 17 = .ok (.putfield 29, 3) := by decide +kernel
theorem d_M_table_20 : decode prog_14_method_31_code 20 = .ok (.aload_n 0, 1) := by decide +kernel
theorem d_M_table_21 : decode prog_14_method_31_code 21 = .ok (.aload_n 0, 1) := by decide +kernel
theorem d_M_table_22 : decode prog_14_method_31_code 22 = .ok (.getfield 29, 3) := by decide +kernel
theorem d_M_table_25 : decode prog_14_method_31_code 25 = .ok (.ifCond .ne 7, 3) := by decide +kernel
theorem d_M_table_28 : decode prog_14_method_31_code 28 = .ok (.iconst (-1), 1) := by decide +kernel
theorem d_M_table_29 : decode prog_14_method_31_code 29 = .ok (.goto 7, 3) := by decide +kernel
theorem d_M_table_32 : decode prog_14_method_31_code 32 = .ok (.aload_n 0, 1) := by decide +kernel
theorem d_M_table_33 : decode prog_14_method_31_code 33 = .ok (.getfield 90, 3) := by decide +kernel
theorem d_M_table_36 : decode prog_14_method_31_code 36 = .ok (.putfield 33, 3) := by decide +kernel
theorem d_M_table_39 : decode prog_14_method_31_code 39 = .ok (.aload_n 0, 1) := by decide +kernel
theorem d_M_table_40 : decode prog_14_method_31_code 40 = .ok (.iconst 0, 1) := by decide +kernel
theorem d_M_table_41 : decode prog_14_method_31_code 41 = .ok (.putfield 76, 3) := by decide +kernel
theorem d_M_table_44 : decode prog_14_method_31_code 44 = .ok (.aload_n 0, 1) := by decide +kernel
theorem d_M_table_45 : decode prog_14_method_31_code 45 = .ok (.getfield 29, 3) := by decide +kernel
theorem d_M_table_48 : decode prog_14_method_31_code 48 = .ok (.ifCond .eq 5, 3) := by decide +kernel
theorem d_M_table_51 : decode prog_14_method_31_code 51 = .ok (.iconst (-1), 1) := by decide +kernel
theorem d_M_table_52 : decode prog_14_method_31_code 52 = .ok (.ireturn, 1) := by decide +kernel
theorem d_M_table_53 : decode prog_14_method_31_code 53 = .ok (.aload_n 0, 1) := by decide +kernel
theorem d_M_table_54 : decode prog_14_method_31_code 54 = .ok (.getfield 7, 3) := by decide +kernel
theorem d_M_table_57 : decode prog_14_method_31_code 57 = .ok (.iconst 0, 1) := by decide +kernel
theorem d_M_table_58 : decode prog_14_method_31_code 58 = .ok (.dup2, 1) := by decide +kernel
theorem d_M_table_59 : decode prog_14_method_31_code 59 = .ok (.iaload, 1) := by decide +kernel
theorem d_M_table_60 : decode prog_14_method_31_code 60 = .ok (.iconst 1, 1) := by decide +kernel
theorem d_M_table_61 : decode prog_14_method_31_code 61 = .ok (.iadd, 1) := by decide +kernel
theorem d_M_table_62 : decode prog_14_method_31_code 62 = .ok (.iastore, 1) := by decide +kernel
theorem d_M_table_63 : decode prog_14_method_31_code 63 = .ok (.aload_n 0, 1) := by decide +kernel
theorem d_M_table_64 : decode prog_14_method_31_code 64 = .ok (.getfield 7, 3) := by decide +kernel
theorem d_M_table_67 : decode prog_14_method_31_code 67 = .ok (.iconst 0, 1) := by decide +kernel
theorem d_M_table_68 : decode prog_14_method_31_code 68 = .ok (.iaload, 1) := by decide +kernel
theorem d_M_table_69 : decode prog_14_method_31_code 69 = .ok (.iconst 1, 1) := by decide +kernel
theorem d_M_table_70 : decode prog_14_method_31_code 70 = .ok (.isub, 1) := by decide +kernel
theorem d_M_table_71 : decode prog_14_method_31_code 71 = .ok (.ireturn, 1) := by decide +kernel
theorem d_M_readTable_0 : decode prog_14_method_30_code 0 = .ok (.aload_n 0, 1) := by decide +kernel
theorem d_M_readTable_1 : decode prog_14_method_30_code 1 = .ok (.bipush 61, 2) := by decide +kernel
